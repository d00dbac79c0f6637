def hCX7_init_1 (h : AH) : AH := (wI (wI (wI h 1 9 0) 1 10 0) 1 11 0)
def rCX7_init_1 (r : RH) : RH := (wR (wR (wR (wR (wR (wR (wR (wR (wR r 1 0 (some 2)) 1 1 (some 3)) 1 2 (some 4)) 1 3 (some 5)) 1 4 (some 6)) 1 5 (some 7)) 1 6 (some 8)) 1 7 (some 9)) 1 8 (some 10))
theorem fcX7_init_1 (h : AH) (r : RH) (hfr : frN 2 h r) : frN 11 (hCX7_init_1 h) (rCX7_init_1 r) := by
  have f0 := hfr
  have f1 := f0.up
  have f2 := f1.wR (o := 1) (k := 0) (q := 2) (Nat.le_of_ble_eq_true rfl) (Nat.le_of_ble_eq_true rfl)
  have f3 := f2.up
  have f4 := f3.wR (o := 1) (k := 1) (q := 3) (Nat.le_of_ble_eq_true rfl) (Nat.le_of_ble_eq_true rfl)
  have f5 := f4.up
  have f6 := f5.wR (o := 1) (k := 2) (q := 4) (Nat.le_of_ble_eq_true rfl) (Nat.le_of_ble_eq_true rfl)
  have f7 := f6.up
  have f8 := f7.wR (o := 1) (k := 3) (q := 5) (Nat.le_of_ble_eq_true rfl) (Nat.le_of_ble_eq_true rfl)
  have f9 := f8.up
  have f10 := f9.wR (o := 1) (k := 4) (q := 6) (Nat.le_of_ble_eq_true rfl) (Nat.le_of_ble_eq_true rfl)
  have f11 := f10.up
  have f12 := f11.wR (o := 1) (k := 5) (q := 7) (Nat.le_of_ble_eq_true rfl) (Nat.le_of_ble_eq_true rfl)
  have f13 := f12.up
  have f14 := f13.wR (o := 1) (k := 6) (q := 8) (Nat.le_of_ble_eq_true rfl) (Nat.le_of_ble_eq_true rfl)
  have f15 := f14.up
  have f16 := f15.wR (o := 1) (k := 7) (q := 9) (Nat.le_of_ble_eq_true rfl) (Nat.le_of_ble_eq_true rfl)
  have f17 := f16.up
  have f18 := f17.wR (o := 1) (k := 8) (q := 10) (Nat.le_of_ble_eq_true rfl) (Nat.le_of_ble_eq_true rfl)
  have f19 := f18.wI (o := 1) (k := 9) (v := 0) (Nat.le_of_ble_eq_true rfl)
  have f20 := f19.wI (o := 1) (k := 10) (v := 0) (Nat.le_of_ble_eq_true rfl)
  have f21 := f20.wI (o := 1) (k := 11) (v := 0) (Nat.le_of_ble_eq_true rfl)
  exact f21
set_option maxRecDepth 20000 in
set_option maxHeartbeats 2000000 in
theorem ccX7_init_1 {G : GG} (h : AH) (r : RH) (hfr : frN 2 h r) : ConC G 1 9 93 yX7_init cX7_init 1 [.ref 1] 2 h r 11 (hCX7_init_1 h) (rCX7_init_1 r) := conC_of mwX7_init rfl (Nat.le_of_ble_eq_true rfl) (fun ad E K Z => by
  have f0 := hfr
  refine rc_aload_n K dX7_init_0 0 rfl rfl ?_
  refine rc_objInit K oiX7_3 oi_all dX7_init_1 (Nat.le_of_ble_eq_true rfl) (Nat.le_of_ble_eq_true rfl) ?_
  refine rc_aload_n K dX7_init_4 0 rfl rfl ?_
  refine rc_bipush (v := 9) K dX7_init_5 rfl ?_
  refine rc_newI K ac_int f0 dX7_init_7 rfl (by decide) (by decide) (by decide) (Nat.le_of_ble_eq_true rfl) (Nat.le_of_ble_eq_true rfl) rfl rfl (Nat.le_of_ble_eq_true rfl) ?_
  have f1 := f0.up
  refine rc_putR K Z ffX7_9 dX7_init_9 rfl (Nat.le_of_ble_eq_true rfl) rfl ?_
  have f2 := f1.wR (o := 1) (k := 0) (q := 2) (Nat.le_of_ble_eq_true rfl) (Nat.le_of_ble_eq_true rfl)
  refine rc_aload_n K dX7_init_12 0 rfl rfl ?_
  refine rc_bipush (v := 9) K dX7_init_13 rfl ?_
  refine rc_newI K ac_int f2 dX7_init_15 rfl (by decide) (by decide) (by decide) (Nat.le_of_ble_eq_true rfl) (Nat.le_of_ble_eq_true rfl) rfl rfl (Nat.le_of_ble_eq_true rfl) ?_
  have f3 := f2.up
  refine rc_putR K Z ffX7_15 dX7_init_17 rfl (Nat.le_of_ble_eq_true rfl) rfl ?_
  have f4 := f3.wR (o := 1) (k := 1) (q := 3) (Nat.le_of_ble_eq_true rfl) (Nat.le_of_ble_eq_true rfl)
  refine rc_aload_n K dX7_init_20 0 rfl rfl ?_
  refine rc_bipush (v := 9) K dX7_init_21 rfl ?_
  refine rc_newI K ac_int f4 dX7_init_23 rfl (by decide) (by decide) (by decide) (Nat.le_of_ble_eq_true rfl) (Nat.le_of_ble_eq_true rfl) rfl rfl (Nat.le_of_ble_eq_true rfl) ?_
  have f5 := f4.up
  refine rc_putR K Z ffX7_18 dX7_init_25 rfl (Nat.le_of_ble_eq_true rfl) rfl ?_
  have f6 := f5.wR (o := 1) (k := 2) (q := 4) (Nat.le_of_ble_eq_true rfl) (Nat.le_of_ble_eq_true rfl)
  refine rc_aload_n K dX7_init_28 0 rfl rfl ?_
  refine rc_bipush (v := 9) K dX7_init_29 rfl ?_
  refine rc_newI K ac_int f6 dX7_init_31 rfl (by decide) (by decide) (by decide) (Nat.le_of_ble_eq_true rfl) (Nat.le_of_ble_eq_true rfl) rfl rfl (Nat.le_of_ble_eq_true rfl) ?_
  have f7 := f6.up
  refine rc_putR K Z ffX7_21 dX7_init_33 rfl (Nat.le_of_ble_eq_true rfl) rfl ?_
  have f8 := f7.wR (o := 1) (k := 3) (q := 5) (Nat.le_of_ble_eq_true rfl) (Nat.le_of_ble_eq_true rfl)
  refine rc_aload_n K dX7_init_36 0 rfl rfl ?_
  refine rc_bipush (v := 9) K dX7_init_37 rfl ?_
  refine rc_newI K ac_int f8 dX7_init_39 rfl (by decide) (by decide) (by decide) (Nat.le_of_ble_eq_true rfl) (Nat.le_of_ble_eq_true rfl) rfl rfl (Nat.le_of_ble_eq_true rfl) ?_
  have f9 := f8.up
  refine rc_putR K Z ffX7_24 dX7_init_41 rfl (Nat.le_of_ble_eq_true rfl) rfl ?_
  have f10 := f9.wR (o := 1) (k := 4) (q := 6) (Nat.le_of_ble_eq_true rfl) (Nat.le_of_ble_eq_true rfl)
  refine rc_aload_n K dX7_init_44 0 rfl rfl ?_
  refine rc_bipush (v := 9) K dX7_init_45 rfl ?_
  refine rc_newI K ac_int f10 dX7_init_47 rfl (by decide) (by decide) (by decide) (Nat.le_of_ble_eq_true rfl) (Nat.le_of_ble_eq_true rfl) rfl rfl (Nat.le_of_ble_eq_true rfl) ?_
  have f11 := f10.up
  refine rc_putR K Z ffX7_27 dX7_init_49 rfl (Nat.le_of_ble_eq_true rfl) rfl ?_
  have f12 := f11.wR (o := 1) (k := 5) (q := 7) (Nat.le_of_ble_eq_true rfl) (Nat.le_of_ble_eq_true rfl)
  refine rc_aload_n K dX7_init_52 0 rfl rfl ?_
  refine rc_bipush (v := 13) K dX7_init_53 rfl ?_
  refine rc_newI K ac_int f12 dX7_init_55 rfl (by decide) (by decide) (by decide) (Nat.le_of_ble_eq_true rfl) (Nat.le_of_ble_eq_true rfl) rfl rfl (Nat.le_of_ble_eq_true rfl) ?_
  have f13 := f12.up
  refine rc_putR K Z ffX7_30 dX7_init_57 rfl (Nat.le_of_ble_eq_true rfl) rfl ?_
  have f14 := f13.wR (o := 1) (k := 6) (q := 8) (Nat.le_of_ble_eq_true rfl) (Nat.le_of_ble_eq_true rfl)
  refine rc_aload_n K dX7_init_60 0 rfl rfl ?_
  refine rc_bipush (v := 13) K dX7_init_61 rfl ?_
  refine rc_newI K ac_int f14 dX7_init_63 rfl (by decide) (by decide) (by decide) (Nat.le_of_ble_eq_true rfl) (Nat.le_of_ble_eq_true rfl) rfl rfl (Nat.le_of_ble_eq_true rfl) ?_
  have f15 := f14.up
  refine rc_putR K Z ffX7_33 dX7_init_65 rfl (Nat.le_of_ble_eq_true rfl) rfl ?_
  have f16 := f15.wR (o := 1) (k := 7) (q := 9) (Nat.le_of_ble_eq_true rfl) (Nat.le_of_ble_eq_true rfl)
  refine rc_aload_n K dX7_init_68 0 rfl rfl ?_
  refine rc_bipush (v := 13) K dX7_init_69 rfl ?_
  refine rc_newI K ac_int f16 dX7_init_71 rfl (by decide) (by decide) (by decide) (Nat.le_of_ble_eq_true rfl) (Nat.le_of_ble_eq_true rfl) rfl rfl (Nat.le_of_ble_eq_true rfl) ?_
  have f17 := f16.up
  refine rc_putR K Z ffX7_36 dX7_init_73 rfl (Nat.le_of_ble_eq_true rfl) rfl ?_
  have f18 := f17.wR (o := 1) (k := 8) (q := 10) (Nat.le_of_ble_eq_true rfl) (Nat.le_of_ble_eq_true rfl)
  refine rc_aload_n K dX7_init_76 0 rfl rfl ?_
  refine rc_iconst (v := 0) K dX7_init_77 rfl ?_
  refine rc_putI K fpX7_39 dX7_init_78 rfl (Nat.le_of_ble_eq_true rfl) rfl ?_
  have f19 := f18.wI (o := 1) (k := 9) (v := 0) (Nat.le_of_ble_eq_true rfl)
  refine rc_aload_n K dX7_init_81 0 rfl rfl ?_
  refine rc_iconst (v := 0) K dX7_init_82 rfl ?_
  refine rc_putI K fpX7_43 dX7_init_83 rfl (Nat.le_of_ble_eq_true rfl) rfl ?_
  have f20 := f19.wI (o := 1) (k := 10) (v := 0) (Nat.le_of_ble_eq_true rfl)
  refine rc_aload_n K dX7_init_86 0 rfl rfl ?_
  refine rc_iconst (v := 0) K dX7_init_87 rfl ?_
  refine rc_putI K fpX7_46 dX7_init_88 rfl (Nat.le_of_ble_eq_true rfl) rfl ?_
  have f21 := f20.wI (o := 1) (k := 11) (v := 0) (Nat.le_of_ble_eq_true rfl)
  exact rc_vret K Z dX7_init_91 rfl rfl)
def hCX4_init_12 (h : AH) : AH := (wI (wI (wI (wI (wI (wI (wI h 12 1 0) 12 3 0) 12 4 0) 12 5 0) 12 6 0) 12 7 1) 12 8 0)
def rCX4_init_12 (r : RH) : RH := (wR (wR r 12 0 (some 13)) 12 2 (some 14))
theorem fcX4_init_12 (h : AH) (r : RH) (hfr : frN 13 h r) : frN 15 (hCX4_init_12 h) (rCX4_init_12 r) := by
  have f0 := hfr
  have f1 := f0.up
  have f2 := f1.wR (o := 12) (k := 0) (q := 13) (Nat.le_of_ble_eq_true rfl) (Nat.le_of_ble_eq_true rfl)
  have f3 := f2.wI (o := 12) (k := 1) (v := 0) (Nat.le_of_ble_eq_true rfl)
  have f4 := f3.up
  have f5 := f4.wR (o := 12) (k := 2) (q := 14) (Nat.le_of_ble_eq_true rfl) (Nat.le_of_ble_eq_true rfl)
  have f6 := f5.wI (o := 12) (k := 3) (v := 0) (Nat.le_of_ble_eq_true rfl)
  have f7 := f6.wI (o := 12) (k := 4) (v := 0) (Nat.le_of_ble_eq_true rfl)
  have f8 := f7.wI (o := 12) (k := 5) (v := 0) (Nat.le_of_ble_eq_true rfl)
  have f9 := f8.wI (o := 12) (k := 6) (v := 0) (Nat.le_of_ble_eq_true rfl)
  have f10 := f9.wI (o := 12) (k := 7) (v := 1) (Nat.le_of_ble_eq_true rfl)
  have f11 := f10.wI (o := 12) (k := 8) (v := 0) (Nat.le_of_ble_eq_true rfl)
  exact f11
set_option maxRecDepth 20000 in
set_option maxHeartbeats 2000000 in
theorem ccX4_init_12 {G : GG} (h : AH) (r : RH) (hfr : frN 13 h r) : ConC G 1 2 241 yX4_init cX4_init 1 [.ref 12] 13 h r 15 (hCX4_init_12 h) (rCX4_init_12 r) := conC_of mwX4_init rfl (Nat.le_of_ble_eq_true rfl) (fun ad E K Z => by
  have f0 := hfr
  refine rc_aload_n K dX4_init_0 0 rfl rfl ?_
  refine rc_objInit K oiX4_3 oi_all dX4_init_1 (Nat.le_of_ble_eq_true rfl) (Nat.le_of_ble_eq_true rfl) ?_
  refine rc_aload_n K dX4_init_4 0 rfl rfl ?_
  refine rc_bipush (v := 121) K dX4_init_5 rfl ?_
  refine rc_newI K ac_int f0 dX4_init_7 rfl (by decide) (by decide) (by decide) (Nat.le_of_ble_eq_true rfl) (Nat.le_of_ble_eq_true rfl) rfl rfl (Nat.le_of_ble_eq_true rfl) ?_
  have f1 := f0.up
  refine rc_putR K Z ffX4_11 dX4_init_9 rfl (Nat.le_of_ble_eq_true rfl) rfl ?_
  have f2 := f1.wR (o := 12) (k := 0) (q := 13) (Nat.le_of_ble_eq_true rfl) (Nat.le_of_ble_eq_true rfl)
  refine rc_aload_n K dX4_init_12 0 rfl rfl ?_
  refine rc_iconst (v := 0) K dX4_init_13 rfl ?_
  refine rc_putI K fpX4_15 dX4_init_14 rfl (Nat.le_of_ble_eq_true rfl) rfl ?_
  have f3 := f2.wI (o := 12) (k := 1) (v := 0) (Nat.le_of_ble_eq_true rfl)
  refine rc_aload_n K dX4_init_17 0 rfl rfl ?_
  refine rc_bipush (v := 120) K dX4_init_18 rfl ?_
  refine rc_newI K ac_int f3 dX4_init_20 rfl (by decide) (by decide) (by decide) (Nat.le_of_ble_eq_true rfl) (Nat.le_of_ble_eq_true rfl) rfl rfl (Nat.le_of_ble_eq_true rfl) ?_
  have f4 := f3.up
  refine rc_putR K Z ffX4_19 dX4_init_22 rfl (Nat.le_of_ble_eq_true rfl) rfl ?_
  have f5 := f4.wR (o := 12) (k := 2) (q := 14) (Nat.le_of_ble_eq_true rfl) (Nat.le_of_ble_eq_true rfl)
  refine rc_aload_n K dX4_init_25 0 rfl rfl ?_
  refine rc_iconst (v := 0) K dX4_init_26 rfl ?_
  refine rc_putI K fpX4_22 dX4_init_27 rfl (Nat.le_of_ble_eq_true rfl) rfl ?_
  have f6 := f5.wI (o := 12) (k := 3) (v := 0) (Nat.le_of_ble_eq_true rfl)
  refine rc_aload_n K dX4_init_30 0 rfl rfl ?_
  refine rc_iconst (v := 0) K dX4_init_31 rfl ?_
  refine rc_putI K fpX4_25 dX4_init_32 rfl (Nat.le_of_ble_eq_true rfl) rfl ?_
  have f7 := f6.wI (o := 12) (k := 4) (v := 0) (Nat.le_of_ble_eq_true rfl)
  refine rc_aload_n K dX4_init_35 0 rfl rfl ?_
  refine rc_iconst (v := 0) K dX4_init_36 rfl ?_
  refine rc_putI K fpX4_28 dX4_init_37 rfl (Nat.le_of_ble_eq_true rfl) rfl ?_
  have f8 := f7.wI (o := 12) (k := 5) (v := 0) (Nat.le_of_ble_eq_true rfl)
  refine rc_aload_n K dX4_init_40 0 rfl rfl ?_
  refine rc_iconst (v := 0) K dX4_init_41 rfl ?_
  refine rc_putI K fpX4_31 dX4_init_42 rfl (Nat.le_of_ble_eq_true rfl) rfl ?_
  have f9 := f8.wI (o := 12) (k := 6) (v := 0) (Nat.le_of_ble_eq_true rfl)
  refine rc_aload_n K dX4_init_45 0 rfl rfl ?_
  refine rc_iconst (v := 1) K dX4_init_46 rfl ?_
  refine rc_putZ K fpX4_34 dX4_init_47 rfl (Nat.le_of_ble_eq_true rfl) rfl rfl ?_
  have f10 := f9.wI (o := 12) (k := 7) (v := 1) (Nat.le_of_ble_eq_true rfl)
  refine rc_aload_n K dX4_init_50 0 rfl rfl ?_
  refine rc_iconst (v := 0) K dX4_init_51 rfl ?_
  refine rc_putZ K fpX4_38 dX4_init_52 rfl (Nat.le_of_ble_eq_true rfl) rfl rfl ?_
  have f11 := f10.wI (o := 12) (k := 8) (v := 0) (Nat.le_of_ble_eq_true rfl)
  exact rc_vret K Z dX4_init_55 rfl rfl)
def hCX3_init_15 (h : AH) : AH := (wI (wI h 15 1 0) 15 3 0)
def rCX3_init_15 (r : RH) : RH := (wR (wR r 15 0 (some 16)) 15 2 (some 17))
theorem fcX3_init_15 (h : AH) (r : RH) (hfr : frN 16 h r) : frN 18 (hCX3_init_15 h) (rCX3_init_15 r) := by
  have f0 := hfr
  have f1 := f0.up
  have f2 := f1.wR (o := 15) (k := 0) (q := 16) (Nat.le_of_ble_eq_true rfl) (Nat.le_of_ble_eq_true rfl)
  have f3 := f2.wI (o := 15) (k := 1) (v := 0) (Nat.le_of_ble_eq_true rfl)
  have f4 := f3.up
  have f5 := f4.wR (o := 15) (k := 2) (q := 17) (Nat.le_of_ble_eq_true rfl) (Nat.le_of_ble_eq_true rfl)
  have f6 := f5.wI (o := 15) (k := 3) (v := 0) (Nat.le_of_ble_eq_true rfl)
  exact f6
set_option maxRecDepth 20000 in
set_option maxHeartbeats 2000000 in
theorem ccX3_init_15 {G : GG} (h : AH) (r : RH) (hfr : frN 16 h r) : ConC G 1 2 242 yX3_init cX3_init 1 [.ref 15] 16 h r 18 (hCX3_init_15 h) (rCX3_init_15 r) := conC_of mwX3_init rfl (Nat.le_of_ble_eq_true rfl) (fun ad E K Z => by
  have f0 := hfr
  refine rc_aload_n K dX3_init_0 0 rfl rfl ?_
  refine rc_objInit K oiX3_3 oi_all dX3_init_1 (Nat.le_of_ble_eq_true rfl) (Nat.le_of_ble_eq_true rfl) ?_
  refine rc_aload_n K dX3_init_4 0 rfl rfl ?_
  refine rc_bipush (v := 121) K dX3_init_5 rfl ?_
  refine rc_newI K ac_int f0 dX3_init_7 rfl (by decide) (by decide) (by decide) (Nat.le_of_ble_eq_true rfl) (Nat.le_of_ble_eq_true rfl) rfl rfl (Nat.le_of_ble_eq_true rfl) ?_
  have f1 := f0.up
  refine rc_putR K Z ffX3_11 dX3_init_9 rfl (Nat.le_of_ble_eq_true rfl) rfl ?_
  have f2 := f1.wR (o := 15) (k := 0) (q := 16) (Nat.le_of_ble_eq_true rfl) (Nat.le_of_ble_eq_true rfl)
  refine rc_aload_n K dX3_init_12 0 rfl rfl ?_
  refine rc_iconst (v := 0) K dX3_init_13 rfl ?_
  refine rc_putI K fpX3_17 dX3_init_14 rfl (Nat.le_of_ble_eq_true rfl) rfl ?_
  have f3 := f2.wI (o := 15) (k := 1) (v := 0) (Nat.le_of_ble_eq_true rfl)
  refine rc_aload_n K dX3_init_17 0 rfl rfl ?_
  refine rc_bipush (v := 121) K dX3_init_18 rfl ?_
  refine rc_newI K ac_int f3 dX3_init_20 rfl (by decide) (by decide) (by decide) (Nat.le_of_ble_eq_true rfl) (Nat.le_of_ble_eq_true rfl) rfl rfl (Nat.le_of_ble_eq_true rfl) ?_
  have f4 := f3.up
  refine rc_putR K Z ffX3_21 dX3_init_22 rfl (Nat.le_of_ble_eq_true rfl) rfl ?_
  have f5 := f4.wR (o := 15) (k := 2) (q := 17) (Nat.le_of_ble_eq_true rfl) (Nat.le_of_ble_eq_true rfl)
  refine rc_aload_n K dX3_init_25 0 rfl rfl ?_
  refine rc_iconst (v := 0) K dX3_init_26 rfl ?_
  refine rc_putI K fpX3_24 dX3_init_27 rfl (Nat.le_of_ble_eq_true rfl) rfl ?_
  have f6 := f5.wI (o := 15) (k := 3) (v := 0) (Nat.le_of_ble_eq_true rfl)
  exact rc_vret K Z dX3_init_30 rfl rfl)
def hCX7_init_19 (h : AH) : AH := (wI (wI (wI h 19 9 0) 19 10 0) 19 11 0)
def rCX7_init_19 (r : RH) : RH := (wR (wR (wR (wR (wR (wR (wR (wR (wR r 19 0 (some 20)) 19 1 (some 21)) 19 2 (some 22)) 19 3 (some 23)) 19 4 (some 24)) 19 5 (some 25)) 19 6 (some 26)) 19 7 (some 27)) 19 8 (some 28))
theorem fcX7_init_19 (h : AH) (r : RH) (hfr : frN 20 h r) : frN 29 (hCX7_init_19 h) (rCX7_init_19 r) := by
  have f0 := hfr
  have f1 := f0.up
  have f2 := f1.wR (o := 19) (k := 0) (q := 20) (Nat.le_of_ble_eq_true rfl) (Nat.le_of_ble_eq_true rfl)
  have f3 := f2.up
  have f4 := f3.wR (o := 19) (k := 1) (q := 21) (Nat.le_of_ble_eq_true rfl) (Nat.le_of_ble_eq_true rfl)
  have f5 := f4.up
  have f6 := f5.wR (o := 19) (k := 2) (q := 22) (Nat.le_of_ble_eq_true rfl) (Nat.le_of_ble_eq_true rfl)
  have f7 := f6.up
  have f8 := f7.wR (o := 19) (k := 3) (q := 23) (Nat.le_of_ble_eq_true rfl) (Nat.le_of_ble_eq_true rfl)
  have f9 := f8.up
  have f10 := f9.wR (o := 19) (k := 4) (q := 24) (Nat.le_of_ble_eq_true rfl) (Nat.le_of_ble_eq_true rfl)
  have f11 := f10.up
  have f12 := f11.wR (o := 19) (k := 5) (q := 25) (Nat.le_of_ble_eq_true rfl) (Nat.le_of_ble_eq_true rfl)
  have f13 := f12.up
  have f14 := f13.wR (o := 19) (k := 6) (q := 26) (Nat.le_of_ble_eq_true rfl) (Nat.le_of_ble_eq_true rfl)
  have f15 := f14.up
  have f16 := f15.wR (o := 19) (k := 7) (q := 27) (Nat.le_of_ble_eq_true rfl) (Nat.le_of_ble_eq_true rfl)
  have f17 := f16.up
  have f18 := f17.wR (o := 19) (k := 8) (q := 28) (Nat.le_of_ble_eq_true rfl) (Nat.le_of_ble_eq_true rfl)
  have f19 := f18.wI (o := 19) (k := 9) (v := 0) (Nat.le_of_ble_eq_true rfl)
  have f20 := f19.wI (o := 19) (k := 10) (v := 0) (Nat.le_of_ble_eq_true rfl)
  have f21 := f20.wI (o := 19) (k := 11) (v := 0) (Nat.le_of_ble_eq_true rfl)
  exact f21
set_option maxRecDepth 20000 in
set_option maxHeartbeats 2000000 in
theorem ccX7_init_19 {G : GG} (h : AH) (r : RH) (hfr : frN 20 h r) : ConC G 1 9 93 yX7_init cX7_init 1 [.ref 19] 20 h r 29 (hCX7_init_19 h) (rCX7_init_19 r) := conC_of mwX7_init rfl (Nat.le_of_ble_eq_true rfl) (fun ad E K Z => by
  have f0 := hfr
  refine rc_aload_n K dX7_init_0 0 rfl rfl ?_
  refine rc_objInit K oiX7_3 oi_all dX7_init_1 (Nat.le_of_ble_eq_true rfl) (Nat.le_of_ble_eq_true rfl) ?_
  refine rc_aload_n K dX7_init_4 0 rfl rfl ?_
  refine rc_bipush (v := 9) K dX7_init_5 rfl ?_
  refine rc_newI K ac_int f0 dX7_init_7 rfl (by decide) (by decide) (by decide) (Nat.le_of_ble_eq_true rfl) (Nat.le_of_ble_eq_true rfl) rfl rfl (Nat.le_of_ble_eq_true rfl) ?_
  have f1 := f0.up
  refine rc_putR K Z ffX7_9 dX7_init_9 rfl (Nat.le_of_ble_eq_true rfl) rfl ?_
  have f2 := f1.wR (o := 19) (k := 0) (q := 20) (Nat.le_of_ble_eq_true rfl) (Nat.le_of_ble_eq_true rfl)
  refine rc_aload_n K dX7_init_12 0 rfl rfl ?_
  refine rc_bipush (v := 9) K dX7_init_13 rfl ?_
  refine rc_newI K ac_int f2 dX7_init_15 rfl (by decide) (by decide) (by decide) (Nat.le_of_ble_eq_true rfl) (Nat.le_of_ble_eq_true rfl) rfl rfl (Nat.le_of_ble_eq_true rfl) ?_
  have f3 := f2.up
  refine rc_putR K Z ffX7_15 dX7_init_17 rfl (Nat.le_of_ble_eq_true rfl) rfl ?_
  have f4 := f3.wR (o := 19) (k := 1) (q := 21) (Nat.le_of_ble_eq_true rfl) (Nat.le_of_ble_eq_true rfl)
  refine rc_aload_n K dX7_init_20 0 rfl rfl ?_
  refine rc_bipush (v := 9) K dX7_init_21 rfl ?_
  refine rc_newI K ac_int f4 dX7_init_23 rfl (by decide) (by decide) (by decide) (Nat.le_of_ble_eq_true rfl) (Nat.le_of_ble_eq_true rfl) rfl rfl (Nat.le_of_ble_eq_true rfl) ?_
  have f5 := f4.up
  refine rc_putR K Z ffX7_18 dX7_init_25 rfl (Nat.le_of_ble_eq_true rfl) rfl ?_
  have f6 := f5.wR (o := 19) (k := 2) (q := 22) (Nat.le_of_ble_eq_true rfl) (Nat.le_of_ble_eq_true rfl)
  refine rc_aload_n K dX7_init_28 0 rfl rfl ?_
  refine rc_bipush (v := 9) K dX7_init_29 rfl ?_
  refine rc_newI K ac_int f6 dX7_init_31 rfl (by decide) (by decide) (by decide) (Nat.le_of_ble_eq_true rfl) (Nat.le_of_ble_eq_true rfl) rfl rfl (Nat.le_of_ble_eq_true rfl) ?_
  have f7 := f6.up
  refine rc_putR K Z ffX7_21 dX7_init_33 rfl (Nat.le_of_ble_eq_true rfl) rfl ?_
  have f8 := f7.wR (o := 19) (k := 3) (q := 23) (Nat.le_of_ble_eq_true rfl) (Nat.le_of_ble_eq_true rfl)
  refine rc_aload_n K dX7_init_36 0 rfl rfl ?_
  refine rc_bipush (v := 9) K dX7_init_37 rfl ?_
  refine rc_newI K ac_int f8 dX7_init_39 rfl (by decide) (by decide) (by decide) (Nat.le_of_ble_eq_true rfl) (Nat.le_of_ble_eq_true rfl) rfl rfl (Nat.le_of_ble_eq_true rfl) ?_
  have f9 := f8.up
  refine rc_putR K Z ffX7_24 dX7_init_41 rfl (Nat.le_of_ble_eq_true rfl) rfl ?_
  have f10 := f9.wR (o := 19) (k := 4) (q := 24) (Nat.le_of_ble_eq_true rfl) (Nat.le_of_ble_eq_true rfl)
  refine rc_aload_n K dX7_init_44 0 rfl rfl ?_
  refine rc_bipush (v := 9) K dX7_init_45 rfl ?_
  refine rc_newI K ac_int f10 dX7_init_47 rfl (by decide) (by decide) (by decide) (Nat.le_of_ble_eq_true rfl) (Nat.le_of_ble_eq_true rfl) rfl rfl (Nat.le_of_ble_eq_true rfl) ?_
  have f11 := f10.up
  refine rc_putR K Z ffX7_27 dX7_init_49 rfl (Nat.le_of_ble_eq_true rfl) rfl ?_
  have f12 := f11.wR (o := 19) (k := 5) (q := 25) (Nat.le_of_ble_eq_true rfl) (Nat.le_of_ble_eq_true rfl)
  refine rc_aload_n K dX7_init_52 0 rfl rfl ?_
  refine rc_bipush (v := 13) K dX7_init_53 rfl ?_
  refine rc_newI K ac_int f12 dX7_init_55 rfl (by decide) (by decide) (by decide) (Nat.le_of_ble_eq_true rfl) (Nat.le_of_ble_eq_true rfl) rfl rfl (Nat.le_of_ble_eq_true rfl) ?_
  have f13 := f12.up
  refine rc_putR K Z ffX7_30 dX7_init_57 rfl (Nat.le_of_ble_eq_true rfl) rfl ?_
  have f14 := f13.wR (o := 19) (k := 6) (q := 26) (Nat.le_of_ble_eq_true rfl) (Nat.le_of_ble_eq_true rfl)
  refine rc_aload_n K dX7_init_60 0 rfl rfl ?_
  refine rc_bipush (v := 13) K dX7_init_61 rfl ?_
  refine rc_newI K ac_int f14 dX7_init_63 rfl (by decide) (by decide) (by decide) (Nat.le_of_ble_eq_true rfl) (Nat.le_of_ble_eq_true rfl) rfl rfl (Nat.le_of_ble_eq_true rfl) ?_
  have f15 := f14.up
  refine rc_putR K Z ffX7_33 dX7_init_65 rfl (Nat.le_of_ble_eq_true rfl) rfl ?_
  have f16 := f15.wR (o := 19) (k := 7) (q := 27) (Nat.le_of_ble_eq_true rfl) (Nat.le_of_ble_eq_true rfl)
  refine rc_aload_n K dX7_init_68 0 rfl rfl ?_
  refine rc_bipush (v := 13) K dX7_init_69 rfl ?_
  refine rc_newI K ac_int f16 dX7_init_71 rfl (by decide) (by decide) (by decide) (Nat.le_of_ble_eq_true rfl) (Nat.le_of_ble_eq_true rfl) rfl rfl (Nat.le_of_ble_eq_true rfl) ?_
  have f17 := f16.up
  refine rc_putR K Z ffX7_36 dX7_init_73 rfl (Nat.le_of_ble_eq_true rfl) rfl ?_
  have f18 := f17.wR (o := 19) (k := 8) (q := 28) (Nat.le_of_ble_eq_true rfl) (Nat.le_of_ble_eq_true rfl)
  refine rc_aload_n K dX7_init_76 0 rfl rfl ?_
  refine rc_iconst (v := 0) K dX7_init_77 rfl ?_
  refine rc_putI K fpX7_39 dX7_init_78 rfl (Nat.le_of_ble_eq_true rfl) rfl ?_
  have f19 := f18.wI (o := 19) (k := 9) (v := 0) (Nat.le_of_ble_eq_true rfl)
  refine rc_aload_n K dX7_init_81 0 rfl rfl ?_
  refine rc_iconst (v := 0) K dX7_init_82 rfl ?_
  refine rc_putI K fpX7_43 dX7_init_83 rfl (Nat.le_of_ble_eq_true rfl) rfl ?_
  have f20 := f19.wI (o := 19) (k := 10) (v := 0) (Nat.le_of_ble_eq_true rfl)
  refine rc_aload_n K dX7_init_86 0 rfl rfl ?_
  refine rc_iconst (v := 0) K dX7_init_87 rfl ?_
  refine rc_putI K fpX7_46 dX7_init_88 rfl (Nat.le_of_ble_eq_true rfl) rfl ?_
  have f21 := f20.wI (o := 19) (k := 11) (v := 0) (Nat.le_of_ble_eq_true rfl)
  exact rc_vret K Z dX7_init_91 rfl rfl)
def hCX6_init_18 (h : AH) : AH := (wI (wI (wI (hCX7_init_19 h) 18 4 0) 18 5 0) 18 6 0)
def rCX6_init_18 (r : RH) : RH := (wR (wR (wR (wR (rCX7_init_19 r) 18 2 (some 19)) 18 3 (some 29)) 18 0 (some 1)) 18 1 (some 15))
theorem fcX6_init_18 (h : AH) (r : RH) (hfr : frN 19 h r) : frN 30 (hCX6_init_18 h) (rCX6_init_18 r) := by
  have f0 := hfr
  have f1 := f0.up
  have f2 := fcX7_init_19 _ _ f1
  have f3 := f2.wR (o := 18) (k := 2) (q := 19) (Nat.le_of_ble_eq_true rfl) (Nat.le_of_ble_eq_true rfl)
  have f4 := f3.up
  have f5 := f4.wR (o := 18) (k := 3) (q := 29) (Nat.le_of_ble_eq_true rfl) (Nat.le_of_ble_eq_true rfl)
  have f6 := f5.wI (o := 18) (k := 4) (v := 0) (Nat.le_of_ble_eq_true rfl)
  have f7 := f6.wI (o := 18) (k := 5) (v := 0) (Nat.le_of_ble_eq_true rfl)
  have f8 := f7.wI (o := 18) (k := 6) (v := 0) (Nat.le_of_ble_eq_true rfl)
  have f9 := f8.wR (o := 18) (k := 0) (q := 1) (Nat.le_of_ble_eq_true rfl) (Nat.le_of_ble_eq_true rfl)
  have f10 := f9.wR (o := 18) (k := 1) (q := 15) (Nat.le_of_ble_eq_true rfl) (Nat.le_of_ble_eq_true rfl)
  exact f10
set_option maxRecDepth 20000 in
set_option maxHeartbeats 2000000 in
theorem ccX6_init_18 {G : GG} (h : AH) (r : RH) (hfr : frN 19 h r) : ConC G 2 11 114 yX6_init cX6_init 3 [.ref 18, .ref 1, .ref 15] 19 h r 30 (hCX6_init_18 h) (rCX6_init_18 r) := conC_of mwX6_init rfl (Nat.le_of_ble_eq_true rfl) (fun ad E K Z => by
  have f0 := hfr
  refine rc_aload_n K dX6_init_0 0 rfl rfl ?_
  refine rc_objInit K oiX6_3 oi_all dX6_init_1 (Nat.le_of_ble_eq_true rfl) (Nat.le_of_ble_eq_true rfl) ?_
  refine rc_aload_n K dX6_init_4 0 rfl rfl ?_
  refine rc_new K nlX6_9 f0 dX6_init_5 rfl (Nat.le_of_ble_eq_true rfl) (Nat.le_of_ble_eq_true rfl) rfl rfl (Nat.le_of_ble_eq_true rfl) ?_
  have f1 := f0.up
  refine rc_dup K dX6_init_8 rfl ?_
  refine rc_callIN (d9 := 1) (mc9 := 9) (ms9 := 93) (av := []) (st := [.ref 19, .ref 18]) K ilX6_11 mwX7_init rfl (ccX7_init_19 _ _ f1) dX6_init_9 (Nat.le_of_ble_eq_true rfl) (Nat.le_of_ble_eq_true rfl) (Nat.le_of_ble_eq_true rfl) rfl rfl (Nat.le_of_ble_eq_true rfl) rfl rfl (Nat.le_of_ble_eq_true rfl) ?_
  have f2 := fcX7_init_19 _ _ f1
  refine rc_putR K Z ffX6_12 dX6_init_12 rfl (Nat.le_of_ble_eq_true rfl) rfl ?_
  have f3 := f2.wR (o := 18) (k := 2) (q := 19) (Nat.le_of_ble_eq_true rfl) (Nat.le_of_ble_eq_true rfl)
  refine rc_aload_n K dX6_init_15 0 rfl rfl ?_
  refine rc_bipush (v := 9) K dX6_init_16 rfl ?_
  refine rc_newI K ac_int f3 dX6_init_18 rfl (by decide) (by decide) (by decide) (Nat.le_of_ble_eq_true rfl) (Nat.le_of_ble_eq_true rfl) rfl rfl (Nat.le_of_ble_eq_true rfl) ?_
  have f4 := f3.up
  refine rc_putR K Z ffX6_18 dX6_init_20 rfl (Nat.le_of_ble_eq_true rfl) rfl ?_
  have f5 := f4.wR (o := 18) (k := 3) (q := 29) (Nat.le_of_ble_eq_true rfl) (Nat.le_of_ble_eq_true rfl)
  refine rc_aload_n K dX6_init_23 0 rfl rfl ?_
  refine rc_iconst (v := 0) K dX6_init_24 rfl ?_
  refine rc_putI K fpX6_22 dX6_init_25 rfl (Nat.le_of_ble_eq_true rfl) rfl ?_
  have f6 := f5.wI (o := 18) (k := 4) (v := 0) (Nat.le_of_ble_eq_true rfl)
  refine rc_aload_n K dX6_init_28 0 rfl rfl ?_
  refine rc_iconst (v := 0) K dX6_init_29 rfl ?_
  refine rc_putI K fpX6_26 dX6_init_30 rfl (Nat.le_of_ble_eq_true rfl) rfl ?_
  have f7 := f6.wI (o := 18) (k := 5) (v := 0) (Nat.le_of_ble_eq_true rfl)
  refine rc_aload_n K dX6_init_33 0 rfl rfl ?_
  refine rc_iconst (v := 0) K dX6_init_34 rfl ?_
  refine rc_putI K fpX6_29 dX6_init_35 rfl (Nat.le_of_ble_eq_true rfl) rfl ?_
  have f8 := f7.wI (o := 18) (k := 6) (v := 0) (Nat.le_of_ble_eq_true rfl)
  refine rc_aload_n K dX6_init_38 0 rfl rfl ?_
  refine rc_aload_n K dX6_init_39 1 rfl rfl ?_
  refine rc_putR K Z ffX6_32 dX6_init_40 rfl (Nat.le_of_ble_eq_true rfl) rfl ?_
  have f9 := f8.wR (o := 18) (k := 0) (q := 1) (Nat.le_of_ble_eq_true rfl) (Nat.le_of_ble_eq_true rfl)
  refine rc_aload_n K dX6_init_43 0 rfl rfl ?_
  refine rc_aload_n K dX6_init_44 2 rfl rfl ?_
  refine rc_putR K Z ffX6_35 dX6_init_45 rfl (Nat.le_of_ble_eq_true rfl) rfl ?_
  have f10 := f9.wR (o := 18) (k := 1) (q := 15) (Nat.le_of_ble_eq_true rfl) (Nat.le_of_ble_eq_true rfl)
  exact rc_vret K Z dX6_init_48 rfl rfl)
def hCX8_init_30 (h : AH) : AH := (wI (wI h 30 1 0) 30 2 0)
def rCX8_init_30 (r : RH) : RH := (wR (wR r 30 3 (some 31)) 30 0 (some 18))
theorem fcX8_init_30 (h : AH) (r : RH) (hfr : frN 31 h r) : frN 32 (hCX8_init_30 h) (rCX8_init_30 r) := by
  have f0 := hfr
  have f1 := f0.wI (o := 30) (k := 1) (v := 0) (Nat.le_of_ble_eq_true rfl)
  have f2 := f1.wI (o := 30) (k := 2) (v := 0) (Nat.le_of_ble_eq_true rfl)
  have f3 := f2.up
  have f4 := f3.wR (o := 30) (k := 3) (q := 31) (Nat.le_of_ble_eq_true rfl) (Nat.le_of_ble_eq_true rfl)
  have f5 := f4.wR (o := 30) (k := 0) (q := 18) (Nat.le_of_ble_eq_true rfl) (Nat.le_of_ble_eq_true rfl)
  exact f5
set_option maxRecDepth 20000 in
set_option maxHeartbeats 2000000 in
theorem ccX8_init_30 {G : GG} (h : AH) (r : RH) (hfr : frN 31 h r) : ConC G 1 1 100 yX8_init cX8_init 2 [.ref 30, .ref 18] 31 h r 32 (hCX8_init_30 h) (rCX8_init_30 r) := conC_of mwX8_init rfl (Nat.le_of_ble_eq_true rfl) (fun ad E K Z => by
  have f0 := hfr
  refine rc_aload_n K dX8_init_0 0 rfl rfl ?_
  refine rc_objInit K oiX8_3 oi_all dX8_init_1 (Nat.le_of_ble_eq_true rfl) (Nat.le_of_ble_eq_true rfl) ?_
  refine rc_aload_n K dX8_init_4 0 rfl rfl ?_
  refine rc_iconst (v := 0) K dX8_init_5 rfl ?_
  refine rc_putI K fpX8_9 dX8_init_6 rfl (Nat.le_of_ble_eq_true rfl) rfl ?_
  have f1 := f0.wI (o := 30) (k := 1) (v := 0) (Nat.le_of_ble_eq_true rfl)
  refine rc_aload_n K dX8_init_9 0 rfl rfl ?_
  refine rc_iconst (v := 0) K dX8_init_10 rfl ?_
  refine rc_putI K fpX8_15 dX8_init_11 rfl (Nat.le_of_ble_eq_true rfl) rfl ?_
  have f2 := f1.wI (o := 30) (k := 2) (v := 0) (Nat.le_of_ble_eq_true rfl)
  refine rc_aload_n K dX8_init_14 0 rfl rfl ?_
  refine rc_bipush (v := 100) K dX8_init_15 rfl ?_
  refine rc_newI K ac_int f2 dX8_init_17 rfl (by decide) (by decide) (by decide) (Nat.le_of_ble_eq_true rfl) (Nat.le_of_ble_eq_true rfl) rfl rfl (Nat.le_of_ble_eq_true rfl) ?_
  have f3 := f2.up
  refine rc_putR K Z ffX8_18 dX8_init_19 rfl (Nat.le_of_ble_eq_true rfl) rfl ?_
  have f4 := f3.wR (o := 30) (k := 3) (q := 31) (Nat.le_of_ble_eq_true rfl) (Nat.le_of_ble_eq_true rfl)
  refine rc_aload_n K dX8_init_22 0 rfl rfl ?_
  refine rc_aload_n K dX8_init_23 1 rfl rfl ?_
  refine rc_putR K Z ffX8_22 dX8_init_24 rfl (Nat.le_of_ble_eq_true rfl) rfl ?_
  have f5 := f4.wR (o := 30) (k := 0) (q := 18) (Nat.le_of_ble_eq_true rfl) (Nat.le_of_ble_eq_true rfl)
  exact rc_vret K Z dX8_init_27 rfl rfl)
def hCX2_init_33 (h : AH) : AH := (wI (wI (wI h 33 4 0) 33 5 0) 33 6 0)
def rCX2_init_33 (r : RH) : RH := (wR (wR (wR (wR r 33 0 (some 34)) 33 1 (some 35)) 33 2 (some 36)) 33 3 (some 37))
theorem fcX2_init_33 (h : AH) (r : RH) (hfr : frN 34 h r) : frN 38 (hCX2_init_33 h) (rCX2_init_33 r) := by
  have f0 := hfr
  have f1 := f0.up
  have f2 := f1.wR (o := 33) (k := 0) (q := 34) (Nat.le_of_ble_eq_true rfl) (Nat.le_of_ble_eq_true rfl)
  have f3 := f2.up
  have f4 := f3.wR (o := 33) (k := 1) (q := 35) (Nat.le_of_ble_eq_true rfl) (Nat.le_of_ble_eq_true rfl)
  have f5 := f4.up
  have f6 := f5.wR (o := 33) (k := 2) (q := 36) (Nat.le_of_ble_eq_true rfl) (Nat.le_of_ble_eq_true rfl)
  have f7 := f6.up
  have f8 := f7.wR (o := 33) (k := 3) (q := 37) (Nat.le_of_ble_eq_true rfl) (Nat.le_of_ble_eq_true rfl)
  have f9 := f8.wI (o := 33) (k := 4) (v := 0) (Nat.le_of_ble_eq_true rfl)
  have f10 := f9.wI (o := 33) (k := 5) (v := 0) (Nat.le_of_ble_eq_true rfl)
  have f11 := f10.wI (o := 33) (k := 6) (v := 0) (Nat.le_of_ble_eq_true rfl)
  exact f11
set_option maxRecDepth 20000 in
set_option maxHeartbeats 2000000 in
theorem ccX2_init_33 {G : GG} (h : AH) (r : RH) (hfr : frN 34 h r) : ConC G 1 4 32 yX2_init cX2_init 1 [.ref 33] 34 h r 38 (hCX2_init_33 h) (rCX2_init_33 r) := conC_of mwX2_init rfl (Nat.le_of_ble_eq_true rfl) (fun ad E K Z => by
  have f0 := hfr
  refine rc_aload_n K dX2_init_0 0 rfl rfl ?_
  refine rc_objInit K oiX2_3 oi_all dX2_init_1 (Nat.le_of_ble_eq_true rfl) (Nat.le_of_ble_eq_true rfl) ?_
  refine rc_aload_n K dX2_init_4 0 rfl rfl ?_
  refine rc_bipush (v := 9) K dX2_init_5 rfl ?_
  refine rc_newI K ac_int f0 dX2_init_7 rfl (by decide) (by decide) (by decide) (Nat.le_of_ble_eq_true rfl) (Nat.le_of_ble_eq_true rfl) rfl rfl (Nat.le_of_ble_eq_true rfl) ?_
  have f1 := f0.up
  refine rc_putR K Z ffX2_9 dX2_init_9 rfl (Nat.le_of_ble_eq_true rfl) rfl ?_
  have f2 := f1.wR (o := 33) (k := 0) (q := 34) (Nat.le_of_ble_eq_true rfl) (Nat.le_of_ble_eq_true rfl)
  refine rc_aload_n K dX2_init_12 0 rfl rfl ?_
  refine rc_bipush (v := 9) K dX2_init_13 rfl ?_
  refine rc_newI K ac_int f2 dX2_init_15 rfl (by decide) (by decide) (by decide) (Nat.le_of_ble_eq_true rfl) (Nat.le_of_ble_eq_true rfl) rfl rfl (Nat.le_of_ble_eq_true rfl) ?_
  have f3 := f2.up
  refine rc_putR K Z ffX2_15 dX2_init_17 rfl (Nat.le_of_ble_eq_true rfl) rfl ?_
  have f4 := f3.wR (o := 33) (k := 1) (q := 35) (Nat.le_of_ble_eq_true rfl) (Nat.le_of_ble_eq_true rfl)
  refine rc_aload_n K dX2_init_20 0 rfl rfl ?_
  refine rc_bipush (v := 9) K dX2_init_21 rfl ?_
  refine rc_newI K ac_int f4 dX2_init_23 rfl (by decide) (by decide) (by decide) (Nat.le_of_ble_eq_true rfl) (Nat.le_of_ble_eq_true rfl) rfl rfl (Nat.le_of_ble_eq_true rfl) ?_
  have f5 := f4.up
  refine rc_putR K Z ffX2_18 dX2_init_25 rfl (Nat.le_of_ble_eq_true rfl) rfl ?_
  have f6 := f5.wR (o := 33) (k := 2) (q := 36) (Nat.le_of_ble_eq_true rfl) (Nat.le_of_ble_eq_true rfl)
  refine rc_aload_n K dX2_init_28 0 rfl rfl ?_
  refine rc_iconst (v := 5) K dX2_init_29 rfl ?_
  refine rc_newI K ac_int f6 dX2_init_30 rfl (by decide) (by decide) (by decide) (Nat.le_of_ble_eq_true rfl) (Nat.le_of_ble_eq_true rfl) rfl rfl (Nat.le_of_ble_eq_true rfl) ?_
  have f7 := f6.up
  refine rc_putR K Z ffX2_21 dX2_init_32 rfl (Nat.le_of_ble_eq_true rfl) rfl ?_
  have f8 := f7.wR (o := 33) (k := 3) (q := 37) (Nat.le_of_ble_eq_true rfl) (Nat.le_of_ble_eq_true rfl)
  refine rc_aload_n K dX2_init_35 0 rfl rfl ?_
  refine rc_iconst (v := 0) K dX2_init_36 rfl ?_
  refine rc_putI K fpX2_24 dX2_init_37 rfl (Nat.le_of_ble_eq_true rfl) rfl ?_
  have f9 := f8.wI (o := 33) (k := 4) (v := 0) (Nat.le_of_ble_eq_true rfl)
  refine rc_aload_n K dX2_init_40 0 rfl rfl ?_
  refine rc_iconst (v := 0) K dX2_init_41 rfl ?_
  refine rc_putI K fpX2_28 dX2_init_42 rfl (Nat.le_of_ble_eq_true rfl) rfl ?_
  have f10 := f9.wI (o := 33) (k := 5) (v := 0) (Nat.le_of_ble_eq_true rfl)
  refine rc_aload_n K dX2_init_45 0 rfl rfl ?_
  refine rc_iconst (v := 0) K dX2_init_46 rfl ?_
  refine rc_putZ K fpX2_31 dX2_init_47 rfl (Nat.le_of_ble_eq_true rfl) rfl rfl ?_
  have f11 := f10.wI (o := 33) (k := 6) (v := 0) (Nat.le_of_ble_eq_true rfl)
  exact rc_vret K Z dX2_init_50 rfl rfl)
def hCX0_init_38 (h : AH) : AH := (wI (wI h 38 4 0) 38 5 0)
def rCX0_init_38 (r : RH) : RH := (wR (wR (wR (wR r 38 0 (some 39)) 38 1 (some 40)) 38 2 (some 41)) 38 3 (some 42))
theorem fcX0_init_38 (h : AH) (r : RH) (hfr : frN 39 h r) : frN 43 (hCX0_init_38 h) (rCX0_init_38 r) := by
  have f0 := hfr
  have f1 := f0.up
  have f2 := f1.wR (o := 38) (k := 0) (q := 39) (Nat.le_of_ble_eq_true rfl) (Nat.le_of_ble_eq_true rfl)
  have f3 := f2.up
  have f4 := f3.wR (o := 38) (k := 1) (q := 40) (Nat.le_of_ble_eq_true rfl) (Nat.le_of_ble_eq_true rfl)
  have f5 := f4.up
  have f6 := f5.wR (o := 38) (k := 2) (q := 41) (Nat.le_of_ble_eq_true rfl) (Nat.le_of_ble_eq_true rfl)
  have f7 := f6.up
  have f8 := f7.wR (o := 38) (k := 3) (q := 42) (Nat.le_of_ble_eq_true rfl) (Nat.le_of_ble_eq_true rfl)
  have f9 := f8.wI (o := 38) (k := 4) (v := 0) (Nat.le_of_ble_eq_true rfl)
  have f10 := f9.wI (o := 38) (k := 5) (v := 0) (Nat.le_of_ble_eq_true rfl)
  exact f10
set_option maxRecDepth 20000 in
set_option maxHeartbeats 2000000 in
theorem ccX0_init_38 {G : GG} (h : AH) (r : RH) (hfr : frN 39 h r) : ConC G 1 4 160 yX0_init cX0_init 1 [.ref 38] 39 h r 43 (hCX0_init_38 h) (rCX0_init_38 r) := conC_of mwX0_init rfl (Nat.le_of_ble_eq_true rfl) (fun ad E K Z => by
  have f0 := hfr
  refine rc_aload_n K dX0_init_0 0 rfl rfl ?_
  refine rc_objInit K oiX0_3 oi_all dX0_init_1 (Nat.le_of_ble_eq_true rfl) (Nat.le_of_ble_eq_true rfl) ?_
  refine rc_aload_n K dX0_init_4 0 rfl rfl ?_
  refine rc_bipush (v := 40) K dX0_init_5 rfl ?_
  refine rc_newI K ac_int f0 dX0_init_7 rfl (by decide) (by decide) (by decide) (Nat.le_of_ble_eq_true rfl) (Nat.le_of_ble_eq_true rfl) rfl rfl (Nat.le_of_ble_eq_true rfl) ?_
  have f1 := f0.up
  refine rc_putR K Z ffX0_9 dX0_init_9 rfl (Nat.le_of_ble_eq_true rfl) rfl ?_
  have f2 := f1.wR (o := 38) (k := 0) (q := 39) (Nat.le_of_ble_eq_true rfl) (Nat.le_of_ble_eq_true rfl)
  refine rc_aload_n K dX0_init_12 0 rfl rfl ?_
  refine rc_bipush (v := 40) K dX0_init_13 rfl ?_
  refine rc_newI K ac_int f2 dX0_init_15 rfl (by decide) (by decide) (by decide) (Nat.le_of_ble_eq_true rfl) (Nat.le_of_ble_eq_true rfl) rfl rfl (Nat.le_of_ble_eq_true rfl) ?_
  have f3 := f2.up
  refine rc_putR K Z ffX0_15 dX0_init_17 rfl (Nat.le_of_ble_eq_true rfl) rfl ?_
  have f4 := f3.wR (o := 38) (k := 1) (q := 40) (Nat.le_of_ble_eq_true rfl) (Nat.le_of_ble_eq_true rfl)
  refine rc_aload_n K dX0_init_20 0 rfl rfl ?_
  refine rc_bipush (v := 40) K dX0_init_21 rfl ?_
  refine rc_newI K ac_int f4 dX0_init_23 rfl (by decide) (by decide) (by decide) (Nat.le_of_ble_eq_true rfl) (Nat.le_of_ble_eq_true rfl) rfl rfl (Nat.le_of_ble_eq_true rfl) ?_
  have f5 := f4.up
  refine rc_putR K Z ffX0_18 dX0_init_25 rfl (Nat.le_of_ble_eq_true rfl) rfl ?_
  have f6 := f5.wR (o := 38) (k := 2) (q := 41) (Nat.le_of_ble_eq_true rfl) (Nat.le_of_ble_eq_true rfl)
  refine rc_aload_n K dX0_init_28 0 rfl rfl ?_
  refine rc_bipush (v := 40) K dX0_init_29 rfl ?_
  refine rc_newI K ac_int f6 dX0_init_31 rfl (by decide) (by decide) (by decide) (Nat.le_of_ble_eq_true rfl) (Nat.le_of_ble_eq_true rfl) rfl rfl (Nat.le_of_ble_eq_true rfl) ?_
  have f7 := f6.up
  refine rc_putR K Z ffX0_21 dX0_init_33 rfl (Nat.le_of_ble_eq_true rfl) rfl ?_
  have f8 := f7.wR (o := 38) (k := 3) (q := 42) (Nat.le_of_ble_eq_true rfl) (Nat.le_of_ble_eq_true rfl)
  refine rc_aload_n K dX0_init_36 0 rfl rfl ?_
  refine rc_iconst (v := 0) K dX0_init_37 rfl ?_
  refine rc_putI K fpX0_24 dX0_init_38 rfl (Nat.le_of_ble_eq_true rfl) rfl ?_
  have f9 := f8.wI (o := 38) (k := 4) (v := 0) (Nat.le_of_ble_eq_true rfl)
  refine rc_aload_n K dX0_init_41 0 rfl rfl ?_
  refine rc_iconst (v := 0) K dX0_init_42 rfl ?_
  refine rc_putI K fpX0_28 dX0_init_43 rfl (Nat.le_of_ble_eq_true rfl) rfl ?_
  have f10 := f9.wI (o := 38) (k := 5) (v := 0) (Nat.le_of_ble_eq_true rfl)
  exact rc_vret K Z dX0_init_46 rfl rfl)
def hCX1_init_43 (h : AH) : AH := (wI (wI h 43 1 0) 43 3 0)
def rCX1_init_43 (r : RH) : RH := (wR (wR r 43 0 (some 44)) 43 2 (some 45))
theorem fcX1_init_43 (h : AH) (r : RH) (hfr : frN 44 h r) : frN 46 (hCX1_init_43 h) (rCX1_init_43 r) := by
  have f0 := hfr
  have f1 := f0.up
  have f2 := f1.wR (o := 43) (k := 0) (q := 44) (Nat.le_of_ble_eq_true rfl) (Nat.le_of_ble_eq_true rfl)
  have f3 := f2.wI (o := 43) (k := 1) (v := 0) (Nat.le_of_ble_eq_true rfl)
  have f4 := f3.up
  have f5 := f4.wR (o := 43) (k := 2) (q := 45) (Nat.le_of_ble_eq_true rfl) (Nat.le_of_ble_eq_true rfl)
  have f6 := f5.wI (o := 43) (k := 3) (v := 0) (Nat.le_of_ble_eq_true rfl)
  exact f6
set_option maxRecDepth 20000 in
set_option maxHeartbeats 2000000 in
theorem ccX1_init_43 {G : GG} (h : AH) (r : RH) (hfr : frN 44 h r) : ConC G 1 2 74 yX1_init cX1_init 1 [.ref 43] 44 h r 46 (hCX1_init_43 h) (rCX1_init_43 r) := conC_of mwX1_init rfl (Nat.le_of_ble_eq_true rfl) (fun ad E K Z => by
  have f0 := hfr
  refine rc_aload_n K dX1_init_0 0 rfl rfl ?_
  refine rc_objInit K oiX1_3 oi_all dX1_init_1 (Nat.le_of_ble_eq_true rfl) (Nat.le_of_ble_eq_true rfl) ?_
  refine rc_aload_n K dX1_init_4 0 rfl rfl ?_
  refine rc_bipush (v := 50) K dX1_init_5 rfl ?_
  refine rc_newI K ac_int f0 dX1_init_7 rfl (by decide) (by decide) (by decide) (Nat.le_of_ble_eq_true rfl) (Nat.le_of_ble_eq_true rfl) rfl rfl (Nat.le_of_ble_eq_true rfl) ?_
  have f1 := f0.up
  refine rc_putR K Z ffX1_9 dX1_init_9 rfl (Nat.le_of_ble_eq_true rfl) rfl ?_
  have f2 := f1.wR (o := 43) (k := 0) (q := 44) (Nat.le_of_ble_eq_true rfl) (Nat.le_of_ble_eq_true rfl)
  refine rc_aload_n K dX1_init_12 0 rfl rfl ?_
  refine rc_iconst (v := 0) K dX1_init_13 rfl ?_
  refine rc_putI K fpX1_15 dX1_init_14 rfl (Nat.le_of_ble_eq_true rfl) rfl ?_
  have f3 := f2.wI (o := 43) (k := 1) (v := 0) (Nat.le_of_ble_eq_true rfl)
  refine rc_aload_n K dX1_init_17 0 rfl rfl ?_
  refine rc_bipush (v := 24) K dX1_init_18 rfl ?_
  refine rc_newI K ac_int f3 dX1_init_20 rfl (by decide) (by decide) (by decide) (Nat.le_of_ble_eq_true rfl) (Nat.le_of_ble_eq_true rfl) rfl rfl (Nat.le_of_ble_eq_true rfl) ?_
  have f4 := f3.up
  refine rc_putR K Z ffX1_19 dX1_init_22 rfl (Nat.le_of_ble_eq_true rfl) rfl ?_
  have f5 := f4.wR (o := 43) (k := 2) (q := 45) (Nat.le_of_ble_eq_true rfl) (Nat.le_of_ble_eq_true rfl)
  refine rc_aload_n K dX1_init_25 0 rfl rfl ?_
  refine rc_iconst (v := 0) K dX1_init_26 rfl ?_
  refine rc_putI K fpX1_22 dX1_init_27 rfl (Nat.le_of_ble_eq_true rfl) rfl ?_
  have f6 := f5.wI (o := 43) (k := 3) (v := 0) (Nat.le_of_ble_eq_true rfl)
  exact rc_vret K Z dX1_init_30 rfl rfl)
def hCX5_init_47 (h : AH) : AH := (wI (wI (wI (wI h 47 0 0) 47 1 (-1)) 47 2 0) 47 3 0)
def rCX5_init_47 (r : RH) : RH := (wR r 47 4 (some 48))
theorem fcX5_init_47 (h : AH) (r : RH) (hfr : frN 48 h r) : frN 49 (hCX5_init_47 h) (rCX5_init_47 r) := by
  have f0 := hfr
  have f1 := f0.wI (o := 47) (k := 0) (v := 0) (Nat.le_of_ble_eq_true rfl)
  have f2 := f1.wI (o := 47) (k := 1) (v := (-1)) (Nat.le_of_ble_eq_true rfl)
  have f3 := f2.wI (o := 47) (k := 2) (v := 0) (Nat.le_of_ble_eq_true rfl)
  have f4 := f3.wI (o := 47) (k := 3) (v := 0) (Nat.le_of_ble_eq_true rfl)
  have f5 := f4.up
  have f6 := f5.wR (o := 47) (k := 4) (q := 48) (Nat.le_of_ble_eq_true rfl) (Nat.le_of_ble_eq_true rfl)
  exact f6
set_option maxRecDepth 20000 in
set_option maxHeartbeats 2000000 in
theorem ccX5_init_47 {G : GG} (h : AH) (r : RH) (hfr : frN 48 h r) : ConC G 1 1 60 yX5_init cX5_init 1 [.ref 47] 48 h r 49 (hCX5_init_47 h) (rCX5_init_47 r) := conC_of mwX5_init rfl (Nat.le_of_ble_eq_true rfl) (fun ad E K Z => by
  have f0 := hfr
  refine rc_aload_n K dX5_init_0 0 rfl rfl ?_
  refine rc_objInit K oiX5_3 oi_all dX5_init_1 (Nat.le_of_ble_eq_true rfl) (Nat.le_of_ble_eq_true rfl) ?_
  refine rc_aload_n K dX5_init_4 0 rfl rfl ?_
  refine rc_iconst (v := 0) K dX5_init_5 rfl ?_
  refine rc_putI K fpX5_11 dX5_init_6 rfl (Nat.le_of_ble_eq_true rfl) rfl ?_
  have f1 := f0.wI (o := 47) (k := 0) (v := 0) (Nat.le_of_ble_eq_true rfl)
  refine rc_aload_n K dX5_init_9 0 rfl rfl ?_
  refine rc_iconst (v := (-1)) K dX5_init_10 rfl ?_
  refine rc_putI K fpX5_15 dX5_init_11 rfl (Nat.le_of_ble_eq_true rfl) rfl ?_
  have f2 := f1.wI (o := 47) (k := 1) (v := (-1)) (Nat.le_of_ble_eq_true rfl)
  refine rc_aload_n K dX5_init_14 0 rfl rfl ?_
  refine rc_iconst (v := 0) K dX5_init_15 rfl ?_
  refine rc_putI K fpX5_18 dX5_init_16 rfl (Nat.le_of_ble_eq_true rfl) rfl ?_
  have f3 := f2.wI (o := 47) (k := 2) (v := 0) (Nat.le_of_ble_eq_true rfl)
  refine rc_aload_n K dX5_init_19 0 rfl rfl ?_
  refine rc_iconst (v := 0) K dX5_init_20 rfl ?_
  refine rc_putI K fpX5_21 dX5_init_21 rfl (Nat.le_of_ble_eq_true rfl) rfl ?_
  have f4 := f3.wI (o := 47) (k := 3) (v := 0) (Nat.le_of_ble_eq_true rfl)
  refine rc_aload_n K dX5_init_24 0 rfl rfl ?_
  refine rc_bipush (v := 60) K dX5_init_25 rfl ?_
  refine rc_newL K ac_long f4 dX5_init_27 rfl (by decide) (by decide) (by decide) (Nat.le_of_ble_eq_true rfl) (Nat.le_of_ble_eq_true rfl) rfl rfl (Nat.le_of_ble_eq_true rfl) ?_
  have f5 := f4.up
  refine rc_putR K Z ffX5_24 dX5_init_29 rfl (Nat.le_of_ble_eq_true rfl) rfl ?_
  have f6 := f5.wR (o := 47) (k := 4) (q := 48) (Nat.le_of_ble_eq_true rfl) (Nat.le_of_ble_eq_true rfl)
  exact rc_vret K Z dX5_init_32 rfl rfl)
def hCX5_init_49 (h : AH) : AH := (wI (wI (wI (wI h 49 0 0) 49 1 (-1)) 49 2 0) 49 3 0)
def rCX5_init_49 (r : RH) : RH := (wR r 49 4 (some 50))
theorem fcX5_init_49 (h : AH) (r : RH) (hfr : frN 50 h r) : frN 51 (hCX5_init_49 h) (rCX5_init_49 r) := by
  have f0 := hfr
  have f1 := f0.wI (o := 49) (k := 0) (v := 0) (Nat.le_of_ble_eq_true rfl)
  have f2 := f1.wI (o := 49) (k := 1) (v := (-1)) (Nat.le_of_ble_eq_true rfl)
  have f3 := f2.wI (o := 49) (k := 2) (v := 0) (Nat.le_of_ble_eq_true rfl)
  have f4 := f3.wI (o := 49) (k := 3) (v := 0) (Nat.le_of_ble_eq_true rfl)
  have f5 := f4.up
  have f6 := f5.wR (o := 49) (k := 4) (q := 50) (Nat.le_of_ble_eq_true rfl) (Nat.le_of_ble_eq_true rfl)
  exact f6
set_option maxRecDepth 20000 in
set_option maxHeartbeats 2000000 in
theorem ccX5_init_49 {G : GG} (h : AH) (r : RH) (hfr : frN 50 h r) : ConC G 1 1 60 yX5_init cX5_init 1 [.ref 49] 50 h r 51 (hCX5_init_49 h) (rCX5_init_49 r) := conC_of mwX5_init rfl (Nat.le_of_ble_eq_true rfl) (fun ad E K Z => by
  have f0 := hfr
  refine rc_aload_n K dX5_init_0 0 rfl rfl ?_
  refine rc_objInit K oiX5_3 oi_all dX5_init_1 (Nat.le_of_ble_eq_true rfl) (Nat.le_of_ble_eq_true rfl) ?_
  refine rc_aload_n K dX5_init_4 0 rfl rfl ?_
  refine rc_iconst (v := 0) K dX5_init_5 rfl ?_
  refine rc_putI K fpX5_11 dX5_init_6 rfl (Nat.le_of_ble_eq_true rfl) rfl ?_
  have f1 := f0.wI (o := 49) (k := 0) (v := 0) (Nat.le_of_ble_eq_true rfl)
  refine rc_aload_n K dX5_init_9 0 rfl rfl ?_
  refine rc_iconst (v := (-1)) K dX5_init_10 rfl ?_
  refine rc_putI K fpX5_15 dX5_init_11 rfl (Nat.le_of_ble_eq_true rfl) rfl ?_
  have f2 := f1.wI (o := 49) (k := 1) (v := (-1)) (Nat.le_of_ble_eq_true rfl)
  refine rc_aload_n K dX5_init_14 0 rfl rfl ?_
  refine rc_iconst (v := 0) K dX5_init_15 rfl ?_
  refine rc_putI K fpX5_18 dX5_init_16 rfl (Nat.le_of_ble_eq_true rfl) rfl ?_
  have f3 := f2.wI (o := 49) (k := 2) (v := 0) (Nat.le_of_ble_eq_true rfl)
  refine rc_aload_n K dX5_init_19 0 rfl rfl ?_
  refine rc_iconst (v := 0) K dX5_init_20 rfl ?_
  refine rc_putI K fpX5_21 dX5_init_21 rfl (Nat.le_of_ble_eq_true rfl) rfl ?_
  have f4 := f3.wI (o := 49) (k := 3) (v := 0) (Nat.le_of_ble_eq_true rfl)
  refine rc_aload_n K dX5_init_24 0 rfl rfl ?_
  refine rc_bipush (v := 60) K dX5_init_25 rfl ?_
  refine rc_newL K ac_long f4 dX5_init_27 rfl (by decide) (by decide) (by decide) (Nat.le_of_ble_eq_true rfl) (Nat.le_of_ble_eq_true rfl) rfl rfl (Nat.le_of_ble_eq_true rfl) ?_
  have f5 := f4.up
  refine rc_putR K Z ffX5_24 dX5_init_29 rfl (Nat.le_of_ble_eq_true rfl) rfl ?_
  have f6 := f5.wR (o := 49) (k := 4) (q := 50) (Nat.le_of_ble_eq_true rfl) (Nat.le_of_ble_eq_true rfl)
  exact rc_vret K Z dX5_init_32 rfl rfl)
def hCX5_init_51 (h : AH) : AH := (wI (wI (wI (wI h 51 0 0) 51 1 (-1)) 51 2 0) 51 3 0)
def rCX5_init_51 (r : RH) : RH := (wR r 51 4 (some 52))
theorem fcX5_init_51 (h : AH) (r : RH) (hfr : frN 52 h r) : frN 53 (hCX5_init_51 h) (rCX5_init_51 r) := by
  have f0 := hfr
  have f1 := f0.wI (o := 51) (k := 0) (v := 0) (Nat.le_of_ble_eq_true rfl)
  have f2 := f1.wI (o := 51) (k := 1) (v := (-1)) (Nat.le_of_ble_eq_true rfl)
  have f3 := f2.wI (o := 51) (k := 2) (v := 0) (Nat.le_of_ble_eq_true rfl)
  have f4 := f3.wI (o := 51) (k := 3) (v := 0) (Nat.le_of_ble_eq_true rfl)
  have f5 := f4.up
  have f6 := f5.wR (o := 51) (k := 4) (q := 52) (Nat.le_of_ble_eq_true rfl) (Nat.le_of_ble_eq_true rfl)
  exact f6
set_option maxRecDepth 20000 in
set_option maxHeartbeats 2000000 in
theorem ccX5_init_51 {G : GG} (h : AH) (r : RH) (hfr : frN 52 h r) : ConC G 1 1 60 yX5_init cX5_init 1 [.ref 51] 52 h r 53 (hCX5_init_51 h) (rCX5_init_51 r) := conC_of mwX5_init rfl (Nat.le_of_ble_eq_true rfl) (fun ad E K Z => by
  have f0 := hfr
  refine rc_aload_n K dX5_init_0 0 rfl rfl ?_
  refine rc_objInit K oiX5_3 oi_all dX5_init_1 (Nat.le_of_ble_eq_true rfl) (Nat.le_of_ble_eq_true rfl) ?_
  refine rc_aload_n K dX5_init_4 0 rfl rfl ?_
  refine rc_iconst (v := 0) K dX5_init_5 rfl ?_
  refine rc_putI K fpX5_11 dX5_init_6 rfl (Nat.le_of_ble_eq_true rfl) rfl ?_
  have f1 := f0.wI (o := 51) (k := 0) (v := 0) (Nat.le_of_ble_eq_true rfl)
  refine rc_aload_n K dX5_init_9 0 rfl rfl ?_
  refine rc_iconst (v := (-1)) K dX5_init_10 rfl ?_
  refine rc_putI K fpX5_15 dX5_init_11 rfl (Nat.le_of_ble_eq_true rfl) rfl ?_
  have f2 := f1.wI (o := 51) (k := 1) (v := (-1)) (Nat.le_of_ble_eq_true rfl)
  refine rc_aload_n K dX5_init_14 0 rfl rfl ?_
  refine rc_iconst (v := 0) K dX5_init_15 rfl ?_
  refine rc_putI K fpX5_18 dX5_init_16 rfl (Nat.le_of_ble_eq_true rfl) rfl ?_
  have f3 := f2.wI (o := 51) (k := 2) (v := 0) (Nat.le_of_ble_eq_true rfl)
  refine rc_aload_n K dX5_init_19 0 rfl rfl ?_
  refine rc_iconst (v := 0) K dX5_init_20 rfl ?_
  refine rc_putI K fpX5_21 dX5_init_21 rfl (Nat.le_of_ble_eq_true rfl) rfl ?_
  have f4 := f3.wI (o := 51) (k := 3) (v := 0) (Nat.le_of_ble_eq_true rfl)
  refine rc_aload_n K dX5_init_24 0 rfl rfl ?_
  refine rc_bipush (v := 60) K dX5_init_25 rfl ?_
  refine rc_newL K ac_long f4 dX5_init_27 rfl (by decide) (by decide) (by decide) (Nat.le_of_ble_eq_true rfl) (Nat.le_of_ble_eq_true rfl) rfl rfl (Nat.le_of_ble_eq_true rfl) ?_
  have f5 := f4.up
  refine rc_putR K Z ffX5_24 dX5_init_29 rfl (Nat.le_of_ble_eq_true rfl) rfl ?_
  have f6 := f5.wR (o := 51) (k := 4) (q := 52) (Nat.le_of_ble_eq_true rfl) (Nat.le_of_ble_eq_true rfl)
  exact rc_vret K Z dX5_init_32 rfl rfl)
def hCX5_init_53 (h : AH) : AH := (wI (wI (wI (wI h 53 0 0) 53 1 (-1)) 53 2 0) 53 3 0)
def rCX5_init_53 (r : RH) : RH := (wR r 53 4 (some 54))
theorem fcX5_init_53 (h : AH) (r : RH) (hfr : frN 54 h r) : frN 55 (hCX5_init_53 h) (rCX5_init_53 r) := by
  have f0 := hfr
  have f1 := f0.wI (o := 53) (k := 0) (v := 0) (Nat.le_of_ble_eq_true rfl)
  have f2 := f1.wI (o := 53) (k := 1) (v := (-1)) (Nat.le_of_ble_eq_true rfl)
  have f3 := f2.wI (o := 53) (k := 2) (v := 0) (Nat.le_of_ble_eq_true rfl)
  have f4 := f3.wI (o := 53) (k := 3) (v := 0) (Nat.le_of_ble_eq_true rfl)
  have f5 := f4.up
  have f6 := f5.wR (o := 53) (k := 4) (q := 54) (Nat.le_of_ble_eq_true rfl) (Nat.le_of_ble_eq_true rfl)
  exact f6
set_option maxRecDepth 20000 in
set_option maxHeartbeats 2000000 in
theorem ccX5_init_53 {G : GG} (h : AH) (r : RH) (hfr : frN 54 h r) : ConC G 1 1 60 yX5_init cX5_init 1 [.ref 53] 54 h r 55 (hCX5_init_53 h) (rCX5_init_53 r) := conC_of mwX5_init rfl (Nat.le_of_ble_eq_true rfl) (fun ad E K Z => by
  have f0 := hfr
  refine rc_aload_n K dX5_init_0 0 rfl rfl ?_
  refine rc_objInit K oiX5_3 oi_all dX5_init_1 (Nat.le_of_ble_eq_true rfl) (Nat.le_of_ble_eq_true rfl) ?_
  refine rc_aload_n K dX5_init_4 0 rfl rfl ?_
  refine rc_iconst (v := 0) K dX5_init_5 rfl ?_
  refine rc_putI K fpX5_11 dX5_init_6 rfl (Nat.le_of_ble_eq_true rfl) rfl ?_
  have f1 := f0.wI (o := 53) (k := 0) (v := 0) (Nat.le_of_ble_eq_true rfl)
  refine rc_aload_n K dX5_init_9 0 rfl rfl ?_
  refine rc_iconst (v := (-1)) K dX5_init_10 rfl ?_
  refine rc_putI K fpX5_15 dX5_init_11 rfl (Nat.le_of_ble_eq_true rfl) rfl ?_
  have f2 := f1.wI (o := 53) (k := 1) (v := (-1)) (Nat.le_of_ble_eq_true rfl)
  refine rc_aload_n K dX5_init_14 0 rfl rfl ?_
  refine rc_iconst (v := 0) K dX5_init_15 rfl ?_
  refine rc_putI K fpX5_18 dX5_init_16 rfl (Nat.le_of_ble_eq_true rfl) rfl ?_
  have f3 := f2.wI (o := 53) (k := 2) (v := 0) (Nat.le_of_ble_eq_true rfl)
  refine rc_aload_n K dX5_init_19 0 rfl rfl ?_
  refine rc_iconst (v := 0) K dX5_init_20 rfl ?_
  refine rc_putI K fpX5_21 dX5_init_21 rfl (Nat.le_of_ble_eq_true rfl) rfl ?_
  have f4 := f3.wI (o := 53) (k := 3) (v := 0) (Nat.le_of_ble_eq_true rfl)
  refine rc_aload_n K dX5_init_24 0 rfl rfl ?_
  refine rc_bipush (v := 60) K dX5_init_25 rfl ?_
  refine rc_newL K ac_long f4 dX5_init_27 rfl (by decide) (by decide) (by decide) (Nat.le_of_ble_eq_true rfl) (Nat.le_of_ble_eq_true rfl) rfl rfl (Nat.le_of_ble_eq_true rfl) ?_
  have f5 := f4.up
  refine rc_putR K Z ffX5_24 dX5_init_29 rfl (Nat.le_of_ble_eq_true rfl) rfl ?_
  have f6 := f5.wR (o := 53) (k := 4) (q := 54) (Nat.le_of_ble_eq_true rfl) (Nat.le_of_ble_eq_true rfl)
  exact rc_vret K Z dX5_init_32 rfl rfl)
def hCX5_init_55 (h : AH) : AH := (wI (wI (wI (wI h 55 0 0) 55 1 (-1)) 55 2 0) 55 3 0)
def rCX5_init_55 (r : RH) : RH := (wR r 55 4 (some 56))
theorem fcX5_init_55 (h : AH) (r : RH) (hfr : frN 56 h r) : frN 57 (hCX5_init_55 h) (rCX5_init_55 r) := by
  have f0 := hfr
  have f1 := f0.wI (o := 55) (k := 0) (v := 0) (Nat.le_of_ble_eq_true rfl)
  have f2 := f1.wI (o := 55) (k := 1) (v := (-1)) (Nat.le_of_ble_eq_true rfl)
  have f3 := f2.wI (o := 55) (k := 2) (v := 0) (Nat.le_of_ble_eq_true rfl)
  have f4 := f3.wI (o := 55) (k := 3) (v := 0) (Nat.le_of_ble_eq_true rfl)
  have f5 := f4.up
  have f6 := f5.wR (o := 55) (k := 4) (q := 56) (Nat.le_of_ble_eq_true rfl) (Nat.le_of_ble_eq_true rfl)
  exact f6
set_option maxRecDepth 20000 in
set_option maxHeartbeats 2000000 in
theorem ccX5_init_55 {G : GG} (h : AH) (r : RH) (hfr : frN 56 h r) : ConC G 1 1 60 yX5_init cX5_init 1 [.ref 55] 56 h r 57 (hCX5_init_55 h) (rCX5_init_55 r) := conC_of mwX5_init rfl (Nat.le_of_ble_eq_true rfl) (fun ad E K Z => by
  have f0 := hfr
  refine rc_aload_n K dX5_init_0 0 rfl rfl ?_
  refine rc_objInit K oiX5_3 oi_all dX5_init_1 (Nat.le_of_ble_eq_true rfl) (Nat.le_of_ble_eq_true rfl) ?_
  refine rc_aload_n K dX5_init_4 0 rfl rfl ?_
  refine rc_iconst (v := 0) K dX5_init_5 rfl ?_
  refine rc_putI K fpX5_11 dX5_init_6 rfl (Nat.le_of_ble_eq_true rfl) rfl ?_
  have f1 := f0.wI (o := 55) (k := 0) (v := 0) (Nat.le_of_ble_eq_true rfl)
  refine rc_aload_n K dX5_init_9 0 rfl rfl ?_
  refine rc_iconst (v := (-1)) K dX5_init_10 rfl ?_
  refine rc_putI K fpX5_15 dX5_init_11 rfl (Nat.le_of_ble_eq_true rfl) rfl ?_
  have f2 := f1.wI (o := 55) (k := 1) (v := (-1)) (Nat.le_of_ble_eq_true rfl)
  refine rc_aload_n K dX5_init_14 0 rfl rfl ?_
  refine rc_iconst (v := 0) K dX5_init_15 rfl ?_
  refine rc_putI K fpX5_18 dX5_init_16 rfl (Nat.le_of_ble_eq_true rfl) rfl ?_
  have f3 := f2.wI (o := 55) (k := 2) (v := 0) (Nat.le_of_ble_eq_true rfl)
  refine rc_aload_n K dX5_init_19 0 rfl rfl ?_
  refine rc_iconst (v := 0) K dX5_init_20 rfl ?_
  refine rc_putI K fpX5_21 dX5_init_21 rfl (Nat.le_of_ble_eq_true rfl) rfl ?_
  have f4 := f3.wI (o := 55) (k := 3) (v := 0) (Nat.le_of_ble_eq_true rfl)
  refine rc_aload_n K dX5_init_24 0 rfl rfl ?_
  refine rc_bipush (v := 60) K dX5_init_25 rfl ?_
  refine rc_newL K ac_long f4 dX5_init_27 rfl (by decide) (by decide) (by decide) (Nat.le_of_ble_eq_true rfl) (Nat.le_of_ble_eq_true rfl) rfl rfl (Nat.le_of_ble_eq_true rfl) ?_
  have f5 := f4.up
  refine rc_putR K Z ffX5_24 dX5_init_29 rfl (Nat.le_of_ble_eq_true rfl) rfl ?_
  have f6 := f5.wR (o := 55) (k := 4) (q := 56) (Nat.le_of_ble_eq_true rfl) (Nat.le_of_ble_eq_true rfl)
  exact rc_vret K Z dX5_init_32 rfl rfl)
def hCX5_init_57 (h : AH) : AH := (wI (wI (wI (wI h 57 0 0) 57 1 (-1)) 57 2 0) 57 3 0)
def rCX5_init_57 (r : RH) : RH := (wR r 57 4 (some 58))
theorem fcX5_init_57 (h : AH) (r : RH) (hfr : frN 58 h r) : frN 59 (hCX5_init_57 h) (rCX5_init_57 r) := by
  have f0 := hfr
  have f1 := f0.wI (o := 57) (k := 0) (v := 0) (Nat.le_of_ble_eq_true rfl)
  have f2 := f1.wI (o := 57) (k := 1) (v := (-1)) (Nat.le_of_ble_eq_true rfl)
  have f3 := f2.wI (o := 57) (k := 2) (v := 0) (Nat.le_of_ble_eq_true rfl)
  have f4 := f3.wI (o := 57) (k := 3) (v := 0) (Nat.le_of_ble_eq_true rfl)
  have f5 := f4.up
  have f6 := f5.wR (o := 57) (k := 4) (q := 58) (Nat.le_of_ble_eq_true rfl) (Nat.le_of_ble_eq_true rfl)
  exact f6
set_option maxRecDepth 20000 in
set_option maxHeartbeats 2000000 in
theorem ccX5_init_57 {G : GG} (h : AH) (r : RH) (hfr : frN 58 h r) : ConC G 1 1 60 yX5_init cX5_init 1 [.ref 57] 58 h r 59 (hCX5_init_57 h) (rCX5_init_57 r) := conC_of mwX5_init rfl (Nat.le_of_ble_eq_true rfl) (fun ad E K Z => by
  have f0 := hfr
  refine rc_aload_n K dX5_init_0 0 rfl rfl ?_
  refine rc_objInit K oiX5_3 oi_all dX5_init_1 (Nat.le_of_ble_eq_true rfl) (Nat.le_of_ble_eq_true rfl) ?_
  refine rc_aload_n K dX5_init_4 0 rfl rfl ?_
  refine rc_iconst (v := 0) K dX5_init_5 rfl ?_
  refine rc_putI K fpX5_11 dX5_init_6 rfl (Nat.le_of_ble_eq_true rfl) rfl ?_
  have f1 := f0.wI (o := 57) (k := 0) (v := 0) (Nat.le_of_ble_eq_true rfl)
  refine rc_aload_n K dX5_init_9 0 rfl rfl ?_
  refine rc_iconst (v := (-1)) K dX5_init_10 rfl ?_
  refine rc_putI K fpX5_15 dX5_init_11 rfl (Nat.le_of_ble_eq_true rfl) rfl ?_
  have f2 := f1.wI (o := 57) (k := 1) (v := (-1)) (Nat.le_of_ble_eq_true rfl)
  refine rc_aload_n K dX5_init_14 0 rfl rfl ?_
  refine rc_iconst (v := 0) K dX5_init_15 rfl ?_
  refine rc_putI K fpX5_18 dX5_init_16 rfl (Nat.le_of_ble_eq_true rfl) rfl ?_
  have f3 := f2.wI (o := 57) (k := 2) (v := 0) (Nat.le_of_ble_eq_true rfl)
  refine rc_aload_n K dX5_init_19 0 rfl rfl ?_
  refine rc_iconst (v := 0) K dX5_init_20 rfl ?_
  refine rc_putI K fpX5_21 dX5_init_21 rfl (Nat.le_of_ble_eq_true rfl) rfl ?_
  have f4 := f3.wI (o := 57) (k := 3) (v := 0) (Nat.le_of_ble_eq_true rfl)
  refine rc_aload_n K dX5_init_24 0 rfl rfl ?_
  refine rc_bipush (v := 60) K dX5_init_25 rfl ?_
  refine rc_newL K ac_long f4 dX5_init_27 rfl (by decide) (by decide) (by decide) (Nat.le_of_ble_eq_true rfl) (Nat.le_of_ble_eq_true rfl) rfl rfl (Nat.le_of_ble_eq_true rfl) ?_
  have f5 := f4.up
  refine rc_putR K Z ffX5_24 dX5_init_29 rfl (Nat.le_of_ble_eq_true rfl) rfl ?_
  have f6 := f5.wR (o := 57) (k := 4) (q := 58) (Nat.le_of_ble_eq_true rfl) (Nat.le_of_ble_eq_true rfl)
  exact rc_vret K Z dX5_init_32 rfl rfl)
def hCX9_init_0 (h : AH) : AH := (hCX5_init_57 (hCX5_init_55 (hCX5_init_53 (hCX5_init_51 (hCX5_init_49 (hCX5_init_47 (hCX1_init_43 (hCX0_init_38 (hCX2_init_33 (hCX8_init_30 (hCX6_init_18 (hCX3_init_15 (hCX4_init_12 (wI (hCX7_init_1 h) 0 2 0))))))))))))))
def rCX9_init_0 (r : RH) : RH := (wR (rCX5_init_57 (wR (rCX5_init_55 (wR (rCX5_init_53 (wR (rCX5_init_51 (wR (rCX5_init_49 (wR (rCX5_init_47 (wR (wR (rCX1_init_43 (wR (rCX0_init_38 (wR (rCX2_init_33 (wR (wR (rCX8_init_30 (wR (rCX6_init_18 (wR (rCX3_init_15 (wR (rCX4_init_12 (wR (wR (rCX7_init_1 r) 0 0 (some 1)) 0 1 (some 11))) 0 3 (some 12))) 0 4 (some 15))) 0 5 (some 18))) 0 6 (some 30)) 0 7 (some 32))) 0 8 (some 33))) 0 9 (some 38))) 0 10 (some 43)) 0 11 (some 46))) 46 (ix 0) (some 47))) 46 (ix 1) (some 49))) 46 (ix 2) (some 51))) 46 (ix 3) (some 53))) 46 (ix 4) (some 55))) 46 (ix 5) (some 57))
theorem fcX9_init_0 (h : AH) (r : RH) (hfr : frN 1 h r) : frN 59 (hCX9_init_0 h) (rCX9_init_0 r) := by
  have f0 := hfr
  have f1 := f0.up
  have f2 := fcX7_init_1 _ _ f1
  have f3 := f2.wR (o := 0) (k := 0) (q := 1) (Nat.le_of_ble_eq_true rfl) (Nat.le_of_ble_eq_true rfl)
  have f4 := f3.up
  have f5 := f4.wR (o := 0) (k := 1) (q := 11) (Nat.le_of_ble_eq_true rfl) (Nat.le_of_ble_eq_true rfl)
  have f6 := f5.wI (o := 0) (k := 2) (v := 0) (Nat.le_of_ble_eq_true rfl)
  have f7 := f6.up
  have f8 := fcX4_init_12 _ _ f7
  have f9 := f8.wR (o := 0) (k := 3) (q := 12) (Nat.le_of_ble_eq_true rfl) (Nat.le_of_ble_eq_true rfl)
  have f10 := f9.up
  have f11 := fcX3_init_15 _ _ f10
  have f12 := f11.wR (o := 0) (k := 4) (q := 15) (Nat.le_of_ble_eq_true rfl) (Nat.le_of_ble_eq_true rfl)
  have f13 := f12.up
  have f14 := fcX6_init_18 _ _ f13
  have f15 := f14.wR (o := 0) (k := 5) (q := 18) (Nat.le_of_ble_eq_true rfl) (Nat.le_of_ble_eq_true rfl)
  have f16 := f15.up
  have f17 := fcX8_init_30 _ _ f16
  have f18 := f17.wR (o := 0) (k := 6) (q := 30) (Nat.le_of_ble_eq_true rfl) (Nat.le_of_ble_eq_true rfl)
  have f19 := f18.up
  have f20 := f19.wR (o := 0) (k := 7) (q := 32) (Nat.le_of_ble_eq_true rfl) (Nat.le_of_ble_eq_true rfl)
  have f21 := f20.up
  have f22 := fcX2_init_33 _ _ f21
  have f23 := f22.wR (o := 0) (k := 8) (q := 33) (Nat.le_of_ble_eq_true rfl) (Nat.le_of_ble_eq_true rfl)
  have f24 := f23.up
  have f25 := fcX0_init_38 _ _ f24
  have f26 := f25.wR (o := 0) (k := 9) (q := 38) (Nat.le_of_ble_eq_true rfl) (Nat.le_of_ble_eq_true rfl)
  have f27 := f26.up
  have f28 := fcX1_init_43 _ _ f27
  have f29 := f28.wR (o := 0) (k := 10) (q := 43) (Nat.le_of_ble_eq_true rfl) (Nat.le_of_ble_eq_true rfl)
  have f30 := f29.up
  have f31 := f30.wR (o := 0) (k := 11) (q := 46) (Nat.le_of_ble_eq_true rfl) (Nat.le_of_ble_eq_true rfl)
  have f32 := f31.up
  have f33 := fcX5_init_47 _ _ f32
  have f34 := f33.wR (o := 46) (k := ix 0) (q := 47) (Nat.le_of_ble_eq_true rfl) (Nat.le_of_ble_eq_true rfl)
  have f35 := f34.up
  have f36 := fcX5_init_49 _ _ f35
  have f37 := f36.wR (o := 46) (k := ix 1) (q := 49) (Nat.le_of_ble_eq_true rfl) (Nat.le_of_ble_eq_true rfl)
  have f38 := f37.up
  have f39 := fcX5_init_51 _ _ f38
  have f40 := f39.wR (o := 46) (k := ix 2) (q := 51) (Nat.le_of_ble_eq_true rfl) (Nat.le_of_ble_eq_true rfl)
  have f41 := f40.up
  have f42 := fcX5_init_53 _ _ f41
  have f43 := f42.wR (o := 46) (k := ix 3) (q := 53) (Nat.le_of_ble_eq_true rfl) (Nat.le_of_ble_eq_true rfl)
  have f44 := f43.up
  have f45 := fcX5_init_55 _ _ f44
  have f46 := f45.wR (o := 46) (k := ix 4) (q := 55) (Nat.le_of_ble_eq_true rfl) (Nat.le_of_ble_eq_true rfl)
  have f47 := f46.up
  have f48 := fcX5_init_57 _ _ f47
  have f49 := f48.wR (o := 46) (k := ix 5) (q := 57) (Nat.le_of_ble_eq_true rfl) (Nat.le_of_ble_eq_true rfl)
  exact f49
set_option maxRecDepth 20000 in
set_option maxHeartbeats 2000000 in
theorem ccX9_init_0 {G : GG} (h : AH) (r : RH) (hfr : frN 1 h r) : ConC G 3 58 1630 yX9_init cX9_init 2 [.ref 0] 1 h r 59 (hCX9_init_0 h) (rCX9_init_0 r) := conC_of mwX9_init rfl (Nat.le_of_ble_eq_true rfl) (fun ad E K Z => by
  have f0 := hfr
  refine rc_aload_n K dX9_init_0 0 rfl rfl ?_
  refine rc_objInit K oiX9_1 oi_all dX9_init_1 (Nat.le_of_ble_eq_true rfl) (Nat.le_of_ble_eq_true rfl) ?_
  refine rc_aload_n K dX9_init_4 0 rfl rfl ?_
  refine rc_new K nlX9_7 f0 dX9_init_5 rfl (Nat.le_of_ble_eq_true rfl) (Nat.le_of_ble_eq_true rfl) rfl rfl (Nat.le_of_ble_eq_true rfl) ?_
  have f1 := f0.up
  refine rc_dup K dX9_init_8 rfl ?_
  refine rc_callIN (d9 := 1) (mc9 := 9) (ms9 := 93) (av := []) (st := [.ref 1, .ref 0]) K ilX9_9 mwX7_init rfl (ccX7_init_1 _ _ f1) dX9_init_9 (Nat.le_of_ble_eq_true rfl) (Nat.le_of_ble_eq_true rfl) (Nat.le_of_ble_eq_true rfl) rfl rfl (Nat.le_of_ble_eq_true rfl) rfl rfl (Nat.le_of_ble_eq_true rfl) ?_
  have f2 := fcX7_init_1 _ _ f1
  refine rc_putR K Z ffX9_10 dX9_init_12 rfl (Nat.le_of_ble_eq_true rfl) rfl ?_
  have f3 := f2.wR (o := 0) (k := 0) (q := 1) (Nat.le_of_ble_eq_true rfl) (Nat.le_of_ble_eq_true rfl)
  refine rc_aload_n K dX9_init_15 0 rfl rfl ?_
  refine rc_bipush (v := 120) K dX9_init_16 rfl ?_
  refine rc_newI K ac_int f3 dX9_init_18 rfl (by decide) (by decide) (by decide) (Nat.le_of_ble_eq_true rfl) (Nat.le_of_ble_eq_true rfl) rfl rfl (Nat.le_of_ble_eq_true rfl) ?_
  have f4 := f3.up
  refine rc_putR K Z ffX9_16 dX9_init_20 rfl (Nat.le_of_ble_eq_true rfl) rfl ?_
  have f5 := f4.wR (o := 0) (k := 1) (q := 11) (Nat.le_of_ble_eq_true rfl) (Nat.le_of_ble_eq_true rfl)
  refine rc_aload_n K dX9_init_23 0 rfl rfl ?_
  refine rc_iconst (v := 0) K dX9_init_24 rfl ?_
  refine rc_putI K fpX9_20 dX9_init_25 rfl (Nat.le_of_ble_eq_true rfl) rfl ?_
  have f6 := f5.wI (o := 0) (k := 2) (v := 0) (Nat.le_of_ble_eq_true rfl)
  refine rc_aload_n K dX9_init_28 0 rfl rfl ?_
  refine rc_new K nlX9_24 f6 dX9_init_29 rfl (Nat.le_of_ble_eq_true rfl) (Nat.le_of_ble_eq_true rfl) rfl rfl (Nat.le_of_ble_eq_true rfl) ?_
  have f7 := f6.up
  refine rc_dup K dX9_init_32 rfl ?_
  refine rc_callIN (d9 := 1) (mc9 := 2) (ms9 := 241) (av := []) (st := [.ref 12, .ref 0]) K ilX9_26 mwX4_init rfl (ccX4_init_12 _ _ f7) dX9_init_33 (Nat.le_of_ble_eq_true rfl) (Nat.le_of_ble_eq_true rfl) (Nat.le_of_ble_eq_true rfl) rfl rfl (Nat.le_of_ble_eq_true rfl) rfl rfl (Nat.le_of_ble_eq_true rfl) ?_
  have f8 := fcX4_init_12 _ _ f7
  refine rc_putR K Z ffX9_27 dX9_init_36 rfl (Nat.le_of_ble_eq_true rfl) rfl ?_
  have f9 := f8.wR (o := 0) (k := 3) (q := 12) (Nat.le_of_ble_eq_true rfl) (Nat.le_of_ble_eq_true rfl)
  refine rc_aload_n K dX9_init_39 0 rfl rfl ?_
  refine rc_new K nlX9_31 f9 dX9_init_40 rfl (Nat.le_of_ble_eq_true rfl) (Nat.le_of_ble_eq_true rfl) rfl rfl (Nat.le_of_ble_eq_true rfl) ?_
  have f10 := f9.up
  refine rc_dup K dX9_init_43 rfl ?_
  refine rc_callIN (d9 := 1) (mc9 := 2) (ms9 := 242) (av := []) (st := [.ref 15, .ref 0]) K ilX9_33 mwX3_init rfl (ccX3_init_15 _ _ f10) dX9_init_44 (Nat.le_of_ble_eq_true rfl) (Nat.le_of_ble_eq_true rfl) (Nat.le_of_ble_eq_true rfl) rfl rfl (Nat.le_of_ble_eq_true rfl) rfl rfl (Nat.le_of_ble_eq_true rfl) ?_
  have f11 := fcX3_init_15 _ _ f10
  refine rc_putR K Z ffX9_34 dX9_init_47 rfl (Nat.le_of_ble_eq_true rfl) rfl ?_
  have f12 := f11.wR (o := 0) (k := 4) (q := 15) (Nat.le_of_ble_eq_true rfl) (Nat.le_of_ble_eq_true rfl)
  refine rc_aload_n K dX9_init_50 0 rfl rfl ?_
  refine rc_new K nlX9_38 f12 dX9_init_51 rfl (Nat.le_of_ble_eq_true rfl) (Nat.le_of_ble_eq_true rfl) rfl rfl (Nat.le_of_ble_eq_true rfl) ?_
  have f13 := f12.up
  refine rc_dup K dX9_init_54 rfl ?_
  refine rc_aload_n K dX9_init_55 0 rfl rfl ?_
  refine rc_getR (o2 := 1) K flX9_10 dX9_init_56 rfl (Nat.le_of_ble_eq_true rfl) rfl rfl ?_
  refine rc_aload_n K dX9_init_59 0 rfl rfl ?_
  refine rc_getR (o2 := 15) K flX9_34 dX9_init_60 rfl (Nat.le_of_ble_eq_true rfl) rfl rfl ?_
  refine rc_callI (d9 := 2) (mc9 := 11) (ms9 := 114) (av := [.ref 1, .ref 15]) (st := [.ref 18, .ref 0]) K ilX9_40 mwX6_init rfl (ccX6_init_18 _ _ f13) dX9_init_63 (Nat.le_of_ble_eq_true rfl) (Nat.le_of_ble_eq_true rfl) (Nat.le_of_ble_eq_true rfl) rfl rfl (Nat.le_of_ble_eq_true rfl) rfl rfl (Nat.le_of_ble_eq_true rfl) ?_
  have f14 := fcX6_init_18 _ _ f13
  refine rc_putR K Z ffX9_43 dX9_init_66 rfl (Nat.le_of_ble_eq_true rfl) rfl ?_
  have f15 := f14.wR (o := 0) (k := 5) (q := 18) (Nat.le_of_ble_eq_true rfl) (Nat.le_of_ble_eq_true rfl)
  refine rc_aload_n K dX9_init_69 0 rfl rfl ?_
  refine rc_new K nlX9_47 f15 dX9_init_70 rfl (Nat.le_of_ble_eq_true rfl) (Nat.le_of_ble_eq_true rfl) rfl rfl (Nat.le_of_ble_eq_true rfl) ?_
  have f16 := f15.up
  refine rc_dup K dX9_init_73 rfl ?_
  refine rc_aload_n K dX9_init_74 0 rfl rfl ?_
  refine rc_getR (o2 := 18) K flX9_43 dX9_init_75 rfl (Nat.le_of_ble_eq_true rfl) rfl rfl ?_
  refine rc_callI (d9 := 1) (mc9 := 1) (ms9 := 100) (av := [.ref 18]) (st := [.ref 30, .ref 0]) K ilX9_49 mwX8_init rfl (ccX8_init_30 _ _ f16) dX9_init_78 (Nat.le_of_ble_eq_true rfl) (Nat.le_of_ble_eq_true rfl) (Nat.le_of_ble_eq_true rfl) rfl rfl (Nat.le_of_ble_eq_true rfl) rfl rfl (Nat.le_of_ble_eq_true rfl) ?_
  have f17 := fcX8_init_30 _ _ f16
  refine rc_putR K Z ffX9_52 dX9_init_81 rfl (Nat.le_of_ble_eq_true rfl) rfl ?_
  have f18 := f17.wR (o := 0) (k := 6) (q := 30) (Nat.le_of_ble_eq_true rfl) (Nat.le_of_ble_eq_true rfl)
  refine rc_aload_n K dX9_init_84 0 rfl rfl ?_
  refine rc_iconst (v := 5) K dX9_init_85 rfl ?_
  refine rc_newI K ac_int f18 dX9_init_86 rfl (by decide) (by decide) (by decide) (Nat.le_of_ble_eq_true rfl) (Nat.le_of_ble_eq_true rfl) rfl rfl (Nat.le_of_ble_eq_true rfl) ?_
  have f19 := f18.up
  refine rc_putR K Z ffX9_56 dX9_init_88 rfl (Nat.le_of_ble_eq_true rfl) rfl ?_
  have f20 := f19.wR (o := 0) (k := 7) (q := 32) (Nat.le_of_ble_eq_true rfl) (Nat.le_of_ble_eq_true rfl)
  refine rc_aload_n K dX9_init_91 0 rfl rfl ?_
  refine rc_new K nlX9_59 f20 dX9_init_92 rfl (Nat.le_of_ble_eq_true rfl) (Nat.le_of_ble_eq_true rfl) rfl rfl (Nat.le_of_ble_eq_true rfl) ?_
  have f21 := f20.up
  refine rc_dup K dX9_init_95 rfl ?_
  refine rc_callIN (d9 := 1) (mc9 := 4) (ms9 := 32) (av := []) (st := [.ref 33, .ref 0]) K ilX9_61 mwX2_init rfl (ccX2_init_33 _ _ f21) dX9_init_96 (Nat.le_of_ble_eq_true rfl) (Nat.le_of_ble_eq_true rfl) (Nat.le_of_ble_eq_true rfl) rfl rfl (Nat.le_of_ble_eq_true rfl) rfl rfl (Nat.le_of_ble_eq_true rfl) ?_
  have f22 := fcX2_init_33 _ _ f21
  refine rc_putR K Z ffX9_62 dX9_init_99 rfl (Nat.le_of_ble_eq_true rfl) rfl ?_
  have f23 := f22.wR (o := 0) (k := 8) (q := 33) (Nat.le_of_ble_eq_true rfl) (Nat.le_of_ble_eq_true rfl)
  refine rc_aload_n K dX9_init_102 0 rfl rfl ?_
  refine rc_new K nlX9_66 f23 dX9_init_103 rfl (Nat.le_of_ble_eq_true rfl) (Nat.le_of_ble_eq_true rfl) rfl rfl (Nat.le_of_ble_eq_true rfl) ?_
  have f24 := f23.up
  refine rc_dup K dX9_init_106 rfl ?_
  refine rc_callIN (d9 := 1) (mc9 := 4) (ms9 := 160) (av := []) (st := [.ref 38, .ref 0]) K ilX9_68 mwX0_init rfl (ccX0_init_38 _ _ f24) dX9_init_107 (Nat.le_of_ble_eq_true rfl) (Nat.le_of_ble_eq_true rfl) (Nat.le_of_ble_eq_true rfl) rfl rfl (Nat.le_of_ble_eq_true rfl) rfl rfl (Nat.le_of_ble_eq_true rfl) ?_
  have f25 := fcX0_init_38 _ _ f24
  refine rc_putR K Z ffX9_69 dX9_init_110 rfl (Nat.le_of_ble_eq_true rfl) rfl ?_
  have f26 := f25.wR (o := 0) (k := 9) (q := 38) (Nat.le_of_ble_eq_true rfl) (Nat.le_of_ble_eq_true rfl)
  refine rc_aload_n K dX9_init_113 0 rfl rfl ?_
  refine rc_new K nlX9_73 f26 dX9_init_114 rfl (Nat.le_of_ble_eq_true rfl) (Nat.le_of_ble_eq_true rfl) rfl rfl (Nat.le_of_ble_eq_true rfl) ?_
  have f27 := f26.up
  refine rc_dup K dX9_init_117 rfl ?_
  refine rc_callIN (d9 := 1) (mc9 := 2) (ms9 := 74) (av := []) (st := [.ref 43, .ref 0]) K ilX9_75 mwX1_init rfl (ccX1_init_43 _ _ f27) dX9_init_118 (Nat.le_of_ble_eq_true rfl) (Nat.le_of_ble_eq_true rfl) (Nat.le_of_ble_eq_true rfl) rfl rfl (Nat.le_of_ble_eq_true rfl) rfl rfl (Nat.le_of_ble_eq_true rfl) ?_
  have f28 := fcX1_init_43 _ _ f27
  refine rc_putR K Z ffX9_76 dX9_init_121 rfl (Nat.le_of_ble_eq_true rfl) rfl ?_
  have f29 := f28.wR (o := 0) (k := 10) (q := 43) (Nat.le_of_ble_eq_true rfl) (Nat.le_of_ble_eq_true rfl)
  refine rc_aload_n K dX9_init_124 0 rfl rfl ?_
  refine rc_bipush (v := 6) K dX9_init_125 rfl ?_
  refine rc_newR K nrX9_80 f29 dX9_init_127 rfl (by decide) (by decide) (by decide) (Nat.le_of_ble_eq_true rfl) (Nat.le_of_ble_eq_true rfl) rfl rfl (Nat.le_of_ble_eq_true rfl) ?_
  have f30 := f29.up
  refine rc_putR K Z ffX9_82 dX9_init_130 rfl (Nat.le_of_ble_eq_true rfl) rfl ?_
  have f31 := f30.wR (o := 0) (k := 11) (q := 46) (Nat.le_of_ble_eq_true rfl) (Nat.le_of_ble_eq_true rfl)
  refine rc_iconst (v := 0) K dX9_init_133 rfl ?_
  refine rc_istore_n (lv' := [(1, .int 0), (0, .ref 0)]) K dX9_init_134 rfl (Nat.le_of_ble_eq_true rfl) rfl ?_
  refine rc_iload_n K dX9_init_135 0 rfl rfl ?_
  refine rc_bipush (v := 6) K dX9_init_136 rfl ?_
  refine rc_geF 160 K dX9_init_138 (by decide) (by decide) ?_
  refine rc_aload_n K dX9_init_141 1 rfl rfl ?_
  refine rc_getR (o2 := 46) K flX9_82 dX9_init_142 rfl (Nat.le_of_ble_eq_true rfl) rfl rfl ?_
  refine rc_iload_n K dX9_init_145 0 rfl rfl ?_
  refine rc_new K nlX9_80 f31 dX9_init_146 rfl (Nat.le_of_ble_eq_true rfl) (Nat.le_of_ble_eq_true rfl) rfl rfl (Nat.le_of_ble_eq_true rfl) ?_
  have f32 := f31.up
  refine rc_dup K dX9_init_149 rfl ?_
  refine rc_callIN (d9 := 1) (mc9 := 1) (ms9 := 60) (av := []) (st := [.ref 47, .int 0, .ref 46]) K ilX9_86 mwX5_init rfl (ccX5_init_47 _ _ f32) dX9_init_150 (Nat.le_of_ble_eq_true rfl) (Nat.le_of_ble_eq_true rfl) (Nat.le_of_ble_eq_true rfl) rfl rfl (Nat.le_of_ble_eq_true rfl) rfl rfl (Nat.le_of_ble_eq_true rfl) ?_
  have f33 := fcX5_init_47 _ _ f32
  refine rc_aast K dX9_init_153 rfl (Nat.le_of_ble_eq_true rfl) (by decide +kernel) rfl (Nat.le_of_ble_eq_true rfl) ?_
  have f34 := f33.wR (o := 46) (k := ix 0) (q := 47) (Nat.le_of_ble_eq_true rfl) (Nat.le_of_ble_eq_true rfl)
  refine rc_iinc (y := 1) (lv' := [(1, .int 1), (0, .ref 0)]) K dX9_init_154 0 rfl (by decide) (Nat.le_of_ble_eq_true rfl) rfl ?_
  refine rc_goto (tgt := 135) K dX9_init_157 (by decide) ?_
  refine rc_iload_n K dX9_init_135 0 rfl rfl ?_
  refine rc_bipush (v := 6) K dX9_init_136 rfl ?_
  refine rc_geF 160 K dX9_init_138 (by decide) (by decide) ?_
  refine rc_aload_n K dX9_init_141 1 rfl rfl ?_
  refine rc_getR (o2 := 46) K flX9_82 dX9_init_142 rfl (Nat.le_of_ble_eq_true rfl) rfl rfl ?_
  refine rc_iload_n K dX9_init_145 0 rfl rfl ?_
  refine rc_new K nlX9_80 f34 dX9_init_146 rfl (Nat.le_of_ble_eq_true rfl) (Nat.le_of_ble_eq_true rfl) rfl rfl (Nat.le_of_ble_eq_true rfl) ?_
  have f35 := f34.up
  refine rc_dup K dX9_init_149 rfl ?_
  refine rc_callIN (d9 := 1) (mc9 := 1) (ms9 := 60) (av := []) (st := [.ref 49, .int 1, .ref 46]) K ilX9_86 mwX5_init rfl (ccX5_init_49 _ _ f35) dX9_init_150 (Nat.le_of_ble_eq_true rfl) (Nat.le_of_ble_eq_true rfl) (Nat.le_of_ble_eq_true rfl) rfl rfl (Nat.le_of_ble_eq_true rfl) rfl rfl (Nat.le_of_ble_eq_true rfl) ?_
  have f36 := fcX5_init_49 _ _ f35
  refine rc_aast K dX9_init_153 rfl (Nat.le_of_ble_eq_true rfl) (by decide +kernel) rfl (Nat.le_of_ble_eq_true rfl) ?_
  have f37 := f36.wR (o := 46) (k := ix 1) (q := 49) (Nat.le_of_ble_eq_true rfl) (Nat.le_of_ble_eq_true rfl)
  refine rc_iinc (y := 2) (lv' := [(1, .int 2), (0, .ref 0)]) K dX9_init_154 0 rfl (by decide) (Nat.le_of_ble_eq_true rfl) rfl ?_
  refine rc_goto (tgt := 135) K dX9_init_157 (by decide) ?_
  refine rc_iload_n K dX9_init_135 0 rfl rfl ?_
  refine rc_bipush (v := 6) K dX9_init_136 rfl ?_
  refine rc_geF 160 K dX9_init_138 (by decide) (by decide) ?_
  refine rc_aload_n K dX9_init_141 1 rfl rfl ?_
  refine rc_getR (o2 := 46) K flX9_82 dX9_init_142 rfl (Nat.le_of_ble_eq_true rfl) rfl rfl ?_
  refine rc_iload_n K dX9_init_145 0 rfl rfl ?_
  refine rc_new K nlX9_80 f37 dX9_init_146 rfl (Nat.le_of_ble_eq_true rfl) (Nat.le_of_ble_eq_true rfl) rfl rfl (Nat.le_of_ble_eq_true rfl) ?_
  have f38 := f37.up
  refine rc_dup K dX9_init_149 rfl ?_
  refine rc_callIN (d9 := 1) (mc9 := 1) (ms9 := 60) (av := []) (st := [.ref 51, .int 2, .ref 46]) K ilX9_86 mwX5_init rfl (ccX5_init_51 _ _ f38) dX9_init_150 (Nat.le_of_ble_eq_true rfl) (Nat.le_of_ble_eq_true rfl) (Nat.le_of_ble_eq_true rfl) rfl rfl (Nat.le_of_ble_eq_true rfl) rfl rfl (Nat.le_of_ble_eq_true rfl) ?_
  have f39 := fcX5_init_51 _ _ f38
  refine rc_aast K dX9_init_153 rfl (Nat.le_of_ble_eq_true rfl) (by decide +kernel) rfl (Nat.le_of_ble_eq_true rfl) ?_
  have f40 := f39.wR (o := 46) (k := ix 2) (q := 51) (Nat.le_of_ble_eq_true rfl) (Nat.le_of_ble_eq_true rfl)
  refine rc_iinc (y := 3) (lv' := [(1, .int 3), (0, .ref 0)]) K dX9_init_154 0 rfl (by decide) (Nat.le_of_ble_eq_true rfl) rfl ?_
  refine rc_goto (tgt := 135) K dX9_init_157 (by decide) ?_
  refine rc_iload_n K dX9_init_135 0 rfl rfl ?_
  refine rc_bipush (v := 6) K dX9_init_136 rfl ?_
  refine rc_geF 160 K dX9_init_138 (by decide) (by decide) ?_
  refine rc_aload_n K dX9_init_141 1 rfl rfl ?_
  refine rc_getR (o2 := 46) K flX9_82 dX9_init_142 rfl (Nat.le_of_ble_eq_true rfl) rfl rfl ?_
  refine rc_iload_n K dX9_init_145 0 rfl rfl ?_
  refine rc_new K nlX9_80 f40 dX9_init_146 rfl (Nat.le_of_ble_eq_true rfl) (Nat.le_of_ble_eq_true rfl) rfl rfl (Nat.le_of_ble_eq_true rfl) ?_
  have f41 := f40.up
  refine rc_dup K dX9_init_149 rfl ?_
  refine rc_callIN (d9 := 1) (mc9 := 1) (ms9 := 60) (av := []) (st := [.ref 53, .int 3, .ref 46]) K ilX9_86 mwX5_init rfl (ccX5_init_53 _ _ f41) dX9_init_150 (Nat.le_of_ble_eq_true rfl) (Nat.le_of_ble_eq_true rfl) (Nat.le_of_ble_eq_true rfl) rfl rfl (Nat.le_of_ble_eq_true rfl) rfl rfl (Nat.le_of_ble_eq_true rfl) ?_
  have f42 := fcX5_init_53 _ _ f41
  refine rc_aast K dX9_init_153 rfl (Nat.le_of_ble_eq_true rfl) (by decide +kernel) rfl (Nat.le_of_ble_eq_true rfl) ?_
  have f43 := f42.wR (o := 46) (k := ix 3) (q := 53) (Nat.le_of_ble_eq_true rfl) (Nat.le_of_ble_eq_true rfl)
  refine rc_iinc (y := 4) (lv' := [(1, .int 4), (0, .ref 0)]) K dX9_init_154 0 rfl (by decide) (Nat.le_of_ble_eq_true rfl) rfl ?_
  refine rc_goto (tgt := 135) K dX9_init_157 (by decide) ?_
  refine rc_iload_n K dX9_init_135 0 rfl rfl ?_
  refine rc_bipush (v := 6) K dX9_init_136 rfl ?_
  refine rc_geF 160 K dX9_init_138 (by decide) (by decide) ?_
  refine rc_aload_n K dX9_init_141 1 rfl rfl ?_
  refine rc_getR (o2 := 46) K flX9_82 dX9_init_142 rfl (Nat.le_of_ble_eq_true rfl) rfl rfl ?_
  refine rc_iload_n K dX9_init_145 0 rfl rfl ?_
  refine rc_new K nlX9_80 f43 dX9_init_146 rfl (Nat.le_of_ble_eq_true rfl) (Nat.le_of_ble_eq_true rfl) rfl rfl (Nat.le_of_ble_eq_true rfl) ?_
  have f44 := f43.up
  refine rc_dup K dX9_init_149 rfl ?_
  refine rc_callIN (d9 := 1) (mc9 := 1) (ms9 := 60) (av := []) (st := [.ref 55, .int 4, .ref 46]) K ilX9_86 mwX5_init rfl (ccX5_init_55 _ _ f44) dX9_init_150 (Nat.le_of_ble_eq_true rfl) (Nat.le_of_ble_eq_true rfl) (Nat.le_of_ble_eq_true rfl) rfl rfl (Nat.le_of_ble_eq_true rfl) rfl rfl (Nat.le_of_ble_eq_true rfl) ?_
  have f45 := fcX5_init_55 _ _ f44
  refine rc_aast K dX9_init_153 rfl (Nat.le_of_ble_eq_true rfl) (by decide +kernel) rfl (Nat.le_of_ble_eq_true rfl) ?_
  have f46 := f45.wR (o := 46) (k := ix 4) (q := 55) (Nat.le_of_ble_eq_true rfl) (Nat.le_of_ble_eq_true rfl)
  refine rc_iinc (y := 5) (lv' := [(1, .int 5), (0, .ref 0)]) K dX9_init_154 0 rfl (by decide) (Nat.le_of_ble_eq_true rfl) rfl ?_
  refine rc_goto (tgt := 135) K dX9_init_157 (by decide) ?_
  refine rc_iload_n K dX9_init_135 0 rfl rfl ?_
  refine rc_bipush (v := 6) K dX9_init_136 rfl ?_
  refine rc_geF 160 K dX9_init_138 (by decide) (by decide) ?_
  refine rc_aload_n K dX9_init_141 1 rfl rfl ?_
  refine rc_getR (o2 := 46) K flX9_82 dX9_init_142 rfl (Nat.le_of_ble_eq_true rfl) rfl rfl ?_
  refine rc_iload_n K dX9_init_145 0 rfl rfl ?_
  refine rc_new K nlX9_80 f46 dX9_init_146 rfl (Nat.le_of_ble_eq_true rfl) (Nat.le_of_ble_eq_true rfl) rfl rfl (Nat.le_of_ble_eq_true rfl) ?_
  have f47 := f46.up
  refine rc_dup K dX9_init_149 rfl ?_
  refine rc_callIN (d9 := 1) (mc9 := 1) (ms9 := 60) (av := []) (st := [.ref 57, .int 5, .ref 46]) K ilX9_86 mwX5_init rfl (ccX5_init_57 _ _ f47) dX9_init_150 (Nat.le_of_ble_eq_true rfl) (Nat.le_of_ble_eq_true rfl) (Nat.le_of_ble_eq_true rfl) rfl rfl (Nat.le_of_ble_eq_true rfl) rfl rfl (Nat.le_of_ble_eq_true rfl) ?_
  have f48 := fcX5_init_57 _ _ f47
  refine rc_aast K dX9_init_153 rfl (Nat.le_of_ble_eq_true rfl) (by decide +kernel) rfl (Nat.le_of_ble_eq_true rfl) ?_
  have f49 := f48.wR (o := 46) (k := ix 5) (q := 57) (Nat.le_of_ble_eq_true rfl) (Nat.le_of_ble_eq_true rfl)
  refine rc_iinc (y := 6) (lv' := [(1, .int 6), (0, .ref 0)]) K dX9_init_154 0 rfl (by decide) (Nat.le_of_ble_eq_true rfl) rfl ?_
  refine rc_goto (tgt := 135) K dX9_init_157 (by decide) ?_
  refine rc_iload_n K dX9_init_135 0 rfl rfl ?_
  refine rc_bipush (v := 6) K dX9_init_136 rfl ?_
  refine rc_geT (tgt := 160) K dX9_init_138 (by decide) (by decide) ?_
  exact rc_vret K Z dX9_init_160 rfl rfl)
def hCX10_init_59 (h : AH) : AH := (wI (wI (wI (wI (wI (wI (wI (wI (wI (wI (wI (wI (wI (wI (wI (wI (wI (wI (wI (wI (wI (wI (wI (wI (wI (wI (wI (wI (wI (wI (wI (wI (wI (wI (wI (wI (wI (wI (wI (wI (wI (wI (wI (wI (wI (wI (wI (wI (wI (wI (wI (wI (wI (wI (wI (wI (wI (wI (wI (wI (wI (wI (wI (wI (wI (wI (wI (wI (wI (wI (wI h 65 (ix 0) 0) 65 (ix 1) 0) 65 (ix 2) 0) 65 (ix 3) 0) 65 (ix 4) 5) 65 (ix 5) 0) 65 (ix 6) 0) 65 (ix 7) 1) 65 (ix 8) 0) 66 (ix 0) 99) 66 (ix 1) 9) 66 (ix 2) 9) 66 (ix 3) 1) 66 (ix 4) 9) 66 (ix 5) 1) 66 (ix 6) 199) 66 (ix 7) 30) 66 (ix 8) 199) 71 (ix 0) 114) 71 (ix 1) 108) 71 (ix 2) 104) 71 (ix 3) 109) 71 (ix 4) 110) 71 (ix 5) 103) 59 23 (-1)) 75 (ix 0) (-1)) 75 (ix 1) (-1)) 75 (ix 2) (-1)) 75 (ix 3) (-1)) 75 (ix 4) (-1)) 75 (ix 5) (-1)) 82 (ix 0) (-1)) 82 (ix 1) 0) 82 (ix 2) 0) 82 (ix 3) 2) 82 (ix 4) 1) 82 (ix 5) 3) 82 (ix 6) 0) 82 (ix 7) 4) 83 (ix 0) 1) 83 (ix 1) 10) 83 (ix 2) 11) 83 (ix 3) 2) 83 (ix 4) 20) 83 (ix 5) 0) 83 (ix 6) 0) 83 (ix 7) 0) 83 (ix 8) 0) 83 (ix 9) 30) 83 (ix 10) 0) 83 (ix 11) 0) 83 (ix 12) 0) 83 (ix 13) 41) 83 (ix 14) 40) 83 (ix 15) 0) 83 (ix 16) 0) 83 (ix 17) 0) 83 (ix 18) 50) 83 (ix 19) 0) 83 (ix 20) 0) 83 (ix 21) 0) 83 (ix 22) 0) 83 (ix 23) 60) 83 (ix 24) 70) 83 (ix 25) 0) 83 (ix 26) 0) 83 (ix 27) 0) 83 (ix 28) 0) 83 (ix 29) 80) 83 (ix 30) 0) 83 (ix 31) 81)
def rCX10_init_59 (r : RH) : RH := (wR (wR (wR (wR (wR (wR (wR (wR (wR (wR (wR (wR (wR (wR (wR (wR (wR (wR (wR (wR (wR (wR (wR (wR (wR (wR r 59 0 (some 60)) 59 1 (some 61)) 59 4 (some 62)) 59 5 (some 63)) 59 6 (some 64)) 59 9 (some 65)) 59 10 (some 66)) 59 11 (some 67)) 59 13 (some 68)) 59 16 (some 69)) 59 21 (some 70)) 59 22 (some 71)) 59 26 (some 72)) 59 27 (some 73)) 59 28 (some 74)) 59 30 (some 75)) 59 31 (some 76)) 59 32 (some 77)) 59 33 (some 78)) 59 35 (some 79)) 59 36 (some 80)) 59 37 (some 81)) 59 40 (some 82)) 59 41 (some 83)) 59 42 (some 84)) 59 44 (some 85))
theorem fcX10_init_59 (h : AH) (r : RH) (hfr : frN 60 h r) : frN 86 (hCX10_init_59 h) (rCX10_init_59 r) := by
  have f0 := hfr
  have f1 := f0.up
  have f2 := f1.wR (o := 59) (k := 0) (q := 60) (Nat.le_of_ble_eq_true rfl) (Nat.le_of_ble_eq_true rfl)
  have f3 := f2.up
  have f4 := f3.wR (o := 59) (k := 1) (q := 61) (Nat.le_of_ble_eq_true rfl) (Nat.le_of_ble_eq_true rfl)
  have f5 := f4.up
  have f6 := f5.wR (o := 59) (k := 4) (q := 62) (Nat.le_of_ble_eq_true rfl) (Nat.le_of_ble_eq_true rfl)
  have f7 := f6.up
  have f8 := f7.wR (o := 59) (k := 5) (q := 63) (Nat.le_of_ble_eq_true rfl) (Nat.le_of_ble_eq_true rfl)
  have f9 := f8.up
  have f10 := f9.wR (o := 59) (k := 6) (q := 64) (Nat.le_of_ble_eq_true rfl) (Nat.le_of_ble_eq_true rfl)
  have f11 := f10.up
  have f12 := f11.wI (o := 65) (k := ix 0) (v := 0) (Nat.le_of_ble_eq_true rfl)
  have f13 := f12.wI (o := 65) (k := ix 1) (v := 0) (Nat.le_of_ble_eq_true rfl)
  have f14 := f13.wI (o := 65) (k := ix 2) (v := 0) (Nat.le_of_ble_eq_true rfl)
  have f15 := f14.wI (o := 65) (k := ix 3) (v := 0) (Nat.le_of_ble_eq_true rfl)
  have f16 := f15.wI (o := 65) (k := ix 4) (v := 5) (Nat.le_of_ble_eq_true rfl)
  have f17 := f16.wI (o := 65) (k := ix 5) (v := 0) (Nat.le_of_ble_eq_true rfl)
  have f18 := f17.wI (o := 65) (k := ix 6) (v := 0) (Nat.le_of_ble_eq_true rfl)
  have f19 := f18.wI (o := 65) (k := ix 7) (v := 1) (Nat.le_of_ble_eq_true rfl)
  have f20 := f19.wI (o := 65) (k := ix 8) (v := 0) (Nat.le_of_ble_eq_true rfl)
  have f21 := f20.wR (o := 59) (k := 9) (q := 65) (Nat.le_of_ble_eq_true rfl) (Nat.le_of_ble_eq_true rfl)
  have f22 := f21.up
  have f23 := f22.wI (o := 66) (k := ix 0) (v := 99) (Nat.le_of_ble_eq_true rfl)
  have f24 := f23.wI (o := 66) (k := ix 1) (v := 9) (Nat.le_of_ble_eq_true rfl)
  have f25 := f24.wI (o := 66) (k := ix 2) (v := 9) (Nat.le_of_ble_eq_true rfl)
  have f26 := f25.wI (o := 66) (k := ix 3) (v := 1) (Nat.le_of_ble_eq_true rfl)
  have f27 := f26.wI (o := 66) (k := ix 4) (v := 9) (Nat.le_of_ble_eq_true rfl)
  have f28 := f27.wI (o := 66) (k := ix 5) (v := 1) (Nat.le_of_ble_eq_true rfl)
  have f29 := f28.wI (o := 66) (k := ix 6) (v := 199) (Nat.le_of_ble_eq_true rfl)
  have f30 := f29.wI (o := 66) (k := ix 7) (v := 30) (Nat.le_of_ble_eq_true rfl)
  have f31 := f30.wI (o := 66) (k := ix 8) (v := 199) (Nat.le_of_ble_eq_true rfl)
  have f32 := f31.wR (o := 59) (k := 10) (q := 66) (Nat.le_of_ble_eq_true rfl) (Nat.le_of_ble_eq_true rfl)
  have f33 := f32.up
  have f34 := f33.wR (o := 59) (k := 11) (q := 67) (Nat.le_of_ble_eq_true rfl) (Nat.le_of_ble_eq_true rfl)
  have f35 := f34.up
  have f36 := f35.wR (o := 59) (k := 13) (q := 68) (Nat.le_of_ble_eq_true rfl) (Nat.le_of_ble_eq_true rfl)
  have f37 := f36.up
  have f38 := f37.wR (o := 59) (k := 16) (q := 69) (Nat.le_of_ble_eq_true rfl) (Nat.le_of_ble_eq_true rfl)
  have f39 := f38.up
  have f40 := f39.wR (o := 59) (k := 21) (q := 70) (Nat.le_of_ble_eq_true rfl) (Nat.le_of_ble_eq_true rfl)
  have f41 := f40.up
  have f42 := f41.wI (o := 71) (k := ix 0) (v := 114) (Nat.le_of_ble_eq_true rfl)
  have f43 := f42.wI (o := 71) (k := ix 1) (v := 108) (Nat.le_of_ble_eq_true rfl)
  have f44 := f43.wI (o := 71) (k := ix 2) (v := 104) (Nat.le_of_ble_eq_true rfl)
  have f45 := f44.wI (o := 71) (k := ix 3) (v := 109) (Nat.le_of_ble_eq_true rfl)
  have f46 := f45.wI (o := 71) (k := ix 4) (v := 110) (Nat.le_of_ble_eq_true rfl)
  have f47 := f46.wI (o := 71) (k := ix 5) (v := 103) (Nat.le_of_ble_eq_true rfl)
  have f48 := f47.wR (o := 59) (k := 22) (q := 71) (Nat.le_of_ble_eq_true rfl) (Nat.le_of_ble_eq_true rfl)
  have f49 := f48.wI (o := 59) (k := 23) (v := (-1)) (Nat.le_of_ble_eq_true rfl)
  have f50 := f49.up
  have f51 := f50.wR (o := 59) (k := 26) (q := 72) (Nat.le_of_ble_eq_true rfl) (Nat.le_of_ble_eq_true rfl)
  have f52 := f51.up
  have f53 := f52.wR (o := 59) (k := 27) (q := 73) (Nat.le_of_ble_eq_true rfl) (Nat.le_of_ble_eq_true rfl)
  have f54 := f53.up
  have f55 := f54.wR (o := 59) (k := 28) (q := 74) (Nat.le_of_ble_eq_true rfl) (Nat.le_of_ble_eq_true rfl)
  have f56 := f55.up
  have f57 := f56.wI (o := 75) (k := ix 0) (v := (-1)) (Nat.le_of_ble_eq_true rfl)
  have f58 := f57.wI (o := 75) (k := ix 1) (v := (-1)) (Nat.le_of_ble_eq_true rfl)
  have f59 := f58.wI (o := 75) (k := ix 2) (v := (-1)) (Nat.le_of_ble_eq_true rfl)
  have f60 := f59.wI (o := 75) (k := ix 3) (v := (-1)) (Nat.le_of_ble_eq_true rfl)
  have f61 := f60.wI (o := 75) (k := ix 4) (v := (-1)) (Nat.le_of_ble_eq_true rfl)
  have f62 := f61.wI (o := 75) (k := ix 5) (v := (-1)) (Nat.le_of_ble_eq_true rfl)
  have f63 := f62.wR (o := 59) (k := 30) (q := 75) (Nat.le_of_ble_eq_true rfl) (Nat.le_of_ble_eq_true rfl)
  have f64 := f63.up
  have f65 := f64.wR (o := 59) (k := 31) (q := 76) (Nat.le_of_ble_eq_true rfl) (Nat.le_of_ble_eq_true rfl)
  have f66 := f65.up
  have f67 := f66.wR (o := 59) (k := 32) (q := 77) (Nat.le_of_ble_eq_true rfl) (Nat.le_of_ble_eq_true rfl)
  have f68 := f67.up
  have f69 := f68.wR (o := 59) (k := 33) (q := 78) (Nat.le_of_ble_eq_true rfl) (Nat.le_of_ble_eq_true rfl)
  have f70 := f69.up
  have f71 := f70.wR (o := 59) (k := 35) (q := 79) (Nat.le_of_ble_eq_true rfl) (Nat.le_of_ble_eq_true rfl)
  have f72 := f71.up
  have f73 := f72.wR (o := 59) (k := 36) (q := 80) (Nat.le_of_ble_eq_true rfl) (Nat.le_of_ble_eq_true rfl)
  have f74 := f73.up
  have f75 := f74.wR (o := 59) (k := 37) (q := 81) (Nat.le_of_ble_eq_true rfl) (Nat.le_of_ble_eq_true rfl)
  have f76 := f75.up
  have f77 := f76.wI (o := 82) (k := ix 0) (v := (-1)) (Nat.le_of_ble_eq_true rfl)
  have f78 := f77.wI (o := 82) (k := ix 1) (v := 0) (Nat.le_of_ble_eq_true rfl)
  have f79 := f78.wI (o := 82) (k := ix 2) (v := 0) (Nat.le_of_ble_eq_true rfl)
  have f80 := f79.wI (o := 82) (k := ix 3) (v := 2) (Nat.le_of_ble_eq_true rfl)
  have f81 := f80.wI (o := 82) (k := ix 4) (v := 1) (Nat.le_of_ble_eq_true rfl)
  have f82 := f81.wI (o := 82) (k := ix 5) (v := 3) (Nat.le_of_ble_eq_true rfl)
  have f83 := f82.wI (o := 82) (k := ix 6) (v := 0) (Nat.le_of_ble_eq_true rfl)
  have f84 := f83.wI (o := 82) (k := ix 7) (v := 4) (Nat.le_of_ble_eq_true rfl)
  have f85 := f84.wR (o := 59) (k := 40) (q := 82) (Nat.le_of_ble_eq_true rfl) (Nat.le_of_ble_eq_true rfl)
  have f86 := f85.up
  have f87 := f86.wI (o := 83) (k := ix 0) (v := 1) (Nat.le_of_ble_eq_true rfl)
  have f88 := f87.wI (o := 83) (k := ix 1) (v := 10) (Nat.le_of_ble_eq_true rfl)
  have f89 := f88.wI (o := 83) (k := ix 2) (v := 11) (Nat.le_of_ble_eq_true rfl)
  have f90 := f89.wI (o := 83) (k := ix 3) (v := 2) (Nat.le_of_ble_eq_true rfl)
  have f91 := f90.wI (o := 83) (k := ix 4) (v := 20) (Nat.le_of_ble_eq_true rfl)
  have f92 := f91.wI (o := 83) (k := ix 5) (v := 0) (Nat.le_of_ble_eq_true rfl)
  have f93 := f92.wI (o := 83) (k := ix 6) (v := 0) (Nat.le_of_ble_eq_true rfl)
  have f94 := f93.wI (o := 83) (k := ix 7) (v := 0) (Nat.le_of_ble_eq_true rfl)
  have f95 := f94.wI (o := 83) (k := ix 8) (v := 0) (Nat.le_of_ble_eq_true rfl)
  have f96 := f95.wI (o := 83) (k := ix 9) (v := 30) (Nat.le_of_ble_eq_true rfl)
  have f97 := f96.wI (o := 83) (k := ix 10) (v := 0) (Nat.le_of_ble_eq_true rfl)
  have f98 := f97.wI (o := 83) (k := ix 11) (v := 0) (Nat.le_of_ble_eq_true rfl)
  have f99 := f98.wI (o := 83) (k := ix 12) (v := 0) (Nat.le_of_ble_eq_true rfl)
  have f100 := f99.wI (o := 83) (k := ix 13) (v := 41) (Nat.le_of_ble_eq_true rfl)
  have f101 := f100.wI (o := 83) (k := ix 14) (v := 40) (Nat.le_of_ble_eq_true rfl)
  have f102 := f101.wI (o := 83) (k := ix 15) (v := 0) (Nat.le_of_ble_eq_true rfl)
  have f103 := f102.wI (o := 83) (k := ix 16) (v := 0) (Nat.le_of_ble_eq_true rfl)
  have f104 := f103.wI (o := 83) (k := ix 17) (v := 0) (Nat.le_of_ble_eq_true rfl)
  have f105 := f104.wI (o := 83) (k := ix 18) (v := 50) (Nat.le_of_ble_eq_true rfl)
  have f106 := f105.wI (o := 83) (k := ix 19) (v := 0) (Nat.le_of_ble_eq_true rfl)
  have f107 := f106.wI (o := 83) (k := ix 20) (v := 0) (Nat.le_of_ble_eq_true rfl)
  have f108 := f107.wI (o := 83) (k := ix 21) (v := 0) (Nat.le_of_ble_eq_true rfl)
  have f109 := f108.wI (o := 83) (k := ix 22) (v := 0) (Nat.le_of_ble_eq_true rfl)
  have f110 := f109.wI (o := 83) (k := ix 23) (v := 60) (Nat.le_of_ble_eq_true rfl)
  have f111 := f110.wI (o := 83) (k := ix 24) (v := 70) (Nat.le_of_ble_eq_true rfl)
  have f112 := f111.wI (o := 83) (k := ix 25) (v := 0) (Nat.le_of_ble_eq_true rfl)
  have f113 := f112.wI (o := 83) (k := ix 26) (v := 0) (Nat.le_of_ble_eq_true rfl)
  have f114 := f113.wI (o := 83) (k := ix 27) (v := 0) (Nat.le_of_ble_eq_true rfl)
  have f115 := f114.wI (o := 83) (k := ix 28) (v := 0) (Nat.le_of_ble_eq_true rfl)
  have f116 := f115.wI (o := 83) (k := ix 29) (v := 80) (Nat.le_of_ble_eq_true rfl)
  have f117 := f116.wI (o := 83) (k := ix 30) (v := 0) (Nat.le_of_ble_eq_true rfl)
  have f118 := f117.wI (o := 83) (k := ix 31) (v := 81) (Nat.le_of_ble_eq_true rfl)
  have f119 := f118.wR (o := 59) (k := 41) (q := 83) (Nat.le_of_ble_eq_true rfl) (Nat.le_of_ble_eq_true rfl)
  have f120 := f119.up
  have f121 := f120.wR (o := 59) (k := 42) (q := 84) (Nat.le_of_ble_eq_true rfl) (Nat.le_of_ble_eq_true rfl)
  have f122 := f121.up
  have f123 := f122.wR (o := 59) (k := 44) (q := 85) (Nat.le_of_ble_eq_true rfl) (Nat.le_of_ble_eq_true rfl)
  exact f123
set_option maxRecDepth 20000 in
set_option maxHeartbeats 2000000 in
theorem ccX10_init_59 {G : GG} (h : AH) (r : RH) (hfr : frN 60 h r) : ConC G 1 26 1469 yX10_init cX10_init 1 [.ref 59] 60 h r 86 (hCX10_init_59 h) (rCX10_init_59 r) := conC_of mwX10_init rfl (Nat.le_of_ble_eq_true rfl) (fun ad E K Z => by
  have f0 := hfr
  refine rc_aload_n K dX10_init_0 0 rfl rfl ?_
  refine rc_objInit K oiX10_1 oi_all dX10_init_1 (Nat.le_of_ble_eq_true rfl) (Nat.le_of_ble_eq_true rfl) ?_
  refine rc_aload_n K dX10_init_4 0 rfl rfl ?_
  refine rc_bipush (v := 94) K dX10_init_5 rfl ?_
  refine rc_newI K ac_int f0 dX10_init_7 rfl (by decide) (by decide) (by decide) (Nat.le_of_ble_eq_true rfl) (Nat.le_of_ble_eq_true rfl) rfl rfl (Nat.le_of_ble_eq_true rfl) ?_
  have f1 := f0.up
  refine rc_putR K Z ffX10_7 dX10_init_9 rfl (Nat.le_of_ble_eq_true rfl) rfl ?_
  have f2 := f1.wR (o := 59) (k := 0) (q := 60) (Nat.le_of_ble_eq_true rfl) (Nat.le_of_ble_eq_true rfl)
  refine rc_aload_n K dX10_init_12 0 rfl rfl ?_
  refine rc_sipush (v := 188) K dX10_init_13 rfl ?_
  refine rc_newI K ac_int f2 dX10_init_16 rfl (by decide) (by decide) (by decide) (Nat.le_of_ble_eq_true rfl) (Nat.le_of_ble_eq_true rfl) rfl rfl (Nat.le_of_ble_eq_true rfl) ?_
  have f3 := f2.up
  refine rc_putR K Z ffX10_13 dX10_init_18 rfl (Nat.le_of_ble_eq_true rfl) rfl ?_
  have f4 := f3.wR (o := 59) (k := 1) (q := 61) (Nat.le_of_ble_eq_true rfl) (Nat.le_of_ble_eq_true rfl)
  refine rc_aload_n K dX10_init_21 0 rfl rfl ?_
  refine rc_bipush (v := 40) K dX10_init_22 rfl ?_
  refine rc_newI K ac_int f4 dX10_init_24 rfl (by decide) (by decide) (by decide) (Nat.le_of_ble_eq_true rfl) (Nat.le_of_ble_eq_true rfl) rfl rfl (Nat.le_of_ble_eq_true rfl) ?_
  have f5 := f4.up
  refine rc_putR K Z ffX10_16 dX10_init_26 rfl (Nat.le_of_ble_eq_true rfl) rfl ?_
  have f6 := f5.wR (o := 59) (k := 4) (q := 62) (Nat.le_of_ble_eq_true rfl) (Nat.le_of_ble_eq_true rfl)
  refine rc_aload_n K dX10_init_29 0 rfl rfl ?_
  refine rc_bipush (v := 40) K dX10_init_30 rfl ?_
  refine rc_newI K ac_int f6 dX10_init_32 rfl (by decide) (by decide) (by decide) (Nat.le_of_ble_eq_true rfl) (Nat.le_of_ble_eq_true rfl) rfl rfl (Nat.le_of_ble_eq_true rfl) ?_
  have f7 := f6.up
  refine rc_putR K Z ffX10_19 dX10_init_34 rfl (Nat.le_of_ble_eq_true rfl) rfl ?_
  have f8 := f7.wR (o := 59) (k := 5) (q := 63) (Nat.le_of_ble_eq_true rfl) (Nat.le_of_ble_eq_true rfl)
  refine rc_aload_n K dX10_init_37 0 rfl rfl ?_
  refine rc_bipush (v := 40) K dX10_init_38 rfl ?_
  refine rc_newI K ac_int f8 dX10_init_40 rfl (by decide) (by decide) (by decide) (Nat.le_of_ble_eq_true rfl) (Nat.le_of_ble_eq_true rfl) rfl rfl (Nat.le_of_ble_eq_true rfl) ?_
  have f9 := f8.up
  refine rc_putR K Z ffX10_22 dX10_init_42 rfl (Nat.le_of_ble_eq_true rfl) rfl ?_
  have f10 := f9.wR (o := 59) (k := 6) (q := 64) (Nat.le_of_ble_eq_true rfl) (Nat.le_of_ble_eq_true rfl)
  refine rc_aload_n K dX10_init_45 0 rfl rfl ?_
  refine rc_bipush (v := 9) K dX10_init_46 rfl ?_
  refine rc_newI K ac_int f10 dX10_init_48 rfl (by decide) (by decide) (by decide) (Nat.le_of_ble_eq_true rfl) (Nat.le_of_ble_eq_true rfl) rfl rfl (Nat.le_of_ble_eq_true rfl) ?_
  have f11 := f10.up
  refine rc_dup K dX10_init_50 rfl ?_
  refine rc_iconst (v := 0) K dX10_init_51 rfl ?_
  refine rc_iconst (v := 0) K dX10_init_52 rfl ?_
  refine rc_iast K dX10_init_53 rfl (Nat.le_of_ble_eq_true rfl) (by decide +kernel) ?_
  have f12 := f11.wI (o := 65) (k := ix 0) (v := 0) (Nat.le_of_ble_eq_true rfl)
  refine rc_dup K dX10_init_54 rfl ?_
  refine rc_iconst (v := 1) K dX10_init_55 rfl ?_
  refine rc_iconst (v := 0) K dX10_init_56 rfl ?_
  refine rc_iast K dX10_init_57 rfl (Nat.le_of_ble_eq_true rfl) (by decide +kernel) ?_
  have f13 := f12.wI (o := 65) (k := ix 1) (v := 0) (Nat.le_of_ble_eq_true rfl)
  refine rc_dup K dX10_init_58 rfl ?_
  refine rc_iconst (v := 2) K dX10_init_59 rfl ?_
  refine rc_iconst (v := 0) K dX10_init_60 rfl ?_
  refine rc_iast K dX10_init_61 rfl (Nat.le_of_ble_eq_true rfl) (by decide +kernel) ?_
  have f14 := f13.wI (o := 65) (k := ix 2) (v := 0) (Nat.le_of_ble_eq_true rfl)
  refine rc_dup K dX10_init_62 rfl ?_
  refine rc_iconst (v := 3) K dX10_init_63 rfl ?_
  refine rc_iconst (v := 0) K dX10_init_64 rfl ?_
  refine rc_iast K dX10_init_65 rfl (Nat.le_of_ble_eq_true rfl) (by decide +kernel) ?_
  have f15 := f14.wI (o := 65) (k := ix 3) (v := 0) (Nat.le_of_ble_eq_true rfl)
  refine rc_dup K dX10_init_66 rfl ?_
  refine rc_iconst (v := 4) K dX10_init_67 rfl ?_
  refine rc_iconst (v := 5) K dX10_init_68 rfl ?_
  refine rc_iast K dX10_init_69 rfl (Nat.le_of_ble_eq_true rfl) (by decide +kernel) ?_
  have f16 := f15.wI (o := 65) (k := ix 4) (v := 5) (Nat.le_of_ble_eq_true rfl)
  refine rc_dup K dX10_init_70 rfl ?_
  refine rc_iconst (v := 5) K dX10_init_71 rfl ?_
  refine rc_iconst (v := 0) K dX10_init_72 rfl ?_
  refine rc_iast K dX10_init_73 rfl (Nat.le_of_ble_eq_true rfl) (by decide +kernel) ?_
  have f17 := f16.wI (o := 65) (k := ix 5) (v := 0) (Nat.le_of_ble_eq_true rfl)
  refine rc_dup K dX10_init_74 rfl ?_
  refine rc_bipush (v := 6) K dX10_init_75 rfl ?_
  refine rc_iconst (v := 0) K dX10_init_77 rfl ?_
  refine rc_iast K dX10_init_78 rfl (Nat.le_of_ble_eq_true rfl) (by decide +kernel) ?_
  have f18 := f17.wI (o := 65) (k := ix 6) (v := 0) (Nat.le_of_ble_eq_true rfl)
  refine rc_dup K dX10_init_79 rfl ?_
  refine rc_bipush (v := 7) K dX10_init_80 rfl ?_
  refine rc_iconst (v := 1) K dX10_init_82 rfl ?_
  refine rc_iast K dX10_init_83 rfl (Nat.le_of_ble_eq_true rfl) (by decide +kernel) ?_
  have f19 := f18.wI (o := 65) (k := ix 7) (v := 1) (Nat.le_of_ble_eq_true rfl)
  refine rc_dup K dX10_init_84 rfl ?_
  refine rc_bipush (v := 8) K dX10_init_85 rfl ?_
  refine rc_iconst (v := 0) K dX10_init_87 rfl ?_
  refine rc_iast K dX10_init_88 rfl (Nat.le_of_ble_eq_true rfl) (by decide +kernel) ?_
  have f20 := f19.wI (o := 65) (k := ix 8) (v := 0) (Nat.le_of_ble_eq_true rfl)
  refine rc_putR K Z ffX10_25 dX10_init_89 rfl (Nat.le_of_ble_eq_true rfl) rfl ?_
  have f21 := f20.wR (o := 59) (k := 9) (q := 65) (Nat.le_of_ble_eq_true rfl) (Nat.le_of_ble_eq_true rfl)
  refine rc_aload_n K dX10_init_92 0 rfl rfl ?_
  refine rc_bipush (v := 9) K dX10_init_93 rfl ?_
  refine rc_newI K ac_int f21 dX10_init_95 rfl (by decide) (by decide) (by decide) (Nat.le_of_ble_eq_true rfl) (Nat.le_of_ble_eq_true rfl) rfl rfl (Nat.le_of_ble_eq_true rfl) ?_
  have f22 := f21.up
  refine rc_dup K dX10_init_97 rfl ?_
  refine rc_iconst (v := 0) K dX10_init_98 rfl ?_
  refine rc_bipush (v := 99) K dX10_init_99 rfl ?_
  refine rc_iast K dX10_init_101 rfl (Nat.le_of_ble_eq_true rfl) (by decide +kernel) ?_
  have f23 := f22.wI (o := 66) (k := ix 0) (v := 99) (Nat.le_of_ble_eq_true rfl)
  refine rc_dup K dX10_init_102 rfl ?_
  refine rc_iconst (v := 1) K dX10_init_103 rfl ?_
  refine rc_bipush (v := 9) K dX10_init_104 rfl ?_
  refine rc_iast K dX10_init_106 rfl (Nat.le_of_ble_eq_true rfl) (by decide +kernel) ?_
  have f24 := f23.wI (o := 66) (k := ix 1) (v := 9) (Nat.le_of_ble_eq_true rfl)
  refine rc_dup K dX10_init_107 rfl ?_
  refine rc_iconst (v := 2) K dX10_init_108 rfl ?_
  refine rc_bipush (v := 9) K dX10_init_109 rfl ?_
  refine rc_iast K dX10_init_111 rfl (Nat.le_of_ble_eq_true rfl) (by decide +kernel) ?_
  have f25 := f24.wI (o := 66) (k := ix 2) (v := 9) (Nat.le_of_ble_eq_true rfl)
  refine rc_dup K dX10_init_112 rfl ?_
  refine rc_iconst (v := 3) K dX10_init_113 rfl ?_
  refine rc_iconst (v := 1) K dX10_init_114 rfl ?_
  refine rc_iast K dX10_init_115 rfl (Nat.le_of_ble_eq_true rfl) (by decide +kernel) ?_
  have f26 := f25.wI (o := 66) (k := ix 3) (v := 1) (Nat.le_of_ble_eq_true rfl)
  refine rc_dup K dX10_init_116 rfl ?_
  refine rc_iconst (v := 4) K dX10_init_117 rfl ?_
  refine rc_bipush (v := 9) K dX10_init_118 rfl ?_
  refine rc_iast K dX10_init_120 rfl (Nat.le_of_ble_eq_true rfl) (by decide +kernel) ?_
  have f27 := f26.wI (o := 66) (k := ix 4) (v := 9) (Nat.le_of_ble_eq_true rfl)
  refine rc_dup K dX10_init_121 rfl ?_
  refine rc_iconst (v := 5) K dX10_init_122 rfl ?_
  refine rc_iconst (v := 1) K dX10_init_123 rfl ?_
  refine rc_iast K dX10_init_124 rfl (Nat.le_of_ble_eq_true rfl) (by decide +kernel) ?_
  have f28 := f27.wI (o := 66) (k := ix 5) (v := 1) (Nat.le_of_ble_eq_true rfl)
  refine rc_dup K dX10_init_125 rfl ?_
  refine rc_bipush (v := 6) K dX10_init_126 rfl ?_
  refine rc_sipush (v := 199) K dX10_init_128 rfl ?_
  refine rc_iast K dX10_init_131 rfl (Nat.le_of_ble_eq_true rfl) (by decide +kernel) ?_
  have f29 := f28.wI (o := 66) (k := ix 6) (v := 199) (Nat.le_of_ble_eq_true rfl)
  refine rc_dup K dX10_init_132 rfl ?_
  refine rc_bipush (v := 7) K dX10_init_133 rfl ?_
  refine rc_bipush (v := 30) K dX10_init_135 rfl ?_
  refine rc_iast K dX10_init_137 rfl (Nat.le_of_ble_eq_true rfl) (by decide +kernel) ?_
  have f30 := f29.wI (o := 66) (k := ix 7) (v := 30) (Nat.le_of_ble_eq_true rfl)
  refine rc_dup K dX10_init_138 rfl ?_
  refine rc_bipush (v := 8) K dX10_init_139 rfl ?_
  refine rc_sipush (v := 199) K dX10_init_141 rfl ?_
  refine rc_iast K dX10_init_144 rfl (Nat.le_of_ble_eq_true rfl) (by decide +kernel) ?_
  have f31 := f30.wI (o := 66) (k := ix 8) (v := 199) (Nat.le_of_ble_eq_true rfl)
  refine rc_putR K Z ffX10_28 dX10_init_145 rfl (Nat.le_of_ble_eq_true rfl) rfl ?_
  have f32 := f31.wR (o := 59) (k := 10) (q := 66) (Nat.le_of_ble_eq_true rfl) (Nat.le_of_ble_eq_true rfl)
  refine rc_aload_n K dX10_init_148 0 rfl rfl ?_
  refine rc_bipush (v := 120) K dX10_init_149 rfl ?_
  refine rc_newI K ac_int f32 dX10_init_151 rfl (by decide) (by decide) (by decide) (Nat.le_of_ble_eq_true rfl) (Nat.le_of_ble_eq_true rfl) rfl rfl (Nat.le_of_ble_eq_true rfl) ?_
  have f33 := f32.up
  refine rc_putR K Z ffX10_31 dX10_init_153 rfl (Nat.le_of_ble_eq_true rfl) rfl ?_
  have f34 := f33.wR (o := 59) (k := 11) (q := 67) (Nat.le_of_ble_eq_true rfl) (Nat.le_of_ble_eq_true rfl)
  refine rc_aload_n K dX10_init_156 0 rfl rfl ?_
  refine rc_bipush (v := 120) K dX10_init_157 rfl ?_
  refine rc_newI K ac_int f34 dX10_init_159 rfl (by decide) (by decide) (by decide) (Nat.le_of_ble_eq_true rfl) (Nat.le_of_ble_eq_true rfl) rfl rfl (Nat.le_of_ble_eq_true rfl) ?_
  have f35 := f34.up
  refine rc_putR K Z ffX10_34 dX10_init_161 rfl (Nat.le_of_ble_eq_true rfl) rfl ?_
  have f36 := f35.wR (o := 59) (k := 13) (q := 68) (Nat.le_of_ble_eq_true rfl) (Nat.le_of_ble_eq_true rfl)
  refine rc_aload_n K dX10_init_164 0 rfl rfl ?_
  refine rc_bipush (v := 120) K dX10_init_165 rfl ?_
  refine rc_newI K ac_int f36 dX10_init_167 rfl (by decide) (by decide) (by decide) (Nat.le_of_ble_eq_true rfl) (Nat.le_of_ble_eq_true rfl) rfl rfl (Nat.le_of_ble_eq_true rfl) ?_
  have f37 := f36.up
  refine rc_putR K Z ffX10_37 dX10_init_169 rfl (Nat.le_of_ble_eq_true rfl) rfl ?_
  have f38 := f37.wR (o := 59) (k := 16) (q := 69) (Nat.le_of_ble_eq_true rfl) (Nat.le_of_ble_eq_true rfl)
  refine rc_aload_n K dX10_init_172 0 rfl rfl ?_
  refine rc_bipush (v := 6) K dX10_init_173 rfl ?_
  refine rc_newI K ac_int f38 dX10_init_175 rfl (by decide) (by decide) (by decide) (Nat.le_of_ble_eq_true rfl) (Nat.le_of_ble_eq_true rfl) rfl rfl (Nat.le_of_ble_eq_true rfl) ?_
  have f39 := f38.up
  refine rc_putR K Z ffX10_40 dX10_init_177 rfl (Nat.le_of_ble_eq_true rfl) rfl ?_
  have f40 := f39.wR (o := 59) (k := 21) (q := 70) (Nat.le_of_ble_eq_true rfl) (Nat.le_of_ble_eq_true rfl)
  refine rc_aload_n K dX10_init_180 0 rfl rfl ?_
  refine rc_bipush (v := 6) K dX10_init_181 rfl ?_
  refine rc_newC K ac_char f40 dX10_init_183 rfl (by decide) (by decide) (by decide) (Nat.le_of_ble_eq_true rfl) (Nat.le_of_ble_eq_true rfl) rfl rfl (Nat.le_of_ble_eq_true rfl) ?_
  have f41 := f40.up
  refine rc_dup K dX10_init_185 rfl ?_
  refine rc_iconst (v := 0) K dX10_init_186 rfl ?_
  refine rc_bipush (v := 114) K dX10_init_187 rfl ?_
  refine rc_cast K dX10_init_189 rfl (Nat.le_of_ble_eq_true rfl) (by decide +kernel) (by decide +kernel) ?_
  have f42 := f41.wI (o := 71) (k := ix 0) (v := 114) (Nat.le_of_ble_eq_true rfl)
  refine rc_dup K dX10_init_190 rfl ?_
  refine rc_iconst (v := 1) K dX10_init_191 rfl ?_
  refine rc_bipush (v := 108) K dX10_init_192 rfl ?_
  refine rc_cast K dX10_init_194 rfl (Nat.le_of_ble_eq_true rfl) (by decide +kernel) (by decide +kernel) ?_
  have f43 := f42.wI (o := 71) (k := ix 1) (v := 108) (Nat.le_of_ble_eq_true rfl)
  refine rc_dup K dX10_init_195 rfl ?_
  refine rc_iconst (v := 2) K dX10_init_196 rfl ?_
  refine rc_bipush (v := 104) K dX10_init_197 rfl ?_
  refine rc_cast K dX10_init_199 rfl (Nat.le_of_ble_eq_true rfl) (by decide +kernel) (by decide +kernel) ?_
  have f44 := f43.wI (o := 71) (k := ix 2) (v := 104) (Nat.le_of_ble_eq_true rfl)
  refine rc_dup K dX10_init_200 rfl ?_
  refine rc_iconst (v := 3) K dX10_init_201 rfl ?_
  refine rc_bipush (v := 109) K dX10_init_202 rfl ?_
  refine rc_cast K dX10_init_204 rfl (Nat.le_of_ble_eq_true rfl) (by decide +kernel) (by decide +kernel) ?_
  have f45 := f44.wI (o := 71) (k := ix 3) (v := 109) (Nat.le_of_ble_eq_true rfl)
  refine rc_dup K dX10_init_205 rfl ?_
  refine rc_iconst (v := 4) K dX10_init_206 rfl ?_
  refine rc_bipush (v := 110) K dX10_init_207 rfl ?_
  refine rc_cast K dX10_init_209 rfl (Nat.le_of_ble_eq_true rfl) (by decide +kernel) (by decide +kernel) ?_
  have f46 := f45.wI (o := 71) (k := ix 4) (v := 110) (Nat.le_of_ble_eq_true rfl)
  refine rc_dup K dX10_init_210 rfl ?_
  refine rc_iconst (v := 5) K dX10_init_211 rfl ?_
  refine rc_bipush (v := 103) K dX10_init_212 rfl ?_
  refine rc_cast K dX10_init_214 rfl (Nat.le_of_ble_eq_true rfl) (by decide +kernel) (by decide +kernel) ?_
  have f47 := f46.wI (o := 71) (k := ix 5) (v := 103) (Nat.le_of_ble_eq_true rfl)
  refine rc_putR K Z ffX10_43 dX10_init_215 rfl (Nat.le_of_ble_eq_true rfl) rfl ?_
  have f48 := f47.wR (o := 59) (k := 22) (q := 71) (Nat.le_of_ble_eq_true rfl) (Nat.le_of_ble_eq_true rfl)
  refine rc_aload_n K dX10_init_218 0 rfl rfl ?_
  refine rc_iconst (v := (-1)) K dX10_init_219 rfl ?_
  refine rc_putI K fpX10_47 dX10_init_220 rfl (Nat.le_of_ble_eq_true rfl) rfl ?_
  have f49 := f48.wI (o := 59) (k := 23) (v := (-1)) (Nat.le_of_ble_eq_true rfl)
  refine rc_aload_n K dX10_init_223 0 rfl rfl ?_
  refine rc_bipush (v := 9) K dX10_init_224 rfl ?_
  refine rc_newI K ac_int f49 dX10_init_226 rfl (by decide) (by decide) (by decide) (Nat.le_of_ble_eq_true rfl) (Nat.le_of_ble_eq_true rfl) rfl rfl (Nat.le_of_ble_eq_true rfl) ?_
  have f50 := f49.up
  refine rc_putR K Z ffX10_51 dX10_init_228 rfl (Nat.le_of_ble_eq_true rfl) rfl ?_
  have f51 := f50.wR (o := 59) (k := 26) (q := 72) (Nat.le_of_ble_eq_true rfl) (Nat.le_of_ble_eq_true rfl)
  refine rc_aload_n K dX10_init_231 0 rfl rfl ?_
  refine rc_bipush (v := 9) K dX10_init_232 rfl ?_
  refine rc_newI K ac_int f51 dX10_init_234 rfl (by decide) (by decide) (by decide) (Nat.le_of_ble_eq_true rfl) (Nat.le_of_ble_eq_true rfl) rfl rfl (Nat.le_of_ble_eq_true rfl) ?_
  have f52 := f51.up
  refine rc_putR K Z ffX10_54 dX10_init_236 rfl (Nat.le_of_ble_eq_true rfl) rfl ?_
  have f53 := f52.wR (o := 59) (k := 27) (q := 73) (Nat.le_of_ble_eq_true rfl) (Nat.le_of_ble_eq_true rfl)
  refine rc_aload_n K dX10_init_239 0 rfl rfl ?_
  refine rc_bipush (v := 9) K dX10_init_240 rfl ?_
  refine rc_newI K ac_int f53 dX10_init_242 rfl (by decide) (by decide) (by decide) (Nat.le_of_ble_eq_true rfl) (Nat.le_of_ble_eq_true rfl) rfl rfl (Nat.le_of_ble_eq_true rfl) ?_
  have f54 := f53.up
  refine rc_putR K Z ffX10_57 dX10_init_244 rfl (Nat.le_of_ble_eq_true rfl) rfl ?_
  have f55 := f54.wR (o := 59) (k := 28) (q := 74) (Nat.le_of_ble_eq_true rfl) (Nat.le_of_ble_eq_true rfl)
  refine rc_aload_n K dX10_init_247 0 rfl rfl ?_
  refine rc_bipush (v := 6) K dX10_init_248 rfl ?_
  refine rc_newI K ac_int f55 dX10_init_250 rfl (by decide) (by decide) (by decide) (Nat.le_of_ble_eq_true rfl) (Nat.le_of_ble_eq_true rfl) rfl rfl (Nat.le_of_ble_eq_true rfl) ?_
  have f56 := f55.up
  refine rc_dup K dX10_init_252 rfl ?_
  refine rc_iconst (v := 0) K dX10_init_253 rfl ?_
  refine rc_iconst (v := (-1)) K dX10_init_254 rfl ?_
  refine rc_iast K dX10_init_255 rfl (Nat.le_of_ble_eq_true rfl) (by decide +kernel) ?_
  have f57 := f56.wI (o := 75) (k := ix 0) (v := (-1)) (Nat.le_of_ble_eq_true rfl)
  refine rc_dup K dX10_init_256 rfl ?_
  refine rc_iconst (v := 1) K dX10_init_257 rfl ?_
  refine rc_iconst (v := (-1)) K dX10_init_258 rfl ?_
  refine rc_iast K dX10_init_259 rfl (Nat.le_of_ble_eq_true rfl) (by decide +kernel) ?_
  have f58 := f57.wI (o := 75) (k := ix 1) (v := (-1)) (Nat.le_of_ble_eq_true rfl)
  refine rc_dup K dX10_init_260 rfl ?_
  refine rc_iconst (v := 2) K dX10_init_261 rfl ?_
  refine rc_iconst (v := (-1)) K dX10_init_262 rfl ?_
  refine rc_iast K dX10_init_263 rfl (Nat.le_of_ble_eq_true rfl) (by decide +kernel) ?_
  have f59 := f58.wI (o := 75) (k := ix 2) (v := (-1)) (Nat.le_of_ble_eq_true rfl)
  refine rc_dup K dX10_init_264 rfl ?_
  refine rc_iconst (v := 3) K dX10_init_265 rfl ?_
  refine rc_iconst (v := (-1)) K dX10_init_266 rfl ?_
  refine rc_iast K dX10_init_267 rfl (Nat.le_of_ble_eq_true rfl) (by decide +kernel) ?_
  have f60 := f59.wI (o := 75) (k := ix 3) (v := (-1)) (Nat.le_of_ble_eq_true rfl)
  refine rc_dup K dX10_init_268 rfl ?_
  refine rc_iconst (v := 4) K dX10_init_269 rfl ?_
  refine rc_iconst (v := (-1)) K dX10_init_270 rfl ?_
  refine rc_iast K dX10_init_271 rfl (Nat.le_of_ble_eq_true rfl) (by decide +kernel) ?_
  have f61 := f60.wI (o := 75) (k := ix 4) (v := (-1)) (Nat.le_of_ble_eq_true rfl)
  refine rc_dup K dX10_init_272 rfl ?_
  refine rc_iconst (v := 5) K dX10_init_273 rfl ?_
  refine rc_iconst (v := (-1)) K dX10_init_274 rfl ?_
  refine rc_iast K dX10_init_275 rfl (Nat.le_of_ble_eq_true rfl) (by decide +kernel) ?_
  have f62 := f61.wI (o := 75) (k := ix 5) (v := (-1)) (Nat.le_of_ble_eq_true rfl)
  refine rc_putR K Z ffX10_60 dX10_init_276 rfl (Nat.le_of_ble_eq_true rfl) rfl ?_
  have f63 := f62.wR (o := 59) (k := 30) (q := 75) (Nat.le_of_ble_eq_true rfl) (Nat.le_of_ble_eq_true rfl)
  refine rc_aload_n K dX10_init_279 0 rfl rfl ?_
  refine rc_bipush (v := 6) K dX10_init_280 rfl ?_
  refine rc_newI K ac_int f63 dX10_init_282 rfl (by decide) (by decide) (by decide) (Nat.le_of_ble_eq_true rfl) (Nat.le_of_ble_eq_true rfl) rfl rfl (Nat.le_of_ble_eq_true rfl) ?_
  have f64 := f63.up
  refine rc_putR K Z ffX10_63 dX10_init_284 rfl (Nat.le_of_ble_eq_true rfl) rfl ?_
  have f65 := f64.wR (o := 59) (k := 31) (q := 76) (Nat.le_of_ble_eq_true rfl) (Nat.le_of_ble_eq_true rfl)
  refine rc_aload_n K dX10_init_287 0 rfl rfl ?_
  refine rc_sipush (v := 360) K dX10_init_288 rfl ?_
  refine rc_newL K ac_long f65 dX10_init_291 rfl (by decide) (by decide) (by decide) (Nat.le_of_ble_eq_true rfl) (Nat.le_of_ble_eq_true rfl) rfl rfl (Nat.le_of_ble_eq_true rfl) ?_
  have f66 := f65.up
  refine rc_putR K Z ffX10_66 dX10_init_293 rfl (Nat.le_of_ble_eq_true rfl) rfl ?_
  have f67 := f66.wR (o := 59) (k := 32) (q := 77) (Nat.le_of_ble_eq_true rfl) (Nat.le_of_ble_eq_true rfl)
  refine rc_aload_n K dX10_init_296 0 rfl rfl ?_
  refine rc_bipush (v := 60) K dX10_init_297 rfl ?_
  refine rc_newL K ac_long f67 dX10_init_299 rfl (by decide) (by decide) (by decide) (Nat.le_of_ble_eq_true rfl) (Nat.le_of_ble_eq_true rfl) rfl rfl (Nat.le_of_ble_eq_true rfl) ?_
  have f68 := f67.up
  refine rc_putR K Z ffX10_70 dX10_init_301 rfl (Nat.le_of_ble_eq_true rfl) rfl ?_
  have f69 := f68.wR (o := 59) (k := 33) (q := 78) (Nat.le_of_ble_eq_true rfl) (Nat.le_of_ble_eq_true rfl)
  refine rc_aload_n K dX10_init_304 0 rfl rfl ?_
  refine rc_iconst (v := 5) K dX10_init_305 rfl ?_
  refine rc_newI K ac_int f69 dX10_init_306 rfl (by decide) (by decide) (by decide) (Nat.le_of_ble_eq_true rfl) (Nat.le_of_ble_eq_true rfl) rfl rfl (Nat.le_of_ble_eq_true rfl) ?_
  have f70 := f69.up
  refine rc_putR K Z ffX10_73 dX10_init_308 rfl (Nat.le_of_ble_eq_true rfl) rfl ?_
  have f71 := f70.wR (o := 59) (k := 35) (q := 79) (Nat.le_of_ble_eq_true rfl) (Nat.le_of_ble_eq_true rfl)
  refine rc_aload_n K dX10_init_311 0 rfl rfl ?_
  refine rc_bipush (v := 94) K dX10_init_312 rfl ?_
  refine rc_newI K ac_int f71 dX10_init_314 rfl (by decide) (by decide) (by decide) (Nat.le_of_ble_eq_true rfl) (Nat.le_of_ble_eq_true rfl) rfl rfl (Nat.le_of_ble_eq_true rfl) ?_
  have f72 := f71.up
  refine rc_putR K Z ffX10_76 dX10_init_316 rfl (Nat.le_of_ble_eq_true rfl) rfl ?_
  have f73 := f72.wR (o := 59) (k := 36) (q := 80) (Nat.le_of_ble_eq_true rfl) (Nat.le_of_ble_eq_true rfl)
  refine rc_aload_n K dX10_init_319 0 rfl rfl ?_
  refine rc_iconst (v := 5) K dX10_init_320 rfl ?_
  refine rc_newI K ac_int f73 dX10_init_321 rfl (by decide) (by decide) (by decide) (Nat.le_of_ble_eq_true rfl) (Nat.le_of_ble_eq_true rfl) rfl rfl (Nat.le_of_ble_eq_true rfl) ?_
  have f74 := f73.up
  refine rc_putR K Z ffX10_79 dX10_init_323 rfl (Nat.le_of_ble_eq_true rfl) rfl ?_
  have f75 := f74.wR (o := 59) (k := 37) (q := 81) (Nat.le_of_ble_eq_true rfl) (Nat.le_of_ble_eq_true rfl)
  refine rc_aload_n K dX10_init_326 0 rfl rfl ?_
  refine rc_bipush (v := 8) K dX10_init_327 rfl ?_
  refine rc_newI K ac_int f75 dX10_init_329 rfl (by decide) (by decide) (by decide) (Nat.le_of_ble_eq_true rfl) (Nat.le_of_ble_eq_true rfl) rfl rfl (Nat.le_of_ble_eq_true rfl) ?_
  have f76 := f75.up
  refine rc_dup K dX10_init_331 rfl ?_
  refine rc_iconst (v := 0) K dX10_init_332 rfl ?_
  refine rc_iconst (v := (-1)) K dX10_init_333 rfl ?_
  refine rc_iast K dX10_init_334 rfl (Nat.le_of_ble_eq_true rfl) (by decide +kernel) ?_
  have f77 := f76.wI (o := 82) (k := ix 0) (v := (-1)) (Nat.le_of_ble_eq_true rfl)
  refine rc_dup K dX10_init_335 rfl ?_
  refine rc_iconst (v := 1) K dX10_init_336 rfl ?_
  refine rc_iconst (v := 0) K dX10_init_337 rfl ?_
  refine rc_iast K dX10_init_338 rfl (Nat.le_of_ble_eq_true rfl) (by decide +kernel) ?_
  have f78 := f77.wI (o := 82) (k := ix 1) (v := 0) (Nat.le_of_ble_eq_true rfl)
  refine rc_dup K dX10_init_339 rfl ?_
  refine rc_iconst (v := 2) K dX10_init_340 rfl ?_
  refine rc_iconst (v := 0) K dX10_init_341 rfl ?_
  refine rc_iast K dX10_init_342 rfl (Nat.le_of_ble_eq_true rfl) (by decide +kernel) ?_
  have f79 := f78.wI (o := 82) (k := ix 2) (v := 0) (Nat.le_of_ble_eq_true rfl)
  refine rc_dup K dX10_init_343 rfl ?_
  refine rc_iconst (v := 3) K dX10_init_344 rfl ?_
  refine rc_iconst (v := 2) K dX10_init_345 rfl ?_
  refine rc_iast K dX10_init_346 rfl (Nat.le_of_ble_eq_true rfl) (by decide +kernel) ?_
  have f80 := f79.wI (o := 82) (k := ix 3) (v := 2) (Nat.le_of_ble_eq_true rfl)
  refine rc_dup K dX10_init_347 rfl ?_
  refine rc_iconst (v := 4) K dX10_init_348 rfl ?_
  refine rc_iconst (v := 1) K dX10_init_349 rfl ?_
  refine rc_iast K dX10_init_350 rfl (Nat.le_of_ble_eq_true rfl) (by decide +kernel) ?_
  have f81 := f80.wI (o := 82) (k := ix 4) (v := 1) (Nat.le_of_ble_eq_true rfl)
  refine rc_dup K dX10_init_351 rfl ?_
  refine rc_iconst (v := 5) K dX10_init_352 rfl ?_
  refine rc_iconst (v := 3) K dX10_init_353 rfl ?_
  refine rc_iast K dX10_init_354 rfl (Nat.le_of_ble_eq_true rfl) (by decide +kernel) ?_
  have f82 := f81.wI (o := 82) (k := ix 5) (v := 3) (Nat.le_of_ble_eq_true rfl)
  refine rc_dup K dX10_init_355 rfl ?_
  refine rc_bipush (v := 6) K dX10_init_356 rfl ?_
  refine rc_iconst (v := 0) K dX10_init_358 rfl ?_
  refine rc_iast K dX10_init_359 rfl (Nat.le_of_ble_eq_true rfl) (by decide +kernel) ?_
  have f83 := f82.wI (o := 82) (k := ix 6) (v := 0) (Nat.le_of_ble_eq_true rfl)
  refine rc_dup K dX10_init_360 rfl ?_
  refine rc_bipush (v := 7) K dX10_init_361 rfl ?_
  refine rc_iconst (v := 4) K dX10_init_363 rfl ?_
  refine rc_iast K dX10_init_364 rfl (Nat.le_of_ble_eq_true rfl) (by decide +kernel) ?_
  have f84 := f83.wI (o := 82) (k := ix 7) (v := 4) (Nat.le_of_ble_eq_true rfl)
  refine rc_putR K Z ffX10_82 dX10_init_365 rfl (Nat.le_of_ble_eq_true rfl) rfl ?_
  have f85 := f84.wR (o := 59) (k := 40) (q := 82) (Nat.le_of_ble_eq_true rfl) (Nat.le_of_ble_eq_true rfl)
  refine rc_aload_n K dX10_init_368 0 rfl rfl ?_
  refine rc_bipush (v := 32) K dX10_init_369 rfl ?_
  refine rc_newI K ac_int f85 dX10_init_371 rfl (by decide) (by decide) (by decide) (Nat.le_of_ble_eq_true rfl) (Nat.le_of_ble_eq_true rfl) rfl rfl (Nat.le_of_ble_eq_true rfl) ?_
  have f86 := f85.up
  refine rc_dup K dX10_init_373 rfl ?_
  refine rc_iconst (v := 0) K dX10_init_374 rfl ?_
  refine rc_iconst (v := 1) K dX10_init_375 rfl ?_
  refine rc_iast K dX10_init_376 rfl (Nat.le_of_ble_eq_true rfl) (by decide +kernel) ?_
  have f87 := f86.wI (o := 83) (k := ix 0) (v := 1) (Nat.le_of_ble_eq_true rfl)
  refine rc_dup K dX10_init_377 rfl ?_
  refine rc_iconst (v := 1) K dX10_init_378 rfl ?_
  refine rc_bipush (v := 10) K dX10_init_379 rfl ?_
  refine rc_iast K dX10_init_381 rfl (Nat.le_of_ble_eq_true rfl) (by decide +kernel) ?_
  have f88 := f87.wI (o := 83) (k := ix 1) (v := 10) (Nat.le_of_ble_eq_true rfl)
  refine rc_dup K dX10_init_382 rfl ?_
  refine rc_iconst (v := 2) K dX10_init_383 rfl ?_
  refine rc_bipush (v := 11) K dX10_init_384 rfl ?_
  refine rc_iast K dX10_init_386 rfl (Nat.le_of_ble_eq_true rfl) (by decide +kernel) ?_
  have f89 := f88.wI (o := 83) (k := ix 2) (v := 11) (Nat.le_of_ble_eq_true rfl)
  refine rc_dup K dX10_init_387 rfl ?_
  refine rc_iconst (v := 3) K dX10_init_388 rfl ?_
  refine rc_iconst (v := 2) K dX10_init_389 rfl ?_
  refine rc_iast K dX10_init_390 rfl (Nat.le_of_ble_eq_true rfl) (by decide +kernel) ?_
  have f90 := f89.wI (o := 83) (k := ix 3) (v := 2) (Nat.le_of_ble_eq_true rfl)
  refine rc_dup K dX10_init_391 rfl ?_
  refine rc_iconst (v := 4) K dX10_init_392 rfl ?_
  refine rc_bipush (v := 20) K dX10_init_393 rfl ?_
  refine rc_iast K dX10_init_395 rfl (Nat.le_of_ble_eq_true rfl) (by decide +kernel) ?_
  have f91 := f90.wI (o := 83) (k := ix 4) (v := 20) (Nat.le_of_ble_eq_true rfl)
  refine rc_dup K dX10_init_396 rfl ?_
  refine rc_iconst (v := 5) K dX10_init_397 rfl ?_
  refine rc_iconst (v := 0) K dX10_init_398 rfl ?_
  refine rc_iast K dX10_init_399 rfl (Nat.le_of_ble_eq_true rfl) (by decide +kernel) ?_
  have f92 := f91.wI (o := 83) (k := ix 5) (v := 0) (Nat.le_of_ble_eq_true rfl)
  refine rc_dup K dX10_init_400 rfl ?_
  refine rc_bipush (v := 6) K dX10_init_401 rfl ?_
  refine rc_iconst (v := 0) K dX10_init_403 rfl ?_
  refine rc_iast K dX10_init_404 rfl (Nat.le_of_ble_eq_true rfl) (by decide +kernel) ?_
  have f93 := f92.wI (o := 83) (k := ix 6) (v := 0) (Nat.le_of_ble_eq_true rfl)
  refine rc_dup K dX10_init_405 rfl ?_
  refine rc_bipush (v := 7) K dX10_init_406 rfl ?_
  refine rc_iconst (v := 0) K dX10_init_408 rfl ?_
  refine rc_iast K dX10_init_409 rfl (Nat.le_of_ble_eq_true rfl) (by decide +kernel) ?_
  have f94 := f93.wI (o := 83) (k := ix 7) (v := 0) (Nat.le_of_ble_eq_true rfl)
  refine rc_dup K dX10_init_410 rfl ?_
  refine rc_bipush (v := 8) K dX10_init_411 rfl ?_
  refine rc_iconst (v := 0) K dX10_init_413 rfl ?_
  refine rc_iast K dX10_init_414 rfl (Nat.le_of_ble_eq_true rfl) (by decide +kernel) ?_
  have f95 := f94.wI (o := 83) (k := ix 8) (v := 0) (Nat.le_of_ble_eq_true rfl)
  refine rc_dup K dX10_init_415 rfl ?_
  refine rc_bipush (v := 9) K dX10_init_416 rfl ?_
  refine rc_bipush (v := 30) K dX10_init_418 rfl ?_
  refine rc_iast K dX10_init_420 rfl (Nat.le_of_ble_eq_true rfl) (by decide +kernel) ?_
  have f96 := f95.wI (o := 83) (k := ix 9) (v := 30) (Nat.le_of_ble_eq_true rfl)
  refine rc_dup K dX10_init_421 rfl ?_
  refine rc_bipush (v := 10) K dX10_init_422 rfl ?_
  refine rc_iconst (v := 0) K dX10_init_424 rfl ?_
  refine rc_iast K dX10_init_425 rfl (Nat.le_of_ble_eq_true rfl) (by decide +kernel) ?_
  have f97 := f96.wI (o := 83) (k := ix 10) (v := 0) (Nat.le_of_ble_eq_true rfl)
  refine rc_dup K dX10_init_426 rfl ?_
  refine rc_bipush (v := 11) K dX10_init_427 rfl ?_
  refine rc_iconst (v := 0) K dX10_init_429 rfl ?_
  refine rc_iast K dX10_init_430 rfl (Nat.le_of_ble_eq_true rfl) (by decide +kernel) ?_
  have f98 := f97.wI (o := 83) (k := ix 11) (v := 0) (Nat.le_of_ble_eq_true rfl)
  refine rc_dup K dX10_init_431 rfl ?_
  refine rc_bipush (v := 12) K dX10_init_432 rfl ?_
  refine rc_iconst (v := 0) K dX10_init_434 rfl ?_
  refine rc_iast K dX10_init_435 rfl (Nat.le_of_ble_eq_true rfl) (by decide +kernel) ?_
  have f99 := f98.wI (o := 83) (k := ix 12) (v := 0) (Nat.le_of_ble_eq_true rfl)
  refine rc_dup K dX10_init_436 rfl ?_
  refine rc_bipush (v := 13) K dX10_init_437 rfl ?_
  refine rc_bipush (v := 41) K dX10_init_439 rfl ?_
  refine rc_iast K dX10_init_441 rfl (Nat.le_of_ble_eq_true rfl) (by decide +kernel) ?_
  have f100 := f99.wI (o := 83) (k := ix 13) (v := 41) (Nat.le_of_ble_eq_true rfl)
  refine rc_dup K dX10_init_442 rfl ?_
  refine rc_bipush (v := 14) K dX10_init_443 rfl ?_
  refine rc_bipush (v := 40) K dX10_init_445 rfl ?_
  refine rc_iast K dX10_init_447 rfl (Nat.le_of_ble_eq_true rfl) (by decide +kernel) ?_
  have f101 := f100.wI (o := 83) (k := ix 14) (v := 40) (Nat.le_of_ble_eq_true rfl)
  refine rc_dup K dX10_init_448 rfl ?_
  refine rc_bipush (v := 15) K dX10_init_449 rfl ?_
  refine rc_iconst (v := 0) K dX10_init_451 rfl ?_
  refine rc_iast K dX10_init_452 rfl (Nat.le_of_ble_eq_true rfl) (by decide +kernel) ?_
  have f102 := f101.wI (o := 83) (k := ix 15) (v := 0) (Nat.le_of_ble_eq_true rfl)
  refine rc_dup K dX10_init_453 rfl ?_
  refine rc_bipush (v := 16) K dX10_init_454 rfl ?_
  refine rc_iconst (v := 0) K dX10_init_456 rfl ?_
  refine rc_iast K dX10_init_457 rfl (Nat.le_of_ble_eq_true rfl) (by decide +kernel) ?_
  have f103 := f102.wI (o := 83) (k := ix 16) (v := 0) (Nat.le_of_ble_eq_true rfl)
  refine rc_dup K dX10_init_458 rfl ?_
  refine rc_bipush (v := 17) K dX10_init_459 rfl ?_
  refine rc_iconst (v := 0) K dX10_init_461 rfl ?_
  refine rc_iast K dX10_init_462 rfl (Nat.le_of_ble_eq_true rfl) (by decide +kernel) ?_
  have f104 := f103.wI (o := 83) (k := ix 17) (v := 0) (Nat.le_of_ble_eq_true rfl)
  refine rc_dup K dX10_init_463 rfl ?_
  refine rc_bipush (v := 18) K dX10_init_464 rfl ?_
  refine rc_bipush (v := 50) K dX10_init_466 rfl ?_
  refine rc_iast K dX10_init_468 rfl (Nat.le_of_ble_eq_true rfl) (by decide +kernel) ?_
  have f105 := f104.wI (o := 83) (k := ix 18) (v := 50) (Nat.le_of_ble_eq_true rfl)
  refine rc_dup K dX10_init_469 rfl ?_
  refine rc_bipush (v := 19) K dX10_init_470 rfl ?_
  refine rc_iconst (v := 0) K dX10_init_472 rfl ?_
  refine rc_iast K dX10_init_473 rfl (Nat.le_of_ble_eq_true rfl) (by decide +kernel) ?_
  have f106 := f105.wI (o := 83) (k := ix 19) (v := 0) (Nat.le_of_ble_eq_true rfl)
  refine rc_dup K dX10_init_474 rfl ?_
  refine rc_bipush (v := 20) K dX10_init_475 rfl ?_
  refine rc_iconst (v := 0) K dX10_init_477 rfl ?_
  refine rc_iast K dX10_init_478 rfl (Nat.le_of_ble_eq_true rfl) (by decide +kernel) ?_
  have f107 := f106.wI (o := 83) (k := ix 20) (v := 0) (Nat.le_of_ble_eq_true rfl)
  refine rc_dup K dX10_init_479 rfl ?_
  refine rc_bipush (v := 21) K dX10_init_480 rfl ?_
  refine rc_iconst (v := 0) K dX10_init_482 rfl ?_
  refine rc_iast K dX10_init_483 rfl (Nat.le_of_ble_eq_true rfl) (by decide +kernel) ?_
  have f108 := f107.wI (o := 83) (k := ix 21) (v := 0) (Nat.le_of_ble_eq_true rfl)
  refine rc_dup K dX10_init_484 rfl ?_
  refine rc_bipush (v := 22) K dX10_init_485 rfl ?_
  refine rc_iconst (v := 0) K dX10_init_487 rfl ?_
  refine rc_iast K dX10_init_488 rfl (Nat.le_of_ble_eq_true rfl) (by decide +kernel) ?_
  have f109 := f108.wI (o := 83) (k := ix 22) (v := 0) (Nat.le_of_ble_eq_true rfl)
  refine rc_dup K dX10_init_489 rfl ?_
  refine rc_bipush (v := 23) K dX10_init_490 rfl ?_
  refine rc_bipush (v := 60) K dX10_init_492 rfl ?_
  refine rc_iast K dX10_init_494 rfl (Nat.le_of_ble_eq_true rfl) (by decide +kernel) ?_
  have f110 := f109.wI (o := 83) (k := ix 23) (v := 60) (Nat.le_of_ble_eq_true rfl)
  refine rc_dup K dX10_init_495 rfl ?_
  refine rc_bipush (v := 24) K dX10_init_496 rfl ?_
  refine rc_bipush (v := 70) K dX10_init_498 rfl ?_
  refine rc_iast K dX10_init_500 rfl (Nat.le_of_ble_eq_true rfl) (by decide +kernel) ?_
  have f111 := f110.wI (o := 83) (k := ix 24) (v := 70) (Nat.le_of_ble_eq_true rfl)
  refine rc_dup K dX10_init_501 rfl ?_
  refine rc_bipush (v := 25) K dX10_init_502 rfl ?_
  refine rc_iconst (v := 0) K dX10_init_504 rfl ?_
  refine rc_iast K dX10_init_505 rfl (Nat.le_of_ble_eq_true rfl) (by decide +kernel) ?_
  have f112 := f111.wI (o := 83) (k := ix 25) (v := 0) (Nat.le_of_ble_eq_true rfl)
  refine rc_dup K dX10_init_506 rfl ?_
  refine rc_bipush (v := 26) K dX10_init_507 rfl ?_
  refine rc_iconst (v := 0) K dX10_init_509 rfl ?_
  refine rc_iast K dX10_init_510 rfl (Nat.le_of_ble_eq_true rfl) (by decide +kernel) ?_
  have f113 := f112.wI (o := 83) (k := ix 26) (v := 0) (Nat.le_of_ble_eq_true rfl)
  refine rc_dup K dX10_init_511 rfl ?_
  refine rc_bipush (v := 27) K dX10_init_512 rfl ?_
  refine rc_iconst (v := 0) K dX10_init_514 rfl ?_
  refine rc_iast K dX10_init_515 rfl (Nat.le_of_ble_eq_true rfl) (by decide +kernel) ?_
  have f114 := f113.wI (o := 83) (k := ix 27) (v := 0) (Nat.le_of_ble_eq_true rfl)
  refine rc_dup K dX10_init_516 rfl ?_
  refine rc_bipush (v := 28) K dX10_init_517 rfl ?_
  refine rc_iconst (v := 0) K dX10_init_519 rfl ?_
  refine rc_iast K dX10_init_520 rfl (Nat.le_of_ble_eq_true rfl) (by decide +kernel) ?_
  have f115 := f114.wI (o := 83) (k := ix 28) (v := 0) (Nat.le_of_ble_eq_true rfl)
  refine rc_dup K dX10_init_521 rfl ?_
  refine rc_bipush (v := 29) K dX10_init_522 rfl ?_
  refine rc_bipush (v := 80) K dX10_init_524 rfl ?_
  refine rc_iast K dX10_init_526 rfl (Nat.le_of_ble_eq_true rfl) (by decide +kernel) ?_
  have f116 := f115.wI (o := 83) (k := ix 29) (v := 80) (Nat.le_of_ble_eq_true rfl)
  refine rc_dup K dX10_init_527 rfl ?_
  refine rc_bipush (v := 30) K dX10_init_528 rfl ?_
  refine rc_iconst (v := 0) K dX10_init_530 rfl ?_
  refine rc_iast K dX10_init_531 rfl (Nat.le_of_ble_eq_true rfl) (by decide +kernel) ?_
  have f117 := f116.wI (o := 83) (k := ix 30) (v := 0) (Nat.le_of_ble_eq_true rfl)
  refine rc_dup K dX10_init_532 rfl ?_
  refine rc_bipush (v := 31) K dX10_init_533 rfl ?_
  refine rc_bipush (v := 81) K dX10_init_535 rfl ?_
  refine rc_iast K dX10_init_537 rfl (Nat.le_of_ble_eq_true rfl) (by decide +kernel) ?_
  have f118 := f117.wI (o := 83) (k := ix 31) (v := 81) (Nat.le_of_ble_eq_true rfl)
  refine rc_putR K Z ffX10_85 dX10_init_538 rfl (Nat.le_of_ble_eq_true rfl) rfl ?_
  have f119 := f118.wR (o := 59) (k := 41) (q := 83) (Nat.le_of_ble_eq_true rfl) (Nat.le_of_ble_eq_true rfl)
  refine rc_aload_n K dX10_init_541 0 rfl rfl ?_
  refine rc_bipush (v := 50) K dX10_init_542 rfl ?_
  refine rc_newI K ac_int f119 dX10_init_544 rfl (by decide) (by decide) (by decide) (Nat.le_of_ble_eq_true rfl) (Nat.le_of_ble_eq_true rfl) rfl rfl (Nat.le_of_ble_eq_true rfl) ?_
  have f120 := f119.up
  refine rc_putR K Z ffX10_88 dX10_init_546 rfl (Nat.le_of_ble_eq_true rfl) rfl ?_
  have f121 := f120.wR (o := 59) (k := 42) (q := 84) (Nat.le_of_ble_eq_true rfl) (Nat.le_of_ble_eq_true rfl)
  refine rc_aload_n K dX10_init_549 0 rfl rfl ?_
  refine rc_bipush (v := 24) K dX10_init_550 rfl ?_
  refine rc_newI K ac_int f121 dX10_init_552 rfl (by decide) (by decide) (by decide) (Nat.le_of_ble_eq_true rfl) (Nat.le_of_ble_eq_true rfl) rfl rfl (Nat.le_of_ble_eq_true rfl) ?_
  have f122 := f121.up
  refine rc_putR K Z ffX10_91 dX10_init_554 rfl (Nat.le_of_ble_eq_true rfl) rfl ?_
  have f123 := f122.wR (o := 59) (k := 44) (q := 85) (Nat.le_of_ble_eq_true rfl) (Nat.le_of_ble_eq_true rfl)
  exact rc_vret K Z dX10_init_557 rfl rfl)
