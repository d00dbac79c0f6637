def fX0_forgetOldest (h : AH) : Option AH :=
  letV (wI h 38 5 39) fun h1 => if cpOK 1 0 (h1.1 38 5) 40 40 = true then letV (cpI h1 39 (ix 1) 39 (ix 0) (ix (h1.1 38 5))) fun h4 => if cpOK 1 0 (h4.1 38 5) 40 40 = true then letV (cpI h4 40 (ix 1) 40 (ix 0) (ix (h4.1 38 5))) fun h7 => if cpOK 1 0 (h7.1 38 5) 40 40 = true then letV (cpI h7 41 (ix 1) 41 (ix 0) (ix (h7.1 38 5))) fun h10 => if cpOK 1 0 (h10.1 38 5) 40 40 = true then letV (cpI h10 42 (ix 1) 42 (ix 0) (ix (h10.1 38 5))) fun h13 => some h13 else none else none else none else none
set_option maxRecDepth 10000 in
theorem sX0_forgetOldest {G : GG} {E : EE} {h' : AH} (K : OK G E 1 RX0 cX0_forgetOldest 1) (Z : RT G E none (none) h') (h : AH) (hf : fX0_forgetOldest h = some h') : JJ G E 1 0 [(0, .ref 38)] [] h := by
  unfold fX0_forgetOldest at hf
  refine r_aload_n K dX0_forgetOldest_0 0 rfl rfl ?_
  refine r_bipush (v := 39) K dX0_forgetOldest_1 rfl ?_
  obtain ⟨h1, e2, hf⟩ := e_l hf
  refine r_putI K fpX0_28 dX0_forgetOldest_3 rfl rfl e2 ?_
  refine r_aload_n K dX0_forgetOldest_6 0 rfl rfl ?_
  refine r_getR (o' := 39) K flX0_9 dX0_forgetOldest_7 rfl rfl rfl ?_
  refine r_iconst (v := 1) K dX0_forgetOldest_10 rfl ?_
  refine r_aload_n K dX0_forgetOldest_11 0 rfl rfl ?_
  refine r_getR (o' := 39) K flX0_9 dX0_forgetOldest_12 rfl rfl rfl ?_
  refine r_iconst (v := 0) K dX0_forgetOldest_15 rfl ?_
  refine r_aload_n K dX0_forgetOldest_16 0 rfl rfl ?_
  refine r_getI K flX0_28 dX0_forgetOldest_17 rfl rfl ?_
  obtain ⟨g3, hf⟩ := e_g hf
  obtain ⟨h4, e5, hf⟩ := e_l hf
  refine r_acopyi K lmX0_34 dX0_forgetOldest_20 rfl rfl g3 (Nat.le_of_ble_eq_true rfl) (Nat.le_of_ble_eq_true rfl) e5 ?_
  refine r_aload_n K dX0_forgetOldest_23 0 rfl rfl ?_
  refine r_getR (o' := 40) K flX0_15 dX0_forgetOldest_24 rfl rfl rfl ?_
  refine r_iconst (v := 1) K dX0_forgetOldest_27 rfl ?_
  refine r_aload_n K dX0_forgetOldest_28 0 rfl rfl ?_
  refine r_getR (o' := 40) K flX0_15 dX0_forgetOldest_29 rfl rfl rfl ?_
  refine r_iconst (v := 0) K dX0_forgetOldest_32 rfl ?_
  refine r_aload_n K dX0_forgetOldest_33 0 rfl rfl ?_
  refine r_getI K flX0_28 dX0_forgetOldest_34 rfl rfl ?_
  obtain ⟨g6, hf⟩ := e_g hf
  obtain ⟨h7, e8, hf⟩ := e_l hf
  refine r_acopyi K lmX0_34 dX0_forgetOldest_37 rfl rfl g6 (Nat.le_of_ble_eq_true rfl) (Nat.le_of_ble_eq_true rfl) e8 ?_
  refine r_aload_n K dX0_forgetOldest_40 0 rfl rfl ?_
  refine r_getR (o' := 41) K flX0_18 dX0_forgetOldest_41 rfl rfl rfl ?_
  refine r_iconst (v := 1) K dX0_forgetOldest_44 rfl ?_
  refine r_aload_n K dX0_forgetOldest_45 0 rfl rfl ?_
  refine r_getR (o' := 41) K flX0_18 dX0_forgetOldest_46 rfl rfl rfl ?_
  refine r_iconst (v := 0) K dX0_forgetOldest_49 rfl ?_
  refine r_aload_n K dX0_forgetOldest_50 0 rfl rfl ?_
  refine r_getI K flX0_28 dX0_forgetOldest_51 rfl rfl ?_
  obtain ⟨g9, hf⟩ := e_g hf
  obtain ⟨h10, e11, hf⟩ := e_l hf
  refine r_acopyi K lmX0_34 dX0_forgetOldest_54 rfl rfl g9 (Nat.le_of_ble_eq_true rfl) (Nat.le_of_ble_eq_true rfl) e11 ?_
  refine r_aload_n K dX0_forgetOldest_57 0 rfl rfl ?_
  refine r_getR (o' := 42) K flX0_21 dX0_forgetOldest_58 rfl rfl rfl ?_
  refine r_iconst (v := 1) K dX0_forgetOldest_61 rfl ?_
  refine r_aload_n K dX0_forgetOldest_62 0 rfl rfl ?_
  refine r_getR (o' := 42) K flX0_21 dX0_forgetOldest_63 rfl rfl rfl ?_
  refine r_iconst (v := 0) K dX0_forgetOldest_66 rfl ?_
  refine r_aload_n K dX0_forgetOldest_67 0 rfl rfl ?_
  refine r_getI K flX0_28 dX0_forgetOldest_68 rfl rfl ?_
  obtain ⟨g12, hf⟩ := e_g hf
  obtain ⟨h13, e14, hf⟩ := e_l hf
  refine r_acopyi K lmX0_34 dX0_forgetOldest_71 rfl rfl g12 (Nat.le_of_ble_eq_true rfl) (Nat.le_of_ble_eq_true rfl) e14 ?_
  exact r_vret K Z dX0_forgetOldest_74 hf
theorem conX0_forgetOldest {G : GG} (h : AH) (h' : AH) (hf : fX0_forgetOldest h = some h') : Con G 1 yX0_forgetOldest cX0_forgetOldest 1 none [.ref 38] h (none) h' := con_of mwX0_forgetOldest (Nat.le_of_ble_eq_true rfl) (fun E K Z => sX0_forgetOldest K Z h hf)
def fX0_add_13 (p0 : Int32) (p1 : Int32) (p2 : Int32) (p3 : Int32) (x1 : Int32) (x2 : Int32) (x3 : Int32) (x4 : Int32) (h : AH) : Option AH :=
  if inb (h.1 38 5) 40 = true then letV (wI h 39 (ix (h.1 38 5)) x1) fun h3 => if inb (h3.1 38 5) 40 = true then letV (wI h3 40 (ix (h3.1 38 5)) x2) fun h6 => if inb (h6.1 38 5) 40 = true then letV (wI h6 41 (ix (h6.1 38 5)) x3) fun h9 => if inb (h9.1 38 5) 40 = true then letV (wI h9 42 (ix (h9.1 38 5)) x4) fun h12 => letV (wI h12 38 5 ((h12.1 38 5) + 1)) fun h14 => letV (wI h14 38 4 (h14.1 38 5)) fun h16 => some h16 else none else none else none else none
set_option maxRecDepth 10000 in
theorem sX0_add_13 {G : GG} {E : EE} {h' : AH} (K : OK G E 2 RX0 cX0_add 5) (Z : RT G E none (none) h') (p0 : Int32) (p1 : Int32) (p2 : Int32) (p3 : Int32) (x1 : Int32) (x2 : Int32) (x3 : Int32) (x4 : Int32) (h : AH) (hf : fX0_add_13 p0 p1 p2 p3 x1 x2 x3 x4 h = some h') : JJ G E 5 13 [(0, .ref 38), (1, .int x1), (2, .int x2), (3, .int x3), (4, .int x4)] [] h := by
  unfold fX0_add_13 at hf
  refine r_aload_n K dX0_add_13 0 rfl rfl ?_
  refine r_getR (o' := 39) K flX0_9 dX0_add_14 rfl rfl rfl ?_
  refine r_aload_n K dX0_add_17 0 rfl rfl ?_
  refine r_getI K flX0_28 dX0_add_18 rfl rfl ?_
  refine r_iload_n K dX0_add_21 1 rfl rfl ?_
  obtain ⟨g2, hf⟩ := e_g hf
  obtain ⟨h3, e4, hf⟩ := e_l hf
  refine r_iast K dX0_add_22 rfl g2 e4 ?_
  refine r_aload_n K dX0_add_23 0 rfl rfl ?_
  refine r_getR (o' := 40) K flX0_15 dX0_add_24 rfl rfl rfl ?_
  refine r_aload_n K dX0_add_27 0 rfl rfl ?_
  refine r_getI K flX0_28 dX0_add_28 rfl rfl ?_
  refine r_iload_n K dX0_add_31 2 rfl rfl ?_
  obtain ⟨g5, hf⟩ := e_g hf
  obtain ⟨h6, e7, hf⟩ := e_l hf
  refine r_iast K dX0_add_32 rfl g5 e7 ?_
  refine r_aload_n K dX0_add_33 0 rfl rfl ?_
  refine r_getR (o' := 41) K flX0_18 dX0_add_34 rfl rfl rfl ?_
  refine r_aload_n K dX0_add_37 0 rfl rfl ?_
  refine r_getI K flX0_28 dX0_add_38 rfl rfl ?_
  refine r_iload_n K dX0_add_41 3 rfl rfl ?_
  obtain ⟨g8, hf⟩ := e_g hf
  obtain ⟨h9, e10, hf⟩ := e_l hf
  refine r_iast K dX0_add_42 rfl g8 e10 ?_
  refine r_aload_n K dX0_add_43 0 rfl rfl ?_
  refine r_getR (o' := 42) K flX0_21 dX0_add_44 rfl rfl rfl ?_
  refine r_aload_n K dX0_add_47 0 rfl rfl ?_
  refine r_getI K flX0_28 dX0_add_48 rfl rfl ?_
  refine r_iload K dX0_add_51 4 rfl ?_
  obtain ⟨g11, hf⟩ := e_g hf
  obtain ⟨h12, e13, hf⟩ := e_l hf
  refine r_iast K dX0_add_53 rfl g11 e13 ?_
  refine r_aload_n K dX0_add_54 0 rfl rfl ?_
  refine r_dup K dX0_add_55 rfl ?_
  refine r_getI K flX0_28 dX0_add_56 rfl rfl ?_
  refine r_iconst (v := 1) K dX0_add_59 rfl ?_
  refine r_iadd K dX0_add_60 ?_
  obtain ⟨h14, e15, hf⟩ := e_l hf
  refine r_putI K fpX0_28 dX0_add_61 rfl rfl e15 ?_
  refine r_aload_n K dX0_add_64 0 rfl rfl ?_
  refine r_aload_n K dX0_add_65 0 rfl rfl ?_
  refine r_getI K flX0_28 dX0_add_66 rfl rfl ?_
  obtain ⟨h16, e17, hf⟩ := e_l hf
  refine r_putI K fpX0_24 dX0_add_69 rfl rfl e17 ?_
  exact r_vret K Z dX0_add_72 hf
def fX0_add (p0 : Int32) (p1 : Int32) (p2 : Int32) (p3 : Int32) (h : AH) : Option AH :=
  if (h.1 38 5) < 40 then fX0_add_13 p0 p1 p2 p3 p0 p1 p2 p3 h else bindV (fX0_forgetOldest  h) fun h19 => fX0_add_13 p0 p1 p2 p3 p0 p1 p2 p3 h19
set_option maxRecDepth 10000 in
theorem sX0_add {G : GG} {E : EE} {h' : AH} (K : OK G E 2 RX0 cX0_add 5) (Z : RT G E none (none) h') (p0 : Int32) (p1 : Int32) (p2 : Int32) (p3 : Int32) (h : AH) (hf : fX0_add p0 p1 p2 p3 h = some h') : JJ G E 5 0 [(0, .ref 38), (1, .int p0), (2, .int p1), (3, .int p2), (4, .int p3)] [] h := by
  unfold fX0_add at hf
  refine r_aload_n K dX0_add_0 0 rfl rfl ?_
  refine r_getI K flX0_28 dX0_add_1 rfl rfl ?_
  refine r_bipush (v := 40) K dX0_add_4 rfl ?_
  refine r_icmp_lt (tgt := 13) K dX0_add_6 (by decide) (fun c1 => ?_) (fun c1 => ?_)
  · have hf := e_t hf c1
    refine r_lv [0, 1, 2, 3, 4] rfl ?_
    exact sX0_add_13 K Z p0 p1 p2 p3 p0 p1 p2 p3 h hf
  · have hf := e_f hf c1
    refine r_aload_n K dX0_add_9 0 rfl rfl ?_
    obtain ⟨h19, g20, hf⟩ := e_v hf
    refine r_callV (av := []) (st := []) K lkX0_31 mwX0_forgetOldest (conX0_forgetOldest  h h19 g20) dX0_add_10 rfl (Nat.le_of_ble_eq_true rfl) rfl rfl (Nat.le_of_ble_eq_true rfl) ?_
    refine r_lv [0, 1, 2, 3, 4] rfl ?_
    exact sX0_add_13 K Z p0 p1 p2 p3 p0 p1 p2 p3 h19 hf
theorem conX0_add {G : GG} (p0 : Int32) (p1 : Int32) (p2 : Int32) (p3 : Int32) (h : AH) (h' : AH) (hf : fX0_add p0 p1 p2 p3 h = some h') : Con G 2 yX0_add cX0_add 5 none [.ref 38, .int p0, .int p1, .int p2, .int p3] h (none) h' := con_of mwX0_add (Nat.le_of_ble_eq_true rfl) (fun E K Z => sX0_add K Z p0 p1 p2 p3 h hf)
def fX7_hasGuest (t : Nat) (p0 : Int32) (h : AH) : Option (Int32 × AH) :=
  if p0 < 0 then some (0, h) else if (h.1 t 9) ≤ p0 then some (0, h) else some (1, h)
set_option maxRecDepth 10000 in
theorem sX7_hasGuest {G : GG} {E : EE} {rv : Int32} {h' : AH} (K : OK G E 0 RX7 cX7_hasGuest 2) (Z : RT G E (some .boolean) (some (.int rv)) h') (t : Nat) (p0 : Int32) (ht : KD t = (7, 12)) (h : AH) (hf : fX7_hasGuest t p0 h = some (rv, h')) : JJ G E 2 0 [(0, .ref t), (1, .int p0)] [] h := by
  unfold fX7_hasGuest at hf
  refine r_iload_n K dX7_hasGuest_0 1 rfl rfl ?_
  refine r_if_lt (tgt := 16) K dX7_hasGuest_1 (by decide) (fun c1 => ?_) (fun c1 => ?_)
  · have hf := e_t hf c1
    refine r_iconst (v := 0) K dX7_hasGuest_16 rfl ?_
    exact r_zret K Z dX7_hasGuest_17 rfl hf
  · have hf := e_f hf c1
    refine r_iload_n K dX7_hasGuest_4 1 rfl rfl ?_
    refine r_aload_n K dX7_hasGuest_5 0 rfl rfl ?_
    refine r_getI K flX7_39 dX7_hasGuest_6 ht rfl ?_
    refine r_icmp_ge (tgt := 16) K dX7_hasGuest_9 (by decide) (fun c2 => ?_) (fun c2 => ?_)
    · have hf := e_t hf c2
      refine r_iconst (v := 0) K dX7_hasGuest_16 rfl ?_
      exact r_zret K Z dX7_hasGuest_17 rfl hf
    · have hf := e_f hf c2
      refine r_iconst (v := 1) K dX7_hasGuest_12 rfl ?_
      refine r_goto (tgt := 17) K dX7_hasGuest_13 (by decide) ?_
      exact r_zret K Z dX7_hasGuest_17 rfl hf
theorem conX7_hasGuest {G : GG} (t : Nat) (p0 : Int32) (ht : KD t = (7, 12)) (h : AH) (rv : Int32) (h' : AH) (hf : fX7_hasGuest t p0 h = some (rv, h')) : Con G 0 yX7_hasGuest cX7_hasGuest 2 (some .boolean) [.ref t, .int p0] h (some (.int rv)) h' := con_of mwX7_hasGuest (Nat.le_of_ble_eq_true rfl) (fun E K Z => sX7_hasGuest K Z t p0 ht h hf)
def fX7_hasNumber_49 (t : Nat) (p0 : Int32) (p1 : Int32) (x1 : Int32) (h : AH) : Option (Int32 × AH) :=
  if x1 < 0 then some (0, h) else if (h.1 t 10) ≤ x1 then some (0, h) else some (1, h)
set_option maxRecDepth 10000 in
theorem sX7_hasNumber_49 {G : GG} {E : EE} {rv : Int32} {h' : AH} (K : OK G E 1 RX7 cX7_hasNumber 3) (Z : RT G E (some .boolean) (some (.int rv)) h') (t : Nat) (p0 : Int32) (p1 : Int32) (ht : KD t = (7, 12)) (x1 : Int32) (h : AH) (hf : fX7_hasNumber_49 t p0 p1 x1 h = some (rv, h')) : JJ G E 3 49 [(0, .ref t), (1, .int x1)] [] h := by
  unfold fX7_hasNumber_49 at hf
  refine r_iload_n K dX7_hasNumber_49 1 rfl rfl ?_
  refine r_if_lt (tgt := 65) K dX7_hasNumber_50 (by decide) (fun c4 => ?_) (fun c4 => ?_)
  · have hf := e_t hf c4
    refine r_iconst (v := 0) K dX7_hasNumber_65 rfl ?_
    exact r_zret K Z dX7_hasNumber_66 rfl hf
  · have hf := e_f hf c4
    refine r_iload_n K dX7_hasNumber_53 1 rfl rfl ?_
    refine r_aload_n K dX7_hasNumber_54 0 rfl rfl ?_
    refine r_getI K flX7_43 dX7_hasNumber_55 ht rfl ?_
    refine r_icmp_ge (tgt := 65) K dX7_hasNumber_58 (by decide) (fun c5 => ?_) (fun c5 => ?_)
    · have hf := e_t hf c5
      refine r_iconst (v := 0) K dX7_hasNumber_65 rfl ?_
      exact r_zret K Z dX7_hasNumber_66 rfl hf
    · have hf := e_f hf c5
      refine r_iconst (v := 1) K dX7_hasNumber_61 rfl ?_
      refine r_goto (tgt := 66) K dX7_hasNumber_62 (by decide) ?_
      exact r_zret K Z dX7_hasNumber_66 rfl hf
def fX7_hasNumber_15 (t : Nat) (p0 : Int32) (p1 : Int32) (x1 : Int32) (x2 : Int32) (h : AH) : Option (Int32 × AH) :=
  if x2 = 8 then if x1 = 0 then some (1, h) else some (0, h) else if x2 = 6 then fX7_hasNumber_49 t p0 p1 x1 h else if x2 = 7 then fX7_hasNumber_49 t p0 p1 x1 h else if x2 = 9 then fX7_hasNumber_49 t p0 p1 x1 h else some (0, h)
set_option maxRecDepth 10000 in
theorem sX7_hasNumber_15 {G : GG} {E : EE} {rv : Int32} {h' : AH} (K : OK G E 1 RX7 cX7_hasNumber 3) (Z : RT G E (some .boolean) (some (.int rv)) h') (t : Nat) (p0 : Int32) (p1 : Int32) (ht : KD t = (7, 12)) (x1 : Int32) (x2 : Int32) (h : AH) (hf : fX7_hasNumber_15 t p0 p1 x1 x2 h = some (rv, h')) : JJ G E 3 15 [(0, .ref t), (1, .int x1), (2, .int x2)] [] h := by
  unfold fX7_hasNumber_15 at hf
  refine r_iload_n K dX7_hasNumber_15 2 rfl rfl ?_
  refine r_bipush (v := 8) K dX7_hasNumber_16 rfl ?_
  refine r_icmp_ne (tgt := 31) K dX7_hasNumber_18 (by decide) (fun c2 => ?_) (fun c2 => ?_)
  · have hf := e_f hf c2
    refine r_iload_n K dX7_hasNumber_31 2 rfl rfl ?_
    refine r_bipush (v := 6) K dX7_hasNumber_32 rfl ?_
    refine r_icmp_eq (tgt := 49) K dX7_hasNumber_34 (by decide) (fun c3 => ?_) (fun c3 => ?_)
    · have hf := e_t hf c3
      refine r_lv [0, 1] rfl ?_
      exact sX7_hasNumber_49 K Z t p0 p1 ht x1 h hf
    · have hf := e_f hf c3
      refine r_iload_n K dX7_hasNumber_37 2 rfl rfl ?_
      refine r_bipush (v := 7) K dX7_hasNumber_38 rfl ?_
      refine r_icmp_eq (tgt := 49) K dX7_hasNumber_40 (by decide) (fun c6 => ?_) (fun c6 => ?_)
      · have hf := e_t hf c6
        refine r_lv [0, 1] rfl ?_
        exact sX7_hasNumber_49 K Z t p0 p1 ht x1 h hf
      · have hf := e_f hf c6
        refine r_iload_n K dX7_hasNumber_43 2 rfl rfl ?_
        refine r_bipush (v := 9) K dX7_hasNumber_44 rfl ?_
        refine r_icmp_ne (tgt := 65) K dX7_hasNumber_46 (by decide) (fun c7 => ?_) (fun c7 => ?_)
        · have hf := e_f hf c7
          refine r_iconst (v := 0) K dX7_hasNumber_65 rfl ?_
          exact r_zret K Z dX7_hasNumber_66 rfl hf
        · have hf := e_t hf c7
          refine r_lv [0, 1] rfl ?_
          exact sX7_hasNumber_49 K Z t p0 p1 ht x1 h hf
  · have hf := e_t hf c2
    refine r_iload_n K dX7_hasNumber_21 1 rfl rfl ?_
    refine r_if_ne (tgt := 29) K dX7_hasNumber_22 (by decide) (fun c8 => ?_) (fun c8 => ?_)
    · have hf := e_f hf c8
      refine r_iconst (v := 0) K dX7_hasNumber_29 rfl ?_
      exact r_zret K Z dX7_hasNumber_30 rfl hf
    · have hf := e_t hf c8
      refine r_iconst (v := 1) K dX7_hasNumber_25 rfl ?_
      refine r_goto (tgt := 30) K dX7_hasNumber_26 (by decide) ?_
      exact r_zret K Z dX7_hasNumber_30 rfl hf
def fX7_hasNumber (t : Nat) (p0 : Int32) (p1 : Int32) (h : AH) : Option (Int32 × AH) :=
  if p1 < 0 then fX7_hasNumber_15 t p0 p1 p0 p1 h else if 5 < p1 then fX7_hasNumber_15 t p0 p1 p0 p1 h else bind2 (fX7_hasGuest t p0 h) fun r10 h11 => if isB r10 = true then some (r10, h11) else none
set_option maxRecDepth 10000 in
theorem sX7_hasNumber {G : GG} {E : EE} {rv : Int32} {h' : AH} (K : OK G E 1 RX7 cX7_hasNumber 3) (Z : RT G E (some .boolean) (some (.int rv)) h') (t : Nat) (p0 : Int32) (p1 : Int32) (ht : KD t = (7, 12)) (h : AH) (hf : fX7_hasNumber t p0 p1 h = some (rv, h')) : JJ G E 3 0 [(0, .ref t), (1, .int p0), (2, .int p1)] [] h := by
  unfold fX7_hasNumber at hf
  refine r_iload_n K dX7_hasNumber_0 2 rfl rfl ?_
  refine r_if_lt (tgt := 15) K dX7_hasNumber_1 (by decide) (fun c1 => ?_) (fun c1 => ?_)
  · have hf := e_t hf c1
    refine r_lv [0, 1, 2] rfl ?_
    exact sX7_hasNumber_15 K Z t p0 p1 ht p0 p1 h hf
  · have hf := e_f hf c1
    refine r_iload_n K dX7_hasNumber_4 2 rfl rfl ?_
    refine r_iconst (v := 5) K dX7_hasNumber_5 rfl ?_
    refine r_icmp_gt (tgt := 15) K dX7_hasNumber_6 (by decide) (fun c9 => ?_) (fun c9 => ?_)
    · have hf := e_t hf c9
      refine r_lv [0, 1, 2] rfl ?_
      exact sX7_hasNumber_15 K Z t p0 p1 ht p0 p1 h hf
    · have hf := e_f hf c9
      refine r_aload_n K dX7_hasNumber_9 0 rfl rfl ?_
      refine r_iload_n K dX7_hasNumber_10 1 rfl rfl ?_
      obtain ⟨r10, h11, g12, hf⟩ := e_2 hf
      refine r_callV (av := [.int p0]) (st := []) K lkX7_49 mwX7_hasGuest (conX7_hasGuest t p0 ht h r10 h11 g12) dX7_hasNumber_11 ht (Nat.le_of_ble_eq_true rfl) rfl rfl (Nat.le_of_ble_eq_true rfl) ?_
      obtain ⟨g13, hf⟩ := e_g hf
      exact r_zret K Z dX7_hasNumber_14 g13 hf
theorem conX7_hasNumber {G : GG} (t : Nat) (p0 : Int32) (p1 : Int32) (ht : KD t = (7, 12)) (h : AH) (rv : Int32) (h' : AH) (hf : fX7_hasNumber t p0 p1 h = some (rv, h')) : Con G 1 yX7_hasNumber cX7_hasNumber 3 (some .boolean) [.ref t, .int p0, .int p1] h (some (.int rv)) h' := con_of mwX7_hasNumber (Nat.le_of_ble_eq_true rfl) (fun E K Z => sX7_hasNumber K Z t p0 p1 ht h hf)
def fX7_numbersOf (t : Nat) (p0 : Int32) (h : AH) : Option (Nat × AH) :=
  if p0 = 0 then some ((rf t 0), h) else if p0 = 1 then some ((rf t 1), h) else if p0 = 2 then some ((rf t 2), h) else if p0 = 3 then some ((rf t 3), h) else if p0 = 4 then some ((rf t 4), h) else if p0 = 5 then some ((rf t 5), h) else if p0 = 6 then some ((rf t 7), h) else if p0 = 7 then some ((rf t 8), h) else some ((rf t 6), h)
set_option maxRecDepth 10000 in
theorem sX7_numbersOf {G : GG} {E : EE} {rv : Nat} {h' : AH} (K : OK G E 0 RX7 cX7_numbersOf 2) (Z : RT G E (some (.array .int)) (some (.ref rv)) h') (t : Nat) (p0 : Int32) (ht : KD t = (7, 12)) (h : AH) (hf : fX7_numbersOf t p0 h = some (rv, h')) : JJ G E 2 0 [(0, .ref t), (1, .int p0)] [] h := by
  unfold fX7_numbersOf at hf
  refine r_iload_n K dX7_numbersOf_0 1 rfl rfl ?_
  by_cases c1 : p0 = 0
  · have hf := e_t hf c1
    refine r_tblIn (off := 47) (tgt := 48) K dX7_numbersOf_1 (by rw [c1]; decide) (by rw [c1]; decide) (by rw [c1]; decide) (by decide) ?_
    refine r_aload_n K dX7_numbersOf_48 0 rfl rfl ?_
    refine r_getR (o' := (rf t 0)) K flX7_9 dX7_numbersOf_49 ht rfl rfl ?_
    exact r_aret K Z dX7_numbersOf_52 hf
  have hf := e_f hf c1
  by_cases c2 : p0 = 1
  · have hf := e_t hf c2
    refine r_tblIn (off := 52) (tgt := 53) K dX7_numbersOf_1 (by rw [c2]; decide) (by rw [c2]; decide) (by rw [c2]; decide) (by decide) ?_
    refine r_aload_n K dX7_numbersOf_53 0 rfl rfl ?_
    refine r_getR (o' := (rf t 1)) K flX7_15 dX7_numbersOf_54 ht rfl rfl ?_
    exact r_aret K Z dX7_numbersOf_57 hf
  have hf := e_f hf c2
  by_cases c3 : p0 = 2
  · have hf := e_t hf c3
    refine r_tblIn (off := 57) (tgt := 58) K dX7_numbersOf_1 (by rw [c3]; decide) (by rw [c3]; decide) (by rw [c3]; decide) (by decide) ?_
    refine r_aload_n K dX7_numbersOf_58 0 rfl rfl ?_
    refine r_getR (o' := (rf t 2)) K flX7_18 dX7_numbersOf_59 ht rfl rfl ?_
    exact r_aret K Z dX7_numbersOf_62 hf
  have hf := e_f hf c3
  by_cases c4 : p0 = 3
  · have hf := e_t hf c4
    refine r_tblIn (off := 62) (tgt := 63) K dX7_numbersOf_1 (by rw [c4]; decide) (by rw [c4]; decide) (by rw [c4]; decide) (by decide) ?_
    refine r_aload_n K dX7_numbersOf_63 0 rfl rfl ?_
    refine r_getR (o' := (rf t 3)) K flX7_21 dX7_numbersOf_64 ht rfl rfl ?_
    exact r_aret K Z dX7_numbersOf_67 hf
  have hf := e_f hf c4
  by_cases c5 : p0 = 4
  · have hf := e_t hf c5
    refine r_tblIn (off := 67) (tgt := 68) K dX7_numbersOf_1 (by rw [c5]; decide) (by rw [c5]; decide) (by rw [c5]; decide) (by decide) ?_
    refine r_aload_n K dX7_numbersOf_68 0 rfl rfl ?_
    refine r_getR (o' := (rf t 4)) K flX7_24 dX7_numbersOf_69 ht rfl rfl ?_
    exact r_aret K Z dX7_numbersOf_72 hf
  have hf := e_f hf c5
  by_cases c6 : p0 = 5
  · have hf := e_t hf c6
    refine r_tblIn (off := 72) (tgt := 73) K dX7_numbersOf_1 (by rw [c6]; decide) (by rw [c6]; decide) (by rw [c6]; decide) (by decide) ?_
    refine r_aload_n K dX7_numbersOf_73 0 rfl rfl ?_
    refine r_getR (o' := (rf t 5)) K flX7_27 dX7_numbersOf_74 ht rfl rfl ?_
    exact r_aret K Z dX7_numbersOf_77 hf
  have hf := e_f hf c6
  by_cases c7 : p0 = 6
  · have hf := e_t hf c7
    refine r_tblIn (off := 77) (tgt := 78) K dX7_numbersOf_1 (by rw [c7]; decide) (by rw [c7]; decide) (by rw [c7]; decide) (by decide) ?_
    refine r_aload_n K dX7_numbersOf_78 0 rfl rfl ?_
    refine r_getR (o' := (rf t 7)) K flX7_33 dX7_numbersOf_79 ht rfl rfl ?_
    exact r_aret K Z dX7_numbersOf_82 hf
  have hf := e_f hf c7
  by_cases c8 : p0 = 7
  · have hf := e_t hf c8
    refine r_tblIn (off := 82) (tgt := 83) K dX7_numbersOf_1 (by rw [c8]; decide) (by rw [c8]; decide) (by rw [c8]; decide) (by decide) ?_
    refine r_aload_n K dX7_numbersOf_83 0 rfl rfl ?_
    refine r_getR (o' := (rf t 8)) K flX7_36 dX7_numbersOf_84 ht rfl rfl ?_
    exact r_aret K Z dX7_numbersOf_87 hf
  have hf := e_f hf c8
  have hout : p0.toInt < 0 ∨ 7 < p0.toInt := by
    have zc1 := lv_neT (a := 0) c1 (by decide)
    have zc2 := lv_neT (a := 1) c2 (by decide)
    have zc3 := lv_neT (a := 2) c3 (by decide)
    have zc4 := lv_neT (a := 3) c4 (by decide)
    have zc5 := lv_neT (a := 4) c5 (by decide)
    have zc6 := lv_neT (a := 5) c6 (by decide)
    have zc7 := lv_neT (a := 6) c7 (by decide)
    have zc8 := lv_neT (a := 7) c8 (by decide)
    omega
  refine r_tblOut (tgt := 88) K dX7_numbersOf_1 hout (by decide) ?_
  refine r_aload_n K dX7_numbersOf_88 0 rfl rfl ?_
  refine r_getR (o' := (rf t 6)) K flX7_30 dX7_numbersOf_89 ht rfl rfl ?_
  exact r_aret K Z dX7_numbersOf_92 hf
theorem conX7_numbersOf {G : GG} (t : Nat) (p0 : Int32) (ht : KD t = (7, 12)) (h : AH) (rv : Nat) (h' : AH) (hf : fX7_numbersOf t p0 h = some (rv, h')) : Con G 0 yX7_numbersOf cX7_numbersOf 2 (some (.array .int)) [.ref t, .int p0] h (some (.ref rv)) h' := con_of mwX7_numbersOf (Nat.le_of_ble_eq_true rfl) (fun E K Z => sX7_numbersOf K Z t p0 ht h hf)
def fX7_setNumber (t : Nat) (p0 : Int32) (p1 : Int32) (p2 : Int32) (h : AH) : Option AH :=
  bind2 (fX7_hasNumber t p0 p1 h) fun r1 h2 => if r1 = 0 then some h2 else if p1 = 8 then letV (wI h2 t 11 p2) fun h12 => some h12 else bind2 (fX7_numbersOf t p1 h2) fun r6 h7 => if KD r6 = (20, (KD r6).2) ∧ inb p0 (KD r6).2 = true then letV (wI h7 r6 (ix p0) p2) fun h10 => some h10 else none
set_option maxRecDepth 10000 in
theorem sX7_setNumber {G : GG} {E : EE} {h' : AH} (K : OK G E 2 RX7 cX7_setNumber 4) (Z : RT G E none (none) h') (t : Nat) (p0 : Int32) (p1 : Int32) (p2 : Int32) (ht : KD t = (7, 12)) (h : AH) (hf : fX7_setNumber t p0 p1 p2 h = some h') : JJ G E 4 0 [(0, .ref t), (1, .int p0), (2, .int p1), (3, .int p2)] [] h := by
  unfold fX7_setNumber at hf
  refine r_aload_n K dX7_setNumber_0 0 rfl rfl ?_
  refine r_iload_n K dX7_setNumber_1 1 rfl rfl ?_
  refine r_iload_n K dX7_setNumber_2 2 rfl rfl ?_
  obtain ⟨r1, h2, g3, hf⟩ := e_2 hf
  refine r_callV (av := [.int p0, .int p1]) (st := []) K lkX7_53 mwX7_hasNumber (conX7_hasNumber t p0 p1 ht h r1 h2 g3) dX7_setNumber_3 ht (Nat.le_of_ble_eq_true rfl) rfl rfl (Nat.le_of_ble_eq_true rfl) ?_
  refine r_if_ne (tgt := 10) K dX7_setNumber_6 (by decide) (fun c4 => ?_) (fun c4 => ?_)
  · have hf := e_f hf c4
    refine r_iload_n K dX7_setNumber_10 2 rfl rfl ?_
    refine r_bipush (v := 8) K dX7_setNumber_11 rfl ?_
    refine r_icmp_ne (tgt := 24) K dX7_setNumber_13 (by decide) (fun c5 => ?_) (fun c5 => ?_)
    · have hf := e_f hf c5
      refine r_aload_n K dX7_setNumber_24 0 rfl rfl ?_
      refine r_iload_n K dX7_setNumber_25 2 rfl rfl ?_
      obtain ⟨r6, h7, g8, hf⟩ := e_2 hf
      refine r_callV (av := [.int p1]) (st := []) K lkX7_57 mwX7_numbersOf (conX7_numbersOf t p1 ht h2 r6 h7 g8) dX7_setNumber_26 ht (Nat.le_of_ble_eq_true rfl) rfl rfl (Nat.le_of_ble_eq_true rfl) ?_
      refine r_iload_n K dX7_setNumber_29 1 rfl rfl ?_
      refine r_iload_n K dX7_setNumber_30 3 rfl rfl ?_
      obtain ⟨g9, hf⟩ := e_g hf
      obtain ⟨h10, e11, hf⟩ := e_l hf
      refine r_iast K dX7_setNumber_31 g9.1 g9.2 e11 ?_
      exact r_vret K Z dX7_setNumber_32 hf
    · have hf := e_t hf c5
      refine r_aload_n K dX7_setNumber_16 0 rfl rfl ?_
      refine r_iload_n K dX7_setNumber_17 3 rfl rfl ?_
      obtain ⟨h12, e13, hf⟩ := e_l hf
      refine r_putI K fpX7_46 dX7_setNumber_18 ht rfl e13 ?_
      refine r_goto (tgt := 32) K dX7_setNumber_21 (by decide) ?_
      exact r_vret K Z dX7_setNumber_32 hf
  · have hf := e_t hf c4
    exact r_vret K Z dX7_setNumber_9 hf
theorem conX7_setNumber {G : GG} (t : Nat) (p0 : Int32) (p1 : Int32) (p2 : Int32) (ht : KD t = (7, 12)) (h : AH) (h' : AH) (hf : fX7_setNumber t p0 p1 p2 h = some h') : Con G 2 yX7_setNumber cX7_setNumber 4 none [.ref t, .int p0, .int p1, .int p2] h (none) h' := con_of mwX7_setNumber (Nat.le_of_ble_eq_true rfl) (fun E K Z => sX7_setNumber K Z t p0 p1 p2 ht h hf)
def fX0_stepBack (p0 : Nat) (h : AH) : Option (Int32 × AH) :=
  if 0 < (h.1 38 5) then letV (wI h 38 5 ((h.1 38 5) - 1)) fun h2 => if inb (h2.1 38 5) 40 = true then bindV (fX7_setNumber p0 (h2.1 39 (ix (h2.1 38 5))) (h2.1 40 (ix (h2.1 38 5))) (h2.1 41 (ix (h2.1 38 5))) h2) fun h8 => some ((h8.1 38 5), h8) else none else some ((-5), h)
set_option maxRecDepth 10000 in
theorem sX0_stepBack {G : GG} {E : EE} {rv : Int32} {h' : AH} (K : OK G E 3 RX0 cX0_stepBack 2) (Z : RT G E (some .int) (some (.int rv)) h') (p0 : Nat) (hp0 : KD p0 = (7, 12)) (h : AH) (hf : fX0_stepBack p0 h = some (rv, h')) : JJ G E 2 0 [(0, .ref 38), (1, .ref p0)] [] h := by
  unfold fX0_stepBack at hf
  refine r_aload_n K dX0_stepBack_0 0 rfl rfl ?_
  refine r_getI K flX0_28 dX0_stepBack_1 rfl rfl ?_
  refine r_if_gt (tgt := 10) K dX0_stepBack_4 (by decide) (fun c1 => ?_) (fun c1 => ?_)
  · have hf := e_t hf c1
    refine r_aload_n K dX0_stepBack_10 0 rfl rfl ?_
    refine r_dup K dX0_stepBack_11 rfl ?_
    refine r_getI K flX0_28 dX0_stepBack_12 rfl rfl ?_
    refine r_iconst (v := 1) K dX0_stepBack_15 rfl ?_
    refine r_isub K dX0_stepBack_16 ?_
    obtain ⟨h2, e3, hf⟩ := e_l hf
    refine r_putI K fpX0_28 dX0_stepBack_17 rfl rfl e3 ?_
    refine r_aload_n K dX0_stepBack_20 1 rfl rfl ?_
    refine r_aload_n K dX0_stepBack_21 0 rfl rfl ?_
    refine r_getR (o' := 39) K flX0_9 dX0_stepBack_22 rfl rfl rfl ?_
    refine r_aload_n K dX0_stepBack_25 0 rfl rfl ?_
    refine r_getI K flX0_28 dX0_stepBack_26 rfl rfl ?_
    obtain ⟨g4, hf⟩ := e_g hf
    refine r_iald K dX0_stepBack_29 rfl g4 ?_
    refine r_aload_n K dX0_stepBack_30 0 rfl rfl ?_
    refine r_getR (o' := 40) K flX0_15 dX0_stepBack_31 rfl rfl rfl ?_
    refine r_aload_n K dX0_stepBack_34 0 rfl rfl ?_
    refine r_getI K flX0_28 dX0_stepBack_35 rfl rfl ?_
    refine r_iald K dX0_stepBack_38 rfl g4 ?_
    refine r_aload_n K dX0_stepBack_39 0 rfl rfl ?_
    refine r_getR (o' := 41) K flX0_18 dX0_stepBack_40 rfl rfl rfl ?_
    refine r_aload_n K dX0_stepBack_43 0 rfl rfl ?_
    refine r_getI K flX0_28 dX0_stepBack_44 rfl rfl ?_
    refine r_iald K dX0_stepBack_47 rfl g4 ?_
    obtain ⟨h8, g9, hf⟩ := e_v hf
    refine r_callV (av := [.int (h2.1 39 (ix (h2.1 38 5))), .int (h2.1 40 (ix (h2.1 38 5))), .int (h2.1 41 (ix (h2.1 38 5)))]) (st := []) K lkX0_40 mwX7_setNumber (conX7_setNumber p0 (h2.1 39 (ix (h2.1 38 5))) (h2.1 40 (ix (h2.1 38 5))) (h2.1 41 (ix (h2.1 38 5))) hp0 h2 h8 g9) dX0_stepBack_48 hp0 (Nat.le_of_ble_eq_true rfl) rfl rfl (Nat.le_of_ble_eq_true rfl) ?_
    refine r_aload_n K dX0_stepBack_51 0 rfl rfl ?_
    refine r_getI K flX0_28 dX0_stepBack_52 rfl rfl ?_
    exact r_iret K Z dX0_stepBack_55 hf
  · have hf := e_f hf c1
    refine r_bipush (v := (-5)) K dX0_stepBack_7 rfl ?_
    exact r_iret K Z dX0_stepBack_9 hf
theorem conX0_stepBack {G : GG} (p0 : Nat) (hp0 : KD p0 = (7, 12)) (h : AH) (rv : Int32) (h' : AH) (hf : fX0_stepBack p0 h = some (rv, h')) : Con G 3 yX0_stepBack cX0_stepBack 2 (some .int) [.ref 38, .ref p0] h (some (.int rv)) h' := con_of mwX0_stepBack (Nat.le_of_ble_eq_true rfl) (fun E K Z => sX0_stepBack K Z p0 hp0 h hf)
def fX0_stepOn (p0 : Nat) (h : AH) : Option (Int32 × AH) :=
  if (h.1 38 5) < (h.1 38 4) then if inb (h.1 38 5) 40 = true then bindV (fX7_setNumber p0 (h.1 39 (ix (h.1 38 5))) (h.1 40 (ix (h.1 38 5))) (h.1 42 (ix (h.1 38 5))) h) fun h6 => letV (wI h6 38 5 ((h6.1 38 5) + 1)) fun h8 => some (((h8.1 38 4) - (h8.1 38 5)), h8) else none else some ((-5), h)
set_option maxRecDepth 10000 in
theorem sX0_stepOn {G : GG} {E : EE} {rv : Int32} {h' : AH} (K : OK G E 3 RX0 cX0_stepOn 2) (Z : RT G E (some .int) (some (.int rv)) h') (p0 : Nat) (hp0 : KD p0 = (7, 12)) (h : AH) (hf : fX0_stepOn p0 h = some (rv, h')) : JJ G E 2 0 [(0, .ref 38), (1, .ref p0)] [] h := by
  unfold fX0_stepOn at hf
  refine r_aload_n K dX0_stepOn_0 0 rfl rfl ?_
  refine r_getI K flX0_28 dX0_stepOn_1 rfl rfl ?_
  refine r_aload_n K dX0_stepOn_4 0 rfl rfl ?_
  refine r_getI K flX0_24 dX0_stepOn_5 rfl rfl ?_
  refine r_icmp_lt (tgt := 14) K dX0_stepOn_8 (by decide) (fun c1 => ?_) (fun c1 => ?_)
  · have hf := e_t hf c1
    refine r_aload_n K dX0_stepOn_14 1 rfl rfl ?_
    refine r_aload_n K dX0_stepOn_15 0 rfl rfl ?_
    refine r_getR (o' := 39) K flX0_9 dX0_stepOn_16 rfl rfl rfl ?_
    refine r_aload_n K dX0_stepOn_19 0 rfl rfl ?_
    refine r_getI K flX0_28 dX0_stepOn_20 rfl rfl ?_
    obtain ⟨g2, hf⟩ := e_g hf
    refine r_iald K dX0_stepOn_23 rfl g2 ?_
    refine r_aload_n K dX0_stepOn_24 0 rfl rfl ?_
    refine r_getR (o' := 40) K flX0_15 dX0_stepOn_25 rfl rfl rfl ?_
    refine r_aload_n K dX0_stepOn_28 0 rfl rfl ?_
    refine r_getI K flX0_28 dX0_stepOn_29 rfl rfl ?_
    refine r_iald K dX0_stepOn_32 rfl g2 ?_
    refine r_aload_n K dX0_stepOn_33 0 rfl rfl ?_
    refine r_getR (o' := 42) K flX0_21 dX0_stepOn_34 rfl rfl rfl ?_
    refine r_aload_n K dX0_stepOn_37 0 rfl rfl ?_
    refine r_getI K flX0_28 dX0_stepOn_38 rfl rfl ?_
    refine r_iald K dX0_stepOn_41 rfl g2 ?_
    obtain ⟨h6, g7, hf⟩ := e_v hf
    refine r_callV (av := [.int (h.1 39 (ix (h.1 38 5))), .int (h.1 40 (ix (h.1 38 5))), .int (h.1 42 (ix (h.1 38 5)))]) (st := []) K lkX0_40 mwX7_setNumber (conX7_setNumber p0 (h.1 39 (ix (h.1 38 5))) (h.1 40 (ix (h.1 38 5))) (h.1 42 (ix (h.1 38 5))) hp0 h h6 g7) dX0_stepOn_42 hp0 (Nat.le_of_ble_eq_true rfl) rfl rfl (Nat.le_of_ble_eq_true rfl) ?_
    refine r_aload_n K dX0_stepOn_45 0 rfl rfl ?_
    refine r_dup K dX0_stepOn_46 rfl ?_
    refine r_getI K flX0_28 dX0_stepOn_47 rfl rfl ?_
    refine r_iconst (v := 1) K dX0_stepOn_50 rfl ?_
    refine r_iadd K dX0_stepOn_51 ?_
    obtain ⟨h8, e9, hf⟩ := e_l hf
    refine r_putI K fpX0_28 dX0_stepOn_52 rfl rfl e9 ?_
    refine r_aload_n K dX0_stepOn_55 0 rfl rfl ?_
    refine r_getI K flX0_24 dX0_stepOn_56 rfl rfl ?_
    refine r_aload_n K dX0_stepOn_59 0 rfl rfl ?_
    refine r_getI K flX0_28 dX0_stepOn_60 rfl rfl ?_
    refine r_isub K dX0_stepOn_63 ?_
    exact r_iret K Z dX0_stepOn_64 hf
  · have hf := e_f hf c1
    refine r_bipush (v := (-5)) K dX0_stepOn_11 rfl ?_
    exact r_iret K Z dX0_stepOn_13 hf
theorem conX0_stepOn {G : GG} (p0 : Nat) (hp0 : KD p0 = (7, 12)) (h : AH) (rv : Int32) (h' : AH) (hf : fX0_stepOn p0 h = some (rv, h')) : Con G 3 yX0_stepOn cX0_stepOn 2 (some .int) [.ref 38, .ref p0] h (some (.int rv)) h' := con_of mwX0_stepOn (Nat.le_of_ble_eq_true rfl) (fun E K Z => sX0_stepOn K Z p0 hp0 h hf)
def fX1_note_19 (p0 : Int32) (h : AH) : Option AH :=
  letV (wI h 43 3 ((h.1 43 3) + 1)) fun h2 => some h2
set_option maxRecDepth 10000 in
theorem sX1_note_19 {G : GG} {E : EE} {h' : AH} (K : OK G E 0 RX1 cX1_note 2) (Z : RT G E none (none) h') (p0 : Int32) (h : AH) (hf : fX1_note_19 p0 h = some h') : JJ G E 2 19 [(0, .ref 43)] [] h := by
  unfold fX1_note_19 at hf
  refine r_aload_n K dX1_note_19 0 rfl rfl ?_
  refine r_dup K dX1_note_20 rfl ?_
  refine r_getI K flX1_22 dX1_note_21 rfl rfl ?_
  refine r_iconst (v := 1) K dX1_note_24 rfl ?_
  refine r_iadd K dX1_note_25 ?_
  obtain ⟨h2, e3, hf⟩ := e_l hf
  refine r_putI K fpX1_22 dX1_note_26 rfl rfl e3 ?_
  exact r_vret K Z dX1_note_29 hf
def fX1_note (p0 : Int32) (h : AH) : Option AH :=
  if 24 ≤ (h.1 43 3) then fX1_note_19 p0 h else if inb (h.1 43 3) 24 = true then letV (wI h 45 (ix (h.1 43 3)) p0) fun h5 => fX1_note_19 p0 h5 else none
set_option maxRecDepth 10000 in
theorem sX1_note {G : GG} {E : EE} {h' : AH} (K : OK G E 0 RX1 cX1_note 2) (Z : RT G E none (none) h') (p0 : Int32) (h : AH) (hf : fX1_note p0 h = some h') : JJ G E 2 0 [(0, .ref 43), (1, .int p0)] [] h := by
  unfold fX1_note at hf
  refine r_aload_n K dX1_note_0 0 rfl rfl ?_
  refine r_getI K flX1_22 dX1_note_1 rfl rfl ?_
  refine r_bipush (v := 24) K dX1_note_4 rfl ?_
  refine r_icmp_ge (tgt := 19) K dX1_note_6 (by decide) (fun c1 => ?_) (fun c1 => ?_)
  · have hf := e_t hf c1
    refine r_lv [0] rfl ?_
    exact sX1_note_19 K Z p0 h hf
  · have hf := e_f hf c1
    refine r_aload_n K dX1_note_9 0 rfl rfl ?_
    refine r_getR (o' := 45) K flX1_19 dX1_note_10 rfl rfl rfl ?_
    refine r_aload_n K dX1_note_13 0 rfl rfl ?_
    refine r_getI K flX1_22 dX1_note_14 rfl rfl ?_
    refine r_iload_n K dX1_note_17 1 rfl rfl ?_
    obtain ⟨g4, hf⟩ := e_g hf
    obtain ⟨h5, e6, hf⟩ := e_l hf
    refine r_iast K dX1_note_18 rfl g4 e6 ?_
    refine r_lv [0] rfl ?_
    exact sX1_note_19 K Z p0 h5 hf
theorem conX1_note {G : GG} (p0 : Int32) (h : AH) (h' : AH) (hf : fX1_note p0 h = some h') : Con G 0 yX1_note cX1_note 2 none [.ref 43, .int p0] h (none) h' := con_of mwX1_note (Nat.le_of_ble_eq_true rfl) (fun E K Z => sX1_note K Z p0 h hf)
def fX1_run_49 (RR : Nat → List Int32 → AH → Option (Int32 × AH)) (p0 : Int32) (p1 : Int32) (p2 : Int32) (p3 : Int32) (p4 : Int32) (x1 : Int32) (x3 : Int32) (x4 : Int32) (x5 : Int32) (x6 : Int32) (h : AH) : Option (Int32 × AH) :=
  if inb ((x6 * 4) + x3) 32 = true then letV ((ST 203 (ix ((x6 * 4) + x3)))) fun x4 => bindV (fX1_note x4 h) fun h7 => if x4 = 1 then some ((x4 + x1), h7) else if x4 = 2 then bind2 (RR 1 [x1, 1, x4, x5] h7) fun r11 h12 => bind2 (RR 1 [x1, 2, 1, x5] h12) fun r14 h15 => some ((r11 - r14), h15) else if x4 = 10 then bind2 (RR 1 [x1, 0, x4, x5] h7) fun r18 h19 => some ((r18 * 2), h19) else if x4 = 11 then some ((x4 ^^^ x1), h7) else if x4 = 20 then bind2 (RR 2 [x1, x6, 0, x4, x5] h7) fun r23 h24 => some ((r23 + 3), h24) else if x4 = 30 then bind2 (RR 2 [x1, x6, 1, x4, x5] h7) fun r27 h28 => some ((-r27), h28) else if x4 = 40 then bind2 (RR 2 [x1, x6, 2, x4, x5] h7) fun r31 h32 => some ((r31 * 3), h32) else if x4 = 41 then bind2 (RR 2 [x1, x6, 1, (x4 + 1), x5] h7) fun r35 h36 => some (r35, h36) else if x4 = 50 then bind2 (RR 2 [x1, x6, 2, x4, x5] h7) fun r39 h40 => bind2 (RR 1 [x1, 0, 2, x5] h40) fun r42 h43 => some ((r39 - r42), h43) else if x4 = 60 then bind2 (RR 2 [x1, x6, 3, x4, x5] h7) fun r46 h47 => some ((r46 ^^^ 5), h47) else if x4 = 70 then bind2 (RR 2 [x1, x6, 0, x4, x5] h7) fun r50 h51 => some ((r50 * 2), h51) else if x4 = 80 then bind2 (RR 2 [x1, x6, 1, x4, x5] h7) fun r54 h55 => bind2 (RR 1 [x1, 2, 2, x5] h55) fun r57 h58 => some ((r54 + r57), h58) else if x4 = 81 then bind2 (RR 2 [x1, x6, 3, x4, x5] h7) fun r61 h62 => some ((r61 - 1), h62) else some (0, h7) else none
set_option maxRecDepth 10000 in
theorem sX1_run_49 {G : GG} {E : EE} {rv : Int32} {h' : AH} {dd : Nat} (hdd : 0 ≤ dd) (K : OK G E (dd + 1) RX1 cX1_run 8) (Z : RT G E (some .int) (some (.int rv)) h') (RR : Nat → List Int32 → AH → Option (Int32 × AH)) (hRR : (∀ (z0 : Int32) (z1 : Int32) (z2 : Int32) (z3 : Int32) (z4 : Int32) (h : AH) (r : Int32) (h1 : AH), RR 0 [z0, z1, z2, z3, z4] h = some (r, h1) → Con G dd yX1_run cX1_run 8 (some .int) [.ref 43, .int z0, .int z1, .int z2, .int z3, .int z4] h (some (.int r)) h1) ∧ (∀ (z0 : Int32) (z1 : Int32) (z2 : Int32) (z3 : Int32) (h : AH) (r : Int32) (h1 : AH), RR 1 [z0, z1, z2, z3] h = some (r, h1) → Con G dd yX1_own cX1_own 5 (some .int) [.ref 43, .int z0, .int z1, .int z2, .int z3] h (some (.int r)) h1) ∧ (∀ (z0 : Int32) (z1 : Int32) (z2 : Int32) (z3 : Int32) (z4 : Int32) (h : AH) (r : Int32) (h1 : AH), RR 2 [z0, z1, z2, z3, z4] h = some (r, h1) → Con G dd yX1_above cX1_above 6 (some .int) [.ref 43, .int z0, .int z1, .int z2, .int z3, .int z4] h (some (.int r)) h1)) (p0 : Int32) (p1 : Int32) (p2 : Int32) (p3 : Int32) (p4 : Int32) (x1 : Int32) (x3 : Int32) (x4 : Int32) (x5 : Int32) (x6 : Int32) (h : AH) (hf : fX1_run_49 RR p0 p1 p2 p3 p4 x1 x3 x4 x5 x6 h = some (rv, h')) : JJ G E 8 49 [(0, .ref 43), (1, .int x1), (3, .int x3), (4, .int x4), (5, .int x5), (6, .int x6)] [] h := by
  unfold fX1_run_49 at hf
  refine r_gets K gsX1_40 dX1_run_49 ?_
  refine r_iload K dX1_run_52 5 rfl ?_
  refine r_iconst (v := 4) K dX1_run_54 rfl ?_
  refine r_imul K dX1_run_55 ?_
  refine r_iload_n K dX1_run_56 2 rfl rfl ?_
  refine r_iadd K dX1_run_57 ?_
  obtain ⟨g3, hf⟩ := e_g hf
  refine r_sald K dX1_run_58 sl203 g3 ?_
  obtain ⟨x4, e5, hf⟩ := e_l hf
  refine r_nmI e5 ?_
  refine r_istore (lv' := [(7, .int x4), (0, .ref 43), (1, .int x1), (3, .int x3), (4, .int x4), (5, .int x5), (6, .int x6)]) K dX1_run_59 (Nat.le_of_ble_eq_true rfl) rfl ?_
  refine r_aload_n K dX1_run_61 1 rfl rfl ?_
  refine r_iload K dX1_run_62 0 rfl ?_
  obtain ⟨h7, g8, hf⟩ := e_v hf
  refine r_callV (av := [.int x4]) (st := []) K lkX1_43 mwX1_note (conX1_note x4 h h7 g8) dX1_run_64 rfl (by omega) rfl rfl (Nat.le_of_ble_eq_true rfl) ?_
  refine r_iload K dX1_run_67 0 rfl ?_
  by_cases c9 : x4 = 1
  · have hf := e_t hf c9
    refine r_look (off := 115) (tgt := 184) K dX1_run_69 (by decide) (by rw [c9]; decide) (by decide) ?_
    refine r_iload K dX1_run_184 4 rfl ?_
    refine r_iload_n K dX1_run_186 2 rfl rfl ?_
    refine r_iadd K dX1_run_187 ?_
    exact r_iret K Z dX1_run_188 hf
  have hf := e_f hf c9
  by_cases c10 : x4 = 2
  · have hf := e_t hf c10
    refine r_look (off := 120) (tgt := 189) K dX1_run_69 (by decide) (by rw [c10]; decide) (by decide) ?_
    refine r_aload_n K dX1_run_189 1 rfl rfl ?_
    refine r_iload_n K dX1_run_190 2 rfl rfl ?_
    refine r_iconst (v := 1) K dX1_run_191 rfl ?_
    refine r_iload K dX1_run_192 4 rfl ?_
    refine r_iload K dX1_run_194 5 rfl ?_
    obtain ⟨r11, h12, g13, hf⟩ := e_2 hf
    refine r_callV (av := [.int x1, .int 1, .int x4, .int x5]) (st := []) K lkX1_32 mwX1_own (hRR.2.1 x1 1 x4 x5 h7 r11 h12 g13) dX1_run_196 rfl (Nat.le_refl _) rfl rfl (Nat.le_of_ble_eq_true rfl) ?_
    refine r_aload_n K dX1_run_199 1 rfl rfl ?_
    refine r_iload_n K dX1_run_200 2 rfl rfl ?_
    refine r_iconst (v := 2) K dX1_run_201 rfl ?_
    refine r_iconst (v := 1) K dX1_run_202 rfl ?_
    refine r_iload K dX1_run_203 5 rfl ?_
    obtain ⟨r14, h15, g16, hf⟩ := e_2 hf
    refine r_callV (av := [.int x1, .int 2, .int 1, .int x5]) (st := [.int r11]) K lkX1_32 mwX1_own (hRR.2.1 x1 2 1 x5 h12 r14 h15 g16) dX1_run_205 rfl (Nat.le_refl _) rfl rfl (Nat.le_of_ble_eq_true rfl) ?_
    refine r_isub K dX1_run_208 ?_
    exact r_iret K Z dX1_run_209 hf
  have hf := e_f hf c10
  by_cases c17 : x4 = 10
  · have hf := e_t hf c17
    refine r_look (off := 141) (tgt := 210) K dX1_run_69 (by decide) (by rw [c17]; decide) (by decide) ?_
    refine r_aload_n K dX1_run_210 1 rfl rfl ?_
    refine r_iload_n K dX1_run_211 2 rfl rfl ?_
    refine r_iconst (v := 0) K dX1_run_212 rfl ?_
    refine r_iload K dX1_run_213 4 rfl ?_
    refine r_iload K dX1_run_215 5 rfl ?_
    obtain ⟨r18, h19, g20, hf⟩ := e_2 hf
    refine r_callV (av := [.int x1, .int 0, .int x4, .int x5]) (st := []) K lkX1_32 mwX1_own (hRR.2.1 x1 0 x4 x5 h7 r18 h19 g20) dX1_run_217 rfl (Nat.le_refl _) rfl rfl (Nat.le_of_ble_eq_true rfl) ?_
    refine r_iconst (v := 2) K dX1_run_220 rfl ?_
    refine r_imul K dX1_run_221 ?_
    exact r_iret K Z dX1_run_222 hf
  have hf := e_f hf c17
  by_cases c21 : x4 = 11
  · have hf := e_t hf c21
    refine r_look (off := 154) (tgt := 223) K dX1_run_69 (by decide) (by rw [c21]; decide) (by decide) ?_
    refine r_iload K dX1_run_223 4 rfl ?_
    refine r_iload_n K dX1_run_225 2 rfl rfl ?_
    refine r_ixor K dX1_run_226 ?_
    exact r_iret K Z dX1_run_227 hf
  have hf := e_f hf c21
  by_cases c22 : x4 = 20
  · have hf := e_t hf c22
    refine r_look (off := 159) (tgt := 228) K dX1_run_69 (by decide) (by rw [c22]; decide) (by decide) ?_
    refine r_aload_n K dX1_run_228 1 rfl rfl ?_
    refine r_iload_n K dX1_run_229 2 rfl rfl ?_
    refine r_iload K dX1_run_230 6 rfl ?_
    refine r_iconst (v := 0) K dX1_run_232 rfl ?_
    refine r_iload K dX1_run_233 4 rfl ?_
    refine r_iload K dX1_run_235 5 rfl ?_
    obtain ⟨r23, h24, g25, hf⟩ := e_2 hf
    refine r_callV (av := [.int x1, .int x6, .int 0, .int x4, .int x5]) (st := []) K lkX1_47 mwX1_above (hRR.2.2 x1 x6 0 x4 x5 h7 r23 h24 g25) dX1_run_237 rfl (Nat.le_refl _) rfl rfl (Nat.le_of_ble_eq_true rfl) ?_
    refine r_iconst (v := 3) K dX1_run_240 rfl ?_
    refine r_iadd K dX1_run_241 ?_
    exact r_iret K Z dX1_run_242 hf
  have hf := e_f hf c22
  by_cases c26 : x4 = 30
  · have hf := e_t hf c26
    refine r_look (off := 174) (tgt := 243) K dX1_run_69 (by decide) (by rw [c26]; decide) (by decide) ?_
    refine r_aload_n K dX1_run_243 1 rfl rfl ?_
    refine r_iload_n K dX1_run_244 2 rfl rfl ?_
    refine r_iload K dX1_run_245 6 rfl ?_
    refine r_iconst (v := 1) K dX1_run_247 rfl ?_
    refine r_iload K dX1_run_248 4 rfl ?_
    refine r_iload K dX1_run_250 5 rfl ?_
    obtain ⟨r27, h28, g29, hf⟩ := e_2 hf
    refine r_callV (av := [.int x1, .int x6, .int 1, .int x4, .int x5]) (st := []) K lkX1_47 mwX1_above (hRR.2.2 x1 x6 1 x4 x5 h7 r27 h28 g29) dX1_run_252 rfl (Nat.le_refl _) rfl rfl (Nat.le_of_ble_eq_true rfl) ?_
    refine r_ineg K dX1_run_255 ?_
    exact r_iret K Z dX1_run_256 hf
  have hf := e_f hf c26
  by_cases c30 : x4 = 40
  · have hf := e_t hf c30
    refine r_look (off := 188) (tgt := 257) K dX1_run_69 (by decide) (by rw [c30]; decide) (by decide) ?_
    refine r_aload_n K dX1_run_257 1 rfl rfl ?_
    refine r_iload_n K dX1_run_258 2 rfl rfl ?_
    refine r_iload K dX1_run_259 6 rfl ?_
    refine r_iconst (v := 2) K dX1_run_261 rfl ?_
    refine r_iload K dX1_run_262 4 rfl ?_
    refine r_iload K dX1_run_264 5 rfl ?_
    obtain ⟨r31, h32, g33, hf⟩ := e_2 hf
    refine r_callV (av := [.int x1, .int x6, .int 2, .int x4, .int x5]) (st := []) K lkX1_47 mwX1_above (hRR.2.2 x1 x6 2 x4 x5 h7 r31 h32 g33) dX1_run_266 rfl (Nat.le_refl _) rfl rfl (Nat.le_of_ble_eq_true rfl) ?_
    refine r_iconst (v := 3) K dX1_run_269 rfl ?_
    refine r_imul K dX1_run_270 ?_
    exact r_iret K Z dX1_run_271 hf
  have hf := e_f hf c30
  by_cases c34 : x4 = 41
  · have hf := e_t hf c34
    refine r_look (off := 203) (tgt := 272) K dX1_run_69 (by decide) (by rw [c34]; decide) (by decide) ?_
    refine r_aload_n K dX1_run_272 1 rfl rfl ?_
    refine r_iload_n K dX1_run_273 2 rfl rfl ?_
    refine r_iload K dX1_run_274 6 rfl ?_
    refine r_iconst (v := 1) K dX1_run_276 rfl ?_
    refine r_iload K dX1_run_277 4 rfl ?_
    refine r_iconst (v := 1) K dX1_run_279 rfl ?_
    refine r_iadd K dX1_run_280 ?_
    refine r_iload K dX1_run_281 5 rfl ?_
    obtain ⟨r35, h36, g37, hf⟩ := e_2 hf
    refine r_callV (av := [.int x1, .int x6, .int 1, .int (x4 + 1), .int x5]) (st := []) K lkX1_47 mwX1_above (hRR.2.2 x1 x6 1 (x4 + 1) x5 h7 r35 h36 g37) dX1_run_283 rfl (Nat.le_refl _) rfl rfl (Nat.le_of_ble_eq_true rfl) ?_
    exact r_iret K Z dX1_run_286 hf
  have hf := e_f hf c34
  by_cases c38 : x4 = 50
  · have hf := e_t hf c38
    refine r_look (off := 218) (tgt := 287) K dX1_run_69 (by decide) (by rw [c38]; decide) (by decide) ?_
    refine r_aload_n K dX1_run_287 1 rfl rfl ?_
    refine r_iload_n K dX1_run_288 2 rfl rfl ?_
    refine r_iload K dX1_run_289 6 rfl ?_
    refine r_iconst (v := 2) K dX1_run_291 rfl ?_
    refine r_iload K dX1_run_292 4 rfl ?_
    refine r_iload K dX1_run_294 5 rfl ?_
    obtain ⟨r39, h40, g41, hf⟩ := e_2 hf
    refine r_callV (av := [.int x1, .int x6, .int 2, .int x4, .int x5]) (st := []) K lkX1_47 mwX1_above (hRR.2.2 x1 x6 2 x4 x5 h7 r39 h40 g41) dX1_run_296 rfl (Nat.le_refl _) rfl rfl (Nat.le_of_ble_eq_true rfl) ?_
    refine r_aload_n K dX1_run_299 1 rfl rfl ?_
    refine r_iload_n K dX1_run_300 2 rfl rfl ?_
    refine r_iconst (v := 0) K dX1_run_301 rfl ?_
    refine r_iconst (v := 2) K dX1_run_302 rfl ?_
    refine r_iload K dX1_run_303 5 rfl ?_
    obtain ⟨r42, h43, g44, hf⟩ := e_2 hf
    refine r_callV (av := [.int x1, .int 0, .int 2, .int x5]) (st := [.int r39]) K lkX1_32 mwX1_own (hRR.2.1 x1 0 2 x5 h40 r42 h43 g44) dX1_run_305 rfl (Nat.le_refl _) rfl rfl (Nat.le_of_ble_eq_true rfl) ?_
    refine r_isub K dX1_run_308 ?_
    exact r_iret K Z dX1_run_309 hf
  have hf := e_f hf c38
  by_cases c45 : x4 = 60
  · have hf := e_t hf c45
    refine r_look (off := 241) (tgt := 310) K dX1_run_69 (by decide) (by rw [c45]; decide) (by decide) ?_
    refine r_aload_n K dX1_run_310 1 rfl rfl ?_
    refine r_iload_n K dX1_run_311 2 rfl rfl ?_
    refine r_iload K dX1_run_312 6 rfl ?_
    refine r_iconst (v := 3) K dX1_run_314 rfl ?_
    refine r_iload K dX1_run_315 4 rfl ?_
    refine r_iload K dX1_run_317 5 rfl ?_
    obtain ⟨r46, h47, g48, hf⟩ := e_2 hf
    refine r_callV (av := [.int x1, .int x6, .int 3, .int x4, .int x5]) (st := []) K lkX1_47 mwX1_above (hRR.2.2 x1 x6 3 x4 x5 h7 r46 h47 g48) dX1_run_319 rfl (Nat.le_refl _) rfl rfl (Nat.le_of_ble_eq_true rfl) ?_
    refine r_iconst (v := 5) K dX1_run_322 rfl ?_
    refine r_ixor K dX1_run_323 ?_
    exact r_iret K Z dX1_run_324 hf
  have hf := e_f hf c45
  by_cases c49 : x4 = 70
  · have hf := e_t hf c49
    refine r_look (off := 256) (tgt := 325) K dX1_run_69 (by decide) (by rw [c49]; decide) (by decide) ?_
    refine r_aload_n K dX1_run_325 1 rfl rfl ?_
    refine r_iload_n K dX1_run_326 2 rfl rfl ?_
    refine r_iload K dX1_run_327 6 rfl ?_
    refine r_iconst (v := 0) K dX1_run_329 rfl ?_
    refine r_iload K dX1_run_330 4 rfl ?_
    refine r_iload K dX1_run_332 5 rfl ?_
    obtain ⟨r50, h51, g52, hf⟩ := e_2 hf
    refine r_callV (av := [.int x1, .int x6, .int 0, .int x4, .int x5]) (st := []) K lkX1_47 mwX1_above (hRR.2.2 x1 x6 0 x4 x5 h7 r50 h51 g52) dX1_run_334 rfl (Nat.le_refl _) rfl rfl (Nat.le_of_ble_eq_true rfl) ?_
    refine r_iconst (v := 2) K dX1_run_337 rfl ?_
    refine r_imul K dX1_run_338 ?_
    exact r_iret K Z dX1_run_339 hf
  have hf := e_f hf c49
  by_cases c53 : x4 = 80
  · have hf := e_t hf c53
    refine r_look (off := 271) (tgt := 340) K dX1_run_69 (by decide) (by rw [c53]; decide) (by decide) ?_
    refine r_aload_n K dX1_run_340 1 rfl rfl ?_
    refine r_iload_n K dX1_run_341 2 rfl rfl ?_
    refine r_iload K dX1_run_342 6 rfl ?_
    refine r_iconst (v := 1) K dX1_run_344 rfl ?_
    refine r_iload K dX1_run_345 4 rfl ?_
    refine r_iload K dX1_run_347 5 rfl ?_
    obtain ⟨r54, h55, g56, hf⟩ := e_2 hf
    refine r_callV (av := [.int x1, .int x6, .int 1, .int x4, .int x5]) (st := []) K lkX1_47 mwX1_above (hRR.2.2 x1 x6 1 x4 x5 h7 r54 h55 g56) dX1_run_349 rfl (Nat.le_refl _) rfl rfl (Nat.le_of_ble_eq_true rfl) ?_
    refine r_aload_n K dX1_run_352 1 rfl rfl ?_
    refine r_iload_n K dX1_run_353 2 rfl rfl ?_
    refine r_iconst (v := 2) K dX1_run_354 rfl ?_
    refine r_iconst (v := 2) K dX1_run_355 rfl ?_
    refine r_iload K dX1_run_356 5 rfl ?_
    obtain ⟨r57, h58, g59, hf⟩ := e_2 hf
    refine r_callV (av := [.int x1, .int 2, .int 2, .int x5]) (st := [.int r54]) K lkX1_32 mwX1_own (hRR.2.1 x1 2 2 x5 h55 r57 h58 g59) dX1_run_358 rfl (Nat.le_refl _) rfl rfl (Nat.le_of_ble_eq_true rfl) ?_
    refine r_iadd K dX1_run_361 ?_
    exact r_iret K Z dX1_run_362 hf
  have hf := e_f hf c53
  by_cases c60 : x4 = 81
  · have hf := e_t hf c60
    refine r_look (off := 294) (tgt := 363) K dX1_run_69 (by decide) (by rw [c60]; decide) (by decide) ?_
    refine r_aload_n K dX1_run_363 1 rfl rfl ?_
    refine r_iload_n K dX1_run_364 2 rfl rfl ?_
    refine r_iload K dX1_run_365 6 rfl ?_
    refine r_iconst (v := 3) K dX1_run_367 rfl ?_
    refine r_iload K dX1_run_368 4 rfl ?_
    refine r_iload K dX1_run_370 5 rfl ?_
    obtain ⟨r61, h62, g63, hf⟩ := e_2 hf
    refine r_callV (av := [.int x1, .int x6, .int 3, .int x4, .int x5]) (st := []) K lkX1_47 mwX1_above (hRR.2.2 x1 x6 3 x4 x5 h7 r61 h62 g63) dX1_run_372 rfl (Nat.le_refl _) rfl rfl (Nat.le_of_ble_eq_true rfl) ?_
    refine r_iconst (v := 1) K dX1_run_375 rfl ?_
    refine r_isub K dX1_run_376 ?_
    exact r_iret K Z dX1_run_377 hf
  have hf := e_f hf c60
  refine r_look (off := 309) (tgt := 378) K dX1_run_69 (by decide) ((lv_osw c9 (by decide)).trans ((lv_osw c10 (by decide)).trans ((lv_osw c17 (by decide)).trans ((lv_osw c21 (by decide)).trans ((lv_osw c22 (by decide)).trans ((lv_osw c26 (by decide)).trans ((lv_osw c30 (by decide)).trans ((lv_osw c34 (by decide)).trans ((lv_osw c38 (by decide)).trans ((lv_osw c45 (by decide)).trans ((lv_osw c49 (by decide)).trans ((lv_osw c53 (by decide)).trans ((lv_osw c60 (by decide)).trans (rfl)))))))))))))) (by decide) ?_
  refine r_iconst (v := 0) K dX1_run_378 rfl ?_
  exact r_iret K Z dX1_run_379 hf
def fX1_run_15_b (RR : Nat → List Int32 → AH → Option (Int32 × AH)) (p0 : Int32) (p1 : Int32) (p2 : Int32) (p3 : Int32) (p4 : Int32) (Q15 : Int32 → Int32 → Int32 → Int32 → Int32 → Int32 → AH → Option (Int32 × AH)) (x1 : Int32) (x3 : Int32) (x4 : Int32) (x5 : Int32) (x6 : Int32) (x7 : Int32) (h : AH) : Option (Int32 × AH) :=
  if 8 ≤ x7 then fX1_run_49 RR p0 p1 p2 p3 p4 x1 x3 x4 x5 x6 h else if inb ((x6 * 4) + x3) 32 = true then if (ST 203 (ix ((x6 * 4) + x3))) = 0 then if inb x6 8 = true then letV ((ST 202 (ix x6))) fun x67 => Q15 x1 x3 x4 x5 x67 (x7 + 1) h else none else fX1_run_49 RR p0 p1 p2 p3 p4 x1 x3 x4 x5 x6 h else none
def fX1_run_15 (RR : Nat → List Int32 → AH → Option (Int32 × AH)) (p0 : Int32) (p1 : Int32) (p2 : Int32) (p3 : Int32) (p4 : Int32) : Nat → Int32 → Int32 → Int32 → Int32 → Int32 → Int32 → AH → Option (Int32 × AH)
  | 0 => fun _ _ _ _ _ _ _ => none
  | n + 1 => fX1_run_15_b RR p0 p1 p2 p3 p4 (fX1_run_15 RR p0 p1 p2 p3 p4 n)
set_option maxRecDepth 10000 in
theorem sX1_run_15_b {G : GG} {E : EE} {rv : Int32} {h' : AH} {dd : Nat} (hdd : 0 ≤ dd) (K : OK G E (dd + 1) RX1 cX1_run 8) (Z : RT G E (some .int) (some (.int rv)) h') (RR : Nat → List Int32 → AH → Option (Int32 × AH)) (hRR : (∀ (z0 : Int32) (z1 : Int32) (z2 : Int32) (z3 : Int32) (z4 : Int32) (h : AH) (r : Int32) (h1 : AH), RR 0 [z0, z1, z2, z3, z4] h = some (r, h1) → Con G dd yX1_run cX1_run 8 (some .int) [.ref 43, .int z0, .int z1, .int z2, .int z3, .int z4] h (some (.int r)) h1) ∧ (∀ (z0 : Int32) (z1 : Int32) (z2 : Int32) (z3 : Int32) (h : AH) (r : Int32) (h1 : AH), RR 1 [z0, z1, z2, z3] h = some (r, h1) → Con G dd yX1_own cX1_own 5 (some .int) [.ref 43, .int z0, .int z1, .int z2, .int z3] h (some (.int r)) h1) ∧ (∀ (z0 : Int32) (z1 : Int32) (z2 : Int32) (z3 : Int32) (z4 : Int32) (h : AH) (r : Int32) (h1 : AH), RR 2 [z0, z1, z2, z3, z4] h = some (r, h1) → Con G dd yX1_above cX1_above 6 (some .int) [.ref 43, .int z0, .int z1, .int z2, .int z3, .int z4] h (some (.int r)) h1)) (p0 : Int32) (p1 : Int32) (p2 : Int32) (p3 : Int32) (p4 : Int32) (Q15 : Int32 → Int32 → Int32 → Int32 → Int32 → Int32 → AH → Option (Int32 × AH)) (hQ15 : ∀ (x1 : Int32) (x3 : Int32) (x4 : Int32) (x5 : Int32) (x6 : Int32) (x7 : Int32) (h : AH), Q15 x1 x3 x4 x5 x6 x7 h = some (rv, h') → JJ G E 8 15 [(0, .ref 43), (1, .int x1), (3, .int x3), (4, .int x4), (5, .int x5), (6, .int x6), (7, .int x7)] [] h) (x1 : Int32) (x3 : Int32) (x4 : Int32) (x5 : Int32) (x6 : Int32) (x7 : Int32) (h : AH) (hf : fX1_run_15_b RR p0 p1 p2 p3 p4 Q15 x1 x3 x4 x5 x6 x7 h = some (rv, h')) : JJ G E 8 15 [(0, .ref 43), (1, .int x1), (3, .int x3), (4, .int x4), (5, .int x5), (6, .int x6), (7, .int x7)] [] h := by
  unfold fX1_run_15_b at hf
  refine r_iload K dX1_run_15 6 rfl ?_
  refine r_bipush (v := 8) K dX1_run_17 rfl ?_
  refine r_icmp_ge (tgt := 49) K dX1_run_19 (by decide) (fun c2 => ?_) (fun c2 => ?_)
  · have hf := e_t hf c2
    refine r_lv [0, 1, 2, 3, 4, 5] rfl ?_
    exact sX1_run_49 hdd K Z RR hRR p0 p1 p2 p3 p4 x1 x3 x4 x5 x6 h hf
  · have hf := e_f hf c2
    refine r_gets K gsX1_40 dX1_run_22 ?_
    refine r_iload K dX1_run_25 5 rfl ?_
    refine r_iconst (v := 4) K dX1_run_27 rfl ?_
    refine r_imul K dX1_run_28 ?_
    refine r_iload_n K dX1_run_29 2 rfl rfl ?_
    refine r_iadd K dX1_run_30 ?_
    obtain ⟨g64, hf⟩ := e_g hf
    refine r_sald K dX1_run_31 sl203 g64 ?_
    refine r_if_ne (tgt := 49) K dX1_run_32 (by decide) (fun c65 => ?_) (fun c65 => ?_)
    · have hf := e_f hf c65
      refine r_lv [0, 1, 2, 3, 4, 5] rfl ?_
      exact sX1_run_49 hdd K Z RR hRR p0 p1 p2 p3 p4 x1 x3 x4 x5 x6 h hf
    · have hf := e_t hf c65
      refine r_gets K gsX1_29 dX1_run_35 ?_
      refine r_iload K dX1_run_38 5 rfl ?_
      obtain ⟨g66, hf⟩ := e_g hf
      refine r_sald K dX1_run_40 sl202 g66 ?_
      obtain ⟨x67, e68, hf⟩ := e_l hf
      refine r_nmI e68 ?_
      refine r_istore (lv' := [(6, .int x67), (0, .ref 43), (1, .int x1), (3, .int x3), (4, .int x4), (5, .int x5), (7, .int x7)]) K dX1_run_41 (Nat.le_of_ble_eq_true rfl) rfl ?_
      refine r_iinc (y := 1) (lv' := [(7, .int (x7 + 1)), (6, .int x67), (0, .ref 43), (1, .int x1), (3, .int x3), (4, .int x4), (5, .int x5)]) K dX1_run_43 6 rfl rfl (Nat.le_of_ble_eq_true rfl) rfl ?_
      refine r_goto (tgt := 15) K dX1_run_46 (by decide) ?_
      refine r_lv [2, 3, 4, 5, 6, 1, 0] rfl ?_
      exact hQ15 x1 x3 x4 x5 x67 (x7 + 1) h hf
theorem sX1_run_15 {G : GG} {E : EE} {rv : Int32} {h' : AH} {dd : Nat} (hdd : 0 ≤ dd) (K : OK G E (dd + 1) RX1 cX1_run 8) (Z : RT G E (some .int) (some (.int rv)) h') (RR : Nat → List Int32 → AH → Option (Int32 × AH)) (hRR : (∀ (z0 : Int32) (z1 : Int32) (z2 : Int32) (z3 : Int32) (z4 : Int32) (h : AH) (r : Int32) (h1 : AH), RR 0 [z0, z1, z2, z3, z4] h = some (r, h1) → Con G dd yX1_run cX1_run 8 (some .int) [.ref 43, .int z0, .int z1, .int z2, .int z3, .int z4] h (some (.int r)) h1) ∧ (∀ (z0 : Int32) (z1 : Int32) (z2 : Int32) (z3 : Int32) (h : AH) (r : Int32) (h1 : AH), RR 1 [z0, z1, z2, z3] h = some (r, h1) → Con G dd yX1_own cX1_own 5 (some .int) [.ref 43, .int z0, .int z1, .int z2, .int z3] h (some (.int r)) h1) ∧ (∀ (z0 : Int32) (z1 : Int32) (z2 : Int32) (z3 : Int32) (z4 : Int32) (h : AH) (r : Int32) (h1 : AH), RR 2 [z0, z1, z2, z3, z4] h = some (r, h1) → Con G dd yX1_above cX1_above 6 (some .int) [.ref 43, .int z0, .int z1, .int z2, .int z3, .int z4] h (some (.int r)) h1)) (p0 : Int32) (p1 : Int32) (p2 : Int32) (p3 : Int32) (p4 : Int32) : ∀ (n : Nat) (x1 : Int32) (x3 : Int32) (x4 : Int32) (x5 : Int32) (x6 : Int32) (x7 : Int32) (h : AH), fX1_run_15 RR p0 p1 p2 p3 p4 n x1 x3 x4 x5 x6 x7 h = some (rv, h') → JJ G E 8 15 [(0, .ref 43), (1, .int x1), (3, .int x3), (4, .int x4), (5, .int x5), (6, .int x6), (7, .int x7)] [] h := by
  intro n
  induction n with
  | zero => intro x1 x3 x4 x5 x6 x7 h hf; cases hf
  | succ n ih => intro x1 x3 x4 x5 x6 x7 h hf; exact sX1_run_15_b hdd hdd K Z RR hRR p0 p1 p2 p3 p4 _ (fun x1 x3 x4 x5 x6 x7 h hf => ih x1 x3 x4 x5 x6 x7 h hf) x1 x3 x4 x5 x6 x7 h hf
def fX1_run (RR : Nat → List Int32 → AH → Option (Int32 × AH)) (p0 : Int32) (p1 : Int32) (p2 : Int32) (p3 : Int32) (p4 : Int32) (h : AH) : Option (Int32 × AH) :=
  if p4 ≤ 20 then fX1_run_15 RR p0 p1 p2 p3 p4 FU p0 p2 p3 p4 p1 0 h else some (0, h)
set_option maxRecDepth 10000 in
theorem sX1_run {G : GG} {E : EE} {rv : Int32} {h' : AH} {dd : Nat} (hdd : 0 ≤ dd) (K : OK G E (dd + 1) RX1 cX1_run 8) (Z : RT G E (some .int) (some (.int rv)) h') (RR : Nat → List Int32 → AH → Option (Int32 × AH)) (hRR : (∀ (z0 : Int32) (z1 : Int32) (z2 : Int32) (z3 : Int32) (z4 : Int32) (h : AH) (r : Int32) (h1 : AH), RR 0 [z0, z1, z2, z3, z4] h = some (r, h1) → Con G dd yX1_run cX1_run 8 (some .int) [.ref 43, .int z0, .int z1, .int z2, .int z3, .int z4] h (some (.int r)) h1) ∧ (∀ (z0 : Int32) (z1 : Int32) (z2 : Int32) (z3 : Int32) (h : AH) (r : Int32) (h1 : AH), RR 1 [z0, z1, z2, z3] h = some (r, h1) → Con G dd yX1_own cX1_own 5 (some .int) [.ref 43, .int z0, .int z1, .int z2, .int z3] h (some (.int r)) h1) ∧ (∀ (z0 : Int32) (z1 : Int32) (z2 : Int32) (z3 : Int32) (z4 : Int32) (h : AH) (r : Int32) (h1 : AH), RR 2 [z0, z1, z2, z3, z4] h = some (r, h1) → Con G dd yX1_above cX1_above 6 (some .int) [.ref 43, .int z0, .int z1, .int z2, .int z3, .int z4] h (some (.int r)) h1)) (p0 : Int32) (p1 : Int32) (p2 : Int32) (p3 : Int32) (p4 : Int32) (h : AH) (hf : fX1_run RR p0 p1 p2 p3 p4 h = some (rv, h')) : JJ G E 8 0 [(0, .ref 43), (1, .int p0), (2, .int p1), (3, .int p2), (4, .int p3), (5, .int p4)] [] h := by
  unfold fX1_run at hf
  refine r_iload K dX1_run_0 5 rfl ?_
  refine r_bipush (v := 20) K dX1_run_2 rfl ?_
  refine r_icmp_le (tgt := 9) K dX1_run_4 (by decide) (fun c1 => ?_) (fun c1 => ?_)
  · have hf := e_t hf c1
    refine r_iload_n K dX1_run_9 2 rfl rfl ?_
    refine r_istore (lv' := [(6, .int p1), (0, .ref 43), (1, .int p0), (2, .int p1), (3, .int p2), (4, .int p3), (5, .int p4)]) K dX1_run_10 (Nat.le_of_ble_eq_true rfl) rfl ?_
    refine r_iconst (v := 0) K dX1_run_12 rfl ?_
    refine r_istore (lv' := [(7, .int 0), (6, .int p1), (0, .ref 43), (1, .int p0), (2, .int p1), (3, .int p2), (4, .int p3), (5, .int p4)]) K dX1_run_13 (Nat.le_of_ble_eq_true rfl) rfl ?_
    refine r_lv [2, 3, 5, 6, 7, 1, 0] rfl ?_
    exact sX1_run_15 hdd K Z RR hRR p0 p1 p2 p3 p4 FU p0 p2 p3 p4 p1 0 h hf
  · have hf := e_f hf c1
    refine r_iconst (v := 0) K dX1_run_7 rfl ?_
    exact r_iret K Z dX1_run_8 hf
def fX1_own (RR : Nat → List Int32 → AH → Option (Int32 × AH)) (p0 : Int32) (p1 : Int32) (p2 : Int32) (p3 : Int32) (h : AH) : Option (Int32 × AH) :=
  if inb p0 50 = true then bind2 (RR 0 [p0, (h.1 44 (ix p0)), p1, p2, (p3 + 1)] h) fun r2 h3 => some (r2, h3) else none
set_option maxRecDepth 10000 in
theorem sX1_own {G : GG} {E : EE} {rv : Int32} {h' : AH} {dd : Nat} (hdd : 0 ≤ dd) (K : OK G E (dd + 1) RX1 cX1_own 5) (Z : RT G E (some .int) (some (.int rv)) h') (RR : Nat → List Int32 → AH → Option (Int32 × AH)) (hRR : (∀ (z0 : Int32) (z1 : Int32) (z2 : Int32) (z3 : Int32) (z4 : Int32) (h : AH) (r : Int32) (h1 : AH), RR 0 [z0, z1, z2, z3, z4] h = some (r, h1) → Con G dd yX1_run cX1_run 8 (some .int) [.ref 43, .int z0, .int z1, .int z2, .int z3, .int z4] h (some (.int r)) h1) ∧ (∀ (z0 : Int32) (z1 : Int32) (z2 : Int32) (z3 : Int32) (h : AH) (r : Int32) (h1 : AH), RR 1 [z0, z1, z2, z3] h = some (r, h1) → Con G dd yX1_own cX1_own 5 (some .int) [.ref 43, .int z0, .int z1, .int z2, .int z3] h (some (.int r)) h1) ∧ (∀ (z0 : Int32) (z1 : Int32) (z2 : Int32) (z3 : Int32) (z4 : Int32) (h : AH) (r : Int32) (h1 : AH), RR 2 [z0, z1, z2, z3, z4] h = some (r, h1) → Con G dd yX1_above cX1_above 6 (some .int) [.ref 43, .int z0, .int z1, .int z2, .int z3, .int z4] h (some (.int r)) h1)) (p0 : Int32) (p1 : Int32) (p2 : Int32) (p3 : Int32) (h : AH) (hf : fX1_own RR p0 p1 p2 p3 h = some (rv, h')) : JJ G E 5 0 [(0, .ref 43), (1, .int p0), (2, .int p1), (3, .int p2), (4, .int p3)] [] h := by
  unfold fX1_own at hf
  refine r_aload_n K dX1_own_0 0 rfl rfl ?_
  refine r_iload_n K dX1_own_1 1 rfl rfl ?_
  refine r_aload_n K dX1_own_2 0 rfl rfl ?_
  refine r_getR (o' := 44) K flX1_9 dX1_own_3 rfl rfl rfl ?_
  refine r_iload_n K dX1_own_6 1 rfl rfl ?_
  obtain ⟨g1, hf⟩ := e_g hf
  refine r_iald K dX1_own_7 rfl g1 ?_
  refine r_iload_n K dX1_own_8 2 rfl rfl ?_
  refine r_iload_n K dX1_own_9 3 rfl rfl ?_
  refine r_iload K dX1_own_10 4 rfl ?_
  refine r_iconst (v := 1) K dX1_own_12 rfl ?_
  refine r_iadd K dX1_own_13 ?_
  obtain ⟨r2, h3, g4, hf⟩ := e_2 hf
  refine r_callV (av := [.int p0, .int (h.1 44 (ix p0)), .int p1, .int p2, .int (p3 + 1)]) (st := []) K lkX1_36 mwX1_run (hRR.1 p0 (h.1 44 (ix p0)) p1 p2 (p3 + 1) h r2 h3 g4) dX1_own_14 rfl (Nat.le_refl _) rfl rfl (Nat.le_of_ble_eq_true rfl) ?_
  exact r_iret K Z dX1_own_17 hf
def fX1_above (RR : Nat → List Int32 → AH → Option (Int32 × AH)) (p0 : Int32) (p1 : Int32) (p2 : Int32) (p3 : Int32) (p4 : Int32) (h : AH) : Option (Int32 × AH) :=
  if inb p1 8 = true then bind2 (RR 0 [p0, (ST 202 (ix p1)), p2, p3, (p4 + 1)] h) fun r2 h3 => some (r2, h3) else none
set_option maxRecDepth 10000 in
theorem sX1_above {G : GG} {E : EE} {rv : Int32} {h' : AH} {dd : Nat} (hdd : 0 ≤ dd) (K : OK G E (dd + 1) RX1 cX1_above 6) (Z : RT G E (some .int) (some (.int rv)) h') (RR : Nat → List Int32 → AH → Option (Int32 × AH)) (hRR : (∀ (z0 : Int32) (z1 : Int32) (z2 : Int32) (z3 : Int32) (z4 : Int32) (h : AH) (r : Int32) (h1 : AH), RR 0 [z0, z1, z2, z3, z4] h = some (r, h1) → Con G dd yX1_run cX1_run 8 (some .int) [.ref 43, .int z0, .int z1, .int z2, .int z3, .int z4] h (some (.int r)) h1) ∧ (∀ (z0 : Int32) (z1 : Int32) (z2 : Int32) (z3 : Int32) (h : AH) (r : Int32) (h1 : AH), RR 1 [z0, z1, z2, z3] h = some (r, h1) → Con G dd yX1_own cX1_own 5 (some .int) [.ref 43, .int z0, .int z1, .int z2, .int z3] h (some (.int r)) h1) ∧ (∀ (z0 : Int32) (z1 : Int32) (z2 : Int32) (z3 : Int32) (z4 : Int32) (h : AH) (r : Int32) (h1 : AH), RR 2 [z0, z1, z2, z3, z4] h = some (r, h1) → Con G dd yX1_above cX1_above 6 (some .int) [.ref 43, .int z0, .int z1, .int z2, .int z3, .int z4] h (some (.int r)) h1)) (p0 : Int32) (p1 : Int32) (p2 : Int32) (p3 : Int32) (p4 : Int32) (h : AH) (hf : fX1_above RR p0 p1 p2 p3 p4 h = some (rv, h')) : JJ G E 6 0 [(0, .ref 43), (1, .int p0), (2, .int p1), (3, .int p2), (4, .int p3), (5, .int p4)] [] h := by
  unfold fX1_above at hf
  refine r_aload_n K dX1_above_0 0 rfl rfl ?_
  refine r_iload_n K dX1_above_1 1 rfl rfl ?_
  refine r_gets K gsX1_29 dX1_above_2 ?_
  refine r_iload_n K dX1_above_5 2 rfl rfl ?_
  obtain ⟨g1, hf⟩ := e_g hf
  refine r_sald K dX1_above_6 sl202 g1 ?_
  refine r_iload_n K dX1_above_7 3 rfl rfl ?_
  refine r_iload K dX1_above_8 4 rfl ?_
  refine r_iload K dX1_above_10 5 rfl ?_
  refine r_iconst (v := 1) K dX1_above_12 rfl ?_
  refine r_iadd K dX1_above_13 ?_
  obtain ⟨r2, h3, g4, hf⟩ := e_2 hf
  refine r_callV (av := [.int p0, .int (ST 202 (ix p1)), .int p2, .int p3, .int (p4 + 1)]) (st := []) K lkX1_36 mwX1_run (hRR.1 p0 (ST 202 (ix p1)) p2 p3 (p4 + 1) h r2 h3 g4) dX1_above_14 rfl (Nat.le_refl _) rfl rfl (Nat.le_of_ble_eq_true rfl) ?_
  exact r_iret K Z dX1_above_17 hf
def RGH : Nat → Nat → List Int32 → AH → Option (Int32 × AH)
  | 0 => fun _ _ _ => none
  | n + 1 => fun w a h => if w = 0 then fX1_run (RGH n) (a.getD 0 0) (a.getD 1 0) (a.getD 2 0) (a.getD 3 0) (a.getD 4 0) h else if w = 1 then fX1_own (RGH n) (a.getD 0 0) (a.getD 1 0) (a.getD 2 0) (a.getD 3 0) h else if w = 2 then fX1_above (RGH n) (a.getD 0 0) (a.getD 1 0) (a.getD 2 0) (a.getD 3 0) (a.getD 4 0) h else none
theorem conRGH {G : GG} : ∀ n : Nat, (∀ (z0 : Int32) (z1 : Int32) (z2 : Int32) (z3 : Int32) (z4 : Int32) (h : AH) (r : Int32) (h1 : AH), RGH n 0 [z0, z1, z2, z3, z4] h = some (r, h1) → Con G (0 + n) yX1_run cX1_run 8 (some .int) [.ref 43, .int z0, .int z1, .int z2, .int z3, .int z4] h (some (.int r)) h1) ∧ (∀ (z0 : Int32) (z1 : Int32) (z2 : Int32) (z3 : Int32) (h : AH) (r : Int32) (h1 : AH), RGH n 1 [z0, z1, z2, z3] h = some (r, h1) → Con G (0 + n) yX1_own cX1_own 5 (some .int) [.ref 43, .int z0, .int z1, .int z2, .int z3] h (some (.int r)) h1) ∧ (∀ (z0 : Int32) (z1 : Int32) (z2 : Int32) (z3 : Int32) (z4 : Int32) (h : AH) (r : Int32) (h1 : AH), RGH n 2 [z0, z1, z2, z3, z4] h = some (r, h1) → Con G (0 + n) yX1_above cX1_above 6 (some .int) [.ref 43, .int z0, .int z1, .int z2, .int z3, .int z4] h (some (.int r)) h1) := by
  intro n
  induction n with
  | zero => exact ⟨fun _ _ _ _ _ _ _ _ q => by cases q, fun _ _ _ _ _ _ _ q => by cases q, fun _ _ _ _ _ _ _ _ q => by cases q⟩
  | succ n ih => exact ⟨fun z0 z1 z2 z3 z4 h r h1 q => con_of mwX1_run (Nat.le_of_ble_eq_true rfl) (fun E K Z => sX1_run (dd := 0 + n) (Nat.le_add_right _ _) K Z (RGH n) ih z0 z1 z2 z3 z4 h q), fun z0 z1 z2 z3 h r h1 q => con_of mwX1_own (Nat.le_of_ble_eq_true rfl) (fun E K Z => sX1_own (dd := 0 + n) (Nat.le_add_right _ _) K Z (RGH n) ih z0 z1 z2 z3 h q), fun z0 z1 z2 z3 z4 h r h1 q => con_of mwX1_above (Nat.le_of_ble_eq_true rfl) (fun E K Z => sX1_above (dd := 0 + n) (Nat.le_add_right _ _) K Z (RGH n) ih z0 z1 z2 z3 z4 h q)⟩
theorem conRGH_0 {G : GG} (n : Nat) (z0 : Int32) (z1 : Int32) (z2 : Int32) (z3 : Int32) (z4 : Int32) (h : AH) (r : Int32) (h1 : AH) (q : RGH n 0 [z0, z1, z2, z3, z4] h = some (r, h1)) : Con G (0 + n) yX1_run cX1_run 8 (some .int) [.ref 43, .int z0, .int z1, .int z2, .int z3, .int z4] h (some (.int r)) h1 := (conRGH n).1 z0 z1 z2 z3 z4 h r h1 q
theorem conRGH_1 {G : GG} (n : Nat) (z0 : Int32) (z1 : Int32) (z2 : Int32) (z3 : Int32) (h : AH) (r : Int32) (h1 : AH) (q : RGH n 1 [z0, z1, z2, z3] h = some (r, h1)) : Con G (0 + n) yX1_own cX1_own 5 (some .int) [.ref 43, .int z0, .int z1, .int z2, .int z3] h (some (.int r)) h1 := (conRGH n).2.1 z0 z1 z2 z3 h r h1 q
theorem conRGH_2 {G : GG} (n : Nat) (z0 : Int32) (z1 : Int32) (z2 : Int32) (z3 : Int32) (z4 : Int32) (h : AH) (r : Int32) (h1 : AH) (q : RGH n 2 [z0, z1, z2, z3, z4] h = some (r, h1)) : Con G (0 + n) yX1_above cX1_above 6 (some .int) [.ref 43, .int z0, .int z1, .int z2, .int z3, .int z4] h (some (.int r)) h1 := (conRGH n).2.2 z0 z1 z2 z3 z4 h r h1 q
def fX1_add (p0 : Int32) (h : AH) : Option (Int32 × AH) :=
  if (h.1 43 1) < 50 then if inb (h.1 43 1) 50 = true then letV (wI h 44 (ix (h.1 43 1)) p0) fun h3 => letV (wI h3 43 1 ((h3.1 43 1) + 1)) fun h5 => some (((h5.1 43 1) - 1), h5) else none else some ((-3), h)
set_option maxRecDepth 10000 in
theorem sX1_add {G : GG} {E : EE} {rv : Int32} {h' : AH} (K : OK G E 0 RX1 cX1_add 2) (Z : RT G E (some .int) (some (.int rv)) h') (p0 : Int32) (h : AH) (hf : fX1_add p0 h = some (rv, h')) : JJ G E 2 0 [(0, .ref 43), (1, .int p0)] [] h := by
  unfold fX1_add at hf
  refine r_aload_n K dX1_add_0 0 rfl rfl ?_
  refine r_getI K flX1_15 dX1_add_1 rfl rfl ?_
  refine r_bipush (v := 50) K dX1_add_4 rfl ?_
  refine r_icmp_lt (tgt := 12) K dX1_add_6 (by decide) (fun c1 => ?_) (fun c1 => ?_)
  · have hf := e_t hf c1
    refine r_aload_n K dX1_add_12 0 rfl rfl ?_
    refine r_getR (o' := 44) K flX1_9 dX1_add_13 rfl rfl rfl ?_
    refine r_aload_n K dX1_add_16 0 rfl rfl ?_
    refine r_getI K flX1_15 dX1_add_17 rfl rfl ?_
    refine r_iload_n K dX1_add_20 1 rfl rfl ?_
    obtain ⟨g2, hf⟩ := e_g hf
    obtain ⟨h3, e4, hf⟩ := e_l hf
    refine r_iast K dX1_add_21 rfl g2 e4 ?_
    refine r_aload_n K dX1_add_22 0 rfl rfl ?_
    refine r_dup K dX1_add_23 rfl ?_
    refine r_getI K flX1_15 dX1_add_24 rfl rfl ?_
    refine r_iconst (v := 1) K dX1_add_27 rfl ?_
    refine r_iadd K dX1_add_28 ?_
    obtain ⟨h5, e6, hf⟩ := e_l hf
    refine r_putI K fpX1_15 dX1_add_29 rfl rfl e6 ?_
    refine r_aload_n K dX1_add_32 0 rfl rfl ?_
    refine r_getI K flX1_15 dX1_add_33 rfl rfl ?_
    refine r_iconst (v := 1) K dX1_add_36 rfl ?_
    refine r_isub K dX1_add_37 ?_
    exact r_iret K Z dX1_add_38 hf
  · have hf := e_f hf c1
    refine r_bipush (v := (-3)) K dX1_add_9 rfl ?_
    exact r_iret K Z dX1_add_11 hf
theorem conX1_add {G : GG} (p0 : Int32) (h : AH) (rv : Int32) (h' : AH) (hf : fX1_add p0 h = some (rv, h')) : Con G 0 yX1_add cX1_add 2 (some .int) [.ref 43, .int p0] h (some (.int rv)) h' := con_of mwX1_add (Nat.le_of_ble_eq_true rfl) (fun E K Z => sX1_add K Z p0 h hf)
def fX1_hasBody (p0 : Int32) (h : AH) : Option (Int32 × AH) :=
  if p0 < 0 then some (0, h) else if (h.1 43 1) ≤ p0 then some (0, h) else some (1, h)
set_option maxRecDepth 10000 in
theorem sX1_hasBody {G : GG} {E : EE} {rv : Int32} {h' : AH} (K : OK G E 0 RX1 cX1_hasBody 2) (Z : RT G E (some .boolean) (some (.int rv)) h') (p0 : Int32) (h : AH) (hf : fX1_hasBody p0 h = some (rv, h')) : JJ G E 2 0 [(0, .ref 43), (1, .int p0)] [] h := by
  unfold fX1_hasBody at hf
  refine r_iload_n K dX1_hasBody_0 1 rfl rfl ?_
  refine r_if_lt (tgt := 16) K dX1_hasBody_1 (by decide) (fun c1 => ?_) (fun c1 => ?_)
  · have hf := e_t hf c1
    refine r_iconst (v := 0) K dX1_hasBody_16 rfl ?_
    exact r_zret K Z dX1_hasBody_17 rfl hf
  · have hf := e_f hf c1
    refine r_iload_n K dX1_hasBody_4 1 rfl rfl ?_
    refine r_aload_n K dX1_hasBody_5 0 rfl rfl ?_
    refine r_getI K flX1_15 dX1_hasBody_6 rfl rfl ?_
    refine r_icmp_ge (tgt := 16) K dX1_hasBody_9 (by decide) (fun c2 => ?_) (fun c2 => ?_)
    · have hf := e_t hf c2
      refine r_iconst (v := 0) K dX1_hasBody_16 rfl ?_
      exact r_zret K Z dX1_hasBody_17 rfl hf
    · have hf := e_f hf c2
      refine r_iconst (v := 1) K dX1_hasBody_12 rfl ?_
      refine r_goto (tgt := 17) K dX1_hasBody_13 (by decide) ?_
      exact r_zret K Z dX1_hasBody_17 rfl hf
theorem conX1_hasBody {G : GG} (p0 : Int32) (h : AH) (rv : Int32) (h' : AH) (hf : fX1_hasBody p0 h = some (rv, h')) : Con G 0 yX1_hasBody cX1_hasBody 2 (some .boolean) [.ref 43, .int p0] h (some (.int rv)) h' := con_of mwX1_hasBody (Nat.le_of_ble_eq_true rfl) (fun E K Z => sX1_hasBody K Z p0 h hf)
def fX1_isKind (p0 : Int32) (h : AH) : Option (Int32 × AH) :=
  if p0 < 0 then some (0, h) else if 8 ≤ p0 then some (0, h) else some (1, h)
set_option maxRecDepth 10000 in
theorem sX1_isKind {G : GG} {E : EE} {rv : Int32} {h' : AH} (K : OK G E 0 RX1 cX1_isKind 1) (Z : RT G E (some .boolean) (some (.int rv)) h') (p0 : Int32) (h : AH) (hf : fX1_isKind p0 h = some (rv, h')) : JJ G E 1 0 [(0, .int p0)] [] h := by
  unfold fX1_isKind at hf
  refine r_iload_n K dX1_isKind_0 0 rfl rfl ?_
  refine r_if_lt (tgt := 14) K dX1_isKind_1 (by decide) (fun c1 => ?_) (fun c1 => ?_)
  · have hf := e_t hf c1
    refine r_iconst (v := 0) K dX1_isKind_14 rfl ?_
    exact r_zret K Z dX1_isKind_15 rfl hf
  · have hf := e_f hf c1
    refine r_iload_n K dX1_isKind_4 0 rfl rfl ?_
    refine r_bipush (v := 8) K dX1_isKind_5 rfl ?_
    refine r_icmp_ge (tgt := 14) K dX1_isKind_7 (by decide) (fun c2 => ?_) (fun c2 => ?_)
    · have hf := e_t hf c2
      refine r_iconst (v := 0) K dX1_isKind_14 rfl ?_
      exact r_zret K Z dX1_isKind_15 rfl hf
    · have hf := e_f hf c2
      refine r_iconst (v := 1) K dX1_isKind_10 rfl ?_
      refine r_goto (tgt := 15) K dX1_isKind_11 (by decide) ?_
      exact r_zret K Z dX1_isKind_15 rfl hf
theorem conX1_isKind {G : GG} (p0 : Int32) (h : AH) (rv : Int32) (h' : AH) (hf : fX1_isKind p0 h = some (rv, h')) : Con G 0 yX1_isKind cX1_isKind 1 (some .boolean) [.int p0] h (some (.int rv)) h' := con_of mwX1_isKind (Nat.le_of_ble_eq_true rfl) (fun E K Z => sX1_isKind K Z p0 h hf)
def fX1_isOfKind_44 (p0 : Int32) (p1 : Int32) (x2 : Int32) (x3 : Int32) (h : AH) : Option (Int32 × AH) :=
  if x3 = x2 then some (1, h) else some (0, h)
set_option maxRecDepth 10000 in
theorem sX1_isOfKind_44 {G : GG} {E : EE} {rv : Int32} {h' : AH} (K : OK G E 1 RX1 cX1_isOfKind 5) (Z : RT G E (some .boolean) (some (.int rv)) h') (p0 : Int32) (p1 : Int32) (x2 : Int32) (x3 : Int32) (h : AH) (hf : fX1_isOfKind_44 p0 p1 x2 x3 h = some (rv, h')) : JJ G E 5 44 [(2, .int x2), (3, .int x3)] [] h := by
  unfold fX1_isOfKind_44 at hf
  refine r_iload_n K dX1_isOfKind_44 1 rfl rfl ?_
  refine r_iload_n K dX1_isOfKind_45 0 rfl rfl ?_
  refine r_icmp_ne (tgt := 53) K dX1_isOfKind_46 (by decide) (fun c9 => ?_) (fun c9 => ?_)
  · have hf := e_f hf c9
    refine r_iconst (v := 0) K dX1_isOfKind_53 rfl ?_
    exact r_zret K Z dX1_isOfKind_54 rfl hf
  · have hf := e_t hf c9
    refine r_iconst (v := 1) K dX1_isOfKind_49 rfl ?_
    refine r_goto (tgt := 54) K dX1_isOfKind_50 (by decide) ?_
    exact r_zret K Z dX1_isOfKind_54 rfl hf
def fX1_isOfKind_20_b (p0 : Int32) (p1 : Int32) (Q20 : Int32 → Int32 → Int32 → AH → Option (Int32 × AH)) (x2 : Int32) (x3 : Int32) (x4 : Int32) (h : AH) : Option (Int32 × AH) :=
  if 8 ≤ x4 then fX1_isOfKind_44 p0 p1 x2 x3 h else if x3 = x2 then fX1_isOfKind_44 p0 p1 x2 x3 h else if inb x3 8 = true then letV ((ST 202 (ix x3))) fun x12 => Q20 x2 x12 (x4 + 1) h else none
def fX1_isOfKind_20 (p0 : Int32) (p1 : Int32) : Nat → Int32 → Int32 → Int32 → AH → Option (Int32 × AH)
  | 0 => fun _ _ _ _ => none
  | n + 1 => fX1_isOfKind_20_b p0 p1 (fX1_isOfKind_20 p0 p1 n)
set_option maxRecDepth 10000 in
theorem sX1_isOfKind_20_b {G : GG} {E : EE} {rv : Int32} {h' : AH} (K : OK G E 1 RX1 cX1_isOfKind 5) (Z : RT G E (some .boolean) (some (.int rv)) h') (p0 : Int32) (p1 : Int32) (Q20 : Int32 → Int32 → Int32 → AH → Option (Int32 × AH)) (hQ20 : ∀ (x2 : Int32) (x3 : Int32) (x4 : Int32) (h : AH), Q20 x2 x3 x4 h = some (rv, h') → JJ G E 5 20 [(2, .int x2), (3, .int x3), (4, .int x4)] [] h) (x2 : Int32) (x3 : Int32) (x4 : Int32) (h : AH) (hf : fX1_isOfKind_20_b p0 p1 Q20 x2 x3 x4 h = some (rv, h')) : JJ G E 5 20 [(2, .int x2), (3, .int x3), (4, .int x4)] [] h := by
  unfold fX1_isOfKind_20_b at hf
  refine r_iload K dX1_isOfKind_20 2 rfl ?_
  refine r_bipush (v := 8) K dX1_isOfKind_22 rfl ?_
  refine r_icmp_ge (tgt := 44) K dX1_isOfKind_24 (by decide) (fun c8 => ?_) (fun c8 => ?_)
  · have hf := e_t hf c8
    refine r_lv [0, 1] rfl ?_
    exact sX1_isOfKind_44 K Z p0 p1 x2 x3 h hf
  · have hf := e_f hf c8
    refine r_iload_n K dX1_isOfKind_27 1 rfl rfl ?_
    refine r_iload_n K dX1_isOfKind_28 0 rfl rfl ?_
    refine r_icmp_eq (tgt := 44) K dX1_isOfKind_29 (by decide) (fun c10 => ?_) (fun c10 => ?_)
    · have hf := e_t hf c10
      refine r_lv [0, 1] rfl ?_
      exact sX1_isOfKind_44 K Z p0 p1 x2 x3 h hf
    · have hf := e_f hf c10
      refine r_gets K gsX1_29 dX1_isOfKind_32 ?_
      refine r_iload_n K dX1_isOfKind_35 1 rfl rfl ?_
      obtain ⟨g11, hf⟩ := e_g hf
      refine r_sald K dX1_isOfKind_36 sl202 g11 ?_
      obtain ⟨x12, e13, hf⟩ := e_l hf
      refine r_nmI e13 ?_
      refine r_istore_n (lv' := [(3, .int x12), (2, .int x2), (4, .int x4)]) K dX1_isOfKind_37 rfl (Nat.le_of_ble_eq_true rfl) rfl ?_
      refine r_iinc (y := 1) (lv' := [(4, .int (x4 + 1)), (3, .int x12), (2, .int x2)]) K dX1_isOfKind_38 2 rfl rfl (Nat.le_of_ble_eq_true rfl) rfl ?_
      refine r_goto (tgt := 20) K dX1_isOfKind_41 (by decide) ?_
      refine r_lv [2, 1, 0] rfl ?_
      exact hQ20 x2 x12 (x4 + 1) h hf
theorem sX1_isOfKind_20 {G : GG} {E : EE} {rv : Int32} {h' : AH} (K : OK G E 1 RX1 cX1_isOfKind 5) (Z : RT G E (some .boolean) (some (.int rv)) h') (p0 : Int32) (p1 : Int32) : ∀ (n : Nat) (x2 : Int32) (x3 : Int32) (x4 : Int32) (h : AH), fX1_isOfKind_20 p0 p1 n x2 x3 x4 h = some (rv, h') → JJ G E 5 20 [(2, .int x2), (3, .int x3), (4, .int x4)] [] h := by
  intro n
  induction n with
  | zero => intro x2 x3 x4 h hf; cases hf
  | succ n ih => intro x2 x3 x4 h hf; exact sX1_isOfKind_20_b K Z p0 p1 _ (fun x2 x3 x4 h hf => ih x2 x3 x4 h hf) x2 x3 x4 h hf
def fX1_isOfKind (p0 : Int32) (p1 : Int32) (h : AH) : Option (Int32 × AH) :=
  bind2 (fX1_hasBody p0 h) fun r1 h2 => if r1 = 0 then some (0, h2) else if inb p0 50 = true then letV ((h2.1 44 (ix p0))) fun x6 => fX1_isOfKind_20 p0 p1 FU p1 x6 0 h2 else none
set_option maxRecDepth 10000 in
theorem sX1_isOfKind {G : GG} {E : EE} {rv : Int32} {h' : AH} (K : OK G E 1 RX1 cX1_isOfKind 5) (Z : RT G E (some .boolean) (some (.int rv)) h') (p0 : Int32) (p1 : Int32) (h : AH) (hf : fX1_isOfKind p0 p1 h = some (rv, h')) : JJ G E 5 0 [(0, .ref 43), (1, .int p0), (2, .int p1)] [] h := by
  unfold fX1_isOfKind at hf
  refine r_aload_n K dX1_isOfKind_0 0 rfl rfl ?_
  refine r_iload_n K dX1_isOfKind_1 1 rfl rfl ?_
  obtain ⟨r1, h2, g3, hf⟩ := e_2 hf
  refine r_callV (av := [.int p0]) (st := []) K lkX1_25 mwX1_hasBody (conX1_hasBody p0 h r1 h2 g3) dX1_isOfKind_2 rfl (Nat.le_of_ble_eq_true rfl) rfl rfl (Nat.le_of_ble_eq_true rfl) ?_
  refine r_if_ne (tgt := 10) K dX1_isOfKind_5 (by decide) (fun c4 => ?_) (fun c4 => ?_)
  · have hf := e_f hf c4
    refine r_aload_n K dX1_isOfKind_10 0 rfl rfl ?_
    refine r_getR (o' := 44) K flX1_9 dX1_isOfKind_11 rfl rfl rfl ?_
    refine r_iload_n K dX1_isOfKind_14 1 rfl rfl ?_
    obtain ⟨g5, hf⟩ := e_g hf
    refine r_iald K dX1_isOfKind_15 rfl g5 ?_
    obtain ⟨x6, e7, hf⟩ := e_l hf
    refine r_nmI e7 ?_
    refine r_istore_n (lv' := [(3, .int x6), (0, .ref 43), (1, .int p0), (2, .int p1)]) K dX1_isOfKind_16 rfl (Nat.le_of_ble_eq_true rfl) rfl ?_
    refine r_iconst (v := 0) K dX1_isOfKind_17 rfl ?_
    refine r_istore (lv' := [(4, .int 0), (3, .int x6), (0, .ref 43), (1, .int p0), (2, .int p1)]) K dX1_isOfKind_18 (Nat.le_of_ble_eq_true rfl) rfl ?_
    refine r_lv [4, 1, 0] rfl ?_
    exact sX1_isOfKind_20 K Z p0 p1 FU p1 x6 0 h2 hf
  · have hf := e_t hf c4
    refine r_iconst (v := 0) K dX1_isOfKind_8 rfl ?_
    exact r_zret K Z dX1_isOfKind_9 rfl hf
theorem conX1_isOfKind {G : GG} (p0 : Int32) (p1 : Int32) (h : AH) (rv : Int32) (h' : AH) (hf : fX1_isOfKind p0 p1 h = some (rv, h')) : Con G 1 yX1_isOfKind cX1_isOfKind 5 (some .boolean) [.ref 43, .int p0, .int p1] h (some (.int rv)) h' := con_of mwX1_isOfKind (Nat.le_of_ble_eq_true rfl) (fun E K Z => sX1_isOfKind K Z p0 p1 h hf)
def fX1_perform (p0 : Int32) (p1 : Int32) (p2 : Int32) (h : AH) : Option (Int32 × AH) :=
  letV (wI h 43 3 0) fun h1 => bind2 (fX1_hasBody p0 h1) fun r3 h4 => if r3 = 0 then some (0, h4) else if p1 < 0 then some (0, h4) else if p1 < 4 then bind2 (RGH 50 1 [p0, p1, p2, 0] h4) fun r9 h10 => some (r9, h10) else some (0, h4)
set_option maxRecDepth 10000 in
theorem sX1_perform {G : GG} {E : EE} {rv : Int32} {h' : AH} (K : OK G E 51 RX1 cX1_perform 4) (Z : RT G E (some .int) (some (.int rv)) h') (p0 : Int32) (p1 : Int32) (p2 : Int32) (h : AH) (hf : fX1_perform p0 p1 p2 h = some (rv, h')) : JJ G E 4 0 [(0, .ref 43), (1, .int p0), (2, .int p1), (3, .int p2)] [] h := by
  unfold fX1_perform at hf
  refine r_aload_n K dX1_perform_0 0 rfl rfl ?_
  refine r_iconst (v := 0) K dX1_perform_1 rfl ?_
  obtain ⟨h1, e2, hf⟩ := e_l hf
  refine r_putI K fpX1_22 dX1_perform_2 rfl rfl e2 ?_
  refine r_aload_n K dX1_perform_5 0 rfl rfl ?_
  refine r_iload_n K dX1_perform_6 1 rfl rfl ?_
  obtain ⟨r3, h4, g5, hf⟩ := e_2 hf
  refine r_callV (av := [.int p0]) (st := []) K lkX1_25 mwX1_hasBody (conX1_hasBody p0 h1 r3 h4 g5) dX1_perform_7 rfl (Nat.le_of_ble_eq_true rfl) rfl rfl (Nat.le_of_ble_eq_true rfl) ?_
  refine r_if_eq (tgt := 22) K dX1_perform_10 (by decide) (fun c6 => ?_) (fun c6 => ?_)
  · have hf := e_t hf c6
    refine r_iconst (v := 0) K dX1_perform_22 rfl ?_
    exact r_iret K Z dX1_perform_23 hf
  · have hf := e_f hf c6
    refine r_iload_n K dX1_perform_13 2 rfl rfl ?_
    refine r_if_lt (tgt := 22) K dX1_perform_14 (by decide) (fun c7 => ?_) (fun c7 => ?_)
    · have hf := e_t hf c7
      refine r_iconst (v := 0) K dX1_perform_22 rfl ?_
      exact r_iret K Z dX1_perform_23 hf
    · have hf := e_f hf c7
      refine r_iload_n K dX1_perform_17 2 rfl rfl ?_
      refine r_iconst (v := 4) K dX1_perform_18 rfl ?_
      refine r_icmp_lt (tgt := 24) K dX1_perform_19 (by decide) (fun c8 => ?_) (fun c8 => ?_)
      · have hf := e_t hf c8
        refine r_aload_n K dX1_perform_24 0 rfl rfl ?_
        refine r_iload_n K dX1_perform_25 1 rfl rfl ?_
        refine r_iload_n K dX1_perform_26 2 rfl rfl ?_
        refine r_iload_n K dX1_perform_27 3 rfl rfl ?_
        refine r_iconst (v := 0) K dX1_perform_28 rfl ?_
        obtain ⟨r9, h10, g11, hf⟩ := e_2 hf
        refine r_callV (av := [.int p0, .int p1, .int p2, .int 0]) (st := []) K lkX1_32 mwX1_own (conRGH_1 50 p0 p1 p2 0 h4 r9 h10 g11) dX1_perform_29 rfl (Nat.le_of_ble_eq_true rfl) rfl rfl (Nat.le_of_ble_eq_true rfl) ?_
        exact r_iret K Z dX1_perform_32 hf
      · have hf := e_f hf c8
        refine r_iconst (v := 0) K dX1_perform_22 rfl ?_
        exact r_iret K Z dX1_perform_23 hf
theorem conX1_perform {G : GG} (p0 : Int32) (p1 : Int32) (p2 : Int32) (h : AH) (rv : Int32) (h' : AH) (hf : fX1_perform p0 p1 p2 h = some (rv, h')) : Con G 51 yX1_perform cX1_perform 4 (some .int) [.ref 43, .int p0, .int p1, .int p2] h (some (.int rv)) h' := con_of mwX1_perform (Nat.le_of_ble_eq_true rfl) (fun E K Z => sX1_perform K Z p0 p1 p2 h hf)
def fX2_layBack (p0 : Nat) (h : AH) : Option AH :=
  letV (wI h p0 11 (h.1 33 5)) fun h1 => if cpOK 0 0 (h1.1 33 4) 9 9 = true then letV (cpI h1 34 (ix 0) (rf p0 0) (ix 0) (ix (h1.1 33 4))) fun h4 => if cpOK 0 0 (h4.1 33 4) 9 9 = true then letV (cpI h4 35 (ix 0) (rf p0 2) (ix 0) (ix (h4.1 33 4))) fun h7 => if cpOK 0 0 (h7.1 33 4) 9 9 = true then letV (cpI h7 36 (ix 0) (rf p0 5) (ix 0) (ix (h7.1 33 4))) fun h10 => if cpOK 0 0 5 5 5 = true then letV (cpI h10 37 (ix 0) 32 (ix 0) (ix 5)) fun h13 => some h13 else none else none else none else none
set_option maxRecDepth 10000 in
theorem sX2_layBack {G : GG} {E : EE} {h' : AH} (K : OK G E 1 RX2 cX2_layBack 3) (Z : RT G E none (none) h') (p0 : Nat) (hp0 : KD p0 = (7, 12)) (h : AH) (hf : fX2_layBack p0 h = some h') : JJ G E 3 0 [(0, .ref 33), (1, .ref p0), (2, .ref 32)] [] h := by
  unfold fX2_layBack at hf
  refine r_aload_n K dX2_layBack_0 1 rfl rfl ?_
  refine r_aload_n K dX2_layBack_1 0 rfl rfl ?_
  refine r_getI K flX2_28 dX2_layBack_2 rfl rfl ?_
  obtain ⟨h1, e2, hf⟩ := e_l hf
  refine r_putI K fpX2_38 dX2_layBack_5 hp0 rfl e2 ?_
  refine r_aload_n K dX2_layBack_8 0 rfl rfl ?_
  refine r_getR (o' := 34) K flX2_9 dX2_layBack_9 rfl rfl rfl ?_
  refine r_iconst (v := 0) K dX2_layBack_12 rfl ?_
  refine r_aload_n K dX2_layBack_13 1 rfl rfl ?_
  refine r_getR (o' := (rf p0 0)) K flX2_39 dX2_layBack_14 hp0 rfl rfl ?_
  refine r_iconst (v := 0) K dX2_layBack_17 rfl ?_
  refine r_aload_n K dX2_layBack_18 0 rfl rfl ?_
  refine r_getI K flX2_24 dX2_layBack_19 rfl rfl ?_
  obtain ⟨g3, hf⟩ := e_g hf
  obtain ⟨h4, e5, hf⟩ := e_l hf
  refine r_acopyi K lmX2_40 dX2_layBack_22 rfl (kf7_0 hp0) g3 (Nat.le_of_ble_eq_true rfl) (Nat.le_of_ble_eq_true rfl) e5 ?_
  refine r_aload_n K dX2_layBack_25 0 rfl rfl ?_
  refine r_getR (o' := 35) K flX2_15 dX2_layBack_26 rfl rfl rfl ?_
  refine r_iconst (v := 0) K dX2_layBack_29 rfl ?_
  refine r_aload_n K dX2_layBack_30 1 rfl rfl ?_
  refine r_getR (o' := (rf p0 2)) K flX2_46 dX2_layBack_31 hp0 rfl rfl ?_
  refine r_iconst (v := 0) K dX2_layBack_34 rfl ?_
  refine r_aload_n K dX2_layBack_35 0 rfl rfl ?_
  refine r_getI K flX2_24 dX2_layBack_36 rfl rfl ?_
  obtain ⟨g6, hf⟩ := e_g hf
  obtain ⟨h7, e8, hf⟩ := e_l hf
  refine r_acopyi K lmX2_40 dX2_layBack_39 rfl (kf7_2 hp0) g6 (Nat.le_of_ble_eq_true rfl) (Nat.le_of_ble_eq_true rfl) e8 ?_
  refine r_aload_n K dX2_layBack_42 0 rfl rfl ?_
  refine r_getR (o' := 36) K flX2_18 dX2_layBack_43 rfl rfl rfl ?_
  refine r_iconst (v := 0) K dX2_layBack_46 rfl ?_
  refine r_aload_n K dX2_layBack_47 1 rfl rfl ?_
  refine r_getR (o' := (rf p0 5)) K flX2_47 dX2_layBack_48 hp0 rfl rfl ?_
  refine r_iconst (v := 0) K dX2_layBack_51 rfl ?_
  refine r_aload_n K dX2_layBack_52 0 rfl rfl ?_
  refine r_getI K flX2_24 dX2_layBack_53 rfl rfl ?_
  obtain ⟨g9, hf⟩ := e_g hf
  obtain ⟨h10, e11, hf⟩ := e_l hf
  refine r_acopyi K lmX2_40 dX2_layBack_56 rfl (kf7_5 hp0) g9 (Nat.le_of_ble_eq_true rfl) (Nat.le_of_ble_eq_true rfl) e11 ?_
  refine r_aload_n K dX2_layBack_59 0 rfl rfl ?_
  refine r_getR (o' := 37) K flX2_21 dX2_layBack_60 rfl rfl rfl ?_
  refine r_iconst (v := 0) K dX2_layBack_63 rfl ?_
  refine r_aload_n K dX2_layBack_64 2 rfl rfl ?_
  refine r_iconst (v := 0) K dX2_layBack_65 rfl ?_
  refine r_iconst (v := 5) K dX2_layBack_66 rfl ?_
  obtain ⟨g12, hf⟩ := e_g hf
  obtain ⟨h13, e14, hf⟩ := e_l hf
  refine r_acopyi K lmX2_40 dX2_layBack_67 rfl rfl g12 (Nat.le_of_ble_eq_true rfl) (Nat.le_of_ble_eq_true rfl) e14 ?_
  exact r_vret K Z dX2_layBack_70 hf
theorem conX2_layBack {G : GG} (p0 : Nat) (hp0 : KD p0 = (7, 12)) (h : AH) (h' : AH) (hf : fX2_layBack p0 h = some h') : Con G 1 yX2_layBack cX2_layBack 3 none [.ref 33, .ref p0, .ref 32] h (none) h' := con_of mwX2_layBack (Nat.le_of_ble_eq_true rfl) (fun E K Z => sX2_layBack K Z p0 hp0 h hf)
def fX2_take (p0 : Nat) (h : AH) : Option AH :=
  letV (wI h 33 4 (h.1 p0 9)) fun h1 => letV (wI h1 33 5 (h1.1 p0 11)) fun h3 => if cpOK 0 0 (h3.1 33 4) 9 9 = true then letV (cpI h3 (rf p0 0) (ix 0) 34 (ix 0) (ix (h3.1 33 4))) fun h6 => if cpOK 0 0 (h6.1 33 4) 9 9 = true then letV (cpI h6 (rf p0 2) (ix 0) 35 (ix 0) (ix (h6.1 33 4))) fun h9 => if cpOK 0 0 (h9.1 33 4) 9 9 = true then letV (cpI h9 (rf p0 5) (ix 0) 36 (ix 0) (ix (h9.1 33 4))) fun h12 => if cpOK 0 0 5 5 5 = true then letV (cpI h12 32 (ix 0) 37 (ix 0) (ix 5)) fun h15 => letV (wI h15 33 6 1) fun h17 => some h17 else none else none else none else none
set_option maxRecDepth 10000 in
theorem sX2_take {G : GG} {E : EE} {h' : AH} (K : OK G E 1 RX2 cX2_take 3) (Z : RT G E none (none) h') (p0 : Nat) (hp0 : KD p0 = (7, 12)) (h : AH) (hf : fX2_take p0 h = some h') : JJ G E 3 0 [(0, .ref 33), (1, .ref p0), (2, .ref 32)] [] h := by
  unfold fX2_take at hf
  refine r_aload_n K dX2_take_0 0 rfl rfl ?_
  refine r_aload_n K dX2_take_1 1 rfl rfl ?_
  refine r_getI K flX2_35 dX2_take_2 hp0 rfl ?_
  obtain ⟨h1, e2, hf⟩ := e_l hf
  refine r_putI K fpX2_24 dX2_take_5 rfl rfl e2 ?_
  refine r_aload_n K dX2_take_8 0 rfl rfl ?_
  refine r_aload_n K dX2_take_9 1 rfl rfl ?_
  refine r_getI K flX2_38 dX2_take_10 hp0 rfl ?_
  obtain ⟨h3, e4, hf⟩ := e_l hf
  refine r_putI K fpX2_28 dX2_take_13 rfl rfl e4 ?_
  refine r_aload_n K dX2_take_16 1 rfl rfl ?_
  refine r_getR (o' := (rf p0 0)) K flX2_39 dX2_take_17 hp0 rfl rfl ?_
  refine r_iconst (v := 0) K dX2_take_20 rfl ?_
  refine r_aload_n K dX2_take_21 0 rfl rfl ?_
  refine r_getR (o' := 34) K flX2_9 dX2_take_22 rfl rfl rfl ?_
  refine r_iconst (v := 0) K dX2_take_25 rfl ?_
  refine r_aload_n K dX2_take_26 0 rfl rfl ?_
  refine r_getI K flX2_24 dX2_take_27 rfl rfl ?_
  obtain ⟨g5, hf⟩ := e_g hf
  obtain ⟨h6, e7, hf⟩ := e_l hf
  refine r_acopyi K lmX2_40 dX2_take_30 (kf7_0 hp0) rfl g5 (Nat.le_of_ble_eq_true rfl) (Nat.le_of_ble_eq_true rfl) e7 ?_
  refine r_aload_n K dX2_take_33 1 rfl rfl ?_
  refine r_getR (o' := (rf p0 2)) K flX2_46 dX2_take_34 hp0 rfl rfl ?_
  refine r_iconst (v := 0) K dX2_take_37 rfl ?_
  refine r_aload_n K dX2_take_38 0 rfl rfl ?_
  refine r_getR (o' := 35) K flX2_15 dX2_take_39 rfl rfl rfl ?_
  refine r_iconst (v := 0) K dX2_take_42 rfl ?_
  refine r_aload_n K dX2_take_43 0 rfl rfl ?_
  refine r_getI K flX2_24 dX2_take_44 rfl rfl ?_
  obtain ⟨g8, hf⟩ := e_g hf
  obtain ⟨h9, e10, hf⟩ := e_l hf
  refine r_acopyi K lmX2_40 dX2_take_47 (kf7_2 hp0) rfl g8 (Nat.le_of_ble_eq_true rfl) (Nat.le_of_ble_eq_true rfl) e10 ?_
  refine r_aload_n K dX2_take_50 1 rfl rfl ?_
  refine r_getR (o' := (rf p0 5)) K flX2_47 dX2_take_51 hp0 rfl rfl ?_
  refine r_iconst (v := 0) K dX2_take_54 rfl ?_
  refine r_aload_n K dX2_take_55 0 rfl rfl ?_
  refine r_getR (o' := 36) K flX2_18 dX2_take_56 rfl rfl rfl ?_
  refine r_iconst (v := 0) K dX2_take_59 rfl ?_
  refine r_aload_n K dX2_take_60 0 rfl rfl ?_
  refine r_getI K flX2_24 dX2_take_61 rfl rfl ?_
  obtain ⟨g11, hf⟩ := e_g hf
  obtain ⟨h12, e13, hf⟩ := e_l hf
  refine r_acopyi K lmX2_40 dX2_take_64 (kf7_5 hp0) rfl g11 (Nat.le_of_ble_eq_true rfl) (Nat.le_of_ble_eq_true rfl) e13 ?_
  refine r_aload_n K dX2_take_67 2 rfl rfl ?_
  refine r_iconst (v := 0) K dX2_take_68 rfl ?_
  refine r_aload_n K dX2_take_69 0 rfl rfl ?_
  refine r_getR (o' := 37) K flX2_21 dX2_take_70 rfl rfl rfl ?_
  refine r_iconst (v := 0) K dX2_take_73 rfl ?_
  refine r_iconst (v := 5) K dX2_take_74 rfl ?_
  obtain ⟨g14, hf⟩ := e_g hf
  obtain ⟨h15, e16, hf⟩ := e_l hf
  refine r_acopyi K lmX2_40 dX2_take_75 rfl rfl g14 (Nat.le_of_ble_eq_true rfl) (Nat.le_of_ble_eq_true rfl) e16 ?_
  refine r_aload_n K dX2_take_78 0 rfl rfl ?_
  refine r_iconst (v := 1) K dX2_take_79 rfl ?_
  obtain ⟨h17, e18, hf⟩ := e_l hf
  refine r_putZ K fpX2_31 dX2_take_80 rfl rfl rfl e18 ?_
  exact r_vret K Z dX2_take_83 hf
theorem conX2_take {G : GG} (p0 : Nat) (hp0 : KD p0 = (7, 12)) (h : AH) (h' : AH) (hf : fX2_take p0 h = some h') : Con G 1 yX2_take cX2_take 3 none [.ref 33, .ref p0, .ref 32] h (none) h' := con_of mwX2_take (Nat.le_of_ble_eq_true rfl) (fun E K Z => sX2_take K Z p0 hp0 h hf)
def fX3_become (h : AH) : Option AH :=
  if cpOK 0 0 121 121 121 = true then letV (cpI h 23 (ix 0) 26 (ix 0) (ix 121)) fun h2 => letV (wI h2 25 1 (h2.1 22 1)) fun h4 => some h4 else none
set_option maxRecDepth 10000 in
theorem sX3_become {G : GG} {E : EE} {h' : AH} (K : OK G E 1 RX3 cX3_become 2) (Z : RT G E none (none) h') (h : AH) (hf : fX3_become h = some h') : JJ G E 2 0 [(0, .ref 25), (1, .ref 22)] [] h := by
  unfold fX3_become at hf
  refine r_aload_n K dX3_become_0 1 rfl rfl ?_
  refine r_getR (o' := 23) K flX3_27 dX3_become_1 rfl rfl rfl ?_
  refine r_iconst (v := 0) K dX3_become_4 rfl ?_
  refine r_aload_n K dX3_become_5 0 rfl rfl ?_
  refine r_getR (o' := 26) K flX3_11 dX3_become_6 rfl rfl rfl ?_
  refine r_iconst (v := 0) K dX3_become_9 rfl ?_
  refine r_bipush (v := 121) K dX3_become_10 rfl ?_
  obtain ⟨g1, hf⟩ := e_g hf
  obtain ⟨h2, e3, hf⟩ := e_l hf
  refine r_acopyi K lmX3_28 dX3_become_12 rfl rfl g1 (Nat.le_of_ble_eq_true rfl) (Nat.le_of_ble_eq_true rfl) e3 ?_
  refine r_aload_n K dX3_become_15 0 rfl rfl ?_
  refine r_aload_n K dX3_become_16 1 rfl rfl ?_
  refine r_getI K flX3_34 dX3_become_17 rfl rfl ?_
  obtain ⟨h4, e5, hf⟩ := e_l hf
  refine r_putI K fpX3_17 dX3_become_20 rfl rfl e5 ?_
  exact r_vret K Z dX3_become_23 hf
theorem conX3_become {G : GG} (h : AH) (h' : AH) (hf : fX3_become h = some h') : Con G 1 yX3_become cX3_become 2 none [.ref 25, .ref 22] h (none) h' := con_of mwX3_become (Nat.le_of_ble_eq_true rfl) (fun E K Z => sX3_become K Z h hf)
def fX3_pop (h : AH) : Option (Int32 × AH) :=
  if 0 < (h.1 25 3) then letV (wI h 25 3 ((h.1 25 3) - 1)) fun h2 => if inb (h2.1 25 3) 121 = true then some ((h2.1 27 (ix (h2.1 25 3))), h2) else none else some (0, h)
set_option maxRecDepth 10000 in
theorem sX3_pop {G : GG} {E : EE} {rv : Int32} {h' : AH} (K : OK G E 0 RX3 cX3_pop 1) (Z : RT G E (some .int) (some (.int rv)) h') (h : AH) (hf : fX3_pop h = some (rv, h')) : JJ G E 1 0 [(0, .ref 25)] [] h := by
  unfold fX3_pop at hf
  refine r_aload_n K dX3_pop_0 0 rfl rfl ?_
  refine r_getI K flX3_24 dX3_pop_1 rfl rfl ?_
  refine r_if_gt (tgt := 9) K dX3_pop_4 (by decide) (fun c1 => ?_) (fun c1 => ?_)
  · have hf := e_t hf c1
    refine r_aload_n K dX3_pop_9 0 rfl rfl ?_
    refine r_dup K dX3_pop_10 rfl ?_
    refine r_getI K flX3_24 dX3_pop_11 rfl rfl ?_
    refine r_iconst (v := 1) K dX3_pop_14 rfl ?_
    refine r_isub K dX3_pop_15 ?_
    obtain ⟨h2, e3, hf⟩ := e_l hf
    refine r_putI K fpX3_24 dX3_pop_16 rfl rfl e3 ?_
    refine r_aload_n K dX3_pop_19 0 rfl rfl ?_
    refine r_getR (o' := 27) K flX3_21 dX3_pop_20 rfl rfl rfl ?_
    refine r_aload_n K dX3_pop_23 0 rfl rfl ?_
    refine r_getI K flX3_24 dX3_pop_24 rfl rfl ?_
    obtain ⟨g4, hf⟩ := e_g hf
    refine r_iald K dX3_pop_27 rfl g4 ?_
    exact r_iret K Z dX3_pop_28 hf
  · have hf := e_f hf c1
    refine r_iconst (v := 0) K dX3_pop_7 rfl ?_
    exact r_iret K Z dX3_pop_8 hf
theorem conX3_pop {G : GG} (h : AH) (rv : Int32) (h' : AH) (hf : fX3_pop h = some (rv, h')) : Con G 0 yX3_pop cX3_pop 1 (some .int) [.ref 25] h (some (.int rv)) h' := con_of mwX3_pop (Nat.le_of_ble_eq_true rfl) (fun E K Z => sX3_pop K Z h hf)
def fX3_push (p0 : Int32) (h : AH) : Option AH :=
  if 121 ≤ (h.1 25 3) then some h else if inb (h.1 25 3) 121 = true then letV (wI h 27 (ix (h.1 25 3)) p0) fun h3 => letV (wI h3 25 3 ((h3.1 25 3) + 1)) fun h5 => some h5 else none
set_option maxRecDepth 10000 in
theorem sX3_push {G : GG} {E : EE} {h' : AH} (K : OK G E 0 RX3 cX3_push 2) (Z : RT G E none (none) h') (p0 : Int32) (h : AH) (hf : fX3_push p0 h = some h') : JJ G E 2 0 [(0, .ref 25), (1, .int p0)] [] h := by
  unfold fX3_push at hf
  refine r_aload_n K dX3_push_0 0 rfl rfl ?_
  refine r_getI K flX3_24 dX3_push_1 rfl rfl ?_
  refine r_aload_n K dX3_push_4 0 rfl rfl ?_
  refine r_getR (o' := 27) K flX3_21 dX3_push_5 rfl rfl rfl ?_
  refine r_alen (v := 121) K dX3_push_8 rfl rfl ?_
  refine r_icmp_ge (tgt := 32) K dX3_push_9 (by decide) (fun c1 => ?_) (fun c1 => ?_)
  · have hf := e_t hf c1
    exact r_vret K Z dX3_push_32 hf
  · have hf := e_f hf c1
    refine r_aload_n K dX3_push_12 0 rfl rfl ?_
    refine r_getR (o' := 27) K flX3_21 dX3_push_13 rfl rfl rfl ?_
    refine r_aload_n K dX3_push_16 0 rfl rfl ?_
    refine r_getI K flX3_24 dX3_push_17 rfl rfl ?_
    refine r_iload_n K dX3_push_20 1 rfl rfl ?_
    obtain ⟨g2, hf⟩ := e_g hf
    obtain ⟨h3, e4, hf⟩ := e_l hf
    refine r_iast K dX3_push_21 rfl g2 e4 ?_
    refine r_aload_n K dX3_push_22 0 rfl rfl ?_
    refine r_dup K dX3_push_23 rfl ?_
    refine r_getI K flX3_24 dX3_push_24 rfl rfl ?_
    refine r_iconst (v := 1) K dX3_push_27 rfl ?_
    refine r_iadd K dX3_push_28 ?_
    obtain ⟨h5, e6, hf⟩ := e_l hf
    refine r_putI K fpX3_24 dX3_push_29 rfl rfl e6 ?_
    exact r_vret K Z dX3_push_32 hf
theorem conX3_push {G : GG} (p0 : Int32) (h : AH) (h' : AH) (hf : fX3_push p0 h = some h') : Con G 0 yX3_push cX3_push 2 none [.ref 25, .int p0] h (none) h' := con_of mwX3_push (Nat.le_of_ble_eq_true rfl) (fun E K Z => sX3_push K Z p0 h hf)
def fX3_worthOfTwo (p0 : Int32) (p1 : Int32) (p2 : Int32) (h : AH) : Option (Int32 × AH) :=
  if p0 = 38 then if p1 = 0 then some (0, h) else if p2 = 0 then some (0, h) else some (1, h) else if p0 = 42 then some ((p1 * p2), h) else if p0 = 43 then some ((p1 + p2), h) else if p0 = 45 then some ((p1 - p2), h) else if p0 = 47 then if p2 = 0 then some (0, h) else if p2 = 0 then none else some ((p1 / p2), h) else if p0 = 60 then if p2 ≤ p1 then some (0, h) else some (1, h) else if p0 = 61 then if p1 = p2 then some (1, h) else some (0, h) else if p0 = 62 then if p1 ≤ p2 then some (0, h) else some (1, h) else if p0 = 124 then if p1 = 0 then if p2 = 0 then some (0, h) else some (1, h) else some (1, h) else if p2 = 0 then some (0, h) else if p2 = 0 then none else some ((jrem p1 p2), h)
set_option maxRecDepth 10000 in
theorem sX3_worthOfTwo {G : GG} {E : EE} {rv : Int32} {h' : AH} (K : OK G E 0 RX3 cX3_worthOfTwo 3) (Z : RT G E (some .int) (some (.int rv)) h') (p0 : Int32) (p1 : Int32) (p2 : Int32) (h : AH) (hf : fX3_worthOfTwo p0 p1 p2 h = some (rv, h')) : JJ G E 3 0 [(0, .int p0), (1, .int p1), (2, .int p2)] [] h := by
  unfold fX3_worthOfTwo at hf
  refine r_iload_n K dX3_worthOfTwo_0 0 rfl rfl ?_
  by_cases c1 : p0 = 38
  · have hf := e_t hf c1
    refine r_look (off := 97) (tgt := 98) K dX3_worthOfTwo_1 (by decide) (by rw [c1]; decide) (by decide) ?_
    refine r_iload_n K dX3_worthOfTwo_98 1 rfl rfl ?_
    refine r_if_eq (tgt := 110) K dX3_worthOfTwo_99 (by decide) (fun c2 => ?_) (fun c2 => ?_)
    · have hf := e_t hf c2
      refine r_iconst (v := 0) K dX3_worthOfTwo_110 rfl ?_
      exact r_iret K Z dX3_worthOfTwo_111 hf
    · have hf := e_f hf c2
      refine r_iload_n K dX3_worthOfTwo_102 2 rfl rfl ?_
      refine r_if_eq (tgt := 110) K dX3_worthOfTwo_103 (by decide) (fun c3 => ?_) (fun c3 => ?_)
      · have hf := e_t hf c3
        refine r_iconst (v := 0) K dX3_worthOfTwo_110 rfl ?_
        exact r_iret K Z dX3_worthOfTwo_111 hf
      · have hf := e_f hf c3
        refine r_iconst (v := 1) K dX3_worthOfTwo_106 rfl ?_
        refine r_goto (tgt := 111) K dX3_worthOfTwo_107 (by decide) ?_
        exact r_iret K Z dX3_worthOfTwo_111 hf
  have hf := e_f hf c1
  by_cases c4 : p0 = 42
  · have hf := e_t hf c4
    refine r_look (off := 152) (tgt := 153) K dX3_worthOfTwo_1 (by decide) (by rw [c4]; decide) (by decide) ?_
    refine r_iload_n K dX3_worthOfTwo_153 1 rfl rfl ?_
    refine r_iload_n K dX3_worthOfTwo_154 2 rfl rfl ?_
    refine r_imul K dX3_worthOfTwo_155 ?_
    exact r_iret K Z dX3_worthOfTwo_156 hf
  have hf := e_f hf c4
  by_cases c5 : p0 = 43
  · have hf := e_t hf c5
    refine r_look (off := 144) (tgt := 145) K dX3_worthOfTwo_1 (by decide) (by rw [c5]; decide) (by decide) ?_
    refine r_iload_n K dX3_worthOfTwo_145 1 rfl rfl ?_
    refine r_iload_n K dX3_worthOfTwo_146 2 rfl rfl ?_
    refine r_iadd K dX3_worthOfTwo_147 ?_
    exact r_iret K Z dX3_worthOfTwo_148 hf
  have hf := e_f hf c5
  by_cases c6 : p0 = 45
  · have hf := e_t hf c6
    refine r_look (off := 148) (tgt := 149) K dX3_worthOfTwo_1 (by decide) (by rw [c6]; decide) (by decide) ?_
    refine r_iload_n K dX3_worthOfTwo_149 1 rfl rfl ?_
    refine r_iload_n K dX3_worthOfTwo_150 2 rfl rfl ?_
    refine r_isub K dX3_worthOfTwo_151 ?_
    exact r_iret K Z dX3_worthOfTwo_152 hf
  have hf := e_f hf c6
  by_cases c7 : p0 = 47
  · have hf := e_t hf c7
    refine r_look (off := 156) (tgt := 157) K dX3_worthOfTwo_1 (by decide) (by rw [c7]; decide) (by decide) ?_
    refine r_iload_n K dX3_worthOfTwo_157 2 rfl rfl ?_
    refine r_if_ne (tgt := 165) K dX3_worthOfTwo_158 (by decide) (fun c8 => ?_) (fun c8 => ?_)
    · have hf := e_f hf c8
      refine r_iload_n K dX3_worthOfTwo_165 1 rfl rfl ?_
      refine r_iload_n K dX3_worthOfTwo_166 2 rfl rfl ?_
      obtain ⟨g9, hf⟩ := e_n hf
      refine r_idiv K dX3_worthOfTwo_167 g9 ?_
      exact r_iret K Z dX3_worthOfTwo_168 hf
    · have hf := e_t hf c8
      refine r_iconst (v := 0) K dX3_worthOfTwo_161 rfl ?_
      refine r_goto (tgt := 168) K dX3_worthOfTwo_162 (by decide) ?_
      exact r_iret K Z dX3_worthOfTwo_168 hf
  have hf := e_f hf c7
  by_cases c10 : p0 = 60
  · have hf := e_t hf c10
    refine r_look (off := 111) (tgt := 112) K dX3_worthOfTwo_1 (by decide) (by rw [c10]; decide) (by decide) ?_
    refine r_iload_n K dX3_worthOfTwo_112 1 rfl rfl ?_
    refine r_iload_n K dX3_worthOfTwo_113 2 rfl rfl ?_
    refine r_icmp_ge (tgt := 121) K dX3_worthOfTwo_114 (by decide) (fun c11 => ?_) (fun c11 => ?_)
    · have hf := e_t hf c11
      refine r_iconst (v := 0) K dX3_worthOfTwo_121 rfl ?_
      exact r_iret K Z dX3_worthOfTwo_122 hf
    · have hf := e_f hf c11
      refine r_iconst (v := 1) K dX3_worthOfTwo_117 rfl ?_
      refine r_goto (tgt := 122) K dX3_worthOfTwo_118 (by decide) ?_
      exact r_iret K Z dX3_worthOfTwo_122 hf
  have hf := e_f hf c10
  by_cases c12 : p0 = 61
  · have hf := e_t hf c12
    refine r_look (off := 122) (tgt := 123) K dX3_worthOfTwo_1 (by decide) (by rw [c12]; decide) (by decide) ?_
    refine r_iload_n K dX3_worthOfTwo_123 1 rfl rfl ?_
    refine r_iload_n K dX3_worthOfTwo_124 2 rfl rfl ?_
    refine r_icmp_ne (tgt := 132) K dX3_worthOfTwo_125 (by decide) (fun c13 => ?_) (fun c13 => ?_)
    · have hf := e_f hf c13
      refine r_iconst (v := 0) K dX3_worthOfTwo_132 rfl ?_
      exact r_iret K Z dX3_worthOfTwo_133 hf
    · have hf := e_t hf c13
      refine r_iconst (v := 1) K dX3_worthOfTwo_128 rfl ?_
      refine r_goto (tgt := 133) K dX3_worthOfTwo_129 (by decide) ?_
      exact r_iret K Z dX3_worthOfTwo_133 hf
  have hf := e_f hf c12
  by_cases c14 : p0 = 62
  · have hf := e_t hf c14
    refine r_look (off := 133) (tgt := 134) K dX3_worthOfTwo_1 (by decide) (by rw [c14]; decide) (by decide) ?_
    refine r_iload_n K dX3_worthOfTwo_134 1 rfl rfl ?_
    refine r_iload_n K dX3_worthOfTwo_135 2 rfl rfl ?_
    refine r_icmp_le (tgt := 143) K dX3_worthOfTwo_136 (by decide) (fun c15 => ?_) (fun c15 => ?_)
    · have hf := e_t hf c15
      refine r_iconst (v := 0) K dX3_worthOfTwo_143 rfl ?_
      exact r_iret K Z dX3_worthOfTwo_144 hf
    · have hf := e_f hf c15
      refine r_iconst (v := 1) K dX3_worthOfTwo_139 rfl ?_
      refine r_goto (tgt := 144) K dX3_worthOfTwo_140 (by decide) ?_
      exact r_iret K Z dX3_worthOfTwo_144 hf
  have hf := e_f hf c14
  by_cases c16 : p0 = 124
  · have hf := e_t hf c16
    refine r_look (off := 83) (tgt := 84) K dX3_worthOfTwo_1 (by decide) (by rw [c16]; decide) (by decide) ?_
    refine r_iload_n K dX3_worthOfTwo_84 1 rfl rfl ?_
    refine r_if_ne (tgt := 92) K dX3_worthOfTwo_85 (by decide) (fun c17 => ?_) (fun c17 => ?_)
    · have hf := e_f hf c17
      refine r_iconst (v := 1) K dX3_worthOfTwo_92 rfl ?_
      refine r_goto (tgt := 97) K dX3_worthOfTwo_93 (by decide) ?_
      exact r_iret K Z dX3_worthOfTwo_97 hf
    · have hf := e_t hf c17
      refine r_iload_n K dX3_worthOfTwo_88 2 rfl rfl ?_
      refine r_if_eq (tgt := 96) K dX3_worthOfTwo_89 (by decide) (fun c18 => ?_) (fun c18 => ?_)
      · have hf := e_t hf c18
        refine r_iconst (v := 0) K dX3_worthOfTwo_96 rfl ?_
        exact r_iret K Z dX3_worthOfTwo_97 hf
      · have hf := e_f hf c18
        refine r_iconst (v := 1) K dX3_worthOfTwo_92 rfl ?_
        refine r_goto (tgt := 97) K dX3_worthOfTwo_93 (by decide) ?_
        exact r_iret K Z dX3_worthOfTwo_97 hf
  have hf := e_f hf c16
  refine r_look (off := 168) (tgt := 169) K dX3_worthOfTwo_1 (by decide) ((lv_osw c1 (by decide)).trans ((lv_osw c4 (by decide)).trans ((lv_osw c5 (by decide)).trans ((lv_osw c6 (by decide)).trans ((lv_osw c7 (by decide)).trans ((lv_osw c10 (by decide)).trans ((lv_osw c12 (by decide)).trans ((lv_osw c14 (by decide)).trans ((lv_osw c16 (by decide)).trans (rfl)))))))))) (by decide) ?_
  refine r_iload_n K dX3_worthOfTwo_169 2 rfl rfl ?_
  refine r_if_ne (tgt := 177) K dX3_worthOfTwo_170 (by decide) (fun c19 => ?_) (fun c19 => ?_)
  · have hf := e_f hf c19
    refine r_iload_n K dX3_worthOfTwo_177 1 rfl rfl ?_
    refine r_iload_n K dX3_worthOfTwo_178 2 rfl rfl ?_
    obtain ⟨g20, hf⟩ := e_n hf
    refine r_irem K dX3_worthOfTwo_179 g20 ?_
    exact r_iret K Z dX3_worthOfTwo_180 hf
  · have hf := e_t hf c19
    refine r_iconst (v := 0) K dX3_worthOfTwo_173 rfl ?_
    refine r_goto (tgt := 180) K dX3_worthOfTwo_174 (by decide) ?_
    exact r_iret K Z dX3_worthOfTwo_180 hf
theorem conX3_worthOfTwo {G : GG} (p0 : Int32) (p1 : Int32) (p2 : Int32) (h : AH) (rv : Int32) (h' : AH) (hf : fX3_worthOfTwo p0 p1 p2 h = some (rv, h')) : Con G 0 yX3_worthOfTwo cX3_worthOfTwo 3 (some .int) [.int p0, .int p1, .int p2] h (some (.int rv)) h' := con_of mwX3_worthOfTwo (Nat.le_of_ble_eq_true rfl) (fun E K Z => sX3_worthOfTwo K Z p0 p1 p2 h hf)
def fX3_workOut_21 (p0 : Int32) (s0 : Int32) (h : AH) : Option AH :=
  bindV (fX3_push s0 h) fun h20 => some h20
set_option maxRecDepth 10000 in
theorem sX3_workOut_21 {G : GG} {E : EE} {h' : AH} (K : OK G E 1 RX3 cX3_workOut 3) (Z : RT G E none (none) h') (p0 : Int32) (s0 : Int32) (h : AH) (hf : fX3_workOut_21 p0 s0 h = some h') : JJ G E 3 21 [] [.int s0, .ref 25] h := by
  unfold fX3_workOut_21 at hf
  obtain ⟨h20, g21, hf⟩ := e_v hf
  refine r_callV (av := [.int s0]) (st := []) K lkX3_45 mwX3_push (conX3_push s0 h h20 g21) dX3_workOut_21 rfl (Nat.le_of_ble_eq_true rfl) rfl rfl (Nat.le_of_ble_eq_true rfl) ?_
  refine r_goto (tgt := 55) K dX3_workOut_24 (by decide) ?_
  exact r_vret K Z dX3_workOut_55 hf
def fX3_workOut (p0 : Int32) (h : AH) : Option AH :=
  bind2 (fX3_pop  h) fun r1 h2 => if p0 = 33 then if r1 = 0 then fX3_workOut_21 p0 1 h2 else fX3_workOut_21 p0 0 h2 else if p0 = 126 then bindV (fX3_push (-r1) h2) fun h16 => some h16 else bind2 (fX3_pop  h2) fun r6 h7 => bind2 (fX3_worthOfTwo p0 r6 r1 h7) fun r9 h10 => bindV (fX3_push r9 h10) fun h13 => some h13
set_option maxRecDepth 10000 in
theorem sX3_workOut {G : GG} {E : EE} {h' : AH} (K : OK G E 1 RX3 cX3_workOut 3) (Z : RT G E none (none) h') (p0 : Int32) (h : AH) (hf : fX3_workOut p0 h = some h') : JJ G E 3 0 [(0, .ref 25), (1, .int p0)] [] h := by
  unfold fX3_workOut at hf
  refine r_aload_n K dX3_workOut_0 0 rfl rfl ?_
  obtain ⟨r1, h2, g3, hf⟩ := e_2 hf
  refine r_callV (av := []) (st := []) K lkX3_59 mwX3_pop (conX3_pop  h r1 h2 g3) dX3_workOut_1 rfl (Nat.le_of_ble_eq_true rfl) rfl rfl (Nat.le_of_ble_eq_true rfl) ?_
  refine r_istore_n (lv' := [(2, .int r1), (0, .ref 25), (1, .int p0)]) K dX3_workOut_4 rfl (Nat.le_of_ble_eq_true rfl) rfl ?_
  refine r_iload_n K dX3_workOut_5 2 rfl rfl ?_
  refine r_bipush (v := 33) K dX3_workOut_6 rfl ?_
  refine r_icmp_ne (tgt := 27) K dX3_workOut_8 (by decide) (fun c4 => ?_) (fun c4 => ?_)
  · have hf := e_f hf c4
    refine r_iload_n K dX3_workOut_27 2 rfl rfl ?_
    refine r_bipush (v := 126) K dX3_workOut_28 rfl ?_
    refine r_icmp_ne (tgt := 42) K dX3_workOut_30 (by decide) (fun c5 => ?_) (fun c5 => ?_)
    · have hf := e_f hf c5
      refine r_aload_n K dX3_workOut_42 1 rfl rfl ?_
      refine r_iload_n K dX3_workOut_43 2 rfl rfl ?_
      refine r_aload_n K dX3_workOut_44 1 rfl rfl ?_
      obtain ⟨r6, h7, g8, hf⟩ := e_2 hf
      refine r_callV (av := []) (st := [.int p0, .ref 25]) K lkX3_59 mwX3_pop (conX3_pop  h2 r6 h7 g8) dX3_workOut_45 rfl (Nat.le_of_ble_eq_true rfl) rfl rfl (Nat.le_of_ble_eq_true rfl) ?_
      refine r_iload_n K dX3_workOut_48 0 rfl rfl ?_
      obtain ⟨r9, h10, g11, hf⟩ := e_2 hf
      refine r_callS (av := [.int p0, .int r6, .int r1]) (st := [.ref 25]) K lkX3_99 mwX3_worthOfTwo (conX3_worthOfTwo p0 r6 r1 h7 r9 h10 g11) dX3_workOut_49 (Nat.le_of_ble_eq_true rfl) rfl rfl (Nat.le_of_ble_eq_true rfl) ?_
      obtain ⟨h13, g14, hf⟩ := e_v hf
      refine r_callV (av := [.int r9]) (st := []) K lkX3_45 mwX3_push (conX3_push r9 h10 h13 g14) dX3_workOut_52 rfl (Nat.le_of_ble_eq_true rfl) rfl rfl (Nat.le_of_ble_eq_true rfl) ?_
      exact r_vret K Z dX3_workOut_55 hf
    · have hf := e_t hf c5
      refine r_aload_n K dX3_workOut_33 1 rfl rfl ?_
      refine r_iload_n K dX3_workOut_34 0 rfl rfl ?_
      refine r_ineg K dX3_workOut_35 ?_
      obtain ⟨h16, g17, hf⟩ := e_v hf
      refine r_callV (av := [.int (-r1)]) (st := []) K lkX3_45 mwX3_push (conX3_push (-r1) h2 h16 g17) dX3_workOut_36 rfl (Nat.le_of_ble_eq_true rfl) rfl rfl (Nat.le_of_ble_eq_true rfl) ?_
      refine r_goto (tgt := 55) K dX3_workOut_39 (by decide) ?_
      exact r_vret K Z dX3_workOut_55 hf
  · have hf := e_t hf c4
    refine r_aload_n K dX3_workOut_11 1 rfl rfl ?_
    refine r_iload_n K dX3_workOut_12 0 rfl rfl ?_
    refine r_if_ne (tgt := 20) K dX3_workOut_13 (by decide) (fun c18 => ?_) (fun c18 => ?_)
    · have hf := e_f hf c18
      refine r_iconst (v := 0) K dX3_workOut_20 rfl ?_
      refine r_lv [] rfl ?_
      exact sX3_workOut_21 K Z p0 0 h2 hf
    · have hf := e_t hf c18
      refine r_iconst (v := 1) K dX3_workOut_16 rfl ?_
      refine r_goto (tgt := 21) K dX3_workOut_17 (by decide) ?_
      refine r_lv [] rfl ?_
      exact sX3_workOut_21 K Z p0 1 h2 hf
theorem conX3_workOut {G : GG} (p0 : Int32) (h : AH) (h' : AH) (hf : fX3_workOut p0 h = some h') : Con G 1 yX3_workOut cX3_workOut 3 none [.ref 25, .int p0] h (none) h' := con_of mwX3_workOut (Nat.le_of_ble_eq_true rfl) (fun E K Z => sX3_workOut K Z p0 h hf)
def fX7_howManyLeft_4_b (t : Nat) (Q4 : Int32 → Int32 → AH → Option (Int32 × AH)) (x1 : Int32) (x2 : Int32) (h : AH) : Option (Int32 × AH) :=
  if (h.1 t 9) ≤ x2 then some (x1, h) else if inb x2 9 = true then letV ((x1 + (1 - (h.1 (rf t 5) (ix x2))))) fun x3 => Q4 x3 (x2 + 1) h else none
def fX7_howManyLeft_4 (t : Nat) : Nat → Int32 → Int32 → AH → Option (Int32 × AH)
  | 0 => fun _ _ _ => none
  | n + 1 => fX7_howManyLeft_4_b t (fX7_howManyLeft_4 t n)
set_option maxRecDepth 10000 in
theorem sX7_howManyLeft_4_b {G : GG} {E : EE} {rv : Int32} {h' : AH} (K : OK G E 0 RX7 cX7_howManyLeft 3) (Z : RT G E (some .int) (some (.int rv)) h') (t : Nat) (ht : KD t = (7, 12)) (Q4 : Int32 → Int32 → AH → Option (Int32 × AH)) (hQ4 : ∀ (x1 : Int32) (x2 : Int32) (h : AH), Q4 x1 x2 h = some (rv, h') → JJ G E 3 4 [(0, .ref t), (1, .int x1), (2, .int x2)] [] h) (x1 : Int32) (x2 : Int32) (h : AH) (hf : fX7_howManyLeft_4_b t Q4 x1 x2 h = some (rv, h')) : JJ G E 3 4 [(0, .ref t), (1, .int x1), (2, .int x2)] [] h := by
  unfold fX7_howManyLeft_4_b at hf
  refine r_iload_n K dX7_howManyLeft_4 2 rfl rfl ?_
  refine r_aload_n K dX7_howManyLeft_5 0 rfl rfl ?_
  refine r_getI K flX7_39 dX7_howManyLeft_6 ht rfl ?_
  refine r_icmp_ge (tgt := 29) K dX7_howManyLeft_9 (by decide) (fun c1 => ?_) (fun c1 => ?_)
  · have hf := e_t hf c1
    refine r_iload_n K dX7_howManyLeft_29 1 rfl rfl ?_
    exact r_iret K Z dX7_howManyLeft_30 hf
  · have hf := e_f hf c1
    refine r_iload_n K dX7_howManyLeft_12 1 rfl rfl ?_
    refine r_iconst (v := 1) K dX7_howManyLeft_13 rfl ?_
    refine r_aload_n K dX7_howManyLeft_14 0 rfl rfl ?_
    refine r_getR (o' := (rf t 5)) K flX7_27 dX7_howManyLeft_15 ht rfl rfl ?_
    refine r_iload_n K dX7_howManyLeft_18 2 rfl rfl ?_
    obtain ⟨g2, hf⟩ := e_g hf
    refine r_iald K dX7_howManyLeft_19 (kf7_5 ht) g2 ?_
    refine r_isub K dX7_howManyLeft_20 ?_
    refine r_iadd K dX7_howManyLeft_21 ?_
    obtain ⟨x3, e4, hf⟩ := e_l hf
    refine r_nmI e4 ?_
    refine r_istore_n (lv' := [(1, .int x3), (0, .ref t), (2, .int x2)]) K dX7_howManyLeft_22 rfl (Nat.le_of_ble_eq_true rfl) rfl ?_
    refine r_iinc (y := 1) (lv' := [(2, .int (x2 + 1)), (1, .int x3), (0, .ref t)]) K dX7_howManyLeft_23 2 rfl rfl (Nat.le_of_ble_eq_true rfl) rfl ?_
    refine r_goto (tgt := 4) K dX7_howManyLeft_26 (by decide) ?_
    refine r_lv [2, 1, 0] rfl ?_
    exact hQ4 x3 (x2 + 1) h hf
theorem sX7_howManyLeft_4 {G : GG} {E : EE} {rv : Int32} {h' : AH} (K : OK G E 0 RX7 cX7_howManyLeft 3) (Z : RT G E (some .int) (some (.int rv)) h') (t : Nat) (ht : KD t = (7, 12)) : ∀ (n : Nat) (x1 : Int32) (x2 : Int32) (h : AH), fX7_howManyLeft_4 t n x1 x2 h = some (rv, h') → JJ G E 3 4 [(0, .ref t), (1, .int x1), (2, .int x2)] [] h := by
  intro n
  induction n with
  | zero => intro x1 x2 h hf; cases hf
  | succ n ih => intro x1 x2 h hf; exact sX7_howManyLeft_4_b K Z t ht _ (fun x1 x2 h hf => ih x1 x2 h hf) x1 x2 h hf
def fX7_howManyLeft (t : Nat) (h : AH) : Option (Int32 × AH) :=
  fX7_howManyLeft_4 t FU 0 0 h
set_option maxRecDepth 10000 in
theorem sX7_howManyLeft {G : GG} {E : EE} {rv : Int32} {h' : AH} (K : OK G E 0 RX7 cX7_howManyLeft 3) (Z : RT G E (some .int) (some (.int rv)) h') (t : Nat) (ht : KD t = (7, 12)) (h : AH) (hf : fX7_howManyLeft t h = some (rv, h')) : JJ G E 3 0 [(0, .ref t)] [] h := by
  unfold fX7_howManyLeft at hf
  refine r_iconst (v := 0) K dX7_howManyLeft_0 rfl ?_
  refine r_istore_n (lv' := [(1, .int 0), (0, .ref t)]) K dX7_howManyLeft_1 rfl (Nat.le_of_ble_eq_true rfl) rfl ?_
  refine r_iconst (v := 0) K dX7_howManyLeft_2 rfl ?_
  refine r_istore_n (lv' := [(2, .int 0), (1, .int 0), (0, .ref t)]) K dX7_howManyLeft_3 rfl (Nat.le_of_ble_eq_true rfl) rfl ?_
  refine r_lv [2, 1, 0] rfl ?_
  exact sX7_howManyLeft_4 K Z t ht FU 0 0 h hf
theorem conX7_howManyLeft {G : GG} (t : Nat) (ht : KD t = (7, 12)) (h : AH) (rv : Int32) (h' : AH) (hf : fX7_howManyLeft t h = some (rv, h')) : Con G 0 yX7_howManyLeft cX7_howManyLeft 3 (some .int) [.ref t] h (some (.int rv)) h' := con_of mwX7_howManyLeft (Nat.le_of_ble_eq_true rfl) (fun E K Z => sX7_howManyLeft K Z t ht h hf)
def fX3_worthOfName (p0 : Int32) (p1 : Nat) (p2 : Int32) (h : AH) : Option (Int32 × AH) :=
  if p0 = 104 then if inb p2 9 = true then some ((h.1 (rf p1 3) (ix p2)), h) else none else if p0 = 105 then some (p2, h) else if p0 = 106 then some (p2, h) else if p0 = 107 then some (p2, h) else if p0 = 108 then if inb p2 9 = true then some ((h.1 (rf p1 2) (ix p2)), h) else none else if p0 = 109 then some ((h.1 p1 11), h) else if p0 = 110 then bind2 (fX7_howManyLeft p1 h) fun r10 h11 => some (r10, h11) else if p0 = 111 then some (p2, h) else if p0 = 112 then some (p2, h) else if p0 = 113 then some (p2, h) else if p0 = 114 then if inb p2 9 = true then some ((h.1 (rf p1 0) (ix p2)), h) else none else some (p2, h)
set_option maxRecDepth 10000 in
theorem sX3_worthOfName {G : GG} {E : EE} {rv : Int32} {h' : AH} (K : OK G E 1 RX3 cX3_worthOfName 3) (Z : RT G E (some .int) (some (.int rv)) h') (p0 : Int32) (p1 : Nat) (p2 : Int32) (hp1 : KD p1 = (7, 12)) (h : AH) (hf : fX3_worthOfName p0 p1 p2 h = some (rv, h')) : JJ G E 3 0 [(0, .int p0), (1, .ref p1), (2, .int p2)] [] h := by
  unfold fX3_worthOfName at hf
  refine r_iload_n K dX3_worthOfName_0 0 rfl rfl ?_
  by_cases c1 : p0 = 104
  · have hf := e_t hf c1
    refine r_tblIn (off := 73) (tgt := 74) K dX3_worthOfName_1 (by rw [c1]; decide) (by rw [c1]; decide) (by rw [c1]; decide) (by decide) ?_
    refine r_aload_n K dX3_worthOfName_74 1 rfl rfl ?_
    refine r_getR (o' := (rf p1 3)) K flX3_90 dX3_worthOfName_75 hp1 rfl rfl ?_
    refine r_iload_n K dX3_worthOfName_78 2 rfl rfl ?_
    obtain ⟨g2, hf⟩ := e_g hf
    refine r_iald K dX3_worthOfName_79 (kf7_3 hp1) g2 ?_
    exact r_iret K Z dX3_worthOfName_80 hf
  have hf := e_f hf c1
  by_cases c3 : p0 = 105
  · have hf := e_t hf c3
    refine r_tblIn (off := 90) (tgt := 91) K dX3_worthOfName_1 (by rw [c3]; decide) (by rw [c3]; decide) (by rw [c3]; decide) (by decide) ?_
    refine r_iload_n K dX3_worthOfName_91 2 rfl rfl ?_
    exact r_iret K Z dX3_worthOfName_92 hf
  have hf := e_f hf c3
  by_cases c4 : p0 = 106
  · have hf := e_t hf c4
    refine r_tblIn (off := 90) (tgt := 91) K dX3_worthOfName_1 (by rw [c4]; decide) (by rw [c4]; decide) (by rw [c4]; decide) (by decide) ?_
    refine r_iload_n K dX3_worthOfName_91 2 rfl rfl ?_
    exact r_iret K Z dX3_worthOfName_92 hf
  have hf := e_f hf c4
  by_cases c5 : p0 = 107
  · have hf := e_t hf c5
    refine r_tblIn (off := 90) (tgt := 91) K dX3_worthOfName_1 (by rw [c5]; decide) (by rw [c5]; decide) (by rw [c5]; decide) (by decide) ?_
    refine r_iload_n K dX3_worthOfName_91 2 rfl rfl ?_
    exact r_iret K Z dX3_worthOfName_92 hf
  have hf := e_f hf c5
  by_cases c6 : p0 = 108
  · have hf := e_t hf c6
    refine r_tblIn (off := 66) (tgt := 67) K dX3_worthOfName_1 (by rw [c6]; decide) (by rw [c6]; decide) (by rw [c6]; decide) (by decide) ?_
    refine r_aload_n K dX3_worthOfName_67 1 rfl rfl ?_
    refine r_getR (o' := (rf p1 2)) K flX3_87 dX3_worthOfName_68 hp1 rfl rfl ?_
    refine r_iload_n K dX3_worthOfName_71 2 rfl rfl ?_
    obtain ⟨g7, hf⟩ := e_g hf
    refine r_iald K dX3_worthOfName_72 (kf7_2 hp1) g7 ?_
    exact r_iret K Z dX3_worthOfName_73 hf
  have hf := e_f hf c6
  by_cases c8 : p0 = 109
  · have hf := e_t hf c8
    refine r_tblIn (off := 80) (tgt := 81) K dX3_worthOfName_1 (by rw [c8]; decide) (by rw [c8]; decide) (by rw [c8]; decide) (by decide) ?_
    refine r_aload_n K dX3_worthOfName_81 1 rfl rfl ?_
    refine r_getI K flX3_93 dX3_worthOfName_82 hp1 rfl ?_
    exact r_iret K Z dX3_worthOfName_85 hf
  have hf := e_f hf c8
  by_cases c9 : p0 = 110
  · have hf := e_t hf c9
    refine r_tblIn (off := 85) (tgt := 86) K dX3_worthOfName_1 (by rw [c9]; decide) (by rw [c9]; decide) (by rw [c9]; decide) (by decide) ?_
    refine r_aload_n K dX3_worthOfName_86 1 rfl rfl ?_
    obtain ⟨r10, h11, g12, hf⟩ := e_2 hf
    refine r_callV (av := []) (st := []) K lkX3_96 mwX7_howManyLeft (conX7_howManyLeft p1 hp1 h r10 h11 g12) dX3_worthOfName_87 hp1 (Nat.le_of_ble_eq_true rfl) rfl rfl (Nat.le_of_ble_eq_true rfl) ?_
    exact r_iret K Z dX3_worthOfName_90 hf
  have hf := e_f hf c9
  by_cases c13 : p0 = 111
  · have hf := e_t hf c13
    refine r_tblIn (off := 90) (tgt := 91) K dX3_worthOfName_1 (by rw [c13]; decide) (by rw [c13]; decide) (by rw [c13]; decide) (by decide) ?_
    refine r_iload_n K dX3_worthOfName_91 2 rfl rfl ?_
    exact r_iret K Z dX3_worthOfName_92 hf
  have hf := e_f hf c13
  by_cases c14 : p0 = 112
  · have hf := e_t hf c14
    refine r_tblIn (off := 90) (tgt := 91) K dX3_worthOfName_1 (by rw [c14]; decide) (by rw [c14]; decide) (by rw [c14]; decide) (by decide) ?_
    refine r_iload_n K dX3_worthOfName_91 2 rfl rfl ?_
    exact r_iret K Z dX3_worthOfName_92 hf
  have hf := e_f hf c14
  by_cases c15 : p0 = 113
  · have hf := e_t hf c15
    refine r_tblIn (off := 90) (tgt := 91) K dX3_worthOfName_1 (by rw [c15]; decide) (by rw [c15]; decide) (by rw [c15]; decide) (by decide) ?_
    refine r_iload_n K dX3_worthOfName_91 2 rfl rfl ?_
    exact r_iret K Z dX3_worthOfName_92 hf
  have hf := e_f hf c15
  by_cases c16 : p0 = 114
  · have hf := e_t hf c16
    refine r_tblIn (off := 59) (tgt := 60) K dX3_worthOfName_1 (by rw [c16]; decide) (by rw [c16]; decide) (by rw [c16]; decide) (by decide) ?_
    refine r_aload_n K dX3_worthOfName_60 1 rfl rfl ?_
    refine r_getR (o' := (rf p1 0)) K flX3_84 dX3_worthOfName_61 hp1 rfl rfl ?_
    refine r_iload_n K dX3_worthOfName_64 2 rfl rfl ?_
    obtain ⟨g17, hf⟩ := e_g hf
    refine r_iald K dX3_worthOfName_65 (kf7_0 hp1) g17 ?_
    exact r_iret K Z dX3_worthOfName_66 hf
  have hf := e_f hf c16
  have hout : p0.toInt < 104 ∨ 114 < p0.toInt := by
    have zc1 := lv_neT (a := 104) c1 (by decide)
    have zc3 := lv_neT (a := 105) c3 (by decide)
    have zc4 := lv_neT (a := 106) c4 (by decide)
    have zc5 := lv_neT (a := 107) c5 (by decide)
    have zc6 := lv_neT (a := 108) c6 (by decide)
    have zc8 := lv_neT (a := 109) c8 (by decide)
    have zc9 := lv_neT (a := 110) c9 (by decide)
    have zc13 := lv_neT (a := 111) c13 (by decide)
    have zc14 := lv_neT (a := 112) c14 (by decide)
    have zc15 := lv_neT (a := 113) c15 (by decide)
    have zc16 := lv_neT (a := 114) c16 (by decide)
    omega
  refine r_tblOut (tgt := 91) K dX3_worthOfName_1 hout (by decide) ?_
  refine r_iload_n K dX3_worthOfName_91 2 rfl rfl ?_
  exact r_iret K Z dX3_worthOfName_92 hf
theorem conX3_worthOfName {G : GG} (p0 : Int32) (p1 : Nat) (p2 : Int32) (hp1 : KD p1 = (7, 12)) (h : AH) (rv : Int32) (h' : AH) (hf : fX3_worthOfName p0 p1 p2 h = some (rv, h')) : Con G 1 yX3_worthOfName cX3_worthOfName 3 (some .int) [.int p0, .ref p1, .int p2] h (some (.int rv)) h' := con_of mwX3_worthOfName (Nat.le_of_ble_eq_true rfl) (fun E K Z => sX3_worthOfName K Z p0 p1 p2 hp1 h hf)
def fX3_worthWithoutText (p0 : Nat) (p1 : Int32) (h : AH) : Option (Int32 × AH) :=
  if inb p1 9 = true then if (h.1 (rf p0 3) (ix p1)) = 0 then some ((((h.1 (rf p0 0) (ix p1)) + (2 * (h.1 (rf p0 2) (ix p1)))) - 5), h) else some ((((h.1 (rf p0 0) (ix p1)) + (2 * (h.1 (rf p0 2) (ix p1)))) - 0), h) else none
set_option maxRecDepth 10000 in
theorem sX3_worthWithoutText {G : GG} {E : EE} {rv : Int32} {h' : AH} (K : OK G E 0 RX3 cX3_worthWithoutText 2) (Z : RT G E (some .int) (some (.int rv)) h') (p0 : Nat) (p1 : Int32) (hp0 : KD p0 = (7, 12)) (h : AH) (hf : fX3_worthWithoutText p0 p1 h = some (rv, h')) : JJ G E 2 0 [(0, .ref p0), (1, .int p1)] [] h := by
  unfold fX3_worthWithoutText at hf
  refine r_aload_n K dX3_worthWithoutText_0 0 rfl rfl ?_
  refine r_getR (o' := (rf p0 0)) K flX3_84 dX3_worthWithoutText_1 hp0 rfl rfl ?_
  refine r_iload_n K dX3_worthWithoutText_4 1 rfl rfl ?_
  obtain ⟨g1, hf⟩ := e_g hf
  refine r_iald K dX3_worthWithoutText_5 (kf7_0 hp0) g1 ?_
  refine r_iconst (v := 2) K dX3_worthWithoutText_6 rfl ?_
  refine r_aload_n K dX3_worthWithoutText_7 0 rfl rfl ?_
  refine r_getR (o' := (rf p0 2)) K flX3_87 dX3_worthWithoutText_8 hp0 rfl rfl ?_
  refine r_iload_n K dX3_worthWithoutText_11 1 rfl rfl ?_
  refine r_iald K dX3_worthWithoutText_12 (kf7_2 hp0) g1 ?_
  refine r_imul K dX3_worthWithoutText_13 ?_
  refine r_iadd K dX3_worthWithoutText_14 ?_
  refine r_aload_n K dX3_worthWithoutText_15 0 rfl rfl ?_
  refine r_getR (o' := (rf p0 3)) K flX3_90 dX3_worthWithoutText_16 hp0 rfl rfl ?_
  refine r_iload_n K dX3_worthWithoutText_19 1 rfl rfl ?_
  refine r_iald K dX3_worthWithoutText_20 (kf7_3 hp0) g1 ?_
  refine r_if_ne (tgt := 28) K dX3_worthWithoutText_21 (by decide) (fun c4 => ?_) (fun c4 => ?_)
  · have hf := e_f hf c4
    refine r_iconst (v := 0) K dX3_worthWithoutText_28 rfl ?_
    refine r_isub K dX3_worthWithoutText_29 ?_
    exact r_iret K Z dX3_worthWithoutText_30 hf
  · have hf := e_t hf c4
    refine r_iconst (v := 5) K dX3_worthWithoutText_24 rfl ?_
    refine r_goto (tgt := 29) K dX3_worthWithoutText_25 (by decide) ?_
    refine r_isub K dX3_worthWithoutText_29 ?_
    exact r_iret K Z dX3_worthWithoutText_30 hf
theorem conX3_worthWithoutText {G : GG} (p0 : Nat) (p1 : Int32) (hp0 : KD p0 = (7, 12)) (h : AH) (rv : Int32) (h' : AH) (hf : fX3_worthWithoutText p0 p1 h = some (rv, h')) : Con G 0 yX3_worthWithoutText cX3_worthWithoutText 2 (some .int) [.ref p0, .int p1] h (some (.int rv)) h' := con_of mwX3_worthWithoutText (Nat.le_of_ble_eq_true rfl) (fun E K Z => sX3_worthWithoutText K Z p0 p1 hp0 h hf)
def fX4_isName (p0 : Int32) (h : AH) : Option (Int32 × AH) :=
  if p0 = 114 then some (1, h) else if p0 = 108 then some (1, h) else if p0 = 104 then some (1, h) else if p0 = 109 then some (1, h) else if p0 = 110 then some (1, h) else if p0 = 103 then some (1, h) else some (0, h)
set_option maxRecDepth 10000 in
theorem sX4_isName {G : GG} {E : EE} {rv : Int32} {h' : AH} (K : OK G E 0 RX4 cX4_isName 1) (Z : RT G E (some .boolean) (some (.int rv)) h') (p0 : Int32) (h : AH) (hf : fX4_isName p0 h = some (rv, h')) : JJ G E 1 0 [(0, .int p0)] [] h := by
  unfold fX4_isName at hf
  refine r_iload_n K dX4_isName_0 0 rfl rfl ?_
  refine r_bipush (v := 114) K dX4_isName_1 rfl ?_
  refine r_icmp_eq (tgt := 36) K dX4_isName_3 (by decide) (fun c1 => ?_) (fun c1 => ?_)
  · have hf := e_t hf c1
    refine r_iconst (v := 1) K dX4_isName_36 rfl ?_
    refine r_goto (tgt := 41) K dX4_isName_37 (by decide) ?_
    exact r_zret K Z dX4_isName_41 rfl hf
  · have hf := e_f hf c1
    refine r_iload_n K dX4_isName_6 0 rfl rfl ?_
    refine r_bipush (v := 108) K dX4_isName_7 rfl ?_
    refine r_icmp_eq (tgt := 36) K dX4_isName_9 (by decide) (fun c2 => ?_) (fun c2 => ?_)
    · have hf := e_t hf c2
      refine r_iconst (v := 1) K dX4_isName_36 rfl ?_
      refine r_goto (tgt := 41) K dX4_isName_37 (by decide) ?_
      exact r_zret K Z dX4_isName_41 rfl hf
    · have hf := e_f hf c2
      refine r_iload_n K dX4_isName_12 0 rfl rfl ?_
      refine r_bipush (v := 104) K dX4_isName_13 rfl ?_
      refine r_icmp_eq (tgt := 36) K dX4_isName_15 (by decide) (fun c3 => ?_) (fun c3 => ?_)
      · have hf := e_t hf c3
        refine r_iconst (v := 1) K dX4_isName_36 rfl ?_
        refine r_goto (tgt := 41) K dX4_isName_37 (by decide) ?_
        exact r_zret K Z dX4_isName_41 rfl hf
      · have hf := e_f hf c3
        refine r_iload_n K dX4_isName_18 0 rfl rfl ?_
        refine r_bipush (v := 109) K dX4_isName_19 rfl ?_
        refine r_icmp_eq (tgt := 36) K dX4_isName_21 (by decide) (fun c4 => ?_) (fun c4 => ?_)
        · have hf := e_t hf c4
          refine r_iconst (v := 1) K dX4_isName_36 rfl ?_
          refine r_goto (tgt := 41) K dX4_isName_37 (by decide) ?_
          exact r_zret K Z dX4_isName_41 rfl hf
        · have hf := e_f hf c4
          refine r_iload_n K dX4_isName_24 0 rfl rfl ?_
          refine r_bipush (v := 110) K dX4_isName_25 rfl ?_
          refine r_icmp_eq (tgt := 36) K dX4_isName_27 (by decide) (fun c5 => ?_) (fun c5 => ?_)
          · have hf := e_t hf c5
            refine r_iconst (v := 1) K dX4_isName_36 rfl ?_
            refine r_goto (tgt := 41) K dX4_isName_37 (by decide) ?_
            exact r_zret K Z dX4_isName_41 rfl hf
          · have hf := e_f hf c5
            refine r_iload_n K dX4_isName_30 0 rfl rfl ?_
            refine r_bipush (v := 103) K dX4_isName_31 rfl ?_
            refine r_icmp_ne (tgt := 40) K dX4_isName_33 (by decide) (fun c6 => ?_) (fun c6 => ?_)
            · have hf := e_f hf c6
              refine r_iconst (v := 0) K dX4_isName_40 rfl ?_
              exact r_zret K Z dX4_isName_41 rfl hf
            · have hf := e_t hf c6
              refine r_iconst (v := 1) K dX4_isName_36 rfl ?_
              refine r_goto (tgt := 41) K dX4_isName_37 (by decide) ?_
              exact r_zret K Z dX4_isName_41 rfl hf
theorem conX4_isName {G : GG} (p0 : Int32) (h : AH) (rv : Int32) (h' : AH) (hf : fX4_isName p0 h = some (rv, h')) : Con G 0 yX4_isName cX4_isName 1 (some .boolean) [.int p0] h (some (.int rv)) h' := con_of mwX4_isName (Nat.le_of_ble_eq_true rfl) (fun E K Z => sX4_isName K Z p0 h hf)
def fX3_readOf_161 (p0 : Nat) (p1 : Int32) (x3 : Int32) (h : AH) : Option (Int32 × AH) :=
  some ((jmax 0 (jmin 99 x3)), h)
set_option maxRecDepth 10000 in
theorem sX3_readOf_161 {G : GG} {E : EE} {rv : Int32} {h' : AH} (K : OK G E 2 RX3 cX3_readOf 8) (Z : RT G E (some .int) (some (.int rv)) h') (p0 : Nat) (p1 : Int32) (hp0 : KD p0 = (7, 12)) (x3 : Int32) (h : AH) (hf : fX3_readOf_161 p0 p1 x3 h = some (rv, h')) : JJ G E 8 161 [(3, .int x3)] [] h := by
  unfold fX3_readOf_161 at hf
  refine r_iconst (v := 0) K dX3_readOf_161 rfl ?_
  refine r_bipush (v := 99) K dX3_readOf_162 rfl ?_
  refine r_iload_n K dX3_readOf_164 0 rfl rfl ?_
  refine r_mmin K lmX3_63 dX3_readOf_165 (Nat.le_of_ble_eq_true rfl) (Nat.le_of_ble_eq_true rfl) ?_
  refine r_mmax K lmX3_69 dX3_readOf_168 (Nat.le_of_ble_eq_true rfl) (Nat.le_of_ble_eq_true rfl) ?_
  exact r_iret K Z dX3_readOf_171 hf
def fX3_readOf_141 (p0 : Nat) (p1 : Int32) (Q38 : Int32 → Int32 → Int32 → Int32 → AH → Option (Int32 × AH)) (x2 : Int32) (x5 : Int32) (x7 : Int32) (s0 : Int32) (h : AH) : Option (Int32 × AH) :=
  if s0 = 0 then Q38 x2 0 s0 (x5 + 1) h else Q38 x2 x7 s0 (x5 + 1) h
set_option maxRecDepth 10000 in
theorem sX3_readOf_141 {G : GG} {E : EE} {rv : Int32} {h' : AH} (K : OK G E 2 RX3 cX3_readOf 8) (Z : RT G E (some .int) (some (.int rv)) h') (p0 : Nat) (p1 : Int32) (hp0 : KD p0 = (7, 12)) (Q38 : Int32 → Int32 → Int32 → Int32 → AH → Option (Int32 × AH)) (hQ38 : ∀ (x2 : Int32) (x3 : Int32) (x4 : Int32) (x5 : Int32) (h : AH), Q38 x2 x3 x4 x5 h = some (rv, h') → JJ G E 8 38 [(0, .ref 25), (1, .ref p0), (2, .int x2), (3, .int x3), (4, .int x4), (5, .int x5)] [] h) (x2 : Int32) (x5 : Int32) (x7 : Int32) (s0 : Int32) (h : AH) (hf : fX3_readOf_141 p0 p1 Q38 x2 x5 x7 s0 h = some (rv, h')) : JJ G E 8 141 [(0, .ref 25), (1, .ref p0), (2, .int x2), (5, .int x5), (7, .int x7)] [.int s0] h := by
  unfold fX3_readOf_141 at hf
  refine r_istore (lv' := [(4, .int s0), (0, .ref 25), (1, .ref p0), (2, .int x2), (5, .int x5), (7, .int x7)]) K dX3_readOf_141 (Nat.le_of_ble_eq_true rfl) rfl ?_
  refine r_iload K dX3_readOf_143 0 rfl ?_
  refine r_if_eq (tgt := 153) K dX3_readOf_145 (by decide) (fun c23 => ?_) (fun c23 => ?_)
  · have hf := e_t hf c23
    refine r_iconst (v := 0) K dX3_readOf_153 rfl ?_
    refine r_istore_n (lv' := [(3, .int 0), (4, .int s0), (0, .ref 25), (1, .ref p0), (2, .int x2), (5, .int x5), (7, .int x7)]) K dX3_readOf_154 rfl (Nat.le_of_ble_eq_true rfl) rfl ?_
    refine r_iinc (y := 1) (lv' := [(5, .int (x5 + 1)), (3, .int 0), (4, .int s0), (0, .ref 25), (1, .ref p0), (2, .int x2), (7, .int x7)]) K dX3_readOf_155 5 rfl rfl (Nat.le_of_ble_eq_true rfl) rfl ?_
    refine r_goto (tgt := 38) K dX3_readOf_158 (by decide) ?_
    refine r_lv [3, 4, 5, 1, 2, 0] rfl ?_
    exact hQ38 x2 0 s0 (x5 + 1) h hf
  · have hf := e_f hf c23
    refine r_iload K dX3_readOf_148 5 rfl ?_
    refine r_goto (tgt := 154) K dX3_readOf_150 (by decide) ?_
    refine r_istore_n (lv' := [(3, .int x7), (4, .int s0), (0, .ref 25), (1, .ref p0), (2, .int x2), (5, .int x5), (7, .int x7)]) K dX3_readOf_154 rfl (Nat.le_of_ble_eq_true rfl) rfl ?_
    refine r_iinc (y := 1) (lv' := [(5, .int (x5 + 1)), (3, .int x7), (4, .int s0), (0, .ref 25), (1, .ref p0), (2, .int x2), (7, .int x7)]) K dX3_readOf_155 5 rfl rfl (Nat.le_of_ble_eq_true rfl) rfl ?_
    refine r_goto (tgt := 38) K dX3_readOf_158 (by decide) ?_
    refine r_lv [3, 4, 5, 1, 2, 0] rfl ?_
    exact hQ38 x2 x7 s0 (x5 + 1) h hf
def fX3_readOf_136 (p0 : Nat) (p1 : Int32) (Q38 : Int32 → Int32 → Int32 → Int32 → AH → Option (Int32 × AH)) (x2 : Int32) (x5 : Int32) (x7 : Int32) (h : AH) : Option (Int32 × AH) :=
  fX3_readOf_141 p0 p1 Q38 x2 x5 x7 1 h
set_option maxRecDepth 10000 in
theorem sX3_readOf_136 {G : GG} {E : EE} {rv : Int32} {h' : AH} (K : OK G E 2 RX3 cX3_readOf 8) (Z : RT G E (some .int) (some (.int rv)) h') (p0 : Nat) (p1 : Int32) (hp0 : KD p0 = (7, 12)) (Q38 : Int32 → Int32 → Int32 → Int32 → AH → Option (Int32 × AH)) (hQ38 : ∀ (x2 : Int32) (x3 : Int32) (x4 : Int32) (x5 : Int32) (h : AH), Q38 x2 x3 x4 x5 h = some (rv, h') → JJ G E 8 38 [(0, .ref 25), (1, .ref p0), (2, .int x2), (3, .int x3), (4, .int x4), (5, .int x5)] [] h) (x2 : Int32) (x5 : Int32) (x7 : Int32) (h : AH) (hf : fX3_readOf_136 p0 p1 Q38 x2 x5 x7 h = some (rv, h')) : JJ G E 8 136 [(0, .ref 25), (1, .ref p0), (2, .int x2), (5, .int x5), (7, .int x7)] [] h := by
  unfold fX3_readOf_136 at hf
  refine r_iconst (v := 1) K dX3_readOf_136 rfl ?_
  refine r_goto (tgt := 141) K dX3_readOf_137 (by decide) ?_
  refine r_lv [0, 1, 2, 3, 4] rfl ?_
  exact sX3_readOf_141 K Z p0 p1 hp0 Q38 hQ38 x2 x5 x7 1 h hf
def fX3_readOf_38_b (p0 : Nat) (p1 : Int32) (Q38 : Int32 → Int32 → Int32 → Int32 → AH → Option (Int32 × AH)) (x2 : Int32) (x3 : Int32) (x4 : Int32) (x5 : Int32) (h : AH) : Option (Int32 × AH) :=
  if (h.1 25 1) ≤ x5 then fX3_readOf_161 p0 p1 x3 h else if x4 = 0 then if inb x5 121 = true then letV ((h.1 26 (ix x5))) fun x11 => if x11 < 0 then bind2 (fX4_isName (-x11) h) fun r14 h15 => if r14 = 0 then if x11 = (-59) then bind2 (fX3_pop  h15) fun r19 h20 => if (h20.1 25 3) = 0 then fX3_readOf_136 p0 p1 Q38 x2 x5 r19 h20 else bind2 (fX3_pop  h20) fun r24 h25 => if r24 = 0 then fX3_readOf_141 p0 p1 Q38 x2 x5 r19 0 h25 else fX3_readOf_136 p0 p1 Q38 x2 x5 r19 h25 else bindV (fX3_workOut (-x11) h15) fun h29 => Q38 x2 x3 x4 (x5 + 1) h29 else bind2 (fX3_worthOfName (-x11) p0 x2 h15) fun r31 h32 => bindV (fX3_push r31 h32) fun h35 => Q38 x2 x3 x4 (x5 + 1) h35 else bindV (fX3_push x11 h) fun h38 => Q38 x2 x3 x4 (x5 + 1) h38 else none else fX3_readOf_161 p0 p1 x3 h
def fX3_readOf_38 (p0 : Nat) (p1 : Int32) : Nat → Int32 → Int32 → Int32 → Int32 → AH → Option (Int32 × AH)
  | 0 => fun _ _ _ _ _ => none
  | n + 1 => fX3_readOf_38_b p0 p1 (fX3_readOf_38 p0 p1 n)
set_option maxRecDepth 10000 in
theorem sX3_readOf_38_b {G : GG} {E : EE} {rv : Int32} {h' : AH} (K : OK G E 2 RX3 cX3_readOf 8) (Z : RT G E (some .int) (some (.int rv)) h') (p0 : Nat) (p1 : Int32) (hp0 : KD p0 = (7, 12)) (Q38 : Int32 → Int32 → Int32 → Int32 → AH → Option (Int32 × AH)) (hQ38 : ∀ (x2 : Int32) (x3 : Int32) (x4 : Int32) (x5 : Int32) (h : AH), Q38 x2 x3 x4 x5 h = some (rv, h') → JJ G E 8 38 [(0, .ref 25), (1, .ref p0), (2, .int x2), (3, .int x3), (4, .int x4), (5, .int x5)] [] h) (x2 : Int32) (x3 : Int32) (x4 : Int32) (x5 : Int32) (h : AH) (hf : fX3_readOf_38_b p0 p1 Q38 x2 x3 x4 x5 h = some (rv, h')) : JJ G E 8 38 [(0, .ref 25), (1, .ref p0), (2, .int x2), (3, .int x3), (4, .int x4), (5, .int x5)] [] h := by
  unfold fX3_readOf_38_b at hf
  refine r_iload K dX3_readOf_38 5 rfl ?_
  refine r_aload_n K dX3_readOf_40 0 rfl rfl ?_
  refine r_getI K flX3_17 dX3_readOf_41 rfl rfl ?_
  refine r_icmp_ge (tgt := 161) K dX3_readOf_44 (by decide) (fun c8 => ?_) (fun c8 => ?_)
  · have hf := e_t hf c8
    refine r_lv [3] rfl ?_
    exact sX3_readOf_161 K Z p0 p1 hp0 x3 h hf
  · have hf := e_f hf c8
    refine r_iload K dX3_readOf_47 4 rfl ?_
    refine r_if_ne (tgt := 161) K dX3_readOf_49 (by decide) (fun c9 => ?_) (fun c9 => ?_)
    · have hf := e_f hf c9
      refine r_lv [3] rfl ?_
      exact sX3_readOf_161 K Z p0 p1 hp0 x3 h hf
    · have hf := e_t hf c9
      refine r_aload_n K dX3_readOf_52 0 rfl rfl ?_
      refine r_getR (o' := 26) K flX3_11 dX3_readOf_53 rfl rfl rfl ?_
      refine r_iload K dX3_readOf_56 5 rfl ?_
      obtain ⟨g10, hf⟩ := e_g hf
      refine r_iald K dX3_readOf_58 rfl g10 ?_
      obtain ⟨x11, e12, hf⟩ := e_l hf
      refine r_nmI e12 ?_
      refine r_istore (lv' := [(6, .int x11), (0, .ref 25), (1, .ref p0), (2, .int x2), (3, .int x3), (4, .int x4), (5, .int x5)]) K dX3_readOf_59 (Nat.le_of_ble_eq_true rfl) rfl ?_
      refine r_iload K dX3_readOf_61 0 rfl ?_
      refine r_if_lt (tgt := 75) K dX3_readOf_63 (by decide) (fun c13 => ?_) (fun c13 => ?_)
      · have hf := e_t hf c13
        refine r_iload K dX3_readOf_75 0 rfl ?_
        refine r_ineg K dX3_readOf_77 ?_
        obtain ⟨r14, h15, g16, hf⟩ := e_2 hf
        refine r_callSN (av := [.int (-x11)]) (st := []) K lkX3_49 mwX4_isName (conX4_isName (-x11) h r14 h15 g16) dX3_readOf_78 (Nat.le_of_ble_eq_true rfl) rfl rfl (Nat.le_of_ble_eq_true rfl) ?_
        refine r_if_eq (tgt := 99) K dX3_readOf_81 (by decide) (fun c17 => ?_) (fun c17 => ?_)
        · have hf := e_t hf c17
          refine r_iload K dX3_readOf_99 0 rfl ?_
          refine r_bipush (v := (-59)) K dX3_readOf_101 rfl ?_
          refine r_icmp_eq (tgt := 116) K dX3_readOf_103 (by decide) (fun c18 => ?_) (fun c18 => ?_)
          · have hf := e_t hf c18
            refine r_aload_n K dX3_readOf_116 1 rfl rfl ?_
            obtain ⟨r19, h20, g21, hf⟩ := e_2 hf
            refine r_callV (av := []) (st := []) K lkX3_59 mwX3_pop (conX3_pop  h15 r19 h20 g21) dX3_readOf_117 rfl (Nat.le_of_ble_eq_true rfl) rfl rfl (Nat.le_of_ble_eq_true rfl) ?_
            refine r_istore (lv' := [(7, .int r19), (6, .int x11), (0, .ref 25), (1, .ref p0), (2, .int x2), (3, .int x3), (4, .int x4), (5, .int x5)]) K dX3_readOf_120 (Nat.le_of_ble_eq_true rfl) rfl ?_
            refine r_aload_n K dX3_readOf_122 2 rfl rfl ?_
            refine r_getI K flX3_24 dX3_readOf_123 rfl rfl ?_
            refine r_if_eq (tgt := 136) K dX3_readOf_126 (by decide) (fun c22 => ?_) (fun c22 => ?_)
            · have hf := e_t hf c22
              refine r_lv [2, 3, 4, 7, 0] rfl ?_
              exact sX3_readOf_136 K Z p0 p1 hp0 Q38 hQ38 x2 x5 r19 h20 hf
            · have hf := e_f hf c22
              refine r_aload_n K dX3_readOf_129 2 rfl rfl ?_
              obtain ⟨r24, h25, g26, hf⟩ := e_2 hf
              refine r_callV (av := []) (st := []) K lkX3_59 mwX3_pop (conX3_pop  h20 r24 h25 g26) dX3_readOf_130 rfl (Nat.le_of_ble_eq_true rfl) rfl rfl (Nat.le_of_ble_eq_true rfl) ?_
              refine r_if_eq (tgt := 140) K dX3_readOf_133 (by decide) (fun c27 => ?_) (fun c27 => ?_)
              · have hf := e_t hf c27
                refine r_iconst (v := 0) K dX3_readOf_140 rfl ?_
                refine r_lv [2, 3, 4, 7, 0] rfl ?_
                exact sX3_readOf_141 K Z p0 p1 hp0 Q38 hQ38 x2 x5 r19 0 h25 hf
              · have hf := e_f hf c27
                refine r_lv [2, 3, 4, 7, 0] rfl ?_
                exact sX3_readOf_136 K Z p0 p1 hp0 Q38 hQ38 x2 x5 r19 h25 hf
          · have hf := e_f hf c18
            refine r_aload_n K dX3_readOf_106 1 rfl rfl ?_
            refine r_iload K dX3_readOf_107 0 rfl ?_
            refine r_ineg K dX3_readOf_109 ?_
            obtain ⟨h29, g30, hf⟩ := e_v hf
            refine r_callV (av := [.int (-x11)]) (st := []) K lkX3_56 mwX3_workOut (conX3_workOut (-x11) h15 h29 g30) dX3_readOf_110 rfl (Nat.le_of_ble_eq_true rfl) rfl rfl (Nat.le_of_ble_eq_true rfl) ?_
            refine r_goto (tgt := 155) K dX3_readOf_113 (by decide) ?_
            refine r_iinc (y := 1) (lv' := [(5, .int (x5 + 1)), (6, .int x11), (0, .ref 25), (1, .ref p0), (2, .int x2), (3, .int x3), (4, .int x4)]) K dX3_readOf_155 6 rfl rfl (Nat.le_of_ble_eq_true rfl) rfl ?_
            refine r_goto (tgt := 38) K dX3_readOf_158 (by decide) ?_
            refine r_lv [2, 3, 4, 5, 6, 0] rfl ?_
            exact hQ38 x2 x3 x4 (x5 + 1) h29 hf
        · have hf := e_f hf c17
          refine r_aload_n K dX3_readOf_84 1 rfl rfl ?_
          refine r_iload K dX3_readOf_85 0 rfl ?_
          refine r_ineg K dX3_readOf_87 ?_
          refine r_aload_n K dX3_readOf_88 2 rfl rfl ?_
          refine r_iload_n K dX3_readOf_89 3 rfl rfl ?_
          obtain ⟨r31, h32, g33, hf⟩ := e_2 hf
          refine r_callS (av := [.int (-x11), .ref p0, .int x2]) (st := [.ref 25]) K lkX3_52 mwX3_worthOfName (conX3_worthOfName (-x11) p0 x2 hp0 h15 r31 h32 g33) dX3_readOf_90 (Nat.le_of_ble_eq_true rfl) rfl rfl (Nat.le_of_ble_eq_true rfl) ?_
          obtain ⟨h35, g36, hf⟩ := e_v hf
          refine r_callV (av := [.int r31]) (st := []) K lkX3_45 mwX3_push (conX3_push r31 h32 h35 g36) dX3_readOf_93 rfl (Nat.le_of_ble_eq_true rfl) rfl rfl (Nat.le_of_ble_eq_true rfl) ?_
          refine r_goto (tgt := 155) K dX3_readOf_96 (by decide) ?_
          refine r_iinc (y := 1) (lv' := [(5, .int (x5 + 1)), (6, .int x11), (0, .ref 25), (1, .ref p0), (2, .int x2), (3, .int x3), (4, .int x4)]) K dX3_readOf_155 6 rfl rfl (Nat.le_of_ble_eq_true rfl) rfl ?_
          refine r_goto (tgt := 38) K dX3_readOf_158 (by decide) ?_
          refine r_lv [2, 3, 4, 5, 6, 0] rfl ?_
          exact hQ38 x2 x3 x4 (x5 + 1) h35 hf
      · have hf := e_f hf c13
        refine r_aload_n K dX3_readOf_66 1 rfl rfl ?_
        refine r_iload K dX3_readOf_67 0 rfl ?_
        obtain ⟨h38, g39, hf⟩ := e_v hf
        refine r_callV (av := [.int x11]) (st := []) K lkX3_45 mwX3_push (conX3_push x11 h h38 g39) dX3_readOf_69 rfl (Nat.le_of_ble_eq_true rfl) rfl rfl (Nat.le_of_ble_eq_true rfl) ?_
        refine r_goto (tgt := 155) K dX3_readOf_72 (by decide) ?_
        refine r_iinc (y := 1) (lv' := [(5, .int (x5 + 1)), (6, .int x11), (0, .ref 25), (1, .ref p0), (2, .int x2), (3, .int x3), (4, .int x4)]) K dX3_readOf_155 6 rfl rfl (Nat.le_of_ble_eq_true rfl) rfl ?_
        refine r_goto (tgt := 38) K dX3_readOf_158 (by decide) ?_
        refine r_lv [2, 3, 4, 5, 6, 0] rfl ?_
        exact hQ38 x2 x3 x4 (x5 + 1) h38 hf
theorem sX3_readOf_38 {G : GG} {E : EE} {rv : Int32} {h' : AH} (K : OK G E 2 RX3 cX3_readOf 8) (Z : RT G E (some .int) (some (.int rv)) h') (p0 : Nat) (p1 : Int32) (hp0 : KD p0 = (7, 12)) : ∀ (n : Nat) (x2 : Int32) (x3 : Int32) (x4 : Int32) (x5 : Int32) (h : AH), fX3_readOf_38 p0 p1 n x2 x3 x4 x5 h = some (rv, h') → JJ G E 8 38 [(0, .ref 25), (1, .ref p0), (2, .int x2), (3, .int x3), (4, .int x4), (5, .int x5)] [] h := by
  intro n
  induction n with
  | zero => intro x2 x3 x4 x5 h hf; cases hf
  | succ n ih => intro x2 x3 x4 x5 h hf; exact sX3_readOf_38_b K Z p0 p1 hp0 _ (fun x2 x3 x4 x5 h hf => ih x2 x3 x4 x5 h hf) x2 x3 x4 x5 h hf
def fX3_readOf_26 (p0 : Nat) (p1 : Int32) (x2 : Int32) (s0 : Int32) (h : AH) : Option (Int32 × AH) :=
  letV (wI h 25 3 0) fun h6 => fX3_readOf_38 p0 p1 FU x2 s0 0 0 h6
set_option maxRecDepth 10000 in
theorem sX3_readOf_26 {G : GG} {E : EE} {rv : Int32} {h' : AH} (K : OK G E 2 RX3 cX3_readOf 8) (Z : RT G E (some .int) (some (.int rv)) h') (p0 : Nat) (p1 : Int32) (hp0 : KD p0 = (7, 12)) (x2 : Int32) (s0 : Int32) (h : AH) (hf : fX3_readOf_26 p0 p1 x2 s0 h = some (rv, h')) : JJ G E 8 26 [(0, .ref 25), (1, .ref p0), (2, .int x2)] [.int s0] h := by
  unfold fX3_readOf_26 at hf
  refine r_istore_n (lv' := [(3, .int s0), (0, .ref 25), (1, .ref p0), (2, .int x2)]) K dX3_readOf_26 rfl (Nat.le_of_ble_eq_true rfl) rfl ?_
  refine r_iconst (v := 0) K dX3_readOf_27 rfl ?_
  refine r_istore (lv' := [(4, .int 0), (3, .int s0), (0, .ref 25), (1, .ref p0), (2, .int x2)]) K dX3_readOf_28 (Nat.le_of_ble_eq_true rfl) rfl ?_
  refine r_aload_n K dX3_readOf_30 2 rfl rfl ?_
  refine r_iconst (v := 0) K dX3_readOf_31 rfl ?_
  obtain ⟨h6, e7, hf⟩ := e_l hf
  refine r_putI K fpX3_24 dX3_readOf_32 rfl rfl e7 ?_
  refine r_iconst (v := 0) K dX3_readOf_35 rfl ?_
  refine r_istore (lv' := [(5, .int 0), (4, .int 0), (3, .int s0), (0, .ref 25), (1, .ref p0), (2, .int x2)]) K dX3_readOf_36 (Nat.le_of_ble_eq_true rfl) rfl ?_
  refine r_lv [3, 4, 5, 2, 1, 0] rfl ?_
  exact sX3_readOf_38 K Z p0 p1 hp0 FU x2 s0 0 0 h6 hf
def fX3_readOf (p0 : Nat) (p1 : Int32) (h : AH) : Option (Int32 × AH) :=
  bind2 (fX7_hasGuest p0 p1 h) fun r1 h2 => if r1 = 0 then some (0, h2) else if (h2.1 25 1) = 0 then bind2 (fX3_worthWithoutText p0 p1 h2) fun r40 h41 => fX3_readOf_26 p0 p1 p1 r40 h41 else fX3_readOf_26 p0 p1 p1 0 h2
set_option maxRecDepth 10000 in
theorem sX3_readOf {G : GG} {E : EE} {rv : Int32} {h' : AH} (K : OK G E 2 RX3 cX3_readOf 8) (Z : RT G E (some .int) (some (.int rv)) h') (p0 : Nat) (p1 : Int32) (hp0 : KD p0 = (7, 12)) (h : AH) (hf : fX3_readOf p0 p1 h = some (rv, h')) : JJ G E 8 0 [(0, .ref 25), (1, .ref p0), (2, .int p1)] [] h := by
  unfold fX3_readOf at hf
  refine r_aload_n K dX3_readOf_0 1 rfl rfl ?_
  refine r_iload_n K dX3_readOf_1 2 rfl rfl ?_
  obtain ⟨r1, h2, g3, hf⟩ := e_2 hf
  refine r_callV (av := [.int p1]) (st := []) K lkX3_35 mwX7_hasGuest (conX7_hasGuest p0 p1 hp0 h r1 h2 g3) dX3_readOf_2 hp0 (Nat.le_of_ble_eq_true rfl) rfl rfl (Nat.le_of_ble_eq_true rfl) ?_
  refine r_if_ne (tgt := 10) K dX3_readOf_5 (by decide) (fun c4 => ?_) (fun c4 => ?_)
  · have hf := e_f hf c4
    refine r_aload_n K dX3_readOf_10 0 rfl rfl ?_
    refine r_getI K flX3_17 dX3_readOf_11 rfl rfl ?_
    refine r_if_ne (tgt := 25) K dX3_readOf_14 (by decide) (fun c5 => ?_) (fun c5 => ?_)
    · have hf := e_f hf c5
      refine r_iconst (v := 0) K dX3_readOf_25 rfl ?_
      refine r_lv [0, 1, 2] rfl ?_
      exact sX3_readOf_26 K Z p0 p1 hp0 p1 0 h2 hf
    · have hf := e_t hf c5
      refine r_aload_n K dX3_readOf_17 1 rfl rfl ?_
      refine r_iload_n K dX3_readOf_18 2 rfl rfl ?_
      obtain ⟨r40, h41, g42, hf⟩ := e_2 hf
      refine r_callS (av := [.ref p0, .int p1]) (st := []) K lkX3_41 mwX3_worthWithoutText (conX3_worthWithoutText p0 p1 hp0 h2 r40 h41 g42) dX3_readOf_19 (Nat.le_of_ble_eq_true rfl) rfl rfl (Nat.le_of_ble_eq_true rfl) ?_
      refine r_goto (tgt := 26) K dX3_readOf_22 (by decide) ?_
      refine r_lv [0, 1, 2] rfl ?_
      exact sX3_readOf_26 K Z p0 p1 hp0 p1 r40 h41 hf
  · have hf := e_t hf c4
    refine r_iconst (v := 0) K dX3_readOf_8 rfl ?_
    exact r_iret K Z dX3_readOf_9 hf
theorem conX3_readOf {G : GG} (p0 : Nat) (p1 : Int32) (hp0 : KD p0 = (7, 12)) (h : AH) (rv : Int32) (h' : AH) (hf : fX3_readOf p0 p1 h = some (rv, h')) : Con G 2 yX3_readOf cX3_readOf 8 (some .int) [.ref 25, .ref p0, .int p1] h (some (.int rv)) h' := con_of mwX3_readOf (Nat.le_of_ble_eq_true rfl) (fun E K Z => sX3_readOf K Z p0 p1 hp0 h hf)
def fX7_isLeft (t : Nat) (p0 : Int32) (h : AH) : Option (Int32 × AH) :=
  bind2 (fX7_hasGuest t p0 h) fun r1 h2 => if r1 = 0 then some (0, h2) else if inb p0 9 = true then if (h2.1 (rf t 5) (ix p0)) = 0 then some (1, h2) else some (0, h2) else none
set_option maxRecDepth 10000 in
theorem sX7_isLeft {G : GG} {E : EE} {rv : Int32} {h' : AH} (K : OK G E 1 RX7 cX7_isLeft 2) (Z : RT G E (some .boolean) (some (.int rv)) h') (t : Nat) (p0 : Int32) (ht : KD t = (7, 12)) (h : AH) (hf : fX7_isLeft t p0 h = some (rv, h')) : JJ G E 2 0 [(0, .ref t), (1, .int p0)] [] h := by
  unfold fX7_isLeft at hf
  refine r_aload_n K dX7_isLeft_0 0 rfl rfl ?_
  refine r_iload_n K dX7_isLeft_1 1 rfl rfl ?_
  obtain ⟨r1, h2, g3, hf⟩ := e_2 hf
  refine r_callV (av := [.int p0]) (st := []) K lkX7_49 mwX7_hasGuest (conX7_hasGuest t p0 ht h r1 h2 g3) dX7_isLeft_2 ht (Nat.le_of_ble_eq_true rfl) rfl rfl (Nat.le_of_ble_eq_true rfl) ?_
  refine r_if_eq (tgt := 21) K dX7_isLeft_5 (by decide) (fun c4 => ?_) (fun c4 => ?_)
  · have hf := e_t hf c4
    refine r_iconst (v := 0) K dX7_isLeft_21 rfl ?_
    exact r_zret K Z dX7_isLeft_22 rfl hf
  · have hf := e_f hf c4
    refine r_aload_n K dX7_isLeft_8 0 rfl rfl ?_
    refine r_getR (o' := (rf t 5)) K flX7_27 dX7_isLeft_9 ht rfl rfl ?_
    refine r_iload_n K dX7_isLeft_12 1 rfl rfl ?_
    obtain ⟨g5, hf⟩ := e_g hf
    refine r_iald K dX7_isLeft_13 (kf7_5 ht) g5 ?_
    refine r_if_ne (tgt := 21) K dX7_isLeft_14 (by decide) (fun c6 => ?_) (fun c6 => ?_)
    · have hf := e_f hf c6
      refine r_iconst (v := 0) K dX7_isLeft_21 rfl ?_
      exact r_zret K Z dX7_isLeft_22 rfl hf
    · have hf := e_t hf c6
      refine r_iconst (v := 1) K dX7_isLeft_17 rfl ?_
      refine r_goto (tgt := 22) K dX7_isLeft_18 (by decide) ?_
      exact r_zret K Z dX7_isLeft_22 rfl hf
theorem conX7_isLeft {G : GG} (t : Nat) (p0 : Int32) (ht : KD t = (7, 12)) (h : AH) (rv : Int32) (h' : AH) (hf : fX7_isLeft t p0 h = some (rv, h')) : Con G 1 yX7_isLeft cX7_isLeft 2 (some .boolean) [.ref t, .int p0] h (some (.int rv)) h' := con_of mwX7_isLeft (Nat.le_of_ble_eq_true rfl) (fun E K Z => sX7_isLeft K Z t p0 ht h hf)
def fX3_placeInOrder_24_b (p0 : Nat) (p1 : Int32) (Q24 : Int32 → Int32 → Int32 → Int32 → AH → Option (Int32 × AH)) (x2 : Int32) (x3 : Int32) (x4 : Int32) (x5 : Int32) (h : AH) : Option (Int32 × AH) :=
  if (h.1 p0 9) ≤ x5 then some (x4, h) else if inb x5 9 = true then if (h.1 (rf p0 5) (ix x5)) = 0 then if x5 = x2 then Q24 x2 x3 x4 (x5 + 1) h else bind2 (fX3_readOf p0 x5 h) fun r12 h13 => if x3 < r12 then Q24 x2 x3 (x4 + 1) (x5 + 1) h13 else if r12 = x3 then if x2 ≤ x5 then Q24 x2 x3 x4 (x5 + 1) h13 else Q24 x2 x3 (x4 + 1) (x5 + 1) h13 else Q24 x2 x3 x4 (x5 + 1) h13 else Q24 x2 x3 x4 (x5 + 1) h else none
def fX3_placeInOrder_24 (p0 : Nat) (p1 : Int32) : Nat → Int32 → Int32 → Int32 → Int32 → AH → Option (Int32 × AH)
  | 0 => fun _ _ _ _ _ => none
  | n + 1 => fX3_placeInOrder_24_b p0 p1 (fX3_placeInOrder_24 p0 p1 n)
set_option maxRecDepth 10000 in
theorem sX3_placeInOrder_24_b {G : GG} {E : EE} {rv : Int32} {h' : AH} (K : OK G E 3 RX3 cX3_placeInOrder 7) (Z : RT G E (some .int) (some (.int rv)) h') (p0 : Nat) (p1 : Int32) (hp0 : KD p0 = (7, 12)) (Q24 : Int32 → Int32 → Int32 → Int32 → AH → Option (Int32 × AH)) (hQ24 : ∀ (x2 : Int32) (x3 : Int32) (x4 : Int32) (x5 : Int32) (h : AH), Q24 x2 x3 x4 x5 h = some (rv, h') → JJ G E 7 24 [(0, .ref 25), (1, .ref p0), (2, .int x2), (3, .int x3), (4, .int x4), (5, .int x5)] [] h) (x2 : Int32) (x3 : Int32) (x4 : Int32) (x5 : Int32) (h : AH) (hf : fX3_placeInOrder_24_b p0 p1 Q24 x2 x3 x4 x5 h = some (rv, h')) : JJ G E 7 24 [(0, .ref 25), (1, .ref p0), (2, .int x2), (3, .int x3), (4, .int x4), (5, .int x5)] [] h := by
  unfold fX3_placeInOrder_24_b at hf
  refine r_iload K dX3_placeInOrder_24 5 rfl ?_
  refine r_aload_n K dX3_placeInOrder_26 1 rfl rfl ?_
  refine r_getI K flX3_72 dX3_placeInOrder_27 hp0 rfl ?_
  refine r_icmp_ge (tgt := 85) K dX3_placeInOrder_30 (by decide) (fun c8 => ?_) (fun c8 => ?_)
  · have hf := e_t hf c8
    refine r_iload K dX3_placeInOrder_85 4 rfl ?_
    exact r_iret K Z dX3_placeInOrder_87 hf
  · have hf := e_f hf c8
    refine r_aload_n K dX3_placeInOrder_33 1 rfl rfl ?_
    refine r_getR (o' := (rf p0 5)) K flX3_75 dX3_placeInOrder_34 hp0 rfl rfl ?_
    refine r_iload K dX3_placeInOrder_37 5 rfl ?_
    obtain ⟨g9, hf⟩ := e_g hf
    refine r_iald K dX3_placeInOrder_39 (kf7_5 hp0) g9 ?_
    refine r_if_ne (tgt := 79) K dX3_placeInOrder_40 (by decide) (fun c10 => ?_) (fun c10 => ?_)
    · have hf := e_f hf c10
      refine r_iinc (y := 1) (lv' := [(5, .int (x5 + 1)), (0, .ref 25), (1, .ref p0), (2, .int x2), (3, .int x3), (4, .int x4)]) K dX3_placeInOrder_79 5 rfl rfl (Nat.le_of_ble_eq_true rfl) rfl ?_
      refine r_goto (tgt := 24) K dX3_placeInOrder_82 (by decide) ?_
      refine r_lv [1, 2, 3, 4, 5, 0] rfl ?_
      exact hQ24 x2 x3 x4 (x5 + 1) h hf
    · have hf := e_t hf c10
      refine r_iload K dX3_placeInOrder_43 5 rfl ?_
      refine r_iload_n K dX3_placeInOrder_45 2 rfl rfl ?_
      refine r_icmp_eq (tgt := 79) K dX3_placeInOrder_46 (by decide) (fun c11 => ?_) (fun c11 => ?_)
      · have hf := e_t hf c11
        refine r_iinc (y := 1) (lv' := [(5, .int (x5 + 1)), (0, .ref 25), (1, .ref p0), (2, .int x2), (3, .int x3), (4, .int x4)]) K dX3_placeInOrder_79 5 rfl rfl (Nat.le_of_ble_eq_true rfl) rfl ?_
        refine r_goto (tgt := 24) K dX3_placeInOrder_82 (by decide) ?_
        refine r_lv [1, 2, 3, 4, 5, 0] rfl ?_
        exact hQ24 x2 x3 x4 (x5 + 1) h hf
      · have hf := e_f hf c11
        refine r_aload_n K dX3_placeInOrder_49 0 rfl rfl ?_
        refine r_aload_n K dX3_placeInOrder_50 1 rfl rfl ?_
        refine r_iload K dX3_placeInOrder_51 5 rfl ?_
        obtain ⟨r12, h13, g14, hf⟩ := e_2 hf
        refine r_callV (av := [.ref p0, .int x5]) (st := []) K lkX3_78 mwX3_readOf (conX3_readOf p0 x5 hp0 h r12 h13 g14) dX3_placeInOrder_53 rfl (Nat.le_of_ble_eq_true rfl) rfl rfl (Nat.le_of_ble_eq_true rfl) ?_
        refine r_istore (lv' := [(6, .int r12), (0, .ref 25), (1, .ref p0), (2, .int x2), (3, .int x3), (4, .int x4), (5, .int x5)]) K dX3_placeInOrder_56 (Nat.le_of_ble_eq_true rfl) rfl ?_
        refine r_iload K dX3_placeInOrder_58 0 rfl ?_
        refine r_iload_n K dX3_placeInOrder_60 4 rfl rfl ?_
        refine r_icmp_gt (tgt := 76) K dX3_placeInOrder_61 (by decide) (fun c15 => ?_) (fun c15 => ?_)
        · have hf := e_t hf c15
          refine r_iinc (y := 1) (lv' := [(4, .int (x4 + 1)), (6, .int r12), (0, .ref 25), (1, .ref p0), (2, .int x2), (3, .int x3), (5, .int x5)]) K dX3_placeInOrder_76 5 rfl rfl (Nat.le_of_ble_eq_true rfl) rfl ?_
          refine r_iinc (y := 1) (lv' := [(5, .int (x5 + 1)), (4, .int (x4 + 1)), (6, .int r12), (0, .ref 25), (1, .ref p0), (2, .int x2), (3, .int x3)]) K dX3_placeInOrder_79 6 rfl rfl (Nat.le_of_ble_eq_true rfl) rfl ?_
          refine r_goto (tgt := 24) K dX3_placeInOrder_82 (by decide) ?_
          refine r_lv [3, 4, 5, 6, 1, 0] rfl ?_
          exact hQ24 x2 x3 (x4 + 1) (x5 + 1) h13 hf
        · have hf := e_f hf c15
          refine r_iload K dX3_placeInOrder_64 0 rfl ?_
          refine r_iload_n K dX3_placeInOrder_66 4 rfl rfl ?_
          refine r_icmp_ne (tgt := 79) K dX3_placeInOrder_67 (by decide) (fun c16 => ?_) (fun c16 => ?_)
          · have hf := e_f hf c16
            refine r_iinc (y := 1) (lv' := [(5, .int (x5 + 1)), (6, .int r12), (0, .ref 25), (1, .ref p0), (2, .int x2), (3, .int x3), (4, .int x4)]) K dX3_placeInOrder_79 6 rfl rfl (Nat.le_of_ble_eq_true rfl) rfl ?_
            refine r_goto (tgt := 24) K dX3_placeInOrder_82 (by decide) ?_
            refine r_lv [2, 3, 4, 5, 6, 0] rfl ?_
            exact hQ24 x2 x3 x4 (x5 + 1) h13 hf
          · have hf := e_t hf c16
            refine r_iload K dX3_placeInOrder_70 6 rfl ?_
            refine r_iload_n K dX3_placeInOrder_72 3 rfl rfl ?_
            refine r_icmp_ge (tgt := 79) K dX3_placeInOrder_73 (by decide) (fun c17 => ?_) (fun c17 => ?_)
            · have hf := e_t hf c17
              refine r_iinc (y := 1) (lv' := [(5, .int (x5 + 1)), (6, .int r12), (0, .ref 25), (1, .ref p0), (2, .int x2), (3, .int x3), (4, .int x4)]) K dX3_placeInOrder_79 6 rfl rfl (Nat.le_of_ble_eq_true rfl) rfl ?_
              refine r_goto (tgt := 24) K dX3_placeInOrder_82 (by decide) ?_
              refine r_lv [2, 3, 4, 5, 6, 0] rfl ?_
              exact hQ24 x2 x3 x4 (x5 + 1) h13 hf
            · have hf := e_f hf c17
              refine r_iinc (y := 1) (lv' := [(4, .int (x4 + 1)), (6, .int r12), (0, .ref 25), (1, .ref p0), (2, .int x2), (3, .int x3), (5, .int x5)]) K dX3_placeInOrder_76 5 rfl rfl (Nat.le_of_ble_eq_true rfl) rfl ?_
              refine r_iinc (y := 1) (lv' := [(5, .int (x5 + 1)), (4, .int (x4 + 1)), (6, .int r12), (0, .ref 25), (1, .ref p0), (2, .int x2), (3, .int x3)]) K dX3_placeInOrder_79 6 rfl rfl (Nat.le_of_ble_eq_true rfl) rfl ?_
              refine r_goto (tgt := 24) K dX3_placeInOrder_82 (by decide) ?_
              refine r_lv [3, 4, 5, 6, 1, 0] rfl ?_
              exact hQ24 x2 x3 (x4 + 1) (x5 + 1) h13 hf
theorem sX3_placeInOrder_24 {G : GG} {E : EE} {rv : Int32} {h' : AH} (K : OK G E 3 RX3 cX3_placeInOrder 7) (Z : RT G E (some .int) (some (.int rv)) h') (p0 : Nat) (p1 : Int32) (hp0 : KD p0 = (7, 12)) : ∀ (n : Nat) (x2 : Int32) (x3 : Int32) (x4 : Int32) (x5 : Int32) (h : AH), fX3_placeInOrder_24 p0 p1 n x2 x3 x4 x5 h = some (rv, h') → JJ G E 7 24 [(0, .ref 25), (1, .ref p0), (2, .int x2), (3, .int x3), (4, .int x4), (5, .int x5)] [] h := by
  intro n
  induction n with
  | zero => intro x2 x3 x4 x5 h hf; cases hf
  | succ n ih => intro x2 x3 x4 x5 h hf; exact sX3_placeInOrder_24_b K Z p0 p1 hp0 _ (fun x2 x3 x4 x5 h hf => ih x2 x3 x4 x5 h hf) x2 x3 x4 x5 h hf
def fX3_placeInOrder (p0 : Nat) (p1 : Int32) (h : AH) : Option (Int32 × AH) :=
  bind2 (fX7_isLeft p0 p1 h) fun r1 h2 => if r1 = 0 then some ((-2), h2) else bind2 (fX3_readOf p0 p1 h2) fun r5 h6 => fX3_placeInOrder_24 p0 p1 FU p1 r5 0 0 h6
set_option maxRecDepth 10000 in
theorem sX3_placeInOrder {G : GG} {E : EE} {rv : Int32} {h' : AH} (K : OK G E 3 RX3 cX3_placeInOrder 7) (Z : RT G E (some .int) (some (.int rv)) h') (p0 : Nat) (p1 : Int32) (hp0 : KD p0 = (7, 12)) (h : AH) (hf : fX3_placeInOrder p0 p1 h = some (rv, h')) : JJ G E 7 0 [(0, .ref 25), (1, .ref p0), (2, .int p1)] [] h := by
  unfold fX3_placeInOrder at hf
  refine r_aload_n K dX3_placeInOrder_0 1 rfl rfl ?_
  refine r_iload_n K dX3_placeInOrder_1 2 rfl rfl ?_
  obtain ⟨r1, h2, g3, hf⟩ := e_2 hf
  refine r_callV (av := [.int p1]) (st := []) K lkX3_81 mwX7_isLeft (conX7_isLeft p0 p1 hp0 h r1 h2 g3) dX3_placeInOrder_2 hp0 (Nat.le_of_ble_eq_true rfl) rfl rfl (Nat.le_of_ble_eq_true rfl) ?_
  refine r_if_ne (tgt := 11) K dX3_placeInOrder_5 (by decide) (fun c4 => ?_) (fun c4 => ?_)
  · have hf := e_f hf c4
    refine r_aload_n K dX3_placeInOrder_11 0 rfl rfl ?_
    refine r_aload_n K dX3_placeInOrder_12 1 rfl rfl ?_
    refine r_iload_n K dX3_placeInOrder_13 2 rfl rfl ?_
    obtain ⟨r5, h6, g7, hf⟩ := e_2 hf
    refine r_callV (av := [.ref p0, .int p1]) (st := []) K lkX3_78 mwX3_readOf (conX3_readOf p0 p1 hp0 h2 r5 h6 g7) dX3_placeInOrder_14 rfl (Nat.le_of_ble_eq_true rfl) rfl rfl (Nat.le_of_ble_eq_true rfl) ?_
    refine r_istore_n (lv' := [(3, .int r5), (0, .ref 25), (1, .ref p0), (2, .int p1)]) K dX3_placeInOrder_17 rfl (Nat.le_of_ble_eq_true rfl) rfl ?_
    refine r_iconst (v := 0) K dX3_placeInOrder_18 rfl ?_
    refine r_istore (lv' := [(4, .int 0), (3, .int r5), (0, .ref 25), (1, .ref p0), (2, .int p1)]) K dX3_placeInOrder_19 (Nat.le_of_ble_eq_true rfl) rfl ?_
    refine r_iconst (v := 0) K dX3_placeInOrder_21 rfl ?_
    refine r_istore (lv' := [(5, .int 0), (4, .int 0), (3, .int r5), (0, .ref 25), (1, .ref p0), (2, .int p1)]) K dX3_placeInOrder_22 (Nat.le_of_ble_eq_true rfl) rfl ?_
    refine r_lv [3, 4, 5, 2, 1, 0] rfl ?_
    exact sX3_placeInOrder_24 K Z p0 p1 hp0 FU p1 r5 0 0 h6 hf
  · have hf := e_t hf c4
    refine r_bipush (v := (-2)) K dX3_placeInOrder_8 rfl ?_
    exact r_iret K Z dX3_placeInOrder_10 hf
theorem conX3_placeInOrder {G : GG} (p0 : Nat) (p1 : Int32) (hp0 : KD p0 = (7, 12)) (h : AH) (rv : Int32) (h' : AH) (hf : fX3_placeInOrder p0 p1 h = some (rv, h')) : Con G 3 yX3_placeInOrder cX3_placeInOrder 7 (some .int) [.ref 25, .ref p0, .int p1] h (some (.int rv)) h' := con_of mwX3_placeInOrder (Nat.le_of_ble_eq_true rfl) (fun E K Z => sX3_placeInOrder K Z p0 p1 hp0 h hf)
