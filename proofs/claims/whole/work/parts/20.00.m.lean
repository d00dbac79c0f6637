def fX0_forgetOldest (h : AH) : Option AH :=
  letV (wI h 38 5 39) fun h1_ => if cpOK 1 0 (h1_.1 38 5) 40 40 = true then letV (cpI h1_ 39 (ix 1) 39 (ix 0) (ix (h1_.1 38 5))) fun h4_ => if cpOK 1 0 (h4_.1 38 5) 40 40 = true then letV (cpI h4_ 40 (ix 1) 40 (ix 0) (ix (h4_.1 38 5))) fun h7_ => if cpOK 1 0 (h7_.1 38 5) 40 40 = true then letV (cpI h7_ 41 (ix 1) 41 (ix 0) (ix (h7_.1 38 5))) fun h10_ => if cpOK 1 0 (h10_.1 38 5) 40 40 = true then letV (cpI h10_ 42 (ix 1) 42 (ix 0) (ix (h10_.1 38 5))) fun h13_ => some h13_ else none else none else none else none
set_option maxRecDepth 10000 in
theorem sX0_forgetOldest {G : GG} {E : EE} {h' : AH} (K : OK G E 1 RX0 cX0_forgetOldest 1) (Z : RT G E none (none) h') (h : AH) (hf : fX0_forgetOldest h = some h') : JJ G E 1 0 [(0, .ref 38)] [] h := by
  unfold fX0_forgetOldest at hf
  refine r_aload_n K dX0_forgetOldest_0 0 rfl rfl ?_
  refine r_bipush (v := 39) K dX0_forgetOldest_1 rfl ?_
  obtain ⟨h1_, e2_, hf⟩ := e_l hf
  refine r_putI K fpX0_28 dX0_forgetOldest_3 rfl rfl e2_ ?_
  refine r_aload_n K dX0_forgetOldest_6 0 rfl rfl ?_
  refine r_getR (o' := 39) K flX0_9 dX0_forgetOldest_7 rfl rfl rfl ?_
  refine r_iconst (v := 1) K dX0_forgetOldest_10 rfl ?_
  refine r_aload_n K dX0_forgetOldest_11 0 rfl rfl ?_
  refine r_getR (o' := 39) K flX0_9 dX0_forgetOldest_12 rfl rfl rfl ?_
  refine r_iconst (v := 0) K dX0_forgetOldest_15 rfl ?_
  refine r_aload_n K dX0_forgetOldest_16 0 rfl rfl ?_
  refine r_getI K flX0_28 dX0_forgetOldest_17 rfl rfl ?_
  obtain ⟨g3_, hf⟩ := e_g hf
  obtain ⟨h4_, e5_, hf⟩ := e_l hf
  refine r_acopyi K lmX0_34 dX0_forgetOldest_20 rfl rfl g3_ (Nat.le_of_ble_eq_true rfl) (Nat.le_of_ble_eq_true rfl) e5_ ?_
  refine r_aload_n K dX0_forgetOldest_23 0 rfl rfl ?_
  refine r_getR (o' := 40) K flX0_15 dX0_forgetOldest_24 rfl rfl rfl ?_
  refine r_iconst (v := 1) K dX0_forgetOldest_27 rfl ?_
  refine r_aload_n K dX0_forgetOldest_28 0 rfl rfl ?_
  refine r_getR (o' := 40) K flX0_15 dX0_forgetOldest_29 rfl rfl rfl ?_
  refine r_iconst (v := 0) K dX0_forgetOldest_32 rfl ?_
  refine r_aload_n K dX0_forgetOldest_33 0 rfl rfl ?_
  refine r_getI K flX0_28 dX0_forgetOldest_34 rfl rfl ?_
  obtain ⟨g6_, hf⟩ := e_g hf
  obtain ⟨h7_, e8_, hf⟩ := e_l hf
  refine r_acopyi K lmX0_34 dX0_forgetOldest_37 rfl rfl g6_ (Nat.le_of_ble_eq_true rfl) (Nat.le_of_ble_eq_true rfl) e8_ ?_
  refine r_aload_n K dX0_forgetOldest_40 0 rfl rfl ?_
  refine r_getR (o' := 41) K flX0_18 dX0_forgetOldest_41 rfl rfl rfl ?_
  refine r_iconst (v := 1) K dX0_forgetOldest_44 rfl ?_
  refine r_aload_n K dX0_forgetOldest_45 0 rfl rfl ?_
  refine r_getR (o' := 41) K flX0_18 dX0_forgetOldest_46 rfl rfl rfl ?_
  refine r_iconst (v := 0) K dX0_forgetOldest_49 rfl ?_
  refine r_aload_n K dX0_forgetOldest_50 0 rfl rfl ?_
  refine r_getI K flX0_28 dX0_forgetOldest_51 rfl rfl ?_
  obtain ⟨g9_, hf⟩ := e_g hf
  obtain ⟨h10_, e11_, hf⟩ := e_l hf
  refine r_acopyi K lmX0_34 dX0_forgetOldest_54 rfl rfl g9_ (Nat.le_of_ble_eq_true rfl) (Nat.le_of_ble_eq_true rfl) e11_ ?_
  refine r_aload_n K dX0_forgetOldest_57 0 rfl rfl ?_
  refine r_getR (o' := 42) K flX0_21 dX0_forgetOldest_58 rfl rfl rfl ?_
  refine r_iconst (v := 1) K dX0_forgetOldest_61 rfl ?_
  refine r_aload_n K dX0_forgetOldest_62 0 rfl rfl ?_
  refine r_getR (o' := 42) K flX0_21 dX0_forgetOldest_63 rfl rfl rfl ?_
  refine r_iconst (v := 0) K dX0_forgetOldest_66 rfl ?_
  refine r_aload_n K dX0_forgetOldest_67 0 rfl rfl ?_
  refine r_getI K flX0_28 dX0_forgetOldest_68 rfl rfl ?_
  obtain ⟨g12_, hf⟩ := e_g hf
  obtain ⟨h13_, e14_, hf⟩ := e_l hf
  refine r_acopyi K lmX0_34 dX0_forgetOldest_71 rfl rfl g12_ (Nat.le_of_ble_eq_true rfl) (Nat.le_of_ble_eq_true rfl) e14_ ?_
  exact r_vret K Z dX0_forgetOldest_74 hf
theorem conX0_forgetOldest {G : GG} (h : AH) (h' : AH) (hf : fX0_forgetOldest h = some h') : Con G 1 yX0_forgetOldest cX0_forgetOldest 1 none [.ref 38] h (none) h' := con_of mwX0_forgetOldest (Nat.le_of_ble_eq_true rfl) (fun E K Z => sX0_forgetOldest K Z h hf)
def fX0_add_13 (p0 : Int32) (p1 : Int32) (p2 : Int32) (p3 : Int32) (x1 : Int32) (x2 : Int32) (x3 : Int32) (x4 : Int32) (h : AH) : Option AH :=
  if inb (h.1 38 5) 40 = true then letV (wI h 39 (ix (h.1 38 5)) x1) fun h3_ => if inb (h3_.1 38 5) 40 = true then letV (wI h3_ 40 (ix (h3_.1 38 5)) x2) fun h6_ => if inb (h6_.1 38 5) 40 = true then letV (wI h6_ 41 (ix (h6_.1 38 5)) x3) fun h9_ => if inb (h9_.1 38 5) 40 = true then letV (wI h9_ 42 (ix (h9_.1 38 5)) x4) fun h12_ => letV (wI h12_ 38 5 ((h12_.1 38 5) + 1)) fun h14_ => letV (wI h14_ 38 4 (h14_.1 38 5)) fun h16_ => some h16_ else none else none else none else none
set_option maxRecDepth 10000 in
theorem sX0_add_13 {G : GG} {E : EE} {h' : AH} (K : OK G E 2 RX0 cX0_add 5) (Z : RT G E none (none) h') (p0 : Int32) (p1 : Int32) (p2 : Int32) (p3 : Int32) (x1 : Int32) (x2 : Int32) (x3 : Int32) (x4 : Int32) (h : AH) (hf : fX0_add_13 p0 p1 p2 p3 x1 x2 x3 x4 h = some h') : JJ G E 5 13 [(0, .ref 38), (1, .int x1), (2, .int x2), (3, .int x3), (4, .int x4)] [] h := by
  unfold fX0_add_13 at hf
  refine r_aload_n K dX0_add_13 0 rfl rfl ?_
  refine r_getR (o' := 39) K flX0_9 dX0_add_14 rfl rfl rfl ?_
  refine r_aload_n K dX0_add_17 0 rfl rfl ?_
  refine r_getI K flX0_28 dX0_add_18 rfl rfl ?_
  refine r_iload_n K dX0_add_21 1 rfl rfl ?_
  obtain ⟨g2_, hf⟩ := e_g hf
  obtain ⟨h3_, e4_, hf⟩ := e_l hf
  refine r_iast K dX0_add_22 rfl g2_ e4_ ?_
  refine r_aload_n K dX0_add_23 0 rfl rfl ?_
  refine r_getR (o' := 40) K flX0_15 dX0_add_24 rfl rfl rfl ?_
  refine r_aload_n K dX0_add_27 0 rfl rfl ?_
  refine r_getI K flX0_28 dX0_add_28 rfl rfl ?_
  refine r_iload_n K dX0_add_31 2 rfl rfl ?_
  obtain ⟨g5_, hf⟩ := e_g hf
  obtain ⟨h6_, e7_, hf⟩ := e_l hf
  refine r_iast K dX0_add_32 rfl g5_ e7_ ?_
  refine r_aload_n K dX0_add_33 0 rfl rfl ?_
  refine r_getR (o' := 41) K flX0_18 dX0_add_34 rfl rfl rfl ?_
  refine r_aload_n K dX0_add_37 0 rfl rfl ?_
  refine r_getI K flX0_28 dX0_add_38 rfl rfl ?_
  refine r_iload_n K dX0_add_41 3 rfl rfl ?_
  obtain ⟨g8_, hf⟩ := e_g hf
  obtain ⟨h9_, e10_, hf⟩ := e_l hf
  refine r_iast K dX0_add_42 rfl g8_ e10_ ?_
  refine r_aload_n K dX0_add_43 0 rfl rfl ?_
  refine r_getR (o' := 42) K flX0_21 dX0_add_44 rfl rfl rfl ?_
  refine r_aload_n K dX0_add_47 0 rfl rfl ?_
  refine r_getI K flX0_28 dX0_add_48 rfl rfl ?_
  refine r_iload K dX0_add_51 4 rfl ?_
  obtain ⟨g11_, hf⟩ := e_g hf
  obtain ⟨h12_, e13_, hf⟩ := e_l hf
  refine r_iast K dX0_add_53 rfl g11_ e13_ ?_
  refine r_aload_n K dX0_add_54 0 rfl rfl ?_
  refine r_dup K dX0_add_55 rfl ?_
  refine r_getI K flX0_28 dX0_add_56 rfl rfl ?_
  refine r_iconst (v := 1) K dX0_add_59 rfl ?_
  refine r_iadd K dX0_add_60 ?_
  obtain ⟨h14_, e15_, hf⟩ := e_l hf
  refine r_putI K fpX0_28 dX0_add_61 rfl rfl e15_ ?_
  refine r_aload_n K dX0_add_64 0 rfl rfl ?_
  refine r_aload_n K dX0_add_65 0 rfl rfl ?_
  refine r_getI K flX0_28 dX0_add_66 rfl rfl ?_
  obtain ⟨h16_, e17_, hf⟩ := e_l hf
  refine r_putI K fpX0_24 dX0_add_69 rfl rfl e17_ ?_
  exact r_vret K Z dX0_add_72 hf
def fX0_add (p0 : Int32) (p1 : Int32) (p2 : Int32) (p3 : Int32) (h : AH) : Option AH :=
  if (h.1 38 5) < 40 then fX0_add_13 p0 p1 p2 p3 p0 p1 p2 p3 h else bindV (fX0_forgetOldest  h) fun h19_ => fX0_add_13 p0 p1 p2 p3 p0 p1 p2 p3 h19_
set_option maxRecDepth 10000 in
theorem sX0_add {G : GG} {E : EE} {h' : AH} (K : OK G E 2 RX0 cX0_add 5) (Z : RT G E none (none) h') (p0 : Int32) (p1 : Int32) (p2 : Int32) (p3 : Int32) (h : AH) (hf : fX0_add p0 p1 p2 p3 h = some h') : JJ G E 5 0 [(0, .ref 38), (1, .int p0), (2, .int p1), (3, .int p2), (4, .int p3)] [] h := by
  unfold fX0_add at hf
  refine r_aload_n K dX0_add_0 0 rfl rfl ?_
  refine r_getI K flX0_28 dX0_add_1 rfl rfl ?_
  refine r_bipush (v := 40) K dX0_add_4 rfl ?_
  refine r_icmp_lt (tgt := 13) K dX0_add_6 (by decide) (fun c1_ => ?_) (fun c1_ => ?_)
  · have hf := e_t hf c1_
    refine r_lv [0, 1, 2, 3, 4] rfl ?_
    exact sX0_add_13 K Z p0 p1 p2 p3 p0 p1 p2 p3 h hf
  · have hf := e_f hf c1_
    refine r_aload_n K dX0_add_9 0 rfl rfl ?_
    obtain ⟨h19_, g20_, hf⟩ := e_v hf
    refine r_callV (av := []) (st := []) K lkX0_31 mwX0_forgetOldest (conX0_forgetOldest  h h19_ g20_) dX0_add_10 rfl (Nat.le_of_ble_eq_true rfl) rfl rfl (Nat.le_of_ble_eq_true rfl) ?_
    refine r_lv [0, 1, 2, 3, 4] rfl ?_
    exact sX0_add_13 K Z p0 p1 p2 p3 p0 p1 p2 p3 h19_ hf
theorem conX0_add {G : GG} (p0 : Int32) (p1 : Int32) (p2 : Int32) (p3 : Int32) (h : AH) (h' : AH) (hf : fX0_add p0 p1 p2 p3 h = some h') : Con G 2 yX0_add cX0_add 5 none [.ref 38, .int p0, .int p1, .int p2, .int p3] h (none) h' := con_of mwX0_add (Nat.le_of_ble_eq_true rfl) (fun E K Z => sX0_add K Z p0 p1 p2 p3 h hf)
def fX7_hasGuest (t : Nat) (p0 : Int32) (h : AH) : Option (Int32 × AH) :=
  if p0 < 0 then some (0, h) else if (h.1 t 9) ≤ p0 then some (0, h) else some (1, h)
set_option maxRecDepth 10000 in
theorem sX7_hasGuest {G : GG} {E : EE} {rv : Int32} {h' : AH} (K : OK G E 0 RX7 cX7_hasGuest 2) (Z : RT G E (some .boolean) (some (.int rv)) h') (t : Nat) (p0 : Int32) (ht : KD t = (7, 12)) (h : AH) (hf : fX7_hasGuest t p0 h = some (rv, h')) : JJ G E 2 0 [(0, .ref t), (1, .int p0)] [] h := by
  unfold fX7_hasGuest at hf
  refine r_iload_n K dX7_hasGuest_0 1 rfl rfl ?_
  refine r_if_lt (tgt := 16) K dX7_hasGuest_1 (by decide) (fun c1_ => ?_) (fun c1_ => ?_)
  · have hf := e_t hf c1_
    refine r_iconst (v := 0) K dX7_hasGuest_16 rfl ?_
    exact r_zret K Z dX7_hasGuest_17 rfl hf
  · have hf := e_f hf c1_
    refine r_iload_n K dX7_hasGuest_4 1 rfl rfl ?_
    refine r_aload_n K dX7_hasGuest_5 0 rfl rfl ?_
    refine r_getI K flX7_39 dX7_hasGuest_6 ht rfl ?_
    refine r_icmp_ge (tgt := 16) K dX7_hasGuest_9 (by decide) (fun c2_ => ?_) (fun c2_ => ?_)
    · have hf := e_t hf c2_
      refine r_iconst (v := 0) K dX7_hasGuest_16 rfl ?_
      exact r_zret K Z dX7_hasGuest_17 rfl hf
    · have hf := e_f hf c2_
      refine r_iconst (v := 1) K dX7_hasGuest_12 rfl ?_
      refine r_goto (tgt := 17) K dX7_hasGuest_13 (by decide) ?_
      exact r_zret K Z dX7_hasGuest_17 rfl hf
theorem conX7_hasGuest {G : GG} (t : Nat) (p0 : Int32) (ht : KD t = (7, 12)) (h : AH) (rv : Int32) (h' : AH) (hf : fX7_hasGuest t p0 h = some (rv, h')) : Con G 0 yX7_hasGuest cX7_hasGuest 2 (some .boolean) [.ref t, .int p0] h (some (.int rv)) h' := con_of mwX7_hasGuest (Nat.le_of_ble_eq_true rfl) (fun E K Z => sX7_hasGuest K Z t p0 ht h hf)
def fX7_hasNumber_49 (t : Nat) (p0 : Int32) (p1 : Int32) (x1 : Int32) (h : AH) : Option (Int32 × AH) :=
  if x1 < 0 then some (0, h) else if (h.1 t 10) ≤ x1 then some (0, h) else some (1, h)
set_option maxRecDepth 10000 in
theorem sX7_hasNumber_49 {G : GG} {E : EE} {rv : Int32} {h' : AH} (K : OK G E 1 RX7 cX7_hasNumber 3) (Z : RT G E (some .boolean) (some (.int rv)) h') (t : Nat) (p0 : Int32) (p1 : Int32) (ht : KD t = (7, 12)) (x1 : Int32) (h : AH) (hf : fX7_hasNumber_49 t p0 p1 x1 h = some (rv, h')) : JJ G E 3 49 [(0, .ref t), (1, .int x1)] [] h := by
  unfold fX7_hasNumber_49 at hf
  refine r_iload_n K dX7_hasNumber_49 1 rfl rfl ?_
  refine r_if_lt (tgt := 65) K dX7_hasNumber_50 (by decide) (fun c4_ => ?_) (fun c4_ => ?_)
  · have hf := e_t hf c4_
    refine r_iconst (v := 0) K dX7_hasNumber_65 rfl ?_
    exact r_zret K Z dX7_hasNumber_66 rfl hf
  · have hf := e_f hf c4_
    refine r_iload_n K dX7_hasNumber_53 1 rfl rfl ?_
    refine r_aload_n K dX7_hasNumber_54 0 rfl rfl ?_
    refine r_getI K flX7_43 dX7_hasNumber_55 ht rfl ?_
    refine r_icmp_ge (tgt := 65) K dX7_hasNumber_58 (by decide) (fun c5_ => ?_) (fun c5_ => ?_)
    · have hf := e_t hf c5_
      refine r_iconst (v := 0) K dX7_hasNumber_65 rfl ?_
      exact r_zret K Z dX7_hasNumber_66 rfl hf
    · have hf := e_f hf c5_
      refine r_iconst (v := 1) K dX7_hasNumber_61 rfl ?_
      refine r_goto (tgt := 66) K dX7_hasNumber_62 (by decide) ?_
      exact r_zret K Z dX7_hasNumber_66 rfl hf
def fX7_hasNumber_15 (t : Nat) (p0 : Int32) (p1 : Int32) (x1 : Int32) (x2 : Int32) (h : AH) : Option (Int32 × AH) :=
  if x2 = 8 then if x1 = 0 then some (1, h) else some (0, h) else if x2 = 6 then fX7_hasNumber_49 t p0 p1 x1 h else if x2 = 7 then fX7_hasNumber_49 t p0 p1 x1 h else if x2 = 9 then fX7_hasNumber_49 t p0 p1 x1 h else some (0, h)
set_option maxRecDepth 10000 in
theorem sX7_hasNumber_15 {G : GG} {E : EE} {rv : Int32} {h' : AH} (K : OK G E 1 RX7 cX7_hasNumber 3) (Z : RT G E (some .boolean) (some (.int rv)) h') (t : Nat) (p0 : Int32) (p1 : Int32) (ht : KD t = (7, 12)) (x1 : Int32) (x2 : Int32) (h : AH) (hf : fX7_hasNumber_15 t p0 p1 x1 x2 h = some (rv, h')) : JJ G E 3 15 [(0, .ref t), (1, .int x1), (2, .int x2)] [] h := by
  unfold fX7_hasNumber_15 at hf
  refine r_iload_n K dX7_hasNumber_15 2 rfl rfl ?_
  refine r_bipush (v := 8) K dX7_hasNumber_16 rfl ?_
  refine r_icmp_ne (tgt := 31) K dX7_hasNumber_18 (by decide) (fun c2_ => ?_) (fun c2_ => ?_)
  · have hf := e_f hf c2_
    refine r_iload_n K dX7_hasNumber_31 2 rfl rfl ?_
    refine r_bipush (v := 6) K dX7_hasNumber_32 rfl ?_
    refine r_icmp_eq (tgt := 49) K dX7_hasNumber_34 (by decide) (fun c3_ => ?_) (fun c3_ => ?_)
    · have hf := e_t hf c3_
      refine r_lv [0, 1] rfl ?_
      exact sX7_hasNumber_49 K Z t p0 p1 ht x1 h hf
    · have hf := e_f hf c3_
      refine r_iload_n K dX7_hasNumber_37 2 rfl rfl ?_
      refine r_bipush (v := 7) K dX7_hasNumber_38 rfl ?_
      refine r_icmp_eq (tgt := 49) K dX7_hasNumber_40 (by decide) (fun c6_ => ?_) (fun c6_ => ?_)
      · have hf := e_t hf c6_
        refine r_lv [0, 1] rfl ?_
        exact sX7_hasNumber_49 K Z t p0 p1 ht x1 h hf
      · have hf := e_f hf c6_
        refine r_iload_n K dX7_hasNumber_43 2 rfl rfl ?_
        refine r_bipush (v := 9) K dX7_hasNumber_44 rfl ?_
        refine r_icmp_ne (tgt := 65) K dX7_hasNumber_46 (by decide) (fun c7_ => ?_) (fun c7_ => ?_)
        · have hf := e_f hf c7_
          refine r_iconst (v := 0) K dX7_hasNumber_65 rfl ?_
          exact r_zret K Z dX7_hasNumber_66 rfl hf
        · have hf := e_t hf c7_
          refine r_lv [0, 1] rfl ?_
          exact sX7_hasNumber_49 K Z t p0 p1 ht x1 h hf
  · have hf := e_t hf c2_
    refine r_iload_n K dX7_hasNumber_21 1 rfl rfl ?_
    refine r_if_ne (tgt := 29) K dX7_hasNumber_22 (by decide) (fun c8_ => ?_) (fun c8_ => ?_)
    · have hf := e_f hf c8_
      refine r_iconst (v := 0) K dX7_hasNumber_29 rfl ?_
      exact r_zret K Z dX7_hasNumber_30 rfl hf
    · have hf := e_t hf c8_
      refine r_iconst (v := 1) K dX7_hasNumber_25 rfl ?_
      refine r_goto (tgt := 30) K dX7_hasNumber_26 (by decide) ?_
      exact r_zret K Z dX7_hasNumber_30 rfl hf
def fX7_hasNumber (t : Nat) (p0 : Int32) (p1 : Int32) (h : AH) : Option (Int32 × AH) :=
  if p1 < 0 then fX7_hasNumber_15 t p0 p1 p0 p1 h else if 5 < p1 then fX7_hasNumber_15 t p0 p1 p0 p1 h else bind2 (fX7_hasGuest t p0 h) fun r10_ h11_ => if isB r10_ = true then some (r10_, h11_) else none
set_option maxRecDepth 10000 in
theorem sX7_hasNumber {G : GG} {E : EE} {rv : Int32} {h' : AH} (K : OK G E 1 RX7 cX7_hasNumber 3) (Z : RT G E (some .boolean) (some (.int rv)) h') (t : Nat) (p0 : Int32) (p1 : Int32) (ht : KD t = (7, 12)) (h : AH) (hf : fX7_hasNumber t p0 p1 h = some (rv, h')) : JJ G E 3 0 [(0, .ref t), (1, .int p0), (2, .int p1)] [] h := by
  unfold fX7_hasNumber at hf
  refine r_iload_n K dX7_hasNumber_0 2 rfl rfl ?_
  refine r_if_lt (tgt := 15) K dX7_hasNumber_1 (by decide) (fun c1_ => ?_) (fun c1_ => ?_)
  · have hf := e_t hf c1_
    refine r_lv [0, 1, 2] rfl ?_
    exact sX7_hasNumber_15 K Z t p0 p1 ht p0 p1 h hf
  · have hf := e_f hf c1_
    refine r_iload_n K dX7_hasNumber_4 2 rfl rfl ?_
    refine r_iconst (v := 5) K dX7_hasNumber_5 rfl ?_
    refine r_icmp_gt (tgt := 15) K dX7_hasNumber_6 (by decide) (fun c9_ => ?_) (fun c9_ => ?_)
    · have hf := e_t hf c9_
      refine r_lv [0, 1, 2] rfl ?_
      exact sX7_hasNumber_15 K Z t p0 p1 ht p0 p1 h hf
    · have hf := e_f hf c9_
      refine r_aload_n K dX7_hasNumber_9 0 rfl rfl ?_
      refine r_iload_n K dX7_hasNumber_10 1 rfl rfl ?_
      obtain ⟨r10_, h11_, g12_, hf⟩ := e_2 hf
      refine r_callV (av := [.int p0]) (st := []) K lkX7_49 mwX7_hasGuest (conX7_hasGuest t p0 ht h r10_ h11_ g12_) dX7_hasNumber_11 ht (Nat.le_of_ble_eq_true rfl) rfl rfl (Nat.le_of_ble_eq_true rfl) ?_
      obtain ⟨g13_, hf⟩ := e_g hf
      exact r_zret K Z dX7_hasNumber_14 g13_ hf
theorem conX7_hasNumber {G : GG} (t : Nat) (p0 : Int32) (p1 : Int32) (ht : KD t = (7, 12)) (h : AH) (rv : Int32) (h' : AH) (hf : fX7_hasNumber t p0 p1 h = some (rv, h')) : Con G 1 yX7_hasNumber cX7_hasNumber 3 (some .boolean) [.ref t, .int p0, .int p1] h (some (.int rv)) h' := con_of mwX7_hasNumber (Nat.le_of_ble_eq_true rfl) (fun E K Z => sX7_hasNumber K Z t p0 p1 ht h hf)
def fX7_numbersOf (t : Nat) (p0 : Int32) (h : AH) : Option (Nat × AH) :=
  if p0 = 0 then some ((rf t 0), h) else if p0 = 1 then some ((rf t 1), h) else if p0 = 2 then some ((rf t 2), h) else if p0 = 3 then some ((rf t 3), h) else if p0 = 4 then some ((rf t 4), h) else if p0 = 5 then some ((rf t 5), h) else if p0 = 6 then some ((rf t 7), h) else if p0 = 7 then some ((rf t 8), h) else some ((rf t 6), h)
set_option maxRecDepth 10000 in
theorem sX7_numbersOf {G : GG} {E : EE} {rv : Nat} {h' : AH} (K : OK G E 0 RX7 cX7_numbersOf 2) (Z : RT G E (some (.array .int)) (some (.ref rv)) h') (t : Nat) (p0 : Int32) (ht : KD t = (7, 12)) (h : AH) (hf : fX7_numbersOf t p0 h = some (rv, h')) : JJ G E 2 0 [(0, .ref t), (1, .int p0)] [] h := by
  unfold fX7_numbersOf at hf
  refine r_iload_n K dX7_numbersOf_0 1 rfl rfl ?_
  by_cases c1_ : p0 = 0
  · have hf := e_t hf c1_
    refine r_tblIn (off := 47) (tgt := 48) K dX7_numbersOf_1 (by rw [c1_]; decide) (by rw [c1_]; decide) (by rw [c1_]; decide) (by decide) ?_
    refine r_aload_n K dX7_numbersOf_48 0 rfl rfl ?_
    refine r_getR (o' := (rf t 0)) K flX7_9 dX7_numbersOf_49 ht rfl rfl ?_
    exact r_aret K Z dX7_numbersOf_52 hf
  have hf := e_f hf c1_
  by_cases c2_ : p0 = 1
  · have hf := e_t hf c2_
    refine r_tblIn (off := 52) (tgt := 53) K dX7_numbersOf_1 (by rw [c2_]; decide) (by rw [c2_]; decide) (by rw [c2_]; decide) (by decide) ?_
    refine r_aload_n K dX7_numbersOf_53 0 rfl rfl ?_
    refine r_getR (o' := (rf t 1)) K flX7_15 dX7_numbersOf_54 ht rfl rfl ?_
    exact r_aret K Z dX7_numbersOf_57 hf
  have hf := e_f hf c2_
  by_cases c3_ : p0 = 2
  · have hf := e_t hf c3_
    refine r_tblIn (off := 57) (tgt := 58) K dX7_numbersOf_1 (by rw [c3_]; decide) (by rw [c3_]; decide) (by rw [c3_]; decide) (by decide) ?_
    refine r_aload_n K dX7_numbersOf_58 0 rfl rfl ?_
    refine r_getR (o' := (rf t 2)) K flX7_18 dX7_numbersOf_59 ht rfl rfl ?_
    exact r_aret K Z dX7_numbersOf_62 hf
  have hf := e_f hf c3_
  by_cases c4_ : p0 = 3
  · have hf := e_t hf c4_
    refine r_tblIn (off := 62) (tgt := 63) K dX7_numbersOf_1 (by rw [c4_]; decide) (by rw [c4_]; decide) (by rw [c4_]; decide) (by decide) ?_
    refine r_aload_n K dX7_numbersOf_63 0 rfl rfl ?_
    refine r_getR (o' := (rf t 3)) K flX7_21 dX7_numbersOf_64 ht rfl rfl ?_
    exact r_aret K Z dX7_numbersOf_67 hf
  have hf := e_f hf c4_
  by_cases c5_ : p0 = 4
  · have hf := e_t hf c5_
    refine r_tblIn (off := 67) (tgt := 68) K dX7_numbersOf_1 (by rw [c5_]; decide) (by rw [c5_]; decide) (by rw [c5_]; decide) (by decide) ?_
    refine r_aload_n K dX7_numbersOf_68 0 rfl rfl ?_
    refine r_getR (o' := (rf t 4)) K flX7_24 dX7_numbersOf_69 ht rfl rfl ?_
    exact r_aret K Z dX7_numbersOf_72 hf
  have hf := e_f hf c5_
  by_cases c6_ : p0 = 5
  · have hf := e_t hf c6_
    refine r_tblIn (off := 72) (tgt := 73) K dX7_numbersOf_1 (by rw [c6_]; decide) (by rw [c6_]; decide) (by rw [c6_]; decide) (by decide) ?_
    refine r_aload_n K dX7_numbersOf_73 0 rfl rfl ?_
    refine r_getR (o' := (rf t 5)) K flX7_27 dX7_numbersOf_74 ht rfl rfl ?_
    exact r_aret K Z dX7_numbersOf_77 hf
  have hf := e_f hf c6_
  by_cases c7_ : p0 = 6
  · have hf := e_t hf c7_
    refine r_tblIn (off := 77) (tgt := 78) K dX7_numbersOf_1 (by rw [c7_]; decide) (by rw [c7_]; decide) (by rw [c7_]; decide) (by decide) ?_
    refine r_aload_n K dX7_numbersOf_78 0 rfl rfl ?_
    refine r_getR (o' := (rf t 7)) K flX7_33 dX7_numbersOf_79 ht rfl rfl ?_
    exact r_aret K Z dX7_numbersOf_82 hf
  have hf := e_f hf c7_
  by_cases c8_ : p0 = 7
  · have hf := e_t hf c8_
    refine r_tblIn (off := 82) (tgt := 83) K dX7_numbersOf_1 (by rw [c8_]; decide) (by rw [c8_]; decide) (by rw [c8_]; decide) (by decide) ?_
    refine r_aload_n K dX7_numbersOf_83 0 rfl rfl ?_
    refine r_getR (o' := (rf t 8)) K flX7_36 dX7_numbersOf_84 ht rfl rfl ?_
    exact r_aret K Z dX7_numbersOf_87 hf
  have hf := e_f hf c8_
  have hout : p0.toInt < 0 ∨ 7 < p0.toInt := by
    have zc1_ := lv_neT (a := 0) c1_ (by decide)
    have zc2_ := lv_neT (a := 1) c2_ (by decide)
    have zc3_ := lv_neT (a := 2) c3_ (by decide)
    have zc4_ := lv_neT (a := 3) c4_ (by decide)
    have zc5_ := lv_neT (a := 4) c5_ (by decide)
    have zc6_ := lv_neT (a := 5) c6_ (by decide)
    have zc7_ := lv_neT (a := 6) c7_ (by decide)
    have zc8_ := lv_neT (a := 7) c8_ (by decide)
    omega
  refine r_tblOut (tgt := 88) K dX7_numbersOf_1 hout (by decide) ?_
  refine r_aload_n K dX7_numbersOf_88 0 rfl rfl ?_
  refine r_getR (o' := (rf t 6)) K flX7_30 dX7_numbersOf_89 ht rfl rfl ?_
  exact r_aret K Z dX7_numbersOf_92 hf
theorem conX7_numbersOf {G : GG} (t : Nat) (p0 : Int32) (ht : KD t = (7, 12)) (h : AH) (rv : Nat) (h' : AH) (hf : fX7_numbersOf t p0 h = some (rv, h')) : Con G 0 yX7_numbersOf cX7_numbersOf 2 (some (.array .int)) [.ref t, .int p0] h (some (.ref rv)) h' := con_of mwX7_numbersOf (Nat.le_of_ble_eq_true rfl) (fun E K Z => sX7_numbersOf K Z t p0 ht h hf)
def fX7_setNumber (t : Nat) (p0 : Int32) (p1 : Int32) (p2 : Int32) (h : AH) : Option AH :=
  bind2 (fX7_hasNumber t p0 p1 h) fun r1_ h2_ => if r1_ = 0 then some h2_ else if p1 = 8 then letV (wI h2_ t 11 p2) fun h12_ => some h12_ else bind2 (fX7_numbersOf t p1 h2_) fun r6_ h7_ => if KD r6_ = (20, (KD r6_).2) ∧ inb p0 (KD r6_).2 = true then letV (wI h7_ r6_ (ix p0) p2) fun h10_ => some h10_ else none
set_option maxRecDepth 10000 in
theorem sX7_setNumber {G : GG} {E : EE} {h' : AH} (K : OK G E 2 RX7 cX7_setNumber 4) (Z : RT G E none (none) h') (t : Nat) (p0 : Int32) (p1 : Int32) (p2 : Int32) (ht : KD t = (7, 12)) (h : AH) (hf : fX7_setNumber t p0 p1 p2 h = some h') : JJ G E 4 0 [(0, .ref t), (1, .int p0), (2, .int p1), (3, .int p2)] [] h := by
  unfold fX7_setNumber at hf
  refine r_aload_n K dX7_setNumber_0 0 rfl rfl ?_
  refine r_iload_n K dX7_setNumber_1 1 rfl rfl ?_
  refine r_iload_n K dX7_setNumber_2 2 rfl rfl ?_
  obtain ⟨r1_, h2_, g3_, hf⟩ := e_2 hf
  refine r_callV (av := [.int p0, .int p1]) (st := []) K lkX7_53 mwX7_hasNumber (conX7_hasNumber t p0 p1 ht h r1_ h2_ g3_) dX7_setNumber_3 ht (Nat.le_of_ble_eq_true rfl) rfl rfl (Nat.le_of_ble_eq_true rfl) ?_
  refine r_if_ne (tgt := 10) K dX7_setNumber_6 (by decide) (fun c4_ => ?_) (fun c4_ => ?_)
  · have hf := e_f hf c4_
    refine r_iload_n K dX7_setNumber_10 2 rfl rfl ?_
    refine r_bipush (v := 8) K dX7_setNumber_11 rfl ?_
    refine r_icmp_ne (tgt := 24) K dX7_setNumber_13 (by decide) (fun c5_ => ?_) (fun c5_ => ?_)
    · have hf := e_f hf c5_
      refine r_aload_n K dX7_setNumber_24 0 rfl rfl ?_
      refine r_iload_n K dX7_setNumber_25 2 rfl rfl ?_
      obtain ⟨r6_, h7_, g8_, hf⟩ := e_2 hf
      refine r_callV (av := [.int p1]) (st := []) K lkX7_57 mwX7_numbersOf (conX7_numbersOf t p1 ht h2_ r6_ h7_ g8_) dX7_setNumber_26 ht (Nat.le_of_ble_eq_true rfl) rfl rfl (Nat.le_of_ble_eq_true rfl) ?_
      refine r_iload_n K dX7_setNumber_29 1 rfl rfl ?_
      refine r_iload_n K dX7_setNumber_30 3 rfl rfl ?_
      obtain ⟨g9_, hf⟩ := e_g hf
      obtain ⟨h10_, e11_, hf⟩ := e_l hf
      refine r_iast K dX7_setNumber_31 g9_.1 g9_.2 e11_ ?_
      exact r_vret K Z dX7_setNumber_32 hf
    · have hf := e_t hf c5_
      refine r_aload_n K dX7_setNumber_16 0 rfl rfl ?_
      refine r_iload_n K dX7_setNumber_17 3 rfl rfl ?_
      obtain ⟨h12_, e13_, hf⟩ := e_l hf
      refine r_putI K fpX7_46 dX7_setNumber_18 ht rfl e13_ ?_
      refine r_goto (tgt := 32) K dX7_setNumber_21 (by decide) ?_
      exact r_vret K Z dX7_setNumber_32 hf
  · have hf := e_t hf c4_
    exact r_vret K Z dX7_setNumber_9 hf
theorem conX7_setNumber {G : GG} (t : Nat) (p0 : Int32) (p1 : Int32) (p2 : Int32) (ht : KD t = (7, 12)) (h : AH) (h' : AH) (hf : fX7_setNumber t p0 p1 p2 h = some h') : Con G 2 yX7_setNumber cX7_setNumber 4 none [.ref t, .int p0, .int p1, .int p2] h (none) h' := con_of mwX7_setNumber (Nat.le_of_ble_eq_true rfl) (fun E K Z => sX7_setNumber K Z t p0 p1 p2 ht h hf)
def fX0_stepBack (p0 : Nat) (h : AH) : Option (Int32 × AH) :=
  if 0 < (h.1 38 5) then letV (wI h 38 5 ((h.1 38 5) - 1)) fun h2_ => if inb (h2_.1 38 5) 40 = true then bindV (fX7_setNumber p0 (h2_.1 39 (ix (h2_.1 38 5))) (h2_.1 40 (ix (h2_.1 38 5))) (h2_.1 41 (ix (h2_.1 38 5))) h2_) fun h8_ => some ((h8_.1 38 5), h8_) else none else some ((-5), h)
set_option maxRecDepth 10000 in
theorem sX0_stepBack {G : GG} {E : EE} {rv : Int32} {h' : AH} (K : OK G E 3 RX0 cX0_stepBack 2) (Z : RT G E (some .int) (some (.int rv)) h') (p0 : Nat) (hp0 : KD p0 = (7, 12)) (h : AH) (hf : fX0_stepBack p0 h = some (rv, h')) : JJ G E 2 0 [(0, .ref 38), (1, .ref p0)] [] h := by
  unfold fX0_stepBack at hf
  refine r_aload_n K dX0_stepBack_0 0 rfl rfl ?_
  refine r_getI K flX0_28 dX0_stepBack_1 rfl rfl ?_
  refine r_if_gt (tgt := 10) K dX0_stepBack_4 (by decide) (fun c1_ => ?_) (fun c1_ => ?_)
  · have hf := e_t hf c1_
    refine r_aload_n K dX0_stepBack_10 0 rfl rfl ?_
    refine r_dup K dX0_stepBack_11 rfl ?_
    refine r_getI K flX0_28 dX0_stepBack_12 rfl rfl ?_
    refine r_iconst (v := 1) K dX0_stepBack_15 rfl ?_
    refine r_isub K dX0_stepBack_16 ?_
    obtain ⟨h2_, e3_, hf⟩ := e_l hf
    refine r_putI K fpX0_28 dX0_stepBack_17 rfl rfl e3_ ?_
    refine r_aload_n K dX0_stepBack_20 1 rfl rfl ?_
    refine r_aload_n K dX0_stepBack_21 0 rfl rfl ?_
    refine r_getR (o' := 39) K flX0_9 dX0_stepBack_22 rfl rfl rfl ?_
    refine r_aload_n K dX0_stepBack_25 0 rfl rfl ?_
    refine r_getI K flX0_28 dX0_stepBack_26 rfl rfl ?_
    obtain ⟨g4_, hf⟩ := e_g hf
    refine r_iald K dX0_stepBack_29 rfl g4_ ?_
    refine r_aload_n K dX0_stepBack_30 0 rfl rfl ?_
    refine r_getR (o' := 40) K flX0_15 dX0_stepBack_31 rfl rfl rfl ?_
    refine r_aload_n K dX0_stepBack_34 0 rfl rfl ?_
    refine r_getI K flX0_28 dX0_stepBack_35 rfl rfl ?_
    refine r_iald K dX0_stepBack_38 rfl g4_ ?_
    refine r_aload_n K dX0_stepBack_39 0 rfl rfl ?_
    refine r_getR (o' := 41) K flX0_18 dX0_stepBack_40 rfl rfl rfl ?_
    refine r_aload_n K dX0_stepBack_43 0 rfl rfl ?_
    refine r_getI K flX0_28 dX0_stepBack_44 rfl rfl ?_
    refine r_iald K dX0_stepBack_47 rfl g4_ ?_
    obtain ⟨h8_, g9_, hf⟩ := e_v hf
    refine r_callV (av := [.int (h2_.1 39 (ix (h2_.1 38 5))), .int (h2_.1 40 (ix (h2_.1 38 5))), .int (h2_.1 41 (ix (h2_.1 38 5)))]) (st := []) K lkX0_40 mwX7_setNumber (conX7_setNumber p0 (h2_.1 39 (ix (h2_.1 38 5))) (h2_.1 40 (ix (h2_.1 38 5))) (h2_.1 41 (ix (h2_.1 38 5))) hp0 h2_ h8_ g9_) dX0_stepBack_48 hp0 (Nat.le_of_ble_eq_true rfl) rfl rfl (Nat.le_of_ble_eq_true rfl) ?_
    refine r_aload_n K dX0_stepBack_51 0 rfl rfl ?_
    refine r_getI K flX0_28 dX0_stepBack_52 rfl rfl ?_
    exact r_iret K Z dX0_stepBack_55 hf
  · have hf := e_f hf c1_
    refine r_bipush (v := (-5)) K dX0_stepBack_7 rfl ?_
    exact r_iret K Z dX0_stepBack_9 hf
theorem conX0_stepBack {G : GG} (p0 : Nat) (hp0 : KD p0 = (7, 12)) (h : AH) (rv : Int32) (h' : AH) (hf : fX0_stepBack p0 h = some (rv, h')) : Con G 3 yX0_stepBack cX0_stepBack 2 (some .int) [.ref 38, .ref p0] h (some (.int rv)) h' := con_of mwX0_stepBack (Nat.le_of_ble_eq_true rfl) (fun E K Z => sX0_stepBack K Z p0 hp0 h hf)
def fX0_stepOn (p0 : Nat) (h : AH) : Option (Int32 × AH) :=
  if (h.1 38 5) < (h.1 38 4) then if inb (h.1 38 5) 40 = true then bindV (fX7_setNumber p0 (h.1 39 (ix (h.1 38 5))) (h.1 40 (ix (h.1 38 5))) (h.1 42 (ix (h.1 38 5))) h) fun h6_ => letV (wI h6_ 38 5 ((h6_.1 38 5) + 1)) fun h8_ => some (((h8_.1 38 4) - (h8_.1 38 5)), h8_) else none else some ((-5), h)
set_option maxRecDepth 10000 in
theorem sX0_stepOn {G : GG} {E : EE} {rv : Int32} {h' : AH} (K : OK G E 3 RX0 cX0_stepOn 2) (Z : RT G E (some .int) (some (.int rv)) h') (p0 : Nat) (hp0 : KD p0 = (7, 12)) (h : AH) (hf : fX0_stepOn p0 h = some (rv, h')) : JJ G E 2 0 [(0, .ref 38), (1, .ref p0)] [] h := by
  unfold fX0_stepOn at hf
  refine r_aload_n K dX0_stepOn_0 0 rfl rfl ?_
  refine r_getI K flX0_28 dX0_stepOn_1 rfl rfl ?_
  refine r_aload_n K dX0_stepOn_4 0 rfl rfl ?_
  refine r_getI K flX0_24 dX0_stepOn_5 rfl rfl ?_
  refine r_icmp_lt (tgt := 14) K dX0_stepOn_8 (by decide) (fun c1_ => ?_) (fun c1_ => ?_)
  · have hf := e_t hf c1_
    refine r_aload_n K dX0_stepOn_14 1 rfl rfl ?_
    refine r_aload_n K dX0_stepOn_15 0 rfl rfl ?_
    refine r_getR (o' := 39) K flX0_9 dX0_stepOn_16 rfl rfl rfl ?_
    refine r_aload_n K dX0_stepOn_19 0 rfl rfl ?_
    refine r_getI K flX0_28 dX0_stepOn_20 rfl rfl ?_
    obtain ⟨g2_, hf⟩ := e_g hf
    refine r_iald K dX0_stepOn_23 rfl g2_ ?_
    refine r_aload_n K dX0_stepOn_24 0 rfl rfl ?_
    refine r_getR (o' := 40) K flX0_15 dX0_stepOn_25 rfl rfl rfl ?_
    refine r_aload_n K dX0_stepOn_28 0 rfl rfl ?_
    refine r_getI K flX0_28 dX0_stepOn_29 rfl rfl ?_
    refine r_iald K dX0_stepOn_32 rfl g2_ ?_
    refine r_aload_n K dX0_stepOn_33 0 rfl rfl ?_
    refine r_getR (o' := 42) K flX0_21 dX0_stepOn_34 rfl rfl rfl ?_
    refine r_aload_n K dX0_stepOn_37 0 rfl rfl ?_
    refine r_getI K flX0_28 dX0_stepOn_38 rfl rfl ?_
    refine r_iald K dX0_stepOn_41 rfl g2_ ?_
    obtain ⟨h6_, g7_, hf⟩ := e_v hf
    refine r_callV (av := [.int (h.1 39 (ix (h.1 38 5))), .int (h.1 40 (ix (h.1 38 5))), .int (h.1 42 (ix (h.1 38 5)))]) (st := []) K lkX0_40 mwX7_setNumber (conX7_setNumber p0 (h.1 39 (ix (h.1 38 5))) (h.1 40 (ix (h.1 38 5))) (h.1 42 (ix (h.1 38 5))) hp0 h h6_ g7_) dX0_stepOn_42 hp0 (Nat.le_of_ble_eq_true rfl) rfl rfl (Nat.le_of_ble_eq_true rfl) ?_
    refine r_aload_n K dX0_stepOn_45 0 rfl rfl ?_
    refine r_dup K dX0_stepOn_46 rfl ?_
    refine r_getI K flX0_28 dX0_stepOn_47 rfl rfl ?_
    refine r_iconst (v := 1) K dX0_stepOn_50 rfl ?_
    refine r_iadd K dX0_stepOn_51 ?_
    obtain ⟨h8_, e9_, hf⟩ := e_l hf
    refine r_putI K fpX0_28 dX0_stepOn_52 rfl rfl e9_ ?_
    refine r_aload_n K dX0_stepOn_55 0 rfl rfl ?_
    refine r_getI K flX0_24 dX0_stepOn_56 rfl rfl ?_
    refine r_aload_n K dX0_stepOn_59 0 rfl rfl ?_
    refine r_getI K flX0_28 dX0_stepOn_60 rfl rfl ?_
    refine r_isub K dX0_stepOn_63 ?_
    exact r_iret K Z dX0_stepOn_64 hf
  · have hf := e_f hf c1_
    refine r_bipush (v := (-5)) K dX0_stepOn_11 rfl ?_
    exact r_iret K Z dX0_stepOn_13 hf
theorem conX0_stepOn {G : GG} (p0 : Nat) (hp0 : KD p0 = (7, 12)) (h : AH) (rv : Int32) (h' : AH) (hf : fX0_stepOn p0 h = some (rv, h')) : Con G 3 yX0_stepOn cX0_stepOn 2 (some .int) [.ref 38, .ref p0] h (some (.int rv)) h' := con_of mwX0_stepOn (Nat.le_of_ble_eq_true rfl) (fun E K Z => sX0_stepOn K Z p0 hp0 h hf)
def fX1_note_19 (p0 : Int32) (h : AH) : Option AH :=
  letV (wI h 43 3 ((h.1 43 3) + 1)) fun h2_ => some h2_
set_option maxRecDepth 10000 in
theorem sX1_note_19 {G : GG} {E : EE} {h' : AH} (K : OK G E 0 RX1 cX1_note 2) (Z : RT G E none (none) h') (p0 : Int32) (h : AH) (hf : fX1_note_19 p0 h = some h') : JJ G E 2 19 [(0, .ref 43)] [] h := by
  unfold fX1_note_19 at hf
  refine r_aload_n K dX1_note_19 0 rfl rfl ?_
  refine r_dup K dX1_note_20 rfl ?_
  refine r_getI K flX1_22 dX1_note_21 rfl rfl ?_
  refine r_iconst (v := 1) K dX1_note_24 rfl ?_
  refine r_iadd K dX1_note_25 ?_
  obtain ⟨h2_, e3_, hf⟩ := e_l hf
  refine r_putI K fpX1_22 dX1_note_26 rfl rfl e3_ ?_
  exact r_vret K Z dX1_note_29 hf
def fX1_note (p0 : Int32) (h : AH) : Option AH :=
  if 24 ≤ (h.1 43 3) then fX1_note_19 p0 h else if inb (h.1 43 3) 24 = true then letV (wI h 45 (ix (h.1 43 3)) p0) fun h5_ => fX1_note_19 p0 h5_ else none
set_option maxRecDepth 10000 in
theorem sX1_note {G : GG} {E : EE} {h' : AH} (K : OK G E 0 RX1 cX1_note 2) (Z : RT G E none (none) h') (p0 : Int32) (h : AH) (hf : fX1_note p0 h = some h') : JJ G E 2 0 [(0, .ref 43), (1, .int p0)] [] h := by
  unfold fX1_note at hf
  refine r_aload_n K dX1_note_0 0 rfl rfl ?_
  refine r_getI K flX1_22 dX1_note_1 rfl rfl ?_
  refine r_bipush (v := 24) K dX1_note_4 rfl ?_
  refine r_icmp_ge (tgt := 19) K dX1_note_6 (by decide) (fun c1_ => ?_) (fun c1_ => ?_)
  · have hf := e_t hf c1_
    refine r_lv [0] rfl ?_
    exact sX1_note_19 K Z p0 h hf
  · have hf := e_f hf c1_
    refine r_aload_n K dX1_note_9 0 rfl rfl ?_
    refine r_getR (o' := 45) K flX1_19 dX1_note_10 rfl rfl rfl ?_
    refine r_aload_n K dX1_note_13 0 rfl rfl ?_
    refine r_getI K flX1_22 dX1_note_14 rfl rfl ?_
    refine r_iload_n K dX1_note_17 1 rfl rfl ?_
    obtain ⟨g4_, hf⟩ := e_g hf
    obtain ⟨h5_, e6_, hf⟩ := e_l hf
    refine r_iast K dX1_note_18 rfl g4_ e6_ ?_
    refine r_lv [0] rfl ?_
    exact sX1_note_19 K Z p0 h5_ hf
theorem conX1_note {G : GG} (p0 : Int32) (h : AH) (h' : AH) (hf : fX1_note p0 h = some h') : Con G 0 yX1_note cX1_note 2 none [.ref 43, .int p0] h (none) h' := con_of mwX1_note (Nat.le_of_ble_eq_true rfl) (fun E K Z => sX1_note K Z p0 h hf)
def fX1_run_49 (RR : Nat → List Int32 → AH → Option (Int32 × AH)) (p0 : Int32) (p1 : Int32) (p2 : Int32) (p3 : Int32) (p4 : Int32) (x1 : Int32) (x3 : Int32) (x4 : Int32) (x5 : Int32) (x6 : Int32) (h : AH) : Option (Int32 × AH) :=
  if inb ((x6 * 4) + x3) 32 = true then letV ((ST 203 (ix ((x6 * 4) + x3)))) fun x4_ => bindV (fX1_note x4_ h) fun h7_ => if x4_ = 1 then some ((x4 + x1), h7_) else if x4_ = 2 then bind2 (RR 1 [x1, 1, x4, x5] h7_) fun r11_ h12_ => bind2 (RR 1 [x1, 2, 1, x5] h12_) fun r14_ h15_ => some ((r11_ - r14_), h15_) else if x4_ = 10 then bind2 (RR 1 [x1, 0, x4, x5] h7_) fun r18_ h19_ => some ((r18_ * 2), h19_) else if x4_ = 11 then some ((x4 ^^^ x1), h7_) else if x4_ = 20 then bind2 (RR 2 [x1, x6, 0, x4, x5] h7_) fun r23_ h24_ => some ((r23_ + 3), h24_) else if x4_ = 30 then bind2 (RR 2 [x1, x6, 1, x4, x5] h7_) fun r27_ h28_ => some ((-r27_), h28_) else if x4_ = 40 then bind2 (RR 2 [x1, x6, 2, x4, x5] h7_) fun r31_ h32_ => some ((r31_ * 3), h32_) else if x4_ = 41 then bind2 (RR 2 [x1, x6, 1, (x4 + 1), x5] h7_) fun r35_ h36_ => some (r35_, h36_) else if x4_ = 50 then bind2 (RR 2 [x1, x6, 2, x4, x5] h7_) fun r39_ h40_ => bind2 (RR 1 [x1, 0, 2, x5] h40_) fun r42_ h43_ => some ((r39_ - r42_), h43_) else if x4_ = 60 then bind2 (RR 2 [x1, x6, 3, x4, x5] h7_) fun r46_ h47_ => some ((r46_ ^^^ 5), h47_) else if x4_ = 70 then bind2 (RR 2 [x1, x6, 0, x4, x5] h7_) fun r50_ h51_ => some ((r50_ * 2), h51_) else if x4_ = 80 then bind2 (RR 2 [x1, x6, 1, x4, x5] h7_) fun r54_ h55_ => bind2 (RR 1 [x1, 2, 2, x5] h55_) fun r57_ h58_ => some ((r54_ + r57_), h58_) else if x4_ = 81 then bind2 (RR 2 [x1, x6, 3, x4, x5] h7_) fun r61_ h62_ => some ((r61_ - 1), h62_) else some (0, h7_) else none
set_option maxRecDepth 10000 in
theorem sX1_run_49 {G : GG} {E : EE} {rv : Int32} {h' : AH} {dd : Nat} (hdd : 0 ≤ dd) (K : OK G E (dd + 1) RX1 cX1_run 8) (Z : RT G E (some .int) (some (.int rv)) h') (RR : Nat → List Int32 → AH → Option (Int32 × AH)) (hRR : (∀ (z0 : Int32) (z1 : Int32) (z2 : Int32) (z3 : Int32) (z4 : Int32) (h : AH) (r : Int32) (h1 : AH), RR 0 [z0, z1, z2, z3, z4] h = some (r, h1) → Con G dd yX1_run cX1_run 8 (some .int) [.ref 43, .int z0, .int z1, .int z2, .int z3, .int z4] h (some (.int r)) h1) ∧ (∀ (z0 : Int32) (z1 : Int32) (z2 : Int32) (z3 : Int32) (h : AH) (r : Int32) (h1 : AH), RR 1 [z0, z1, z2, z3] h = some (r, h1) → Con G dd yX1_own cX1_own 5 (some .int) [.ref 43, .int z0, .int z1, .int z2, .int z3] h (some (.int r)) h1) ∧ (∀ (z0 : Int32) (z1 : Int32) (z2 : Int32) (z3 : Int32) (z4 : Int32) (h : AH) (r : Int32) (h1 : AH), RR 2 [z0, z1, z2, z3, z4] h = some (r, h1) → Con G dd yX1_above cX1_above 6 (some .int) [.ref 43, .int z0, .int z1, .int z2, .int z3, .int z4] h (some (.int r)) h1)) (p0 : Int32) (p1 : Int32) (p2 : Int32) (p3 : Int32) (p4 : Int32) (x1 : Int32) (x3 : Int32) (x4 : Int32) (x5 : Int32) (x6 : Int32) (h : AH) (hf : fX1_run_49 RR p0 p1 p2 p3 p4 x1 x3 x4 x5 x6 h = some (rv, h')) : JJ G E 8 49 [(0, .ref 43), (1, .int x1), (3, .int x3), (4, .int x4), (5, .int x5), (6, .int x6)] [] h := by
  unfold fX1_run_49 at hf
  refine r_gets K gsX1_40 dX1_run_49 ?_
  refine r_iload K dX1_run_52 5 rfl ?_
  refine r_iconst (v := 4) K dX1_run_54 rfl ?_
  refine r_imul K dX1_run_55 ?_
  refine r_iload_n K dX1_run_56 2 rfl rfl ?_
  refine r_iadd K dX1_run_57 ?_
  obtain ⟨g3_, hf⟩ := e_g hf
  refine r_sald K dX1_run_58 sl203 g3_ ?_
  obtain ⟨x4_, e5_, hf⟩ := e_l hf
  refine r_nmI e5_ ?_
  refine r_istore (lv' := [(7, .int x4_), (0, .ref 43), (1, .int x1), (3, .int x3), (4, .int x4), (5, .int x5), (6, .int x6)]) K dX1_run_59 (Nat.le_of_ble_eq_true rfl) rfl ?_
  refine r_aload_n K dX1_run_61 1 rfl rfl ?_
  refine r_iload K dX1_run_62 0 rfl ?_
  obtain ⟨h7_, g8_, hf⟩ := e_v hf
  refine r_callV (av := [.int x4_]) (st := []) K lkX1_43 mwX1_note (conX1_note x4_ h h7_ g8_) dX1_run_64 rfl (by omega) rfl rfl (Nat.le_of_ble_eq_true rfl) ?_
  refine r_iload K dX1_run_67 0 rfl ?_
  by_cases c9_ : x4_ = 1
  · have hf := e_t hf c9_
    refine r_look (off := 115) (tgt := 184) K dX1_run_69 (by decide) (by rw [c9_]; decide) (by decide) ?_
    refine r_iload K dX1_run_184 4 rfl ?_
    refine r_iload_n K dX1_run_186 2 rfl rfl ?_
    refine r_iadd K dX1_run_187 ?_
    exact r_iret K Z dX1_run_188 hf
  have hf := e_f hf c9_
  by_cases c10_ : x4_ = 2
  · have hf := e_t hf c10_
    refine r_look (off := 120) (tgt := 189) K dX1_run_69 (by decide) (by rw [c10_]; decide) (by decide) ?_
    refine r_aload_n K dX1_run_189 1 rfl rfl ?_
    refine r_iload_n K dX1_run_190 2 rfl rfl ?_
    refine r_iconst (v := 1) K dX1_run_191 rfl ?_
    refine r_iload K dX1_run_192 4 rfl ?_
    refine r_iload K dX1_run_194 5 rfl ?_
    obtain ⟨r11_, h12_, g13_, hf⟩ := e_2 hf
    refine r_callV (av := [.int x1, .int 1, .int x4, .int x5]) (st := []) K lkX1_32 mwX1_own (hRR.2.1 x1 1 x4 x5 h7_ r11_ h12_ g13_) dX1_run_196 rfl (Nat.le_refl _) rfl rfl (Nat.le_of_ble_eq_true rfl) ?_
    refine r_aload_n K dX1_run_199 1 rfl rfl ?_
    refine r_iload_n K dX1_run_200 2 rfl rfl ?_
    refine r_iconst (v := 2) K dX1_run_201 rfl ?_
    refine r_iconst (v := 1) K dX1_run_202 rfl ?_
    refine r_iload K dX1_run_203 5 rfl ?_
    obtain ⟨r14_, h15_, g16_, hf⟩ := e_2 hf
    refine r_callV (av := [.int x1, .int 2, .int 1, .int x5]) (st := [.int r11_]) K lkX1_32 mwX1_own (hRR.2.1 x1 2 1 x5 h12_ r14_ h15_ g16_) dX1_run_205 rfl (Nat.le_refl _) rfl rfl (Nat.le_of_ble_eq_true rfl) ?_
    refine r_isub K dX1_run_208 ?_
    exact r_iret K Z dX1_run_209 hf
  have hf := e_f hf c10_
  by_cases c17_ : x4_ = 10
  · have hf := e_t hf c17_
    refine r_look (off := 141) (tgt := 210) K dX1_run_69 (by decide) (by rw [c17_]; decide) (by decide) ?_
    refine r_aload_n K dX1_run_210 1 rfl rfl ?_
    refine r_iload_n K dX1_run_211 2 rfl rfl ?_
    refine r_iconst (v := 0) K dX1_run_212 rfl ?_
    refine r_iload K dX1_run_213 4 rfl ?_
    refine r_iload K dX1_run_215 5 rfl ?_
    obtain ⟨r18_, h19_, g20_, hf⟩ := e_2 hf
    refine r_callV (av := [.int x1, .int 0, .int x4, .int x5]) (st := []) K lkX1_32 mwX1_own (hRR.2.1 x1 0 x4 x5 h7_ r18_ h19_ g20_) dX1_run_217 rfl (Nat.le_refl _) rfl rfl (Nat.le_of_ble_eq_true rfl) ?_
    refine r_iconst (v := 2) K dX1_run_220 rfl ?_
    refine r_imul K dX1_run_221 ?_
    exact r_iret K Z dX1_run_222 hf
  have hf := e_f hf c17_
  by_cases c21_ : x4_ = 11
  · have hf := e_t hf c21_
    refine r_look (off := 154) (tgt := 223) K dX1_run_69 (by decide) (by rw [c21_]; decide) (by decide) ?_
    refine r_iload K dX1_run_223 4 rfl ?_
    refine r_iload_n K dX1_run_225 2 rfl rfl ?_
    refine r_ixor K dX1_run_226 ?_
    exact r_iret K Z dX1_run_227 hf
  have hf := e_f hf c21_
  by_cases c22_ : x4_ = 20
  · have hf := e_t hf c22_
    refine r_look (off := 159) (tgt := 228) K dX1_run_69 (by decide) (by rw [c22_]; decide) (by decide) ?_
    refine r_aload_n K dX1_run_228 1 rfl rfl ?_
    refine r_iload_n K dX1_run_229 2 rfl rfl ?_
    refine r_iload K dX1_run_230 6 rfl ?_
    refine r_iconst (v := 0) K dX1_run_232 rfl ?_
    refine r_iload K dX1_run_233 4 rfl ?_
    refine r_iload K dX1_run_235 5 rfl ?_
    obtain ⟨r23_, h24_, g25_, hf⟩ := e_2 hf
    refine r_callV (av := [.int x1, .int x6, .int 0, .int x4, .int x5]) (st := []) K lkX1_47 mwX1_above (hRR.2.2 x1 x6 0 x4 x5 h7_ r23_ h24_ g25_) dX1_run_237 rfl (Nat.le_refl _) rfl rfl (Nat.le_of_ble_eq_true rfl) ?_
    refine r_iconst (v := 3) K dX1_run_240 rfl ?_
    refine r_iadd K dX1_run_241 ?_
    exact r_iret K Z dX1_run_242 hf
  have hf := e_f hf c22_
  by_cases c26_ : x4_ = 30
  · have hf := e_t hf c26_
    refine r_look (off := 174) (tgt := 243) K dX1_run_69 (by decide) (by rw [c26_]; decide) (by decide) ?_
    refine r_aload_n K dX1_run_243 1 rfl rfl ?_
    refine r_iload_n K dX1_run_244 2 rfl rfl ?_
    refine r_iload K dX1_run_245 6 rfl ?_
    refine r_iconst (v := 1) K dX1_run_247 rfl ?_
    refine r_iload K dX1_run_248 4 rfl ?_
    refine r_iload K dX1_run_250 5 rfl ?_
    obtain ⟨r27_, h28_, g29_, hf⟩ := e_2 hf
    refine r_callV (av := [.int x1, .int x6, .int 1, .int x4, .int x5]) (st := []) K lkX1_47 mwX1_above (hRR.2.2 x1 x6 1 x4 x5 h7_ r27_ h28_ g29_) dX1_run_252 rfl (Nat.le_refl _) rfl rfl (Nat.le_of_ble_eq_true rfl) ?_
    refine r_ineg K dX1_run_255 ?_
    exact r_iret K Z dX1_run_256 hf
  have hf := e_f hf c26_
  by_cases c30_ : x4_ = 40
  · have hf := e_t hf c30_
    refine r_look (off := 188) (tgt := 257) K dX1_run_69 (by decide) (by rw [c30_]; decide) (by decide) ?_
    refine r_aload_n K dX1_run_257 1 rfl rfl ?_
    refine r_iload_n K dX1_run_258 2 rfl rfl ?_
    refine r_iload K dX1_run_259 6 rfl ?_
    refine r_iconst (v := 2) K dX1_run_261 rfl ?_
    refine r_iload K dX1_run_262 4 rfl ?_
    refine r_iload K dX1_run_264 5 rfl ?_
    obtain ⟨r31_, h32_, g33_, hf⟩ := e_2 hf
    refine r_callV (av := [.int x1, .int x6, .int 2, .int x4, .int x5]) (st := []) K lkX1_47 mwX1_above (hRR.2.2 x1 x6 2 x4 x5 h7_ r31_ h32_ g33_) dX1_run_266 rfl (Nat.le_refl _) rfl rfl (Nat.le_of_ble_eq_true rfl) ?_
    refine r_iconst (v := 3) K dX1_run_269 rfl ?_
    refine r_imul K dX1_run_270 ?_
    exact r_iret K Z dX1_run_271 hf
  have hf := e_f hf c30_
  by_cases c34_ : x4_ = 41
  · have hf := e_t hf c34_
    refine r_look (off := 203) (tgt := 272) K dX1_run_69 (by decide) (by rw [c34_]; decide) (by decide) ?_
    refine r_aload_n K dX1_run_272 1 rfl rfl ?_
    refine r_iload_n K dX1_run_273 2 rfl rfl ?_
    refine r_iload K dX1_run_274 6 rfl ?_
    refine r_iconst (v := 1) K dX1_run_276 rfl ?_
    refine r_iload K dX1_run_277 4 rfl ?_
    refine r_iconst (v := 1) K dX1_run_279 rfl ?_
    refine r_iadd K dX1_run_280 ?_
    refine r_iload K dX1_run_281 5 rfl ?_
    obtain ⟨r35_, h36_, g37_, hf⟩ := e_2 hf
    refine r_callV (av := [.int x1, .int x6, .int 1, .int (x4 + 1), .int x5]) (st := []) K lkX1_47 mwX1_above (hRR.2.2 x1 x6 1 (x4 + 1) x5 h7_ r35_ h36_ g37_) dX1_run_283 rfl (Nat.le_refl _) rfl rfl (Nat.le_of_ble_eq_true rfl) ?_
    exact r_iret K Z dX1_run_286 hf
  have hf := e_f hf c34_
  by_cases c38_ : x4_ = 50
  · have hf := e_t hf c38_
    refine r_look (off := 218) (tgt := 287) K dX1_run_69 (by decide) (by rw [c38_]; decide) (by decide) ?_
    refine r_aload_n K dX1_run_287 1 rfl rfl ?_
    refine r_iload_n K dX1_run_288 2 rfl rfl ?_
    refine r_iload K dX1_run_289 6 rfl ?_
    refine r_iconst (v := 2) K dX1_run_291 rfl ?_
    refine r_iload K dX1_run_292 4 rfl ?_
    refine r_iload K dX1_run_294 5 rfl ?_
    obtain ⟨r39_, h40_, g41_, hf⟩ := e_2 hf
    refine r_callV (av := [.int x1, .int x6, .int 2, .int x4, .int x5]) (st := []) K lkX1_47 mwX1_above (hRR.2.2 x1 x6 2 x4 x5 h7_ r39_ h40_ g41_) dX1_run_296 rfl (Nat.le_refl _) rfl rfl (Nat.le_of_ble_eq_true rfl) ?_
    refine r_aload_n K dX1_run_299 1 rfl rfl ?_
    refine r_iload_n K dX1_run_300 2 rfl rfl ?_
    refine r_iconst (v := 0) K dX1_run_301 rfl ?_
    refine r_iconst (v := 2) K dX1_run_302 rfl ?_
    refine r_iload K dX1_run_303 5 rfl ?_
    obtain ⟨r42_, h43_, g44_, hf⟩ := e_2 hf
    refine r_callV (av := [.int x1, .int 0, .int 2, .int x5]) (st := [.int r39_]) K lkX1_32 mwX1_own (hRR.2.1 x1 0 2 x5 h40_ r42_ h43_ g44_) dX1_run_305 rfl (Nat.le_refl _) rfl rfl (Nat.le_of_ble_eq_true rfl) ?_
    refine r_isub K dX1_run_308 ?_
    exact r_iret K Z dX1_run_309 hf
  have hf := e_f hf c38_
  by_cases c45_ : x4_ = 60
  · have hf := e_t hf c45_
    refine r_look (off := 241) (tgt := 310) K dX1_run_69 (by decide) (by rw [c45_]; decide) (by decide) ?_
    refine r_aload_n K dX1_run_310 1 rfl rfl ?_
    refine r_iload_n K dX1_run_311 2 rfl rfl ?_
    refine r_iload K dX1_run_312 6 rfl ?_
    refine r_iconst (v := 3) K dX1_run_314 rfl ?_
    refine r_iload K dX1_run_315 4 rfl ?_
    refine r_iload K dX1_run_317 5 rfl ?_
    obtain ⟨r46_, h47_, g48_, hf⟩ := e_2 hf
    refine r_callV (av := [.int x1, .int x6, .int 3, .int x4, .int x5]) (st := []) K lkX1_47 mwX1_above (hRR.2.2 x1 x6 3 x4 x5 h7_ r46_ h47_ g48_) dX1_run_319 rfl (Nat.le_refl _) rfl rfl (Nat.le_of_ble_eq_true rfl) ?_
    refine r_iconst (v := 5) K dX1_run_322 rfl ?_
    refine r_ixor K dX1_run_323 ?_
    exact r_iret K Z dX1_run_324 hf
  have hf := e_f hf c45_
  by_cases c49_ : x4_ = 70
  · have hf := e_t hf c49_
    refine r_look (off := 256) (tgt := 325) K dX1_run_69 (by decide) (by rw [c49_]; decide) (by decide) ?_
    refine r_aload_n K dX1_run_325 1 rfl rfl ?_
    refine r_iload_n K dX1_run_326 2 rfl rfl ?_
    refine r_iload K dX1_run_327 6 rfl ?_
    refine r_iconst (v := 0) K dX1_run_329 rfl ?_
    refine r_iload K dX1_run_330 4 rfl ?_
    refine r_iload K dX1_run_332 5 rfl ?_
    obtain ⟨r50_, h51_, g52_, hf⟩ := e_2 hf
    refine r_callV (av := [.int x1, .int x6, .int 0, .int x4, .int x5]) (st := []) K lkX1_47 mwX1_above (hRR.2.2 x1 x6 0 x4 x5 h7_ r50_ h51_ g52_) dX1_run_334 rfl (Nat.le_refl _) rfl rfl (Nat.le_of_ble_eq_true rfl) ?_
    refine r_iconst (v := 2) K dX1_run_337 rfl ?_
    refine r_imul K dX1_run_338 ?_
    exact r_iret K Z dX1_run_339 hf
  have hf := e_f hf c49_
  by_cases c53_ : x4_ = 80
  · have hf := e_t hf c53_
    refine r_look (off := 271) (tgt := 340) K dX1_run_69 (by decide) (by rw [c53_]; decide) (by decide) ?_
    refine r_aload_n K dX1_run_340 1 rfl rfl ?_
    refine r_iload_n K dX1_run_341 2 rfl rfl ?_
    refine r_iload K dX1_run_342 6 rfl ?_
    refine r_iconst (v := 1) K dX1_run_344 rfl ?_
    refine r_iload K dX1_run_345 4 rfl ?_
    refine r_iload K dX1_run_347 5 rfl ?_
    obtain ⟨r54_, h55_, g56_, hf⟩ := e_2 hf
    refine r_callV (av := [.int x1, .int x6, .int 1, .int x4, .int x5]) (st := []) K lkX1_47 mwX1_above (hRR.2.2 x1 x6 1 x4 x5 h7_ r54_ h55_ g56_) dX1_run_349 rfl (Nat.le_refl _) rfl rfl (Nat.le_of_ble_eq_true rfl) ?_
    refine r_aload_n K dX1_run_352 1 rfl rfl ?_
    refine r_iload_n K dX1_run_353 2 rfl rfl ?_
    refine r_iconst (v := 2) K dX1_run_354 rfl ?_
    refine r_iconst (v := 2) K dX1_run_355 rfl ?_
    refine r_iload K dX1_run_356 5 rfl ?_
    obtain ⟨r57_, h58_, g59_, hf⟩ := e_2 hf
    refine r_callV (av := [.int x1, .int 2, .int 2, .int x5]) (st := [.int r54_]) K lkX1_32 mwX1_own (hRR.2.1 x1 2 2 x5 h55_ r57_ h58_ g59_) dX1_run_358 rfl (Nat.le_refl _) rfl rfl (Nat.le_of_ble_eq_true rfl) ?_
    refine r_iadd K dX1_run_361 ?_
    exact r_iret K Z dX1_run_362 hf
  have hf := e_f hf c53_
  by_cases c60_ : x4_ = 81
  · have hf := e_t hf c60_
    refine r_look (off := 294) (tgt := 363) K dX1_run_69 (by decide) (by rw [c60_]; decide) (by decide) ?_
    refine r_aload_n K dX1_run_363 1 rfl rfl ?_
    refine r_iload_n K dX1_run_364 2 rfl rfl ?_
    refine r_iload K dX1_run_365 6 rfl ?_
    refine r_iconst (v := 3) K dX1_run_367 rfl ?_
    refine r_iload K dX1_run_368 4 rfl ?_
    refine r_iload K dX1_run_370 5 rfl ?_
    obtain ⟨r61_, h62_, g63_, hf⟩ := e_2 hf
    refine r_callV (av := [.int x1, .int x6, .int 3, .int x4, .int x5]) (st := []) K lkX1_47 mwX1_above (hRR.2.2 x1 x6 3 x4 x5 h7_ r61_ h62_ g63_) dX1_run_372 rfl (Nat.le_refl _) rfl rfl (Nat.le_of_ble_eq_true rfl) ?_
    refine r_iconst (v := 1) K dX1_run_375 rfl ?_
    refine r_isub K dX1_run_376 ?_
    exact r_iret K Z dX1_run_377 hf
  have hf := e_f hf c60_
  refine r_look (off := 309) (tgt := 378) K dX1_run_69 (by decide) ((lv_osw c9_ (by decide)).trans ((lv_osw c10_ (by decide)).trans ((lv_osw c17_ (by decide)).trans ((lv_osw c21_ (by decide)).trans ((lv_osw c22_ (by decide)).trans ((lv_osw c26_ (by decide)).trans ((lv_osw c30_ (by decide)).trans ((lv_osw c34_ (by decide)).trans ((lv_osw c38_ (by decide)).trans ((lv_osw c45_ (by decide)).trans ((lv_osw c49_ (by decide)).trans ((lv_osw c53_ (by decide)).trans ((lv_osw c60_ (by decide)).trans (rfl)))))))))))))) (by decide) ?_
  refine r_iconst (v := 0) K dX1_run_378 rfl ?_
  exact r_iret K Z dX1_run_379 hf
def fX1_run_15_b (RR : Nat → List Int32 → AH → Option (Int32 × AH)) (p0 : Int32) (p1 : Int32) (p2 : Int32) (p3 : Int32) (p4 : Int32) (Q15 : Int32 → Int32 → Int32 → Int32 → Int32 → Int32 → AH → Option (Int32 × AH)) (x1 : Int32) (x3 : Int32) (x4 : Int32) (x5 : Int32) (x6 : Int32) (x7 : Int32) (h : AH) : Option (Int32 × AH) :=
  if 8 ≤ x7 then fX1_run_49 RR p0 p1 p2 p3 p4 x1 x3 x4 x5 x6 h else if inb ((x6 * 4) + x3) 32 = true then if (ST 203 (ix ((x6 * 4) + x3))) = 0 then if inb x6 8 = true then letV ((ST 202 (ix x6))) fun x67_ => Q15 x1 x3 x4 x5 x67_ (x7 + 1) h else none else fX1_run_49 RR p0 p1 p2 p3 p4 x1 x3 x4 x5 x6 h else none
def fX1_run_15 (RR : Nat → List Int32 → AH → Option (Int32 × AH)) (p0 : Int32) (p1 : Int32) (p2 : Int32) (p3 : Int32) (p4 : Int32) : Nat → Int32 → Int32 → Int32 → Int32 → Int32 → Int32 → AH → Option (Int32 × AH)
  | 0 => fun _ _ _ _ _ _ _ => none
  | n + 1 => fX1_run_15_b RR p0 p1 p2 p3 p4 (fX1_run_15 RR p0 p1 p2 p3 p4 n)
set_option maxRecDepth 10000 in
theorem sX1_run_15_b {G : GG} {E : EE} {rv : Int32} {h' : AH} {dd : Nat} (hdd : 0 ≤ dd) (K : OK G E (dd + 1) RX1 cX1_run 8) (Z : RT G E (some .int) (some (.int rv)) h') (RR : Nat → List Int32 → AH → Option (Int32 × AH)) (hRR : (∀ (z0 : Int32) (z1 : Int32) (z2 : Int32) (z3 : Int32) (z4 : Int32) (h : AH) (r : Int32) (h1 : AH), RR 0 [z0, z1, z2, z3, z4] h = some (r, h1) → Con G dd yX1_run cX1_run 8 (some .int) [.ref 43, .int z0, .int z1, .int z2, .int z3, .int z4] h (some (.int r)) h1) ∧ (∀ (z0 : Int32) (z1 : Int32) (z2 : Int32) (z3 : Int32) (h : AH) (r : Int32) (h1 : AH), RR 1 [z0, z1, z2, z3] h = some (r, h1) → Con G dd yX1_own cX1_own 5 (some .int) [.ref 43, .int z0, .int z1, .int z2, .int z3] h (some (.int r)) h1) ∧ (∀ (z0 : Int32) (z1 : Int32) (z2 : Int32) (z3 : Int32) (z4 : Int32) (h : AH) (r : Int32) (h1 : AH), RR 2 [z0, z1, z2, z3, z4] h = some (r, h1) → Con G dd yX1_above cX1_above 6 (some .int) [.ref 43, .int z0, .int z1, .int z2, .int z3, .int z4] h (some (.int r)) h1)) (p0 : Int32) (p1 : Int32) (p2 : Int32) (p3 : Int32) (p4 : Int32) (Q15 : Int32 → Int32 → Int32 → Int32 → Int32 → Int32 → AH → Option (Int32 × AH)) (hQ15 : ∀ (x1 : Int32) (x3 : Int32) (x4 : Int32) (x5 : Int32) (x6 : Int32) (x7 : Int32) (h : AH), Q15 x1 x3 x4 x5 x6 x7 h = some (rv, h') → JJ G E 8 15 [(0, .ref 43), (1, .int x1), (3, .int x3), (4, .int x4), (5, .int x5), (6, .int x6), (7, .int x7)] [] h) (x1 : Int32) (x3 : Int32) (x4 : Int32) (x5 : Int32) (x6 : Int32) (x7 : Int32) (h : AH) (hf : fX1_run_15_b RR p0 p1 p2 p3 p4 Q15 x1 x3 x4 x5 x6 x7 h = some (rv, h')) : JJ G E 8 15 [(0, .ref 43), (1, .int x1), (3, .int x3), (4, .int x4), (5, .int x5), (6, .int x6), (7, .int x7)] [] h := by
  unfold fX1_run_15_b at hf
  refine r_iload K dX1_run_15 6 rfl ?_
  refine r_bipush (v := 8) K dX1_run_17 rfl ?_
  refine r_icmp_ge (tgt := 49) K dX1_run_19 (by decide) (fun c2_ => ?_) (fun c2_ => ?_)
  · have hf := e_t hf c2_
    refine r_lv [0, 1, 2, 3, 4, 5] rfl ?_
    exact sX1_run_49 hdd K Z RR hRR p0 p1 p2 p3 p4 x1 x3 x4 x5 x6 h hf
  · have hf := e_f hf c2_
    refine r_gets K gsX1_40 dX1_run_22 ?_
    refine r_iload K dX1_run_25 5 rfl ?_
    refine r_iconst (v := 4) K dX1_run_27 rfl ?_
    refine r_imul K dX1_run_28 ?_
    refine r_iload_n K dX1_run_29 2 rfl rfl ?_
    refine r_iadd K dX1_run_30 ?_
    obtain ⟨g64_, hf⟩ := e_g hf
    refine r_sald K dX1_run_31 sl203 g64_ ?_
    refine r_if_ne (tgt := 49) K dX1_run_32 (by decide) (fun c65_ => ?_) (fun c65_ => ?_)
    · have hf := e_f hf c65_
      refine r_lv [0, 1, 2, 3, 4, 5] rfl ?_
      exact sX1_run_49 hdd K Z RR hRR p0 p1 p2 p3 p4 x1 x3 x4 x5 x6 h hf
    · have hf := e_t hf c65_
      refine r_gets K gsX1_29 dX1_run_35 ?_
      refine r_iload K dX1_run_38 5 rfl ?_
      obtain ⟨g66_, hf⟩ := e_g hf
      refine r_sald K dX1_run_40 sl202 g66_ ?_
      obtain ⟨x67_, e68_, hf⟩ := e_l hf
      refine r_nmI e68_ ?_
      refine r_istore (lv' := [(6, .int x67_), (0, .ref 43), (1, .int x1), (3, .int x3), (4, .int x4), (5, .int x5), (7, .int x7)]) K dX1_run_41 (Nat.le_of_ble_eq_true rfl) rfl ?_
      refine r_iinc (y := 1) (lv' := [(7, .int (x7 + 1)), (6, .int x67_), (0, .ref 43), (1, .int x1), (3, .int x3), (4, .int x4), (5, .int x5)]) K dX1_run_43 6 rfl rfl (Nat.le_of_ble_eq_true rfl) rfl ?_
      refine r_goto (tgt := 15) K dX1_run_46 (by decide) ?_
      refine r_lv [2, 3, 4, 5, 6, 1, 0] rfl ?_
      exact hQ15 x1 x3 x4 x5 x67_ (x7 + 1) h hf
theorem sX1_run_15 {G : GG} {E : EE} {rv : Int32} {h' : AH} {dd : Nat} (hdd : 0 ≤ dd) (K : OK G E (dd + 1) RX1 cX1_run 8) (Z : RT G E (some .int) (some (.int rv)) h') (RR : Nat → List Int32 → AH → Option (Int32 × AH)) (hRR : (∀ (z0 : Int32) (z1 : Int32) (z2 : Int32) (z3 : Int32) (z4 : Int32) (h : AH) (r : Int32) (h1 : AH), RR 0 [z0, z1, z2, z3, z4] h = some (r, h1) → Con G dd yX1_run cX1_run 8 (some .int) [.ref 43, .int z0, .int z1, .int z2, .int z3, .int z4] h (some (.int r)) h1) ∧ (∀ (z0 : Int32) (z1 : Int32) (z2 : Int32) (z3 : Int32) (h : AH) (r : Int32) (h1 : AH), RR 1 [z0, z1, z2, z3] h = some (r, h1) → Con G dd yX1_own cX1_own 5 (some .int) [.ref 43, .int z0, .int z1, .int z2, .int z3] h (some (.int r)) h1) ∧ (∀ (z0 : Int32) (z1 : Int32) (z2 : Int32) (z3 : Int32) (z4 : Int32) (h : AH) (r : Int32) (h1 : AH), RR 2 [z0, z1, z2, z3, z4] h = some (r, h1) → Con G dd yX1_above cX1_above 6 (some .int) [.ref 43, .int z0, .int z1, .int z2, .int z3, .int z4] h (some (.int r)) h1)) (p0 : Int32) (p1 : Int32) (p2 : Int32) (p3 : Int32) (p4 : Int32) : ∀ (n : Nat) (x1 : Int32) (x3 : Int32) (x4 : Int32) (x5 : Int32) (x6 : Int32) (x7 : Int32) (h : AH), fX1_run_15 RR p0 p1 p2 p3 p4 n x1 x3 x4 x5 x6 x7 h = some (rv, h') → JJ G E 8 15 [(0, .ref 43), (1, .int x1), (3, .int x3), (4, .int x4), (5, .int x5), (6, .int x6), (7, .int x7)] [] h := by
  intro n
  induction n with
  | zero => intro x1 x3 x4 x5 x6 x7 h hf; cases hf
  | succ n ih => intro x1 x3 x4 x5 x6 x7 h hf; exact sX1_run_15_b hdd K Z RR hRR p0 p1 p2 p3 p4 _ (fun x1 x3 x4 x5 x6 x7 h hf => ih x1 x3 x4 x5 x6 x7 h hf) x1 x3 x4 x5 x6 x7 h hf
def fX1_run (RR : Nat → List Int32 → AH → Option (Int32 × AH)) (p0 : Int32) (p1 : Int32) (p2 : Int32) (p3 : Int32) (p4 : Int32) (h : AH) : Option (Int32 × AH) :=
  if p4 ≤ 20 then fX1_run_15 RR p0 p1 p2 p3 p4 FU p0 p2 p3 p4 p1 0 h else some (0, h)
set_option maxRecDepth 10000 in
theorem sX1_run {G : GG} {E : EE} {rv : Int32} {h' : AH} {dd : Nat} (hdd : 0 ≤ dd) (K : OK G E (dd + 1) RX1 cX1_run 8) (Z : RT G E (some .int) (some (.int rv)) h') (RR : Nat → List Int32 → AH → Option (Int32 × AH)) (hRR : (∀ (z0 : Int32) (z1 : Int32) (z2 : Int32) (z3 : Int32) (z4 : Int32) (h : AH) (r : Int32) (h1 : AH), RR 0 [z0, z1, z2, z3, z4] h = some (r, h1) → Con G dd yX1_run cX1_run 8 (some .int) [.ref 43, .int z0, .int z1, .int z2, .int z3, .int z4] h (some (.int r)) h1) ∧ (∀ (z0 : Int32) (z1 : Int32) (z2 : Int32) (z3 : Int32) (h : AH) (r : Int32) (h1 : AH), RR 1 [z0, z1, z2, z3] h = some (r, h1) → Con G dd yX1_own cX1_own 5 (some .int) [.ref 43, .int z0, .int z1, .int z2, .int z3] h (some (.int r)) h1) ∧ (∀ (z0 : Int32) (z1 : Int32) (z2 : Int32) (z3 : Int32) (z4 : Int32) (h : AH) (r : Int32) (h1 : AH), RR 2 [z0, z1, z2, z3, z4] h = some (r, h1) → Con G dd yX1_above cX1_above 6 (some .int) [.ref 43, .int z0, .int z1, .int z2, .int z3, .int z4] h (some (.int r)) h1)) (p0 : Int32) (p1 : Int32) (p2 : Int32) (p3 : Int32) (p4 : Int32) (h : AH) (hf : fX1_run RR p0 p1 p2 p3 p4 h = some (rv, h')) : JJ G E 8 0 [(0, .ref 43), (1, .int p0), (2, .int p1), (3, .int p2), (4, .int p3), (5, .int p4)] [] h := by
  unfold fX1_run at hf
  refine r_iload K dX1_run_0 5 rfl ?_
  refine r_bipush (v := 20) K dX1_run_2 rfl ?_
  refine r_icmp_le (tgt := 9) K dX1_run_4 (by decide) (fun c1_ => ?_) (fun c1_ => ?_)
  · have hf := e_t hf c1_
    refine r_iload_n K dX1_run_9 2 rfl rfl ?_
    refine r_istore (lv' := [(6, .int p1), (0, .ref 43), (1, .int p0), (2, .int p1), (3, .int p2), (4, .int p3), (5, .int p4)]) K dX1_run_10 (Nat.le_of_ble_eq_true rfl) rfl ?_
    refine r_iconst (v := 0) K dX1_run_12 rfl ?_
    refine r_istore (lv' := [(7, .int 0), (6, .int p1), (0, .ref 43), (1, .int p0), (2, .int p1), (3, .int p2), (4, .int p3), (5, .int p4)]) K dX1_run_13 (Nat.le_of_ble_eq_true rfl) rfl ?_
    refine r_lv [2, 3, 5, 6, 7, 1, 0] rfl ?_
    exact sX1_run_15 hdd K Z RR hRR p0 p1 p2 p3 p4 FU p0 p2 p3 p4 p1 0 h hf
  · have hf := e_f hf c1_
    refine r_iconst (v := 0) K dX1_run_7 rfl ?_
    exact r_iret K Z dX1_run_8 hf
def fX1_own (RR : Nat → List Int32 → AH → Option (Int32 × AH)) (p0 : Int32) (p1 : Int32) (p2 : Int32) (p3 : Int32) (h : AH) : Option (Int32 × AH) :=
  if inb p0 50 = true then bind2 (RR 0 [p0, (h.1 44 (ix p0)), p1, p2, (p3 + 1)] h) fun r2_ h3_ => some (r2_, h3_) else none
set_option maxRecDepth 10000 in
theorem sX1_own {G : GG} {E : EE} {rv : Int32} {h' : AH} {dd : Nat} (hdd : 0 ≤ dd) (K : OK G E (dd + 1) RX1 cX1_own 5) (Z : RT G E (some .int) (some (.int rv)) h') (RR : Nat → List Int32 → AH → Option (Int32 × AH)) (hRR : (∀ (z0 : Int32) (z1 : Int32) (z2 : Int32) (z3 : Int32) (z4 : Int32) (h : AH) (r : Int32) (h1 : AH), RR 0 [z0, z1, z2, z3, z4] h = some (r, h1) → Con G dd yX1_run cX1_run 8 (some .int) [.ref 43, .int z0, .int z1, .int z2, .int z3, .int z4] h (some (.int r)) h1) ∧ (∀ (z0 : Int32) (z1 : Int32) (z2 : Int32) (z3 : Int32) (h : AH) (r : Int32) (h1 : AH), RR 1 [z0, z1, z2, z3] h = some (r, h1) → Con G dd yX1_own cX1_own 5 (some .int) [.ref 43, .int z0, .int z1, .int z2, .int z3] h (some (.int r)) h1) ∧ (∀ (z0 : Int32) (z1 : Int32) (z2 : Int32) (z3 : Int32) (z4 : Int32) (h : AH) (r : Int32) (h1 : AH), RR 2 [z0, z1, z2, z3, z4] h = some (r, h1) → Con G dd yX1_above cX1_above 6 (some .int) [.ref 43, .int z0, .int z1, .int z2, .int z3, .int z4] h (some (.int r)) h1)) (p0 : Int32) (p1 : Int32) (p2 : Int32) (p3 : Int32) (h : AH) (hf : fX1_own RR p0 p1 p2 p3 h = some (rv, h')) : JJ G E 5 0 [(0, .ref 43), (1, .int p0), (2, .int p1), (3, .int p2), (4, .int p3)] [] h := by
  unfold fX1_own at hf
  refine r_aload_n K dX1_own_0 0 rfl rfl ?_
  refine r_iload_n K dX1_own_1 1 rfl rfl ?_
  refine r_aload_n K dX1_own_2 0 rfl rfl ?_
  refine r_getR (o' := 44) K flX1_9 dX1_own_3 rfl rfl rfl ?_
  refine r_iload_n K dX1_own_6 1 rfl rfl ?_
  obtain ⟨g1_, hf⟩ := e_g hf
  refine r_iald K dX1_own_7 rfl g1_ ?_
  refine r_iload_n K dX1_own_8 2 rfl rfl ?_
  refine r_iload_n K dX1_own_9 3 rfl rfl ?_
  refine r_iload K dX1_own_10 4 rfl ?_
  refine r_iconst (v := 1) K dX1_own_12 rfl ?_
  refine r_iadd K dX1_own_13 ?_
  obtain ⟨r2_, h3_, g4_, hf⟩ := e_2 hf
  refine r_callV (av := [.int p0, .int (h.1 44 (ix p0)), .int p1, .int p2, .int (p3 + 1)]) (st := []) K lkX1_36 mwX1_run (hRR.1 p0 (h.1 44 (ix p0)) p1 p2 (p3 + 1) h r2_ h3_ g4_) dX1_own_14 rfl (Nat.le_refl _) rfl rfl (Nat.le_of_ble_eq_true rfl) ?_
  exact r_iret K Z dX1_own_17 hf
def fX1_above (RR : Nat → List Int32 → AH → Option (Int32 × AH)) (p0 : Int32) (p1 : Int32) (p2 : Int32) (p3 : Int32) (p4 : Int32) (h : AH) : Option (Int32 × AH) :=
  if inb p1 8 = true then bind2 (RR 0 [p0, (ST 202 (ix p1)), p2, p3, (p4 + 1)] h) fun r2_ h3_ => some (r2_, h3_) else none
set_option maxRecDepth 10000 in
theorem sX1_above {G : GG} {E : EE} {rv : Int32} {h' : AH} {dd : Nat} (hdd : 0 ≤ dd) (K : OK G E (dd + 1) RX1 cX1_above 6) (Z : RT G E (some .int) (some (.int rv)) h') (RR : Nat → List Int32 → AH → Option (Int32 × AH)) (hRR : (∀ (z0 : Int32) (z1 : Int32) (z2 : Int32) (z3 : Int32) (z4 : Int32) (h : AH) (r : Int32) (h1 : AH), RR 0 [z0, z1, z2, z3, z4] h = some (r, h1) → Con G dd yX1_run cX1_run 8 (some .int) [.ref 43, .int z0, .int z1, .int z2, .int z3, .int z4] h (some (.int r)) h1) ∧ (∀ (z0 : Int32) (z1 : Int32) (z2 : Int32) (z3 : Int32) (h : AH) (r : Int32) (h1 : AH), RR 1 [z0, z1, z2, z3] h = some (r, h1) → Con G dd yX1_own cX1_own 5 (some .int) [.ref 43, .int z0, .int z1, .int z2, .int z3] h (some (.int r)) h1) ∧ (∀ (z0 : Int32) (z1 : Int32) (z2 : Int32) (z3 : Int32) (z4 : Int32) (h : AH) (r : Int32) (h1 : AH), RR 2 [z0, z1, z2, z3, z4] h = some (r, h1) → Con G dd yX1_above cX1_above 6 (some .int) [.ref 43, .int z0, .int z1, .int z2, .int z3, .int z4] h (some (.int r)) h1)) (p0 : Int32) (p1 : Int32) (p2 : Int32) (p3 : Int32) (p4 : Int32) (h : AH) (hf : fX1_above RR p0 p1 p2 p3 p4 h = some (rv, h')) : JJ G E 6 0 [(0, .ref 43), (1, .int p0), (2, .int p1), (3, .int p2), (4, .int p3), (5, .int p4)] [] h := by
  unfold fX1_above at hf
  refine r_aload_n K dX1_above_0 0 rfl rfl ?_
  refine r_iload_n K dX1_above_1 1 rfl rfl ?_
  refine r_gets K gsX1_29 dX1_above_2 ?_
  refine r_iload_n K dX1_above_5 2 rfl rfl ?_
  obtain ⟨g1_, hf⟩ := e_g hf
  refine r_sald K dX1_above_6 sl202 g1_ ?_
  refine r_iload_n K dX1_above_7 3 rfl rfl ?_
  refine r_iload K dX1_above_8 4 rfl ?_
  refine r_iload K dX1_above_10 5 rfl ?_
  refine r_iconst (v := 1) K dX1_above_12 rfl ?_
  refine r_iadd K dX1_above_13 ?_
  obtain ⟨r2_, h3_, g4_, hf⟩ := e_2 hf
  refine r_callV (av := [.int p0, .int (ST 202 (ix p1)), .int p2, .int p3, .int (p4 + 1)]) (st := []) K lkX1_36 mwX1_run (hRR.1 p0 (ST 202 (ix p1)) p2 p3 (p4 + 1) h r2_ h3_ g4_) dX1_above_14 rfl (Nat.le_refl _) rfl rfl (Nat.le_of_ble_eq_true rfl) ?_
  exact r_iret K Z dX1_above_17 hf
def RGH : Nat → Nat → List Int32 → AH → Option (Int32 × AH)
  | 0 => fun _ _ _ => none
  | n + 1 => fun w a h => if w = 0 then fX1_run (RGH n) (a.getD 0 0) (a.getD 1 0) (a.getD 2 0) (a.getD 3 0) (a.getD 4 0) h else if w = 1 then fX1_own (RGH n) (a.getD 0 0) (a.getD 1 0) (a.getD 2 0) (a.getD 3 0) h else if w = 2 then fX1_above (RGH n) (a.getD 0 0) (a.getD 1 0) (a.getD 2 0) (a.getD 3 0) (a.getD 4 0) h else none
theorem conRGH {G : GG} : ∀ n : Nat, (∀ (z0 : Int32) (z1 : Int32) (z2 : Int32) (z3 : Int32) (z4 : Int32) (h : AH) (r : Int32) (h1 : AH), RGH n 0 [z0, z1, z2, z3, z4] h = some (r, h1) → Con G (0 + n) yX1_run cX1_run 8 (some .int) [.ref 43, .int z0, .int z1, .int z2, .int z3, .int z4] h (some (.int r)) h1) ∧ (∀ (z0 : Int32) (z1 : Int32) (z2 : Int32) (z3 : Int32) (h : AH) (r : Int32) (h1 : AH), RGH n 1 [z0, z1, z2, z3] h = some (r, h1) → Con G (0 + n) yX1_own cX1_own 5 (some .int) [.ref 43, .int z0, .int z1, .int z2, .int z3] h (some (.int r)) h1) ∧ (∀ (z0 : Int32) (z1 : Int32) (z2 : Int32) (z3 : Int32) (z4 : Int32) (h : AH) (r : Int32) (h1 : AH), RGH n 2 [z0, z1, z2, z3, z4] h = some (r, h1) → Con G (0 + n) yX1_above cX1_above 6 (some .int) [.ref 43, .int z0, .int z1, .int z2, .int z3, .int z4] h (some (.int r)) h1) := by
  intro n
  induction n with
  | zero => exact ⟨fun _ _ _ _ _ _ _ _ q => (by cases q), fun _ _ _ _ _ _ _ q => (by cases q), fun _ _ _ _ _ _ _ _ q => (by cases q)⟩
  | succ n ih => exact ⟨fun z0 z1 z2 z3 z4 h r h1 q => con_of mwX1_run (Nat.le_of_ble_eq_true rfl) (fun E K Z => sX1_run (dd := 0 + n) (Nat.le_add_right _ _) K Z (RGH n) ih z0 z1 z2 z3 z4 h q), fun z0 z1 z2 z3 h r h1 q => con_of mwX1_own (Nat.le_of_ble_eq_true rfl) (fun E K Z => sX1_own (dd := 0 + n) (Nat.le_add_right _ _) K Z (RGH n) ih z0 z1 z2 z3 h q), fun z0 z1 z2 z3 z4 h r h1 q => con_of mwX1_above (Nat.le_of_ble_eq_true rfl) (fun E K Z => sX1_above (dd := 0 + n) (Nat.le_add_right _ _) K Z (RGH n) ih z0 z1 z2 z3 z4 h q)⟩
theorem conRGH_0 {G : GG} (n : Nat) (z0 : Int32) (z1 : Int32) (z2 : Int32) (z3 : Int32) (z4 : Int32) (h : AH) (r : Int32) (h1 : AH) (q : RGH n 0 [z0, z1, z2, z3, z4] h = some (r, h1)) : Con G (0 + n) yX1_run cX1_run 8 (some .int) [.ref 43, .int z0, .int z1, .int z2, .int z3, .int z4] h (some (.int r)) h1 := (conRGH n).1 z0 z1 z2 z3 z4 h r h1 q
theorem conRGH_1 {G : GG} (n : Nat) (z0 : Int32) (z1 : Int32) (z2 : Int32) (z3 : Int32) (h : AH) (r : Int32) (h1 : AH) (q : RGH n 1 [z0, z1, z2, z3] h = some (r, h1)) : Con G (0 + n) yX1_own cX1_own 5 (some .int) [.ref 43, .int z0, .int z1, .int z2, .int z3] h (some (.int r)) h1 := (conRGH n).2.1 z0 z1 z2 z3 h r h1 q
theorem conRGH_2 {G : GG} (n : Nat) (z0 : Int32) (z1 : Int32) (z2 : Int32) (z3 : Int32) (z4 : Int32) (h : AH) (r : Int32) (h1 : AH) (q : RGH n 2 [z0, z1, z2, z3, z4] h = some (r, h1)) : Con G (0 + n) yX1_above cX1_above 6 (some .int) [.ref 43, .int z0, .int z1, .int z2, .int z3, .int z4] h (some (.int r)) h1 := (conRGH n).2.2 z0 z1 z2 z3 z4 h r h1 q
def fX1_add (p0 : Int32) (h : AH) : Option (Int32 × AH) :=
  if (h.1 43 1) < 50 then if inb (h.1 43 1) 50 = true then letV (wI h 44 (ix (h.1 43 1)) p0) fun h3_ => letV (wI h3_ 43 1 ((h3_.1 43 1) + 1)) fun h5_ => some (((h5_.1 43 1) - 1), h5_) else none else some ((-3), h)
set_option maxRecDepth 10000 in
theorem sX1_add {G : GG} {E : EE} {rv : Int32} {h' : AH} (K : OK G E 0 RX1 cX1_add 2) (Z : RT G E (some .int) (some (.int rv)) h') (p0 : Int32) (h : AH) (hf : fX1_add p0 h = some (rv, h')) : JJ G E 2 0 [(0, .ref 43), (1, .int p0)] [] h := by
  unfold fX1_add at hf
  refine r_aload_n K dX1_add_0 0 rfl rfl ?_
  refine r_getI K flX1_15 dX1_add_1 rfl rfl ?_
  refine r_bipush (v := 50) K dX1_add_4 rfl ?_
  refine r_icmp_lt (tgt := 12) K dX1_add_6 (by decide) (fun c1_ => ?_) (fun c1_ => ?_)
  · have hf := e_t hf c1_
    refine r_aload_n K dX1_add_12 0 rfl rfl ?_
    refine r_getR (o' := 44) K flX1_9 dX1_add_13 rfl rfl rfl ?_
    refine r_aload_n K dX1_add_16 0 rfl rfl ?_
    refine r_getI K flX1_15 dX1_add_17 rfl rfl ?_
    refine r_iload_n K dX1_add_20 1 rfl rfl ?_
    obtain ⟨g2_, hf⟩ := e_g hf
    obtain ⟨h3_, e4_, hf⟩ := e_l hf
    refine r_iast K dX1_add_21 rfl g2_ e4_ ?_
    refine r_aload_n K dX1_add_22 0 rfl rfl ?_
    refine r_dup K dX1_add_23 rfl ?_
    refine r_getI K flX1_15 dX1_add_24 rfl rfl ?_
    refine r_iconst (v := 1) K dX1_add_27 rfl ?_
    refine r_iadd K dX1_add_28 ?_
    obtain ⟨h5_, e6_, hf⟩ := e_l hf
    refine r_putI K fpX1_15 dX1_add_29 rfl rfl e6_ ?_
    refine r_aload_n K dX1_add_32 0 rfl rfl ?_
    refine r_getI K flX1_15 dX1_add_33 rfl rfl ?_
    refine r_iconst (v := 1) K dX1_add_36 rfl ?_
    refine r_isub K dX1_add_37 ?_
    exact r_iret K Z dX1_add_38 hf
  · have hf := e_f hf c1_
    refine r_bipush (v := (-3)) K dX1_add_9 rfl ?_
    exact r_iret K Z dX1_add_11 hf
theorem conX1_add {G : GG} (p0 : Int32) (h : AH) (rv : Int32) (h' : AH) (hf : fX1_add p0 h = some (rv, h')) : Con G 0 yX1_add cX1_add 2 (some .int) [.ref 43, .int p0] h (some (.int rv)) h' := con_of mwX1_add (Nat.le_of_ble_eq_true rfl) (fun E K Z => sX1_add K Z p0 h hf)
def fX1_hasBody (p0 : Int32) (h : AH) : Option (Int32 × AH) :=
  if p0 < 0 then some (0, h) else if (h.1 43 1) ≤ p0 then some (0, h) else some (1, h)
set_option maxRecDepth 10000 in
theorem sX1_hasBody {G : GG} {E : EE} {rv : Int32} {h' : AH} (K : OK G E 0 RX1 cX1_hasBody 2) (Z : RT G E (some .boolean) (some (.int rv)) h') (p0 : Int32) (h : AH) (hf : fX1_hasBody p0 h = some (rv, h')) : JJ G E 2 0 [(0, .ref 43), (1, .int p0)] [] h := by
  unfold fX1_hasBody at hf
  refine r_iload_n K dX1_hasBody_0 1 rfl rfl ?_
  refine r_if_lt (tgt := 16) K dX1_hasBody_1 (by decide) (fun c1_ => ?_) (fun c1_ => ?_)
  · have hf := e_t hf c1_
    refine r_iconst (v := 0) K dX1_hasBody_16 rfl ?_
    exact r_zret K Z dX1_hasBody_17 rfl hf
  · have hf := e_f hf c1_
    refine r_iload_n K dX1_hasBody_4 1 rfl rfl ?_
    refine r_aload_n K dX1_hasBody_5 0 rfl rfl ?_
    refine r_getI K flX1_15 dX1_hasBody_6 rfl rfl ?_
    refine r_icmp_ge (tgt := 16) K dX1_hasBody_9 (by decide) (fun c2_ => ?_) (fun c2_ => ?_)
    · have hf := e_t hf c2_
      refine r_iconst (v := 0) K dX1_hasBody_16 rfl ?_
      exact r_zret K Z dX1_hasBody_17 rfl hf
    · have hf := e_f hf c2_
      refine r_iconst (v := 1) K dX1_hasBody_12 rfl ?_
      refine r_goto (tgt := 17) K dX1_hasBody_13 (by decide) ?_
      exact r_zret K Z dX1_hasBody_17 rfl hf
theorem conX1_hasBody {G : GG} (p0 : Int32) (h : AH) (rv : Int32) (h' : AH) (hf : fX1_hasBody p0 h = some (rv, h')) : Con G 0 yX1_hasBody cX1_hasBody 2 (some .boolean) [.ref 43, .int p0] h (some (.int rv)) h' := con_of mwX1_hasBody (Nat.le_of_ble_eq_true rfl) (fun E K Z => sX1_hasBody K Z p0 h hf)
def fX1_isKind (p0 : Int32) (h : AH) : Option (Int32 × AH) :=
  if p0 < 0 then some (0, h) else if 8 ≤ p0 then some (0, h) else some (1, h)
set_option maxRecDepth 10000 in
theorem sX1_isKind {G : GG} {E : EE} {rv : Int32} {h' : AH} (K : OK G E 0 RX1 cX1_isKind 1) (Z : RT G E (some .boolean) (some (.int rv)) h') (p0 : Int32) (h : AH) (hf : fX1_isKind p0 h = some (rv, h')) : JJ G E 1 0 [(0, .int p0)] [] h := by
  unfold fX1_isKind at hf
  refine r_iload_n K dX1_isKind_0 0 rfl rfl ?_
  refine r_if_lt (tgt := 14) K dX1_isKind_1 (by decide) (fun c1_ => ?_) (fun c1_ => ?_)
  · have hf := e_t hf c1_
    refine r_iconst (v := 0) K dX1_isKind_14 rfl ?_
    exact r_zret K Z dX1_isKind_15 rfl hf
  · have hf := e_f hf c1_
    refine r_iload_n K dX1_isKind_4 0 rfl rfl ?_
    refine r_bipush (v := 8) K dX1_isKind_5 rfl ?_
    refine r_icmp_ge (tgt := 14) K dX1_isKind_7 (by decide) (fun c2_ => ?_) (fun c2_ => ?_)
    · have hf := e_t hf c2_
      refine r_iconst (v := 0) K dX1_isKind_14 rfl ?_
      exact r_zret K Z dX1_isKind_15 rfl hf
    · have hf := e_f hf c2_
      refine r_iconst (v := 1) K dX1_isKind_10 rfl ?_
      refine r_goto (tgt := 15) K dX1_isKind_11 (by decide) ?_
      exact r_zret K Z dX1_isKind_15 rfl hf
theorem conX1_isKind {G : GG} (p0 : Int32) (h : AH) (rv : Int32) (h' : AH) (hf : fX1_isKind p0 h = some (rv, h')) : Con G 0 yX1_isKind cX1_isKind 1 (some .boolean) [.int p0] h (some (.int rv)) h' := con_of mwX1_isKind (Nat.le_of_ble_eq_true rfl) (fun E K Z => sX1_isKind K Z p0 h hf)
def fX1_isOfKind_44 (p0 : Int32) (p1 : Int32) (x2 : Int32) (x3 : Int32) (h : AH) : Option (Int32 × AH) :=
  if x3 = x2 then some (1, h) else some (0, h)
set_option maxRecDepth 10000 in
theorem sX1_isOfKind_44 {G : GG} {E : EE} {rv : Int32} {h' : AH} (K : OK G E 1 RX1 cX1_isOfKind 5) (Z : RT G E (some .boolean) (some (.int rv)) h') (p0 : Int32) (p1 : Int32) (x2 : Int32) (x3 : Int32) (h : AH) (hf : fX1_isOfKind_44 p0 p1 x2 x3 h = some (rv, h')) : JJ G E 5 44 [(2, .int x2), (3, .int x3)] [] h := by
  unfold fX1_isOfKind_44 at hf
  refine r_iload_n K dX1_isOfKind_44 1 rfl rfl ?_
  refine r_iload_n K dX1_isOfKind_45 0 rfl rfl ?_
  refine r_icmp_ne (tgt := 53) K dX1_isOfKind_46 (by decide) (fun c9_ => ?_) (fun c9_ => ?_)
  · have hf := e_f hf c9_
    refine r_iconst (v := 0) K dX1_isOfKind_53 rfl ?_
    exact r_zret K Z dX1_isOfKind_54 rfl hf
  · have hf := e_t hf c9_
    refine r_iconst (v := 1) K dX1_isOfKind_49 rfl ?_
    refine r_goto (tgt := 54) K dX1_isOfKind_50 (by decide) ?_
    exact r_zret K Z dX1_isOfKind_54 rfl hf
def fX1_isOfKind_20_b (p0 : Int32) (p1 : Int32) (Q20 : Int32 → Int32 → Int32 → AH → Option (Int32 × AH)) (x2 : Int32) (x3 : Int32) (x4 : Int32) (h : AH) : Option (Int32 × AH) :=
  if 8 ≤ x4 then fX1_isOfKind_44 p0 p1 x2 x3 h else if x3 = x2 then fX1_isOfKind_44 p0 p1 x2 x3 h else if inb x3 8 = true then letV ((ST 202 (ix x3))) fun x12_ => Q20 x2 x12_ (x4 + 1) h else none
def fX1_isOfKind_20 (p0 : Int32) (p1 : Int32) : Nat → Int32 → Int32 → Int32 → AH → Option (Int32 × AH)
  | 0 => fun _ _ _ _ => none
  | n + 1 => fX1_isOfKind_20_b p0 p1 (fX1_isOfKind_20 p0 p1 n)
set_option maxRecDepth 10000 in
theorem sX1_isOfKind_20_b {G : GG} {E : EE} {rv : Int32} {h' : AH} (K : OK G E 1 RX1 cX1_isOfKind 5) (Z : RT G E (some .boolean) (some (.int rv)) h') (p0 : Int32) (p1 : Int32) (Q20 : Int32 → Int32 → Int32 → AH → Option (Int32 × AH)) (hQ20 : ∀ (x2 : Int32) (x3 : Int32) (x4 : Int32) (h : AH), Q20 x2 x3 x4 h = some (rv, h') → JJ G E 5 20 [(2, .int x2), (3, .int x3), (4, .int x4)] [] h) (x2 : Int32) (x3 : Int32) (x4 : Int32) (h : AH) (hf : fX1_isOfKind_20_b p0 p1 Q20 x2 x3 x4 h = some (rv, h')) : JJ G E 5 20 [(2, .int x2), (3, .int x3), (4, .int x4)] [] h := by
  unfold fX1_isOfKind_20_b at hf
  refine r_iload K dX1_isOfKind_20 2 rfl ?_
  refine r_bipush (v := 8) K dX1_isOfKind_22 rfl ?_
  refine r_icmp_ge (tgt := 44) K dX1_isOfKind_24 (by decide) (fun c8_ => ?_) (fun c8_ => ?_)
  · have hf := e_t hf c8_
    refine r_lv [0, 1] rfl ?_
    exact sX1_isOfKind_44 K Z p0 p1 x2 x3 h hf
  · have hf := e_f hf c8_
    refine r_iload_n K dX1_isOfKind_27 1 rfl rfl ?_
    refine r_iload_n K dX1_isOfKind_28 0 rfl rfl ?_
    refine r_icmp_eq (tgt := 44) K dX1_isOfKind_29 (by decide) (fun c10_ => ?_) (fun c10_ => ?_)
    · have hf := e_t hf c10_
      refine r_lv [0, 1] rfl ?_
      exact sX1_isOfKind_44 K Z p0 p1 x2 x3 h hf
    · have hf := e_f hf c10_
      refine r_gets K gsX1_29 dX1_isOfKind_32 ?_
      refine r_iload_n K dX1_isOfKind_35 1 rfl rfl ?_
      obtain ⟨g11_, hf⟩ := e_g hf
      refine r_sald K dX1_isOfKind_36 sl202 g11_ ?_
      obtain ⟨x12_, e13_, hf⟩ := e_l hf
      refine r_nmI e13_ ?_
      refine r_istore_n (lv' := [(3, .int x12_), (2, .int x2), (4, .int x4)]) K dX1_isOfKind_37 rfl (Nat.le_of_ble_eq_true rfl) rfl ?_
      refine r_iinc (y := 1) (lv' := [(4, .int (x4 + 1)), (3, .int x12_), (2, .int x2)]) K dX1_isOfKind_38 2 rfl rfl (Nat.le_of_ble_eq_true rfl) rfl ?_
      refine r_goto (tgt := 20) K dX1_isOfKind_41 (by decide) ?_
      refine r_lv [2, 1, 0] rfl ?_
      exact hQ20 x2 x12_ (x4 + 1) h hf
theorem sX1_isOfKind_20 {G : GG} {E : EE} {rv : Int32} {h' : AH} (K : OK G E 1 RX1 cX1_isOfKind 5) (Z : RT G E (some .boolean) (some (.int rv)) h') (p0 : Int32) (p1 : Int32) : ∀ (n : Nat) (x2 : Int32) (x3 : Int32) (x4 : Int32) (h : AH), fX1_isOfKind_20 p0 p1 n x2 x3 x4 h = some (rv, h') → JJ G E 5 20 [(2, .int x2), (3, .int x3), (4, .int x4)] [] h := by
  intro n
  induction n with
  | zero => intro x2 x3 x4 h hf; cases hf
  | succ n ih => intro x2 x3 x4 h hf; exact sX1_isOfKind_20_b K Z p0 p1 _ (fun x2 x3 x4 h hf => ih x2 x3 x4 h hf) x2 x3 x4 h hf
def fX1_isOfKind (p0 : Int32) (p1 : Int32) (h : AH) : Option (Int32 × AH) :=
  bind2 (fX1_hasBody p0 h) fun r1_ h2_ => if r1_ = 0 then some (0, h2_) else if inb p0 50 = true then letV ((h2_.1 44 (ix p0))) fun x6_ => fX1_isOfKind_20 p0 p1 FU p1 x6_ 0 h2_ else none
set_option maxRecDepth 10000 in
theorem sX1_isOfKind {G : GG} {E : EE} {rv : Int32} {h' : AH} (K : OK G E 1 RX1 cX1_isOfKind 5) (Z : RT G E (some .boolean) (some (.int rv)) h') (p0 : Int32) (p1 : Int32) (h : AH) (hf : fX1_isOfKind p0 p1 h = some (rv, h')) : JJ G E 5 0 [(0, .ref 43), (1, .int p0), (2, .int p1)] [] h := by
  unfold fX1_isOfKind at hf
  refine r_aload_n K dX1_isOfKind_0 0 rfl rfl ?_
  refine r_iload_n K dX1_isOfKind_1 1 rfl rfl ?_
  obtain ⟨r1_, h2_, g3_, hf⟩ := e_2 hf
  refine r_callV (av := [.int p0]) (st := []) K lkX1_25 mwX1_hasBody (conX1_hasBody p0 h r1_ h2_ g3_) dX1_isOfKind_2 rfl (Nat.le_of_ble_eq_true rfl) rfl rfl (Nat.le_of_ble_eq_true rfl) ?_
  refine r_if_ne (tgt := 10) K dX1_isOfKind_5 (by decide) (fun c4_ => ?_) (fun c4_ => ?_)
  · have hf := e_f hf c4_
    refine r_aload_n K dX1_isOfKind_10 0 rfl rfl ?_
    refine r_getR (o' := 44) K flX1_9 dX1_isOfKind_11 rfl rfl rfl ?_
    refine r_iload_n K dX1_isOfKind_14 1 rfl rfl ?_
    obtain ⟨g5_, hf⟩ := e_g hf
    refine r_iald K dX1_isOfKind_15 rfl g5_ ?_
    obtain ⟨x6_, e7_, hf⟩ := e_l hf
    refine r_nmI e7_ ?_
    refine r_istore_n (lv' := [(3, .int x6_), (0, .ref 43), (1, .int p0), (2, .int p1)]) K dX1_isOfKind_16 rfl (Nat.le_of_ble_eq_true rfl) rfl ?_
    refine r_iconst (v := 0) K dX1_isOfKind_17 rfl ?_
    refine r_istore (lv' := [(4, .int 0), (3, .int x6_), (0, .ref 43), (1, .int p0), (2, .int p1)]) K dX1_isOfKind_18 (Nat.le_of_ble_eq_true rfl) rfl ?_
    refine r_lv [4, 1, 0] rfl ?_
    exact sX1_isOfKind_20 K Z p0 p1 FU p1 x6_ 0 h2_ hf
  · have hf := e_t hf c4_
    refine r_iconst (v := 0) K dX1_isOfKind_8 rfl ?_
    exact r_zret K Z dX1_isOfKind_9 rfl hf
theorem conX1_isOfKind {G : GG} (p0 : Int32) (p1 : Int32) (h : AH) (rv : Int32) (h' : AH) (hf : fX1_isOfKind p0 p1 h = some (rv, h')) : Con G 1 yX1_isOfKind cX1_isOfKind 5 (some .boolean) [.ref 43, .int p0, .int p1] h (some (.int rv)) h' := con_of mwX1_isOfKind (Nat.le_of_ble_eq_true rfl) (fun E K Z => sX1_isOfKind K Z p0 p1 h hf)
def fX1_perform (p0 : Int32) (p1 : Int32) (p2 : Int32) (h : AH) : Option (Int32 × AH) :=
  letV (wI h 43 3 0) fun h1_ => bind2 (fX1_hasBody p0 h1_) fun r3_ h4_ => if r3_ = 0 then some (0, h4_) else if p1 < 0 then some (0, h4_) else if p1 < 4 then bind2 (RGH 50 1 [p0, p1, p2, 0] h4_) fun r9_ h10_ => some (r9_, h10_) else some (0, h4_)
set_option maxRecDepth 10000 in
theorem sX1_perform {G : GG} {E : EE} {rv : Int32} {h' : AH} (K : OK G E 51 RX1 cX1_perform 4) (Z : RT G E (some .int) (some (.int rv)) h') (p0 : Int32) (p1 : Int32) (p2 : Int32) (h : AH) (hf : fX1_perform p0 p1 p2 h = some (rv, h')) : JJ G E 4 0 [(0, .ref 43), (1, .int p0), (2, .int p1), (3, .int p2)] [] h := by
  unfold fX1_perform at hf
  refine r_aload_n K dX1_perform_0 0 rfl rfl ?_
  refine r_iconst (v := 0) K dX1_perform_1 rfl ?_
  obtain ⟨h1_, e2_, hf⟩ := e_l hf
  refine r_putI K fpX1_22 dX1_perform_2 rfl rfl e2_ ?_
  refine r_aload_n K dX1_perform_5 0 rfl rfl ?_
  refine r_iload_n K dX1_perform_6 1 rfl rfl ?_
  obtain ⟨r3_, h4_, g5_, hf⟩ := e_2 hf
  refine r_callV (av := [.int p0]) (st := []) K lkX1_25 mwX1_hasBody (conX1_hasBody p0 h1_ r3_ h4_ g5_) dX1_perform_7 rfl (Nat.le_of_ble_eq_true rfl) rfl rfl (Nat.le_of_ble_eq_true rfl) ?_
  refine r_if_eq (tgt := 22) K dX1_perform_10 (by decide) (fun c6_ => ?_) (fun c6_ => ?_)
  · have hf := e_t hf c6_
    refine r_iconst (v := 0) K dX1_perform_22 rfl ?_
    exact r_iret K Z dX1_perform_23 hf
  · have hf := e_f hf c6_
    refine r_iload_n K dX1_perform_13 2 rfl rfl ?_
    refine r_if_lt (tgt := 22) K dX1_perform_14 (by decide) (fun c7_ => ?_) (fun c7_ => ?_)
    · have hf := e_t hf c7_
      refine r_iconst (v := 0) K dX1_perform_22 rfl ?_
      exact r_iret K Z dX1_perform_23 hf
    · have hf := e_f hf c7_
      refine r_iload_n K dX1_perform_17 2 rfl rfl ?_
      refine r_iconst (v := 4) K dX1_perform_18 rfl ?_
      refine r_icmp_lt (tgt := 24) K dX1_perform_19 (by decide) (fun c8_ => ?_) (fun c8_ => ?_)
      · have hf := e_t hf c8_
        refine r_aload_n K dX1_perform_24 0 rfl rfl ?_
        refine r_iload_n K dX1_perform_25 1 rfl rfl ?_
        refine r_iload_n K dX1_perform_26 2 rfl rfl ?_
        refine r_iload_n K dX1_perform_27 3 rfl rfl ?_
        refine r_iconst (v := 0) K dX1_perform_28 rfl ?_
        obtain ⟨r9_, h10_, g11_, hf⟩ := e_2 hf
        refine r_callV (av := [.int p0, .int p1, .int p2, .int 0]) (st := []) K lkX1_32 mwX1_own (conRGH_1 50 p0 p1 p2 0 h4_ r9_ h10_ g11_) dX1_perform_29 rfl (Nat.le_of_ble_eq_true rfl) rfl rfl (Nat.le_of_ble_eq_true rfl) ?_
        exact r_iret K Z dX1_perform_32 hf
      · have hf := e_f hf c8_
        refine r_iconst (v := 0) K dX1_perform_22 rfl ?_
        exact r_iret K Z dX1_perform_23 hf
theorem conX1_perform {G : GG} (p0 : Int32) (p1 : Int32) (p2 : Int32) (h : AH) (rv : Int32) (h' : AH) (hf : fX1_perform p0 p1 p2 h = some (rv, h')) : Con G 51 yX1_perform cX1_perform 4 (some .int) [.ref 43, .int p0, .int p1, .int p2] h (some (.int rv)) h' := con_of mwX1_perform (Nat.le_of_ble_eq_true rfl) (fun E K Z => sX1_perform K Z p0 p1 p2 h hf)
def fX2_layBack (p0 : Nat) (h : AH) : Option AH :=
  letV (wI h p0 11 (h.1 33 5)) fun h1_ => if cpOK 0 0 (h1_.1 33 4) 9 9 = true then letV (cpI h1_ 34 (ix 0) (rf p0 0) (ix 0) (ix (h1_.1 33 4))) fun h4_ => if cpOK 0 0 (h4_.1 33 4) 9 9 = true then letV (cpI h4_ 35 (ix 0) (rf p0 2) (ix 0) (ix (h4_.1 33 4))) fun h7_ => if cpOK 0 0 (h7_.1 33 4) 9 9 = true then letV (cpI h7_ 36 (ix 0) (rf p0 5) (ix 0) (ix (h7_.1 33 4))) fun h10_ => if cpOK 0 0 5 5 5 = true then letV (cpI h10_ 37 (ix 0) 32 (ix 0) (ix 5)) fun h13_ => some h13_ else none else none else none else none
set_option maxRecDepth 10000 in
theorem sX2_layBack {G : GG} {E : EE} {h' : AH} (K : OK G E 1 RX2 cX2_layBack 3) (Z : RT G E none (none) h') (p0 : Nat) (hp0 : KD p0 = (7, 12)) (h : AH) (hf : fX2_layBack p0 h = some h') : JJ G E 3 0 [(0, .ref 33), (1, .ref p0), (2, .ref 32)] [] h := by
  unfold fX2_layBack at hf
  refine r_aload_n K dX2_layBack_0 1 rfl rfl ?_
  refine r_aload_n K dX2_layBack_1 0 rfl rfl ?_
  refine r_getI K flX2_28 dX2_layBack_2 rfl rfl ?_
  obtain ⟨h1_, e2_, hf⟩ := e_l hf
  refine r_putI K fpX2_38 dX2_layBack_5 hp0 rfl e2_ ?_
  refine r_aload_n K dX2_layBack_8 0 rfl rfl ?_
  refine r_getR (o' := 34) K flX2_9 dX2_layBack_9 rfl rfl rfl ?_
  refine r_iconst (v := 0) K dX2_layBack_12 rfl ?_
  refine r_aload_n K dX2_layBack_13 1 rfl rfl ?_
  refine r_getR (o' := (rf p0 0)) K flX2_39 dX2_layBack_14 hp0 rfl rfl ?_
  refine r_iconst (v := 0) K dX2_layBack_17 rfl ?_
  refine r_aload_n K dX2_layBack_18 0 rfl rfl ?_
  refine r_getI K flX2_24 dX2_layBack_19 rfl rfl ?_
  obtain ⟨g3_, hf⟩ := e_g hf
  obtain ⟨h4_, e5_, hf⟩ := e_l hf
  refine r_acopyi K lmX2_40 dX2_layBack_22 rfl (kf7_0 hp0) g3_ (Nat.le_of_ble_eq_true rfl) (Nat.le_of_ble_eq_true rfl) e5_ ?_
  refine r_aload_n K dX2_layBack_25 0 rfl rfl ?_
  refine r_getR (o' := 35) K flX2_15 dX2_layBack_26 rfl rfl rfl ?_
  refine r_iconst (v := 0) K dX2_layBack_29 rfl ?_
  refine r_aload_n K dX2_layBack_30 1 rfl rfl ?_
  refine r_getR (o' := (rf p0 2)) K flX2_46 dX2_layBack_31 hp0 rfl rfl ?_
  refine r_iconst (v := 0) K dX2_layBack_34 rfl ?_
  refine r_aload_n K dX2_layBack_35 0 rfl rfl ?_
  refine r_getI K flX2_24 dX2_layBack_36 rfl rfl ?_
  obtain ⟨g6_, hf⟩ := e_g hf
  obtain ⟨h7_, e8_, hf⟩ := e_l hf
  refine r_acopyi K lmX2_40 dX2_layBack_39 rfl (kf7_2 hp0) g6_ (Nat.le_of_ble_eq_true rfl) (Nat.le_of_ble_eq_true rfl) e8_ ?_
  refine r_aload_n K dX2_layBack_42 0 rfl rfl ?_
  refine r_getR (o' := 36) K flX2_18 dX2_layBack_43 rfl rfl rfl ?_
  refine r_iconst (v := 0) K dX2_layBack_46 rfl ?_
  refine r_aload_n K dX2_layBack_47 1 rfl rfl ?_
  refine r_getR (o' := (rf p0 5)) K flX2_47 dX2_layBack_48 hp0 rfl rfl ?_
  refine r_iconst (v := 0) K dX2_layBack_51 rfl ?_
  refine r_aload_n K dX2_layBack_52 0 rfl rfl ?_
  refine r_getI K flX2_24 dX2_layBack_53 rfl rfl ?_
  obtain ⟨g9_, hf⟩ := e_g hf
  obtain ⟨h10_, e11_, hf⟩ := e_l hf
  refine r_acopyi K lmX2_40 dX2_layBack_56 rfl (kf7_5 hp0) g9_ (Nat.le_of_ble_eq_true rfl) (Nat.le_of_ble_eq_true rfl) e11_ ?_
  refine r_aload_n K dX2_layBack_59 0 rfl rfl ?_
  refine r_getR (o' := 37) K flX2_21 dX2_layBack_60 rfl rfl rfl ?_
  refine r_iconst (v := 0) K dX2_layBack_63 rfl ?_
  refine r_aload_n K dX2_layBack_64 2 rfl rfl ?_
  refine r_iconst (v := 0) K dX2_layBack_65 rfl ?_
  refine r_iconst (v := 5) K dX2_layBack_66 rfl ?_
  obtain ⟨g12_, hf⟩ := e_g hf
  obtain ⟨h13_, e14_, hf⟩ := e_l hf
  refine r_acopyi K lmX2_40 dX2_layBack_67 rfl rfl g12_ (Nat.le_of_ble_eq_true rfl) (Nat.le_of_ble_eq_true rfl) e14_ ?_
  exact r_vret K Z dX2_layBack_70 hf
theorem conX2_layBack {G : GG} (p0 : Nat) (hp0 : KD p0 = (7, 12)) (h : AH) (h' : AH) (hf : fX2_layBack p0 h = some h') : Con G 1 yX2_layBack cX2_layBack 3 none [.ref 33, .ref p0, .ref 32] h (none) h' := con_of mwX2_layBack (Nat.le_of_ble_eq_true rfl) (fun E K Z => sX2_layBack K Z p0 hp0 h hf)
def fX2_take (p0 : Nat) (h : AH) : Option AH :=
  letV (wI h 33 4 (h.1 p0 9)) fun h1_ => letV (wI h1_ 33 5 (h1_.1 p0 11)) fun h3_ => if cpOK 0 0 (h3_.1 33 4) 9 9 = true then letV (cpI h3_ (rf p0 0) (ix 0) 34 (ix 0) (ix (h3_.1 33 4))) fun h6_ => if cpOK 0 0 (h6_.1 33 4) 9 9 = true then letV (cpI h6_ (rf p0 2) (ix 0) 35 (ix 0) (ix (h6_.1 33 4))) fun h9_ => if cpOK 0 0 (h9_.1 33 4) 9 9 = true then letV (cpI h9_ (rf p0 5) (ix 0) 36 (ix 0) (ix (h9_.1 33 4))) fun h12_ => if cpOK 0 0 5 5 5 = true then letV (cpI h12_ 32 (ix 0) 37 (ix 0) (ix 5)) fun h15_ => letV (wI h15_ 33 6 1) fun h17_ => some h17_ else none else none else none else none
set_option maxRecDepth 10000 in
theorem sX2_take {G : GG} {E : EE} {h' : AH} (K : OK G E 1 RX2 cX2_take 3) (Z : RT G E none (none) h') (p0 : Nat) (hp0 : KD p0 = (7, 12)) (h : AH) (hf : fX2_take p0 h = some h') : JJ G E 3 0 [(0, .ref 33), (1, .ref p0), (2, .ref 32)] [] h := by
  unfold fX2_take at hf
  refine r_aload_n K dX2_take_0 0 rfl rfl ?_
  refine r_aload_n K dX2_take_1 1 rfl rfl ?_
  refine r_getI K flX2_35 dX2_take_2 hp0 rfl ?_
  obtain ⟨h1_, e2_, hf⟩ := e_l hf
  refine r_putI K fpX2_24 dX2_take_5 rfl rfl e2_ ?_
  refine r_aload_n K dX2_take_8 0 rfl rfl ?_
  refine r_aload_n K dX2_take_9 1 rfl rfl ?_
  refine r_getI K flX2_38 dX2_take_10 hp0 rfl ?_
  obtain ⟨h3_, e4_, hf⟩ := e_l hf
  refine r_putI K fpX2_28 dX2_take_13 rfl rfl e4_ ?_
  refine r_aload_n K dX2_take_16 1 rfl rfl ?_
  refine r_getR (o' := (rf p0 0)) K flX2_39 dX2_take_17 hp0 rfl rfl ?_
  refine r_iconst (v := 0) K dX2_take_20 rfl ?_
  refine r_aload_n K dX2_take_21 0 rfl rfl ?_
  refine r_getR (o' := 34) K flX2_9 dX2_take_22 rfl rfl rfl ?_
  refine r_iconst (v := 0) K dX2_take_25 rfl ?_
  refine r_aload_n K dX2_take_26 0 rfl rfl ?_
  refine r_getI K flX2_24 dX2_take_27 rfl rfl ?_
  obtain ⟨g5_, hf⟩ := e_g hf
  obtain ⟨h6_, e7_, hf⟩ := e_l hf
  refine r_acopyi K lmX2_40 dX2_take_30 (kf7_0 hp0) rfl g5_ (Nat.le_of_ble_eq_true rfl) (Nat.le_of_ble_eq_true rfl) e7_ ?_
  refine r_aload_n K dX2_take_33 1 rfl rfl ?_
  refine r_getR (o' := (rf p0 2)) K flX2_46 dX2_take_34 hp0 rfl rfl ?_
  refine r_iconst (v := 0) K dX2_take_37 rfl ?_
  refine r_aload_n K dX2_take_38 0 rfl rfl ?_
  refine r_getR (o' := 35) K flX2_15 dX2_take_39 rfl rfl rfl ?_
  refine r_iconst (v := 0) K dX2_take_42 rfl ?_
  refine r_aload_n K dX2_take_43 0 rfl rfl ?_
  refine r_getI K flX2_24 dX2_take_44 rfl rfl ?_
  obtain ⟨g8_, hf⟩ := e_g hf
  obtain ⟨h9_, e10_, hf⟩ := e_l hf
  refine r_acopyi K lmX2_40 dX2_take_47 (kf7_2 hp0) rfl g8_ (Nat.le_of_ble_eq_true rfl) (Nat.le_of_ble_eq_true rfl) e10_ ?_
  refine r_aload_n K dX2_take_50 1 rfl rfl ?_
  refine r_getR (o' := (rf p0 5)) K flX2_47 dX2_take_51 hp0 rfl rfl ?_
  refine r_iconst (v := 0) K dX2_take_54 rfl ?_
  refine r_aload_n K dX2_take_55 0 rfl rfl ?_
  refine r_getR (o' := 36) K flX2_18 dX2_take_56 rfl rfl rfl ?_
  refine r_iconst (v := 0) K dX2_take_59 rfl ?_
  refine r_aload_n K dX2_take_60 0 rfl rfl ?_
  refine r_getI K flX2_24 dX2_take_61 rfl rfl ?_
  obtain ⟨g11_, hf⟩ := e_g hf
  obtain ⟨h12_, e13_, hf⟩ := e_l hf
  refine r_acopyi K lmX2_40 dX2_take_64 (kf7_5 hp0) rfl g11_ (Nat.le_of_ble_eq_true rfl) (Nat.le_of_ble_eq_true rfl) e13_ ?_
  refine r_aload_n K dX2_take_67 2 rfl rfl ?_
  refine r_iconst (v := 0) K dX2_take_68 rfl ?_
  refine r_aload_n K dX2_take_69 0 rfl rfl ?_
  refine r_getR (o' := 37) K flX2_21 dX2_take_70 rfl rfl rfl ?_
  refine r_iconst (v := 0) K dX2_take_73 rfl ?_
  refine r_iconst (v := 5) K dX2_take_74 rfl ?_
  obtain ⟨g14_, hf⟩ := e_g hf
  obtain ⟨h15_, e16_, hf⟩ := e_l hf
  refine r_acopyi K lmX2_40 dX2_take_75 rfl rfl g14_ (Nat.le_of_ble_eq_true rfl) (Nat.le_of_ble_eq_true rfl) e16_ ?_
  refine r_aload_n K dX2_take_78 0 rfl rfl ?_
  refine r_iconst (v := 1) K dX2_take_79 rfl ?_
  obtain ⟨h17_, e18_, hf⟩ := e_l hf
  refine r_putZ K fpX2_31 dX2_take_80 rfl rfl rfl e18_ ?_
  exact r_vret K Z dX2_take_83 hf
theorem conX2_take {G : GG} (p0 : Nat) (hp0 : KD p0 = (7, 12)) (h : AH) (h' : AH) (hf : fX2_take p0 h = some h') : Con G 1 yX2_take cX2_take 3 none [.ref 33, .ref p0, .ref 32] h (none) h' := con_of mwX2_take (Nat.le_of_ble_eq_true rfl) (fun E K Z => sX2_take K Z p0 hp0 h hf)
def fX3_become (h : AH) : Option AH :=
  if cpOK 0 0 121 121 121 = true then letV (cpI h 13 (ix 0) 16 (ix 0) (ix 121)) fun h2_ => letV (wI h2_ 15 1 (h2_.1 12 1)) fun h4_ => some h4_ else none
set_option maxRecDepth 10000 in
theorem sX3_become {G : GG} {E : EE} {h' : AH} (K : OK G E 1 RX3 cX3_become 2) (Z : RT G E none (none) h') (h : AH) (hf : fX3_become h = some h') : JJ G E 2 0 [(0, .ref 15), (1, .ref 12)] [] h := by
  unfold fX3_become at hf
  refine r_aload_n K dX3_become_0 1 rfl rfl ?_
  refine r_getR (o' := 13) K flX3_27 dX3_become_1 rfl rfl rfl ?_
  refine r_iconst (v := 0) K dX3_become_4 rfl ?_
  refine r_aload_n K dX3_become_5 0 rfl rfl ?_
  refine r_getR (o' := 16) K flX3_11 dX3_become_6 rfl rfl rfl ?_
  refine r_iconst (v := 0) K dX3_become_9 rfl ?_
  refine r_bipush (v := 121) K dX3_become_10 rfl ?_
  obtain ⟨g1_, hf⟩ := e_g hf
  obtain ⟨h2_, e3_, hf⟩ := e_l hf
  refine r_acopyi K lmX3_28 dX3_become_12 rfl rfl g1_ (Nat.le_of_ble_eq_true rfl) (Nat.le_of_ble_eq_true rfl) e3_ ?_
  refine r_aload_n K dX3_become_15 0 rfl rfl ?_
  refine r_aload_n K dX3_become_16 1 rfl rfl ?_
  refine r_getI K flX3_34 dX3_become_17 rfl rfl ?_
  obtain ⟨h4_, e5_, hf⟩ := e_l hf
  refine r_putI K fpX3_17 dX3_become_20 rfl rfl e5_ ?_
  exact r_vret K Z dX3_become_23 hf
theorem conX3_become {G : GG} (h : AH) (h' : AH) (hf : fX3_become h = some h') : Con G 1 yX3_become cX3_become 2 none [.ref 15, .ref 12] h (none) h' := con_of mwX3_become (Nat.le_of_ble_eq_true rfl) (fun E K Z => sX3_become K Z h hf)
def fX3_pop (h : AH) : Option (Int32 × AH) :=
  if 0 < (h.1 15 3) then letV (wI h 15 3 ((h.1 15 3) - 1)) fun h2_ => if inb (h2_.1 15 3) 121 = true then some ((h2_.1 17 (ix (h2_.1 15 3))), h2_) else none else some (0, h)
set_option maxRecDepth 10000 in
theorem sX3_pop {G : GG} {E : EE} {rv : Int32} {h' : AH} (K : OK G E 0 RX3 cX3_pop 1) (Z : RT G E (some .int) (some (.int rv)) h') (h : AH) (hf : fX3_pop h = some (rv, h')) : JJ G E 1 0 [(0, .ref 15)] [] h := by
  unfold fX3_pop at hf
  refine r_aload_n K dX3_pop_0 0 rfl rfl ?_
  refine r_getI K flX3_24 dX3_pop_1 rfl rfl ?_
  refine r_if_gt (tgt := 9) K dX3_pop_4 (by decide) (fun c1_ => ?_) (fun c1_ => ?_)
  · have hf := e_t hf c1_
    refine r_aload_n K dX3_pop_9 0 rfl rfl ?_
    refine r_dup K dX3_pop_10 rfl ?_
    refine r_getI K flX3_24 dX3_pop_11 rfl rfl ?_
    refine r_iconst (v := 1) K dX3_pop_14 rfl ?_
    refine r_isub K dX3_pop_15 ?_
    obtain ⟨h2_, e3_, hf⟩ := e_l hf
    refine r_putI K fpX3_24 dX3_pop_16 rfl rfl e3_ ?_
    refine r_aload_n K dX3_pop_19 0 rfl rfl ?_
    refine r_getR (o' := 17) K flX3_21 dX3_pop_20 rfl rfl rfl ?_
    refine r_aload_n K dX3_pop_23 0 rfl rfl ?_
    refine r_getI K flX3_24 dX3_pop_24 rfl rfl ?_
    obtain ⟨g4_, hf⟩ := e_g hf
    refine r_iald K dX3_pop_27 rfl g4_ ?_
    exact r_iret K Z dX3_pop_28 hf
  · have hf := e_f hf c1_
    refine r_iconst (v := 0) K dX3_pop_7 rfl ?_
    exact r_iret K Z dX3_pop_8 hf
theorem conX3_pop {G : GG} (h : AH) (rv : Int32) (h' : AH) (hf : fX3_pop h = some (rv, h')) : Con G 0 yX3_pop cX3_pop 1 (some .int) [.ref 15] h (some (.int rv)) h' := con_of mwX3_pop (Nat.le_of_ble_eq_true rfl) (fun E K Z => sX3_pop K Z h hf)
def fX3_push (p0 : Int32) (h : AH) : Option AH :=
  if 121 ≤ (h.1 15 3) then some h else if inb (h.1 15 3) 121 = true then letV (wI h 17 (ix (h.1 15 3)) p0) fun h3_ => letV (wI h3_ 15 3 ((h3_.1 15 3) + 1)) fun h5_ => some h5_ else none
set_option maxRecDepth 10000 in
theorem sX3_push {G : GG} {E : EE} {h' : AH} (K : OK G E 0 RX3 cX3_push 2) (Z : RT G E none (none) h') (p0 : Int32) (h : AH) (hf : fX3_push p0 h = some h') : JJ G E 2 0 [(0, .ref 15), (1, .int p0)] [] h := by
  unfold fX3_push at hf
  refine r_aload_n K dX3_push_0 0 rfl rfl ?_
  refine r_getI K flX3_24 dX3_push_1 rfl rfl ?_
  refine r_aload_n K dX3_push_4 0 rfl rfl ?_
  refine r_getR (o' := 17) K flX3_21 dX3_push_5 rfl rfl rfl ?_
  refine r_alen (v := 121) K dX3_push_8 rfl rfl ?_
  refine r_icmp_ge (tgt := 32) K dX3_push_9 (by decide) (fun c1_ => ?_) (fun c1_ => ?_)
  · have hf := e_t hf c1_
    exact r_vret K Z dX3_push_32 hf
  · have hf := e_f hf c1_
    refine r_aload_n K dX3_push_12 0 rfl rfl ?_
    refine r_getR (o' := 17) K flX3_21 dX3_push_13 rfl rfl rfl ?_
    refine r_aload_n K dX3_push_16 0 rfl rfl ?_
    refine r_getI K flX3_24 dX3_push_17 rfl rfl ?_
    refine r_iload_n K dX3_push_20 1 rfl rfl ?_
    obtain ⟨g2_, hf⟩ := e_g hf
    obtain ⟨h3_, e4_, hf⟩ := e_l hf
    refine r_iast K dX3_push_21 rfl g2_ e4_ ?_
    refine r_aload_n K dX3_push_22 0 rfl rfl ?_
    refine r_dup K dX3_push_23 rfl ?_
    refine r_getI K flX3_24 dX3_push_24 rfl rfl ?_
    refine r_iconst (v := 1) K dX3_push_27 rfl ?_
    refine r_iadd K dX3_push_28 ?_
    obtain ⟨h5_, e6_, hf⟩ := e_l hf
    refine r_putI K fpX3_24 dX3_push_29 rfl rfl e6_ ?_
    exact r_vret K Z dX3_push_32 hf
theorem conX3_push {G : GG} (p0 : Int32) (h : AH) (h' : AH) (hf : fX3_push p0 h = some h') : Con G 0 yX3_push cX3_push 2 none [.ref 15, .int p0] h (none) h' := con_of mwX3_push (Nat.le_of_ble_eq_true rfl) (fun E K Z => sX3_push K Z p0 h hf)
def fX3_worthOfTwo (p0 : Int32) (p1 : Int32) (p2 : Int32) (h : AH) : Option (Int32 × AH) :=
  if p0 = 38 then if p1 = 0 then some (0, h) else if p2 = 0 then some (0, h) else some (1, h) else if p0 = 42 then some ((p1 * p2), h) else if p0 = 43 then some ((p1 + p2), h) else if p0 = 45 then some ((p1 - p2), h) else if p0 = 47 then if p2 = 0 then some (0, h) else if p2 = 0 then none else some ((p1 / p2), h) else if p0 = 60 then if p2 ≤ p1 then some (0, h) else some (1, h) else if p0 = 61 then if p1 = p2 then some (1, h) else some (0, h) else if p0 = 62 then if p1 ≤ p2 then some (0, h) else some (1, h) else if p0 = 124 then if p1 = 0 then if p2 = 0 then some (0, h) else some (1, h) else some (1, h) else if p2 = 0 then some (0, h) else if p2 = 0 then none else some ((jrem p1 p2), h)
set_option maxRecDepth 10000 in
theorem sX3_worthOfTwo {G : GG} {E : EE} {rv : Int32} {h' : AH} (K : OK G E 0 RX3 cX3_worthOfTwo 3) (Z : RT G E (some .int) (some (.int rv)) h') (p0 : Int32) (p1 : Int32) (p2 : Int32) (h : AH) (hf : fX3_worthOfTwo p0 p1 p2 h = some (rv, h')) : JJ G E 3 0 [(0, .int p0), (1, .int p1), (2, .int p2)] [] h := by
  unfold fX3_worthOfTwo at hf
  refine r_iload_n K dX3_worthOfTwo_0 0 rfl rfl ?_
  by_cases c1_ : p0 = 38
  · have hf := e_t hf c1_
    refine r_look (off := 97) (tgt := 98) K dX3_worthOfTwo_1 (by decide) (by rw [c1_]; decide) (by decide) ?_
    refine r_iload_n K dX3_worthOfTwo_98 1 rfl rfl ?_
    refine r_if_eq (tgt := 110) K dX3_worthOfTwo_99 (by decide) (fun c2_ => ?_) (fun c2_ => ?_)
    · have hf := e_t hf c2_
      refine r_iconst (v := 0) K dX3_worthOfTwo_110 rfl ?_
      exact r_iret K Z dX3_worthOfTwo_111 hf
    · have hf := e_f hf c2_
      refine r_iload_n K dX3_worthOfTwo_102 2 rfl rfl ?_
      refine r_if_eq (tgt := 110) K dX3_worthOfTwo_103 (by decide) (fun c3_ => ?_) (fun c3_ => ?_)
      · have hf := e_t hf c3_
        refine r_iconst (v := 0) K dX3_worthOfTwo_110 rfl ?_
        exact r_iret K Z dX3_worthOfTwo_111 hf
      · have hf := e_f hf c3_
        refine r_iconst (v := 1) K dX3_worthOfTwo_106 rfl ?_
        refine r_goto (tgt := 111) K dX3_worthOfTwo_107 (by decide) ?_
        exact r_iret K Z dX3_worthOfTwo_111 hf
  have hf := e_f hf c1_
  by_cases c4_ : p0 = 42
  · have hf := e_t hf c4_
    refine r_look (off := 152) (tgt := 153) K dX3_worthOfTwo_1 (by decide) (by rw [c4_]; decide) (by decide) ?_
    refine r_iload_n K dX3_worthOfTwo_153 1 rfl rfl ?_
    refine r_iload_n K dX3_worthOfTwo_154 2 rfl rfl ?_
    refine r_imul K dX3_worthOfTwo_155 ?_
    exact r_iret K Z dX3_worthOfTwo_156 hf
  have hf := e_f hf c4_
  by_cases c5_ : p0 = 43
  · have hf := e_t hf c5_
    refine r_look (off := 144) (tgt := 145) K dX3_worthOfTwo_1 (by decide) (by rw [c5_]; decide) (by decide) ?_
    refine r_iload_n K dX3_worthOfTwo_145 1 rfl rfl ?_
    refine r_iload_n K dX3_worthOfTwo_146 2 rfl rfl ?_
    refine r_iadd K dX3_worthOfTwo_147 ?_
    exact r_iret K Z dX3_worthOfTwo_148 hf
  have hf := e_f hf c5_
  by_cases c6_ : p0 = 45
  · have hf := e_t hf c6_
    refine r_look (off := 148) (tgt := 149) K dX3_worthOfTwo_1 (by decide) (by rw [c6_]; decide) (by decide) ?_
    refine r_iload_n K dX3_worthOfTwo_149 1 rfl rfl ?_
    refine r_iload_n K dX3_worthOfTwo_150 2 rfl rfl ?_
    refine r_isub K dX3_worthOfTwo_151 ?_
    exact r_iret K Z dX3_worthOfTwo_152 hf
  have hf := e_f hf c6_
  by_cases c7_ : p0 = 47
  · have hf := e_t hf c7_
    refine r_look (off := 156) (tgt := 157) K dX3_worthOfTwo_1 (by decide) (by rw [c7_]; decide) (by decide) ?_
    refine r_iload_n K dX3_worthOfTwo_157 2 rfl rfl ?_
    refine r_if_ne (tgt := 165) K dX3_worthOfTwo_158 (by decide) (fun c8_ => ?_) (fun c8_ => ?_)
    · have hf := e_f hf c8_
      refine r_iload_n K dX3_worthOfTwo_165 1 rfl rfl ?_
      refine r_iload_n K dX3_worthOfTwo_166 2 rfl rfl ?_
      obtain ⟨g9_, hf⟩ := e_n hf
      refine r_idiv K dX3_worthOfTwo_167 g9_ ?_
      exact r_iret K Z dX3_worthOfTwo_168 hf
    · have hf := e_t hf c8_
      refine r_iconst (v := 0) K dX3_worthOfTwo_161 rfl ?_
      refine r_goto (tgt := 168) K dX3_worthOfTwo_162 (by decide) ?_
      exact r_iret K Z dX3_worthOfTwo_168 hf
  have hf := e_f hf c7_
  by_cases c10_ : p0 = 60
  · have hf := e_t hf c10_
    refine r_look (off := 111) (tgt := 112) K dX3_worthOfTwo_1 (by decide) (by rw [c10_]; decide) (by decide) ?_
    refine r_iload_n K dX3_worthOfTwo_112 1 rfl rfl ?_
    refine r_iload_n K dX3_worthOfTwo_113 2 rfl rfl ?_
    refine r_icmp_ge (tgt := 121) K dX3_worthOfTwo_114 (by decide) (fun c11_ => ?_) (fun c11_ => ?_)
    · have hf := e_t hf c11_
      refine r_iconst (v := 0) K dX3_worthOfTwo_121 rfl ?_
      exact r_iret K Z dX3_worthOfTwo_122 hf
    · have hf := e_f hf c11_
      refine r_iconst (v := 1) K dX3_worthOfTwo_117 rfl ?_
      refine r_goto (tgt := 122) K dX3_worthOfTwo_118 (by decide) ?_
      exact r_iret K Z dX3_worthOfTwo_122 hf
  have hf := e_f hf c10_
  by_cases c12_ : p0 = 61
  · have hf := e_t hf c12_
    refine r_look (off := 122) (tgt := 123) K dX3_worthOfTwo_1 (by decide) (by rw [c12_]; decide) (by decide) ?_
    refine r_iload_n K dX3_worthOfTwo_123 1 rfl rfl ?_
    refine r_iload_n K dX3_worthOfTwo_124 2 rfl rfl ?_
    refine r_icmp_ne (tgt := 132) K dX3_worthOfTwo_125 (by decide) (fun c13_ => ?_) (fun c13_ => ?_)
    · have hf := e_f hf c13_
      refine r_iconst (v := 0) K dX3_worthOfTwo_132 rfl ?_
      exact r_iret K Z dX3_worthOfTwo_133 hf
    · have hf := e_t hf c13_
      refine r_iconst (v := 1) K dX3_worthOfTwo_128 rfl ?_
      refine r_goto (tgt := 133) K dX3_worthOfTwo_129 (by decide) ?_
      exact r_iret K Z dX3_worthOfTwo_133 hf
  have hf := e_f hf c12_
  by_cases c14_ : p0 = 62
  · have hf := e_t hf c14_
    refine r_look (off := 133) (tgt := 134) K dX3_worthOfTwo_1 (by decide) (by rw [c14_]; decide) (by decide) ?_
    refine r_iload_n K dX3_worthOfTwo_134 1 rfl rfl ?_
    refine r_iload_n K dX3_worthOfTwo_135 2 rfl rfl ?_
    refine r_icmp_le (tgt := 143) K dX3_worthOfTwo_136 (by decide) (fun c15_ => ?_) (fun c15_ => ?_)
    · have hf := e_t hf c15_
      refine r_iconst (v := 0) K dX3_worthOfTwo_143 rfl ?_
      exact r_iret K Z dX3_worthOfTwo_144 hf
    · have hf := e_f hf c15_
      refine r_iconst (v := 1) K dX3_worthOfTwo_139 rfl ?_
      refine r_goto (tgt := 144) K dX3_worthOfTwo_140 (by decide) ?_
      exact r_iret K Z dX3_worthOfTwo_144 hf
  have hf := e_f hf c14_
  by_cases c16_ : p0 = 124
  · have hf := e_t hf c16_
    refine r_look (off := 83) (tgt := 84) K dX3_worthOfTwo_1 (by decide) (by rw [c16_]; decide) (by decide) ?_
    refine r_iload_n K dX3_worthOfTwo_84 1 rfl rfl ?_
    refine r_if_ne (tgt := 92) K dX3_worthOfTwo_85 (by decide) (fun c17_ => ?_) (fun c17_ => ?_)
    · have hf := e_f hf c17_
      refine r_iconst (v := 1) K dX3_worthOfTwo_92 rfl ?_
      refine r_goto (tgt := 97) K dX3_worthOfTwo_93 (by decide) ?_
      exact r_iret K Z dX3_worthOfTwo_97 hf
    · have hf := e_t hf c17_
      refine r_iload_n K dX3_worthOfTwo_88 2 rfl rfl ?_
      refine r_if_eq (tgt := 96) K dX3_worthOfTwo_89 (by decide) (fun c18_ => ?_) (fun c18_ => ?_)
      · have hf := e_t hf c18_
        refine r_iconst (v := 0) K dX3_worthOfTwo_96 rfl ?_
        exact r_iret K Z dX3_worthOfTwo_97 hf
      · have hf := e_f hf c18_
        refine r_iconst (v := 1) K dX3_worthOfTwo_92 rfl ?_
        refine r_goto (tgt := 97) K dX3_worthOfTwo_93 (by decide) ?_
        exact r_iret K Z dX3_worthOfTwo_97 hf
  have hf := e_f hf c16_
  refine r_look (off := 168) (tgt := 169) K dX3_worthOfTwo_1 (by decide) ((lv_osw c1_ (by decide)).trans ((lv_osw c4_ (by decide)).trans ((lv_osw c5_ (by decide)).trans ((lv_osw c6_ (by decide)).trans ((lv_osw c7_ (by decide)).trans ((lv_osw c10_ (by decide)).trans ((lv_osw c12_ (by decide)).trans ((lv_osw c14_ (by decide)).trans ((lv_osw c16_ (by decide)).trans (rfl)))))))))) (by decide) ?_
  refine r_iload_n K dX3_worthOfTwo_169 2 rfl rfl ?_
  refine r_if_ne (tgt := 177) K dX3_worthOfTwo_170 (by decide) (fun c19_ => ?_) (fun c19_ => ?_)
  · have hf := e_f hf c19_
    refine r_iload_n K dX3_worthOfTwo_177 1 rfl rfl ?_
    refine r_iload_n K dX3_worthOfTwo_178 2 rfl rfl ?_
    obtain ⟨g20_, hf⟩ := e_n hf
    refine r_irem K dX3_worthOfTwo_179 g20_ ?_
    exact r_iret K Z dX3_worthOfTwo_180 hf
  · have hf := e_t hf c19_
    refine r_iconst (v := 0) K dX3_worthOfTwo_173 rfl ?_
    refine r_goto (tgt := 180) K dX3_worthOfTwo_174 (by decide) ?_
    exact r_iret K Z dX3_worthOfTwo_180 hf
theorem conX3_worthOfTwo {G : GG} (p0 : Int32) (p1 : Int32) (p2 : Int32) (h : AH) (rv : Int32) (h' : AH) (hf : fX3_worthOfTwo p0 p1 p2 h = some (rv, h')) : Con G 0 yX3_worthOfTwo cX3_worthOfTwo 3 (some .int) [.int p0, .int p1, .int p2] h (some (.int rv)) h' := con_of mwX3_worthOfTwo (Nat.le_of_ble_eq_true rfl) (fun E K Z => sX3_worthOfTwo K Z p0 p1 p2 h hf)
def fX3_workOut_21 (p0 : Int32) (s0 : Int32) (h : AH) : Option AH :=
  bindV (fX3_push s0 h) fun h20_ => some h20_
set_option maxRecDepth 10000 in
theorem sX3_workOut_21 {G : GG} {E : EE} {h' : AH} (K : OK G E 1 RX3 cX3_workOut 3) (Z : RT G E none (none) h') (p0 : Int32) (s0 : Int32) (h : AH) (hf : fX3_workOut_21 p0 s0 h = some h') : JJ G E 3 21 [] [.int s0, .ref 15] h := by
  unfold fX3_workOut_21 at hf
  obtain ⟨h20_, g21_, hf⟩ := e_v hf
  refine r_callV (av := [.int s0]) (st := []) K lkX3_45 mwX3_push (conX3_push s0 h h20_ g21_) dX3_workOut_21 rfl (Nat.le_of_ble_eq_true rfl) rfl rfl (Nat.le_of_ble_eq_true rfl) ?_
  refine r_goto (tgt := 55) K dX3_workOut_24 (by decide) ?_
  exact r_vret K Z dX3_workOut_55 hf
def fX3_workOut (p0 : Int32) (h : AH) : Option AH :=
  bind2 (fX3_pop  h) fun r1_ h2_ => if p0 = 33 then if r1_ = 0 then fX3_workOut_21 p0 1 h2_ else fX3_workOut_21 p0 0 h2_ else if p0 = 126 then bindV (fX3_push (-r1_) h2_) fun h16_ => some h16_ else bind2 (fX3_pop  h2_) fun r6_ h7_ => bind2 (fX3_worthOfTwo p0 r6_ r1_ h7_) fun r9_ h10_ => bindV (fX3_push r9_ h10_) fun h13_ => some h13_
set_option maxRecDepth 10000 in
theorem sX3_workOut {G : GG} {E : EE} {h' : AH} (K : OK G E 1 RX3 cX3_workOut 3) (Z : RT G E none (none) h') (p0 : Int32) (h : AH) (hf : fX3_workOut p0 h = some h') : JJ G E 3 0 [(0, .ref 15), (1, .int p0)] [] h := by
  unfold fX3_workOut at hf
  refine r_aload_n K dX3_workOut_0 0 rfl rfl ?_
  obtain ⟨r1_, h2_, g3_, hf⟩ := e_2 hf
  refine r_callV (av := []) (st := []) K lkX3_59 mwX3_pop (conX3_pop  h r1_ h2_ g3_) dX3_workOut_1 rfl (Nat.le_of_ble_eq_true rfl) rfl rfl (Nat.le_of_ble_eq_true rfl) ?_
  refine r_istore_n (lv' := [(2, .int r1_), (0, .ref 15), (1, .int p0)]) K dX3_workOut_4 rfl (Nat.le_of_ble_eq_true rfl) rfl ?_
  refine r_iload_n K dX3_workOut_5 2 rfl rfl ?_
  refine r_bipush (v := 33) K dX3_workOut_6 rfl ?_
  refine r_icmp_ne (tgt := 27) K dX3_workOut_8 (by decide) (fun c4_ => ?_) (fun c4_ => ?_)
  · have hf := e_f hf c4_
    refine r_iload_n K dX3_workOut_27 2 rfl rfl ?_
    refine r_bipush (v := 126) K dX3_workOut_28 rfl ?_
    refine r_icmp_ne (tgt := 42) K dX3_workOut_30 (by decide) (fun c5_ => ?_) (fun c5_ => ?_)
    · have hf := e_f hf c5_
      refine r_aload_n K dX3_workOut_42 1 rfl rfl ?_
      refine r_iload_n K dX3_workOut_43 2 rfl rfl ?_
      refine r_aload_n K dX3_workOut_44 1 rfl rfl ?_
      obtain ⟨r6_, h7_, g8_, hf⟩ := e_2 hf
      refine r_callV (av := []) (st := [.int p0, .ref 15]) K lkX3_59 mwX3_pop (conX3_pop  h2_ r6_ h7_ g8_) dX3_workOut_45 rfl (Nat.le_of_ble_eq_true rfl) rfl rfl (Nat.le_of_ble_eq_true rfl) ?_
      refine r_iload_n K dX3_workOut_48 0 rfl rfl ?_
      obtain ⟨r9_, h10_, g11_, hf⟩ := e_2 hf
      refine r_callS (av := [.int p0, .int r6_, .int r1_]) (st := [.ref 15]) K lkX3_99 mwX3_worthOfTwo (conX3_worthOfTwo p0 r6_ r1_ h7_ r9_ h10_ g11_) dX3_workOut_49 (Nat.le_of_ble_eq_true rfl) rfl rfl (Nat.le_of_ble_eq_true rfl) ?_
      obtain ⟨h13_, g14_, hf⟩ := e_v hf
      refine r_callV (av := [.int r9_]) (st := []) K lkX3_45 mwX3_push (conX3_push r9_ h10_ h13_ g14_) dX3_workOut_52 rfl (Nat.le_of_ble_eq_true rfl) rfl rfl (Nat.le_of_ble_eq_true rfl) ?_
      exact r_vret K Z dX3_workOut_55 hf
    · have hf := e_t hf c5_
      refine r_aload_n K dX3_workOut_33 1 rfl rfl ?_
      refine r_iload_n K dX3_workOut_34 0 rfl rfl ?_
      refine r_ineg K dX3_workOut_35 ?_
      obtain ⟨h16_, g17_, hf⟩ := e_v hf
      refine r_callV (av := [.int (-r1_)]) (st := []) K lkX3_45 mwX3_push (conX3_push (-r1_) h2_ h16_ g17_) dX3_workOut_36 rfl (Nat.le_of_ble_eq_true rfl) rfl rfl (Nat.le_of_ble_eq_true rfl) ?_
      refine r_goto (tgt := 55) K dX3_workOut_39 (by decide) ?_
      exact r_vret K Z dX3_workOut_55 hf
  · have hf := e_t hf c4_
    refine r_aload_n K dX3_workOut_11 1 rfl rfl ?_
    refine r_iload_n K dX3_workOut_12 0 rfl rfl ?_
    refine r_if_ne (tgt := 20) K dX3_workOut_13 (by decide) (fun c18_ => ?_) (fun c18_ => ?_)
    · have hf := e_f hf c18_
      refine r_iconst (v := 0) K dX3_workOut_20 rfl ?_
      refine r_lv [] rfl ?_
      exact sX3_workOut_21 K Z p0 0 h2_ hf
    · have hf := e_t hf c18_
      refine r_iconst (v := 1) K dX3_workOut_16 rfl ?_
      refine r_goto (tgt := 21) K dX3_workOut_17 (by decide) ?_
      refine r_lv [] rfl ?_
      exact sX3_workOut_21 K Z p0 1 h2_ hf
theorem conX3_workOut {G : GG} (p0 : Int32) (h : AH) (h' : AH) (hf : fX3_workOut p0 h = some h') : Con G 1 yX3_workOut cX3_workOut 3 none [.ref 15, .int p0] h (none) h' := con_of mwX3_workOut (Nat.le_of_ble_eq_true rfl) (fun E K Z => sX3_workOut K Z p0 h hf)
def fX7_howManyLeft_4_b (t : Nat) (Q4 : Int32 → Int32 → AH → Option (Int32 × AH)) (x1 : Int32) (x2 : Int32) (h : AH) : Option (Int32 × AH) :=
  if (h.1 t 9) ≤ x2 then some (x1, h) else if inb x2 9 = true then letV ((x1 + (1 - (h.1 (rf t 5) (ix x2))))) fun x3_ => Q4 x3_ (x2 + 1) h else none
def fX7_howManyLeft_4 (t : Nat) : Nat → Int32 → Int32 → AH → Option (Int32 × AH)
  | 0 => fun _ _ _ => none
  | n + 1 => fX7_howManyLeft_4_b t (fX7_howManyLeft_4 t n)
set_option maxRecDepth 10000 in
theorem sX7_howManyLeft_4_b {G : GG} {E : EE} {rv : Int32} {h' : AH} (K : OK G E 0 RX7 cX7_howManyLeft 3) (Z : RT G E (some .int) (some (.int rv)) h') (t : Nat) (ht : KD t = (7, 12)) (Q4 : Int32 → Int32 → AH → Option (Int32 × AH)) (hQ4 : ∀ (x1 : Int32) (x2 : Int32) (h : AH), Q4 x1 x2 h = some (rv, h') → JJ G E 3 4 [(0, .ref t), (1, .int x1), (2, .int x2)] [] h) (x1 : Int32) (x2 : Int32) (h : AH) (hf : fX7_howManyLeft_4_b t Q4 x1 x2 h = some (rv, h')) : JJ G E 3 4 [(0, .ref t), (1, .int x1), (2, .int x2)] [] h := by
  unfold fX7_howManyLeft_4_b at hf
  refine r_iload_n K dX7_howManyLeft_4 2 rfl rfl ?_
  refine r_aload_n K dX7_howManyLeft_5 0 rfl rfl ?_
  refine r_getI K flX7_39 dX7_howManyLeft_6 ht rfl ?_
  refine r_icmp_ge (tgt := 29) K dX7_howManyLeft_9 (by decide) (fun c1_ => ?_) (fun c1_ => ?_)
  · have hf := e_t hf c1_
    refine r_iload_n K dX7_howManyLeft_29 1 rfl rfl ?_
    exact r_iret K Z dX7_howManyLeft_30 hf
  · have hf := e_f hf c1_
    refine r_iload_n K dX7_howManyLeft_12 1 rfl rfl ?_
    refine r_iconst (v := 1) K dX7_howManyLeft_13 rfl ?_
    refine r_aload_n K dX7_howManyLeft_14 0 rfl rfl ?_
    refine r_getR (o' := (rf t 5)) K flX7_27 dX7_howManyLeft_15 ht rfl rfl ?_
    refine r_iload_n K dX7_howManyLeft_18 2 rfl rfl ?_
    obtain ⟨g2_, hf⟩ := e_g hf
    refine r_iald K dX7_howManyLeft_19 (kf7_5 ht) g2_ ?_
    refine r_isub K dX7_howManyLeft_20 ?_
    refine r_iadd K dX7_howManyLeft_21 ?_
    obtain ⟨x3_, e4_, hf⟩ := e_l hf
    refine r_nmI e4_ ?_
    refine r_istore_n (lv' := [(1, .int x3_), (0, .ref t), (2, .int x2)]) K dX7_howManyLeft_22 rfl (Nat.le_of_ble_eq_true rfl) rfl ?_
    refine r_iinc (y := 1) (lv' := [(2, .int (x2 + 1)), (1, .int x3_), (0, .ref t)]) K dX7_howManyLeft_23 2 rfl rfl (Nat.le_of_ble_eq_true rfl) rfl ?_
    refine r_goto (tgt := 4) K dX7_howManyLeft_26 (by decide) ?_
    refine r_lv [2, 1, 0] rfl ?_
    exact hQ4 x3_ (x2 + 1) h hf
theorem sX7_howManyLeft_4 {G : GG} {E : EE} {rv : Int32} {h' : AH} (K : OK G E 0 RX7 cX7_howManyLeft 3) (Z : RT G E (some .int) (some (.int rv)) h') (t : Nat) (ht : KD t = (7, 12)) : ∀ (n : Nat) (x1 : Int32) (x2 : Int32) (h : AH), fX7_howManyLeft_4 t n x1 x2 h = some (rv, h') → JJ G E 3 4 [(0, .ref t), (1, .int x1), (2, .int x2)] [] h := by
  intro n
  induction n with
  | zero => intro x1 x2 h hf; cases hf
  | succ n ih => intro x1 x2 h hf; exact sX7_howManyLeft_4_b K Z t ht _ (fun x1 x2 h hf => ih x1 x2 h hf) x1 x2 h hf
def fX7_howManyLeft (t : Nat) (h : AH) : Option (Int32 × AH) :=
  fX7_howManyLeft_4 t FU 0 0 h
set_option maxRecDepth 10000 in
theorem sX7_howManyLeft {G : GG} {E : EE} {rv : Int32} {h' : AH} (K : OK G E 0 RX7 cX7_howManyLeft 3) (Z : RT G E (some .int) (some (.int rv)) h') (t : Nat) (ht : KD t = (7, 12)) (h : AH) (hf : fX7_howManyLeft t h = some (rv, h')) : JJ G E 3 0 [(0, .ref t)] [] h := by
  unfold fX7_howManyLeft at hf
  refine r_iconst (v := 0) K dX7_howManyLeft_0 rfl ?_
  refine r_istore_n (lv' := [(1, .int 0), (0, .ref t)]) K dX7_howManyLeft_1 rfl (Nat.le_of_ble_eq_true rfl) rfl ?_
  refine r_iconst (v := 0) K dX7_howManyLeft_2 rfl ?_
  refine r_istore_n (lv' := [(2, .int 0), (1, .int 0), (0, .ref t)]) K dX7_howManyLeft_3 rfl (Nat.le_of_ble_eq_true rfl) rfl ?_
  refine r_lv [2, 1, 0] rfl ?_
  exact sX7_howManyLeft_4 K Z t ht FU 0 0 h hf
theorem conX7_howManyLeft {G : GG} (t : Nat) (ht : KD t = (7, 12)) (h : AH) (rv : Int32) (h' : AH) (hf : fX7_howManyLeft t h = some (rv, h')) : Con G 0 yX7_howManyLeft cX7_howManyLeft 3 (some .int) [.ref t] h (some (.int rv)) h' := con_of mwX7_howManyLeft (Nat.le_of_ble_eq_true rfl) (fun E K Z => sX7_howManyLeft K Z t ht h hf)
def fX3_worthOfName (p0 : Int32) (p1 : Nat) (p2 : Int32) (h : AH) : Option (Int32 × AH) :=
  if p0 = 104 then if inb p2 9 = true then some ((h.1 (rf p1 3) (ix p2)), h) else none else if p0 = 105 then some (p2, h) else if p0 = 106 then some (p2, h) else if p0 = 107 then some (p2, h) else if p0 = 108 then if inb p2 9 = true then some ((h.1 (rf p1 2) (ix p2)), h) else none else if p0 = 109 then some ((h.1 p1 11), h) else if p0 = 110 then bind2 (fX7_howManyLeft p1 h) fun r10_ h11_ => some (r10_, h11_) else if p0 = 111 then some (p2, h) else if p0 = 112 then some (p2, h) else if p0 = 113 then some (p2, h) else if p0 = 114 then if inb p2 9 = true then some ((h.1 (rf p1 0) (ix p2)), h) else none else some (p2, h)
set_option maxRecDepth 10000 in
theorem sX3_worthOfName {G : GG} {E : EE} {rv : Int32} {h' : AH} (K : OK G E 1 RX3 cX3_worthOfName 3) (Z : RT G E (some .int) (some (.int rv)) h') (p0 : Int32) (p1 : Nat) (p2 : Int32) (hp1 : KD p1 = (7, 12)) (h : AH) (hf : fX3_worthOfName p0 p1 p2 h = some (rv, h')) : JJ G E 3 0 [(0, .int p0), (1, .ref p1), (2, .int p2)] [] h := by
  unfold fX3_worthOfName at hf
  refine r_iload_n K dX3_worthOfName_0 0 rfl rfl ?_
  by_cases c1_ : p0 = 104
  · have hf := e_t hf c1_
    refine r_tblIn (off := 73) (tgt := 74) K dX3_worthOfName_1 (by rw [c1_]; decide) (by rw [c1_]; decide) (by rw [c1_]; decide) (by decide) ?_
    refine r_aload_n K dX3_worthOfName_74 1 rfl rfl ?_
    refine r_getR (o' := (rf p1 3)) K flX3_90 dX3_worthOfName_75 hp1 rfl rfl ?_
    refine r_iload_n K dX3_worthOfName_78 2 rfl rfl ?_
    obtain ⟨g2_, hf⟩ := e_g hf
    refine r_iald K dX3_worthOfName_79 (kf7_3 hp1) g2_ ?_
    exact r_iret K Z dX3_worthOfName_80 hf
  have hf := e_f hf c1_
  by_cases c3_ : p0 = 105
  · have hf := e_t hf c3_
    refine r_tblIn (off := 90) (tgt := 91) K dX3_worthOfName_1 (by rw [c3_]; decide) (by rw [c3_]; decide) (by rw [c3_]; decide) (by decide) ?_
    refine r_iload_n K dX3_worthOfName_91 2 rfl rfl ?_
    exact r_iret K Z dX3_worthOfName_92 hf
  have hf := e_f hf c3_
  by_cases c4_ : p0 = 106
  · have hf := e_t hf c4_
    refine r_tblIn (off := 90) (tgt := 91) K dX3_worthOfName_1 (by rw [c4_]; decide) (by rw [c4_]; decide) (by rw [c4_]; decide) (by decide) ?_
    refine r_iload_n K dX3_worthOfName_91 2 rfl rfl ?_
    exact r_iret K Z dX3_worthOfName_92 hf
  have hf := e_f hf c4_
  by_cases c5_ : p0 = 107
  · have hf := e_t hf c5_
    refine r_tblIn (off := 90) (tgt := 91) K dX3_worthOfName_1 (by rw [c5_]; decide) (by rw [c5_]; decide) (by rw [c5_]; decide) (by decide) ?_
    refine r_iload_n K dX3_worthOfName_91 2 rfl rfl ?_
    exact r_iret K Z dX3_worthOfName_92 hf
  have hf := e_f hf c5_
  by_cases c6_ : p0 = 108
  · have hf := e_t hf c6_
    refine r_tblIn (off := 66) (tgt := 67) K dX3_worthOfName_1 (by rw [c6_]; decide) (by rw [c6_]; decide) (by rw [c6_]; decide) (by decide) ?_
    refine r_aload_n K dX3_worthOfName_67 1 rfl rfl ?_
    refine r_getR (o' := (rf p1 2)) K flX3_87 dX3_worthOfName_68 hp1 rfl rfl ?_
    refine r_iload_n K dX3_worthOfName_71 2 rfl rfl ?_
    obtain ⟨g7_, hf⟩ := e_g hf
    refine r_iald K dX3_worthOfName_72 (kf7_2 hp1) g7_ ?_
    exact r_iret K Z dX3_worthOfName_73 hf
  have hf := e_f hf c6_
  by_cases c8_ : p0 = 109
  · have hf := e_t hf c8_
    refine r_tblIn (off := 80) (tgt := 81) K dX3_worthOfName_1 (by rw [c8_]; decide) (by rw [c8_]; decide) (by rw [c8_]; decide) (by decide) ?_
    refine r_aload_n K dX3_worthOfName_81 1 rfl rfl ?_
    refine r_getI K flX3_93 dX3_worthOfName_82 hp1 rfl ?_
    exact r_iret K Z dX3_worthOfName_85 hf
  have hf := e_f hf c8_
  by_cases c9_ : p0 = 110
  · have hf := e_t hf c9_
    refine r_tblIn (off := 85) (tgt := 86) K dX3_worthOfName_1 (by rw [c9_]; decide) (by rw [c9_]; decide) (by rw [c9_]; decide) (by decide) ?_
    refine r_aload_n K dX3_worthOfName_86 1 rfl rfl ?_
    obtain ⟨r10_, h11_, g12_, hf⟩ := e_2 hf
    refine r_callV (av := []) (st := []) K lkX3_96 mwX7_howManyLeft (conX7_howManyLeft p1 hp1 h r10_ h11_ g12_) dX3_worthOfName_87 hp1 (Nat.le_of_ble_eq_true rfl) rfl rfl (Nat.le_of_ble_eq_true rfl) ?_
    exact r_iret K Z dX3_worthOfName_90 hf
  have hf := e_f hf c9_
  by_cases c13_ : p0 = 111
  · have hf := e_t hf c13_
    refine r_tblIn (off := 90) (tgt := 91) K dX3_worthOfName_1 (by rw [c13_]; decide) (by rw [c13_]; decide) (by rw [c13_]; decide) (by decide) ?_
    refine r_iload_n K dX3_worthOfName_91 2 rfl rfl ?_
    exact r_iret K Z dX3_worthOfName_92 hf
  have hf := e_f hf c13_
  by_cases c14_ : p0 = 112
  · have hf := e_t hf c14_
    refine r_tblIn (off := 90) (tgt := 91) K dX3_worthOfName_1 (by rw [c14_]; decide) (by rw [c14_]; decide) (by rw [c14_]; decide) (by decide) ?_
    refine r_iload_n K dX3_worthOfName_91 2 rfl rfl ?_
    exact r_iret K Z dX3_worthOfName_92 hf
  have hf := e_f hf c14_
  by_cases c15_ : p0 = 113
  · have hf := e_t hf c15_
    refine r_tblIn (off := 90) (tgt := 91) K dX3_worthOfName_1 (by rw [c15_]; decide) (by rw [c15_]; decide) (by rw [c15_]; decide) (by decide) ?_
    refine r_iload_n K dX3_worthOfName_91 2 rfl rfl ?_
    exact r_iret K Z dX3_worthOfName_92 hf
  have hf := e_f hf c15_
  by_cases c16_ : p0 = 114
  · have hf := e_t hf c16_
    refine r_tblIn (off := 59) (tgt := 60) K dX3_worthOfName_1 (by rw [c16_]; decide) (by rw [c16_]; decide) (by rw [c16_]; decide) (by decide) ?_
    refine r_aload_n K dX3_worthOfName_60 1 rfl rfl ?_
    refine r_getR (o' := (rf p1 0)) K flX3_84 dX3_worthOfName_61 hp1 rfl rfl ?_
    refine r_iload_n K dX3_worthOfName_64 2 rfl rfl ?_
    obtain ⟨g17_, hf⟩ := e_g hf
    refine r_iald K dX3_worthOfName_65 (kf7_0 hp1) g17_ ?_
    exact r_iret K Z dX3_worthOfName_66 hf
  have hf := e_f hf c16_
  have hout : p0.toInt < 104 ∨ 114 < p0.toInt := by
    have zc1_ := lv_neT (a := 104) c1_ (by decide)
    have zc3_ := lv_neT (a := 105) c3_ (by decide)
    have zc4_ := lv_neT (a := 106) c4_ (by decide)
    have zc5_ := lv_neT (a := 107) c5_ (by decide)
    have zc6_ := lv_neT (a := 108) c6_ (by decide)
    have zc8_ := lv_neT (a := 109) c8_ (by decide)
    have zc9_ := lv_neT (a := 110) c9_ (by decide)
    have zc13_ := lv_neT (a := 111) c13_ (by decide)
    have zc14_ := lv_neT (a := 112) c14_ (by decide)
    have zc15_ := lv_neT (a := 113) c15_ (by decide)
    have zc16_ := lv_neT (a := 114) c16_ (by decide)
    omega
  refine r_tblOut (tgt := 91) K dX3_worthOfName_1 hout (by decide) ?_
  refine r_iload_n K dX3_worthOfName_91 2 rfl rfl ?_
  exact r_iret K Z dX3_worthOfName_92 hf
theorem conX3_worthOfName {G : GG} (p0 : Int32) (p1 : Nat) (p2 : Int32) (hp1 : KD p1 = (7, 12)) (h : AH) (rv : Int32) (h' : AH) (hf : fX3_worthOfName p0 p1 p2 h = some (rv, h')) : Con G 1 yX3_worthOfName cX3_worthOfName 3 (some .int) [.int p0, .ref p1, .int p2] h (some (.int rv)) h' := con_of mwX3_worthOfName (Nat.le_of_ble_eq_true rfl) (fun E K Z => sX3_worthOfName K Z p0 p1 p2 hp1 h hf)
def fX3_worthWithoutText (p0 : Nat) (p1 : Int32) (h : AH) : Option (Int32 × AH) :=
  if inb p1 9 = true then if (h.1 (rf p0 3) (ix p1)) = 0 then some ((((h.1 (rf p0 0) (ix p1)) + (2 * (h.1 (rf p0 2) (ix p1)))) - 5), h) else some ((((h.1 (rf p0 0) (ix p1)) + (2 * (h.1 (rf p0 2) (ix p1)))) - 0), h) else none
set_option maxRecDepth 10000 in
theorem sX3_worthWithoutText {G : GG} {E : EE} {rv : Int32} {h' : AH} (K : OK G E 0 RX3 cX3_worthWithoutText 2) (Z : RT G E (some .int) (some (.int rv)) h') (p0 : Nat) (p1 : Int32) (hp0 : KD p0 = (7, 12)) (h : AH) (hf : fX3_worthWithoutText p0 p1 h = some (rv, h')) : JJ G E 2 0 [(0, .ref p0), (1, .int p1)] [] h := by
  unfold fX3_worthWithoutText at hf
  refine r_aload_n K dX3_worthWithoutText_0 0 rfl rfl ?_
  refine r_getR (o' := (rf p0 0)) K flX3_84 dX3_worthWithoutText_1 hp0 rfl rfl ?_
  refine r_iload_n K dX3_worthWithoutText_4 1 rfl rfl ?_
  obtain ⟨g1_, hf⟩ := e_g hf
  refine r_iald K dX3_worthWithoutText_5 (kf7_0 hp0) g1_ ?_
  refine r_iconst (v := 2) K dX3_worthWithoutText_6 rfl ?_
  refine r_aload_n K dX3_worthWithoutText_7 0 rfl rfl ?_
  refine r_getR (o' := (rf p0 2)) K flX3_87 dX3_worthWithoutText_8 hp0 rfl rfl ?_
  refine r_iload_n K dX3_worthWithoutText_11 1 rfl rfl ?_
  refine r_iald K dX3_worthWithoutText_12 (kf7_2 hp0) g1_ ?_
  refine r_imul K dX3_worthWithoutText_13 ?_
  refine r_iadd K dX3_worthWithoutText_14 ?_
  refine r_aload_n K dX3_worthWithoutText_15 0 rfl rfl ?_
  refine r_getR (o' := (rf p0 3)) K flX3_90 dX3_worthWithoutText_16 hp0 rfl rfl ?_
  refine r_iload_n K dX3_worthWithoutText_19 1 rfl rfl ?_
  refine r_iald K dX3_worthWithoutText_20 (kf7_3 hp0) g1_ ?_
  refine r_if_ne (tgt := 28) K dX3_worthWithoutText_21 (by decide) (fun c4_ => ?_) (fun c4_ => ?_)
  · have hf := e_f hf c4_
    refine r_iconst (v := 0) K dX3_worthWithoutText_28 rfl ?_
    refine r_isub K dX3_worthWithoutText_29 ?_
    exact r_iret K Z dX3_worthWithoutText_30 hf
  · have hf := e_t hf c4_
    refine r_iconst (v := 5) K dX3_worthWithoutText_24 rfl ?_
    refine r_goto (tgt := 29) K dX3_worthWithoutText_25 (by decide) ?_
    refine r_isub K dX3_worthWithoutText_29 ?_
    exact r_iret K Z dX3_worthWithoutText_30 hf
theorem conX3_worthWithoutText {G : GG} (p0 : Nat) (p1 : Int32) (hp0 : KD p0 = (7, 12)) (h : AH) (rv : Int32) (h' : AH) (hf : fX3_worthWithoutText p0 p1 h = some (rv, h')) : Con G 0 yX3_worthWithoutText cX3_worthWithoutText 2 (some .int) [.ref p0, .int p1] h (some (.int rv)) h' := con_of mwX3_worthWithoutText (Nat.le_of_ble_eq_true rfl) (fun E K Z => sX3_worthWithoutText K Z p0 p1 hp0 h hf)
def fX4_isName (p0 : Int32) (h : AH) : Option (Int32 × AH) :=
  if p0 = 114 then some (1, h) else if p0 = 108 then some (1, h) else if p0 = 104 then some (1, h) else if p0 = 109 then some (1, h) else if p0 = 110 then some (1, h) else if p0 = 103 then some (1, h) else some (0, h)
set_option maxRecDepth 10000 in
theorem sX4_isName {G : GG} {E : EE} {rv : Int32} {h' : AH} (K : OK G E 0 RX4 cX4_isName 1) (Z : RT G E (some .boolean) (some (.int rv)) h') (p0 : Int32) (h : AH) (hf : fX4_isName p0 h = some (rv, h')) : JJ G E 1 0 [(0, .int p0)] [] h := by
  unfold fX4_isName at hf
  refine r_iload_n K dX4_isName_0 0 rfl rfl ?_
  refine r_bipush (v := 114) K dX4_isName_1 rfl ?_
  refine r_icmp_eq (tgt := 36) K dX4_isName_3 (by decide) (fun c1_ => ?_) (fun c1_ => ?_)
  · have hf := e_t hf c1_
    refine r_iconst (v := 1) K dX4_isName_36 rfl ?_
    refine r_goto (tgt := 41) K dX4_isName_37 (by decide) ?_
    exact r_zret K Z dX4_isName_41 rfl hf
  · have hf := e_f hf c1_
    refine r_iload_n K dX4_isName_6 0 rfl rfl ?_
    refine r_bipush (v := 108) K dX4_isName_7 rfl ?_
    refine r_icmp_eq (tgt := 36) K dX4_isName_9 (by decide) (fun c2_ => ?_) (fun c2_ => ?_)
    · have hf := e_t hf c2_
      refine r_iconst (v := 1) K dX4_isName_36 rfl ?_
      refine r_goto (tgt := 41) K dX4_isName_37 (by decide) ?_
      exact r_zret K Z dX4_isName_41 rfl hf
    · have hf := e_f hf c2_
      refine r_iload_n K dX4_isName_12 0 rfl rfl ?_
      refine r_bipush (v := 104) K dX4_isName_13 rfl ?_
      refine r_icmp_eq (tgt := 36) K dX4_isName_15 (by decide) (fun c3_ => ?_) (fun c3_ => ?_)
      · have hf := e_t hf c3_
        refine r_iconst (v := 1) K dX4_isName_36 rfl ?_
        refine r_goto (tgt := 41) K dX4_isName_37 (by decide) ?_
        exact r_zret K Z dX4_isName_41 rfl hf
      · have hf := e_f hf c3_
        refine r_iload_n K dX4_isName_18 0 rfl rfl ?_
        refine r_bipush (v := 109) K dX4_isName_19 rfl ?_
        refine r_icmp_eq (tgt := 36) K dX4_isName_21 (by decide) (fun c4_ => ?_) (fun c4_ => ?_)
        · have hf := e_t hf c4_
          refine r_iconst (v := 1) K dX4_isName_36 rfl ?_
          refine r_goto (tgt := 41) K dX4_isName_37 (by decide) ?_
          exact r_zret K Z dX4_isName_41 rfl hf
        · have hf := e_f hf c4_
          refine r_iload_n K dX4_isName_24 0 rfl rfl ?_
          refine r_bipush (v := 110) K dX4_isName_25 rfl ?_
          refine r_icmp_eq (tgt := 36) K dX4_isName_27 (by decide) (fun c5_ => ?_) (fun c5_ => ?_)
          · have hf := e_t hf c5_
            refine r_iconst (v := 1) K dX4_isName_36 rfl ?_
            refine r_goto (tgt := 41) K dX4_isName_37 (by decide) ?_
            exact r_zret K Z dX4_isName_41 rfl hf
          · have hf := e_f hf c5_
            refine r_iload_n K dX4_isName_30 0 rfl rfl ?_
            refine r_bipush (v := 103) K dX4_isName_31 rfl ?_
            refine r_icmp_ne (tgt := 40) K dX4_isName_33 (by decide) (fun c6_ => ?_) (fun c6_ => ?_)
            · have hf := e_f hf c6_
              refine r_iconst (v := 0) K dX4_isName_40 rfl ?_
              exact r_zret K Z dX4_isName_41 rfl hf
            · have hf := e_t hf c6_
              refine r_iconst (v := 1) K dX4_isName_36 rfl ?_
              refine r_goto (tgt := 41) K dX4_isName_37 (by decide) ?_
              exact r_zret K Z dX4_isName_41 rfl hf
theorem conX4_isName {G : GG} (p0 : Int32) (h : AH) (rv : Int32) (h' : AH) (hf : fX4_isName p0 h = some (rv, h')) : Con G 0 yX4_isName cX4_isName 1 (some .boolean) [.int p0] h (some (.int rv)) h' := con_of mwX4_isName (Nat.le_of_ble_eq_true rfl) (fun E K Z => sX4_isName K Z p0 h hf)
def fX3_readOf_161 (p0 : Nat) (p1 : Int32) (x3 : Int32) (h : AH) : Option (Int32 × AH) :=
  some ((jmax 0 (jmin 99 x3)), h)
set_option maxRecDepth 10000 in
theorem sX3_readOf_161 {G : GG} {E : EE} {rv : Int32} {h' : AH} (K : OK G E 2 RX3 cX3_readOf 8) (Z : RT G E (some .int) (some (.int rv)) h') (p0 : Nat) (p1 : Int32) (hp0 : KD p0 = (7, 12)) (x3 : Int32) (h : AH) (hf : fX3_readOf_161 p0 p1 x3 h = some (rv, h')) : JJ G E 8 161 [(3, .int x3)] [] h := by
  unfold fX3_readOf_161 at hf
  refine r_iconst (v := 0) K dX3_readOf_161 rfl ?_
  refine r_bipush (v := 99) K dX3_readOf_162 rfl ?_
  refine r_iload_n K dX3_readOf_164 0 rfl rfl ?_
  refine r_mmin K lmX3_63 dX3_readOf_165 (Nat.le_of_ble_eq_true rfl) (Nat.le_of_ble_eq_true rfl) ?_
  refine r_mmax K lmX3_69 dX3_readOf_168 (Nat.le_of_ble_eq_true rfl) (Nat.le_of_ble_eq_true rfl) ?_
  exact r_iret K Z dX3_readOf_171 hf
def fX3_readOf_141 (p0 : Nat) (p1 : Int32) (Q38 : Int32 → Int32 → Int32 → Int32 → AH → Option (Int32 × AH)) (x2 : Int32) (x5 : Int32) (x7 : Int32) (s0 : Int32) (h : AH) : Option (Int32 × AH) :=
  if s0 = 0 then Q38 x2 0 s0 (x5 + 1) h else Q38 x2 x7 s0 (x5 + 1) h
set_option maxRecDepth 10000 in
theorem sX3_readOf_141 {G : GG} {E : EE} {rv : Int32} {h' : AH} (K : OK G E 2 RX3 cX3_readOf 8) (Z : RT G E (some .int) (some (.int rv)) h') (p0 : Nat) (p1 : Int32) (hp0 : KD p0 = (7, 12)) (Q38 : Int32 → Int32 → Int32 → Int32 → AH → Option (Int32 × AH)) (hQ38 : ∀ (x2 : Int32) (x3 : Int32) (x4 : Int32) (x5 : Int32) (h : AH), Q38 x2 x3 x4 x5 h = some (rv, h') → JJ G E 8 38 [(0, .ref 15), (1, .ref p0), (2, .int x2), (3, .int x3), (4, .int x4), (5, .int x5)] [] h) (x2 : Int32) (x5 : Int32) (x7 : Int32) (s0 : Int32) (h : AH) (hf : fX3_readOf_141 p0 p1 Q38 x2 x5 x7 s0 h = some (rv, h')) : JJ G E 8 141 [(0, .ref 15), (1, .ref p0), (2, .int x2), (5, .int x5), (7, .int x7)] [.int s0] h := by
  unfold fX3_readOf_141 at hf
  refine r_istore (lv' := [(4, .int s0), (0, .ref 15), (1, .ref p0), (2, .int x2), (5, .int x5), (7, .int x7)]) K dX3_readOf_141 (Nat.le_of_ble_eq_true rfl) rfl ?_
  refine r_iload K dX3_readOf_143 0 rfl ?_
  refine r_if_eq (tgt := 153) K dX3_readOf_145 (by decide) (fun c23_ => ?_) (fun c23_ => ?_)
  · have hf := e_t hf c23_
    refine r_iconst (v := 0) K dX3_readOf_153 rfl ?_
    refine r_istore_n (lv' := [(3, .int 0), (4, .int s0), (0, .ref 15), (1, .ref p0), (2, .int x2), (5, .int x5), (7, .int x7)]) K dX3_readOf_154 rfl (Nat.le_of_ble_eq_true rfl) rfl ?_
    refine r_iinc (y := 1) (lv' := [(5, .int (x5 + 1)), (3, .int 0), (4, .int s0), (0, .ref 15), (1, .ref p0), (2, .int x2), (7, .int x7)]) K dX3_readOf_155 5 rfl rfl (Nat.le_of_ble_eq_true rfl) rfl ?_
    refine r_goto (tgt := 38) K dX3_readOf_158 (by decide) ?_
    refine r_lv [3, 4, 5, 1, 2, 0] rfl ?_
    exact hQ38 x2 0 s0 (x5 + 1) h hf
  · have hf := e_f hf c23_
    refine r_iload K dX3_readOf_148 5 rfl ?_
    refine r_goto (tgt := 154) K dX3_readOf_150 (by decide) ?_
    refine r_istore_n (lv' := [(3, .int x7), (4, .int s0), (0, .ref 15), (1, .ref p0), (2, .int x2), (5, .int x5), (7, .int x7)]) K dX3_readOf_154 rfl (Nat.le_of_ble_eq_true rfl) rfl ?_
    refine r_iinc (y := 1) (lv' := [(5, .int (x5 + 1)), (3, .int x7), (4, .int s0), (0, .ref 15), (1, .ref p0), (2, .int x2), (7, .int x7)]) K dX3_readOf_155 5 rfl rfl (Nat.le_of_ble_eq_true rfl) rfl ?_
    refine r_goto (tgt := 38) K dX3_readOf_158 (by decide) ?_
    refine r_lv [3, 4, 5, 1, 2, 0] rfl ?_
    exact hQ38 x2 x7 s0 (x5 + 1) h hf
def fX3_readOf_136 (p0 : Nat) (p1 : Int32) (Q38 : Int32 → Int32 → Int32 → Int32 → AH → Option (Int32 × AH)) (x2 : Int32) (x5 : Int32) (x7 : Int32) (h : AH) : Option (Int32 × AH) :=
  fX3_readOf_141 p0 p1 Q38 x2 x5 x7 1 h
set_option maxRecDepth 10000 in
theorem sX3_readOf_136 {G : GG} {E : EE} {rv : Int32} {h' : AH} (K : OK G E 2 RX3 cX3_readOf 8) (Z : RT G E (some .int) (some (.int rv)) h') (p0 : Nat) (p1 : Int32) (hp0 : KD p0 = (7, 12)) (Q38 : Int32 → Int32 → Int32 → Int32 → AH → Option (Int32 × AH)) (hQ38 : ∀ (x2 : Int32) (x3 : Int32) (x4 : Int32) (x5 : Int32) (h : AH), Q38 x2 x3 x4 x5 h = some (rv, h') → JJ G E 8 38 [(0, .ref 15), (1, .ref p0), (2, .int x2), (3, .int x3), (4, .int x4), (5, .int x5)] [] h) (x2 : Int32) (x5 : Int32) (x7 : Int32) (h : AH) (hf : fX3_readOf_136 p0 p1 Q38 x2 x5 x7 h = some (rv, h')) : JJ G E 8 136 [(0, .ref 15), (1, .ref p0), (2, .int x2), (5, .int x5), (7, .int x7)] [] h := by
  unfold fX3_readOf_136 at hf
  refine r_iconst (v := 1) K dX3_readOf_136 rfl ?_
  refine r_goto (tgt := 141) K dX3_readOf_137 (by decide) ?_
  refine r_lv [0, 1, 2, 3, 4] rfl ?_
  exact sX3_readOf_141 K Z p0 p1 hp0 Q38 hQ38 x2 x5 x7 1 h hf
def fX3_readOf_38_b (p0 : Nat) (p1 : Int32) (Q38 : Int32 → Int32 → Int32 → Int32 → AH → Option (Int32 × AH)) (x2 : Int32) (x3 : Int32) (x4 : Int32) (x5 : Int32) (h : AH) : Option (Int32 × AH) :=
  if (h.1 15 1) ≤ x5 then fX3_readOf_161 p0 p1 x3 h else if x4 = 0 then if inb x5 121 = true then letV ((h.1 16 (ix x5))) fun x11_ => if x11_ < 0 then bind2 (fX4_isName (-x11_) h) fun r14_ h15_ => if r14_ = 0 then if x11_ = (-59) then bind2 (fX3_pop  h15_) fun r19_ h20_ => if (h20_.1 15 3) = 0 then fX3_readOf_136 p0 p1 Q38 x2 x5 r19_ h20_ else bind2 (fX3_pop  h20_) fun r24_ h25_ => if r24_ = 0 then fX3_readOf_141 p0 p1 Q38 x2 x5 r19_ 0 h25_ else fX3_readOf_136 p0 p1 Q38 x2 x5 r19_ h25_ else bindV (fX3_workOut (-x11_) h15_) fun h29_ => Q38 x2 x3 x4 (x5 + 1) h29_ else bind2 (fX3_worthOfName (-x11_) p0 x2 h15_) fun r31_ h32_ => bindV (fX3_push r31_ h32_) fun h35_ => Q38 x2 x3 x4 (x5 + 1) h35_ else bindV (fX3_push x11_ h) fun h38_ => Q38 x2 x3 x4 (x5 + 1) h38_ else none else fX3_readOf_161 p0 p1 x3 h
def fX3_readOf_38 (p0 : Nat) (p1 : Int32) : Nat → Int32 → Int32 → Int32 → Int32 → AH → Option (Int32 × AH)
  | 0 => fun _ _ _ _ _ => none
  | n + 1 => fX3_readOf_38_b p0 p1 (fX3_readOf_38 p0 p1 n)
set_option maxRecDepth 10000 in
theorem sX3_readOf_38_b {G : GG} {E : EE} {rv : Int32} {h' : AH} (K : OK G E 2 RX3 cX3_readOf 8) (Z : RT G E (some .int) (some (.int rv)) h') (p0 : Nat) (p1 : Int32) (hp0 : KD p0 = (7, 12)) (Q38 : Int32 → Int32 → Int32 → Int32 → AH → Option (Int32 × AH)) (hQ38 : ∀ (x2 : Int32) (x3 : Int32) (x4 : Int32) (x5 : Int32) (h : AH), Q38 x2 x3 x4 x5 h = some (rv, h') → JJ G E 8 38 [(0, .ref 15), (1, .ref p0), (2, .int x2), (3, .int x3), (4, .int x4), (5, .int x5)] [] h) (x2 : Int32) (x3 : Int32) (x4 : Int32) (x5 : Int32) (h : AH) (hf : fX3_readOf_38_b p0 p1 Q38 x2 x3 x4 x5 h = some (rv, h')) : JJ G E 8 38 [(0, .ref 15), (1, .ref p0), (2, .int x2), (3, .int x3), (4, .int x4), (5, .int x5)] [] h := by
  unfold fX3_readOf_38_b at hf
  refine r_iload K dX3_readOf_38 5 rfl ?_
  refine r_aload_n K dX3_readOf_40 0 rfl rfl ?_
  refine r_getI K flX3_17 dX3_readOf_41 rfl rfl ?_
  refine r_icmp_ge (tgt := 161) K dX3_readOf_44 (by decide) (fun c8_ => ?_) (fun c8_ => ?_)
  · have hf := e_t hf c8_
    refine r_lv [3] rfl ?_
    exact sX3_readOf_161 K Z p0 p1 hp0 x3 h hf
  · have hf := e_f hf c8_
    refine r_iload K dX3_readOf_47 4 rfl ?_
    refine r_if_ne (tgt := 161) K dX3_readOf_49 (by decide) (fun c9_ => ?_) (fun c9_ => ?_)
    · have hf := e_f hf c9_
      refine r_lv [3] rfl ?_
      exact sX3_readOf_161 K Z p0 p1 hp0 x3 h hf
    · have hf := e_t hf c9_
      refine r_aload_n K dX3_readOf_52 0 rfl rfl ?_
      refine r_getR (o' := 16) K flX3_11 dX3_readOf_53 rfl rfl rfl ?_
      refine r_iload K dX3_readOf_56 5 rfl ?_
      obtain ⟨g10_, hf⟩ := e_g hf
      refine r_iald K dX3_readOf_58 rfl g10_ ?_
      obtain ⟨x11_, e12_, hf⟩ := e_l hf
      refine r_nmI e12_ ?_
      refine r_istore (lv' := [(6, .int x11_), (0, .ref 15), (1, .ref p0), (2, .int x2), (3, .int x3), (4, .int x4), (5, .int x5)]) K dX3_readOf_59 (Nat.le_of_ble_eq_true rfl) rfl ?_
      refine r_iload K dX3_readOf_61 0 rfl ?_
      refine r_if_lt (tgt := 75) K dX3_readOf_63 (by decide) (fun c13_ => ?_) (fun c13_ => ?_)
      · have hf := e_t hf c13_
        refine r_iload K dX3_readOf_75 0 rfl ?_
        refine r_ineg K dX3_readOf_77 ?_
        obtain ⟨r14_, h15_, g16_, hf⟩ := e_2 hf
        refine r_callSN (av := [.int (-x11_)]) (st := []) K lkX3_49 mwX4_isName (conX4_isName (-x11_) h r14_ h15_ g16_) dX3_readOf_78 (Nat.le_of_ble_eq_true rfl) rfl rfl (Nat.le_of_ble_eq_true rfl) ?_
        refine r_if_eq (tgt := 99) K dX3_readOf_81 (by decide) (fun c17_ => ?_) (fun c17_ => ?_)
        · have hf := e_t hf c17_
          refine r_iload K dX3_readOf_99 0 rfl ?_
          refine r_bipush (v := (-59)) K dX3_readOf_101 rfl ?_
          refine r_icmp_eq (tgt := 116) K dX3_readOf_103 (by decide) (fun c18_ => ?_) (fun c18_ => ?_)
          · have hf := e_t hf c18_
            refine r_aload_n K dX3_readOf_116 1 rfl rfl ?_
            obtain ⟨r19_, h20_, g21_, hf⟩ := e_2 hf
            refine r_callV (av := []) (st := []) K lkX3_59 mwX3_pop (conX3_pop  h15_ r19_ h20_ g21_) dX3_readOf_117 rfl (Nat.le_of_ble_eq_true rfl) rfl rfl (Nat.le_of_ble_eq_true rfl) ?_
            refine r_istore (lv' := [(7, .int r19_), (6, .int x11_), (0, .ref 15), (1, .ref p0), (2, .int x2), (3, .int x3), (4, .int x4), (5, .int x5)]) K dX3_readOf_120 (Nat.le_of_ble_eq_true rfl) rfl ?_
            refine r_aload_n K dX3_readOf_122 2 rfl rfl ?_
            refine r_getI K flX3_24 dX3_readOf_123 rfl rfl ?_
            refine r_if_eq (tgt := 136) K dX3_readOf_126 (by decide) (fun c22_ => ?_) (fun c22_ => ?_)
            · have hf := e_t hf c22_
              refine r_lv [2, 3, 4, 7, 0] rfl ?_
              exact sX3_readOf_136 K Z p0 p1 hp0 Q38 hQ38 x2 x5 r19_ h20_ hf
            · have hf := e_f hf c22_
              refine r_aload_n K dX3_readOf_129 2 rfl rfl ?_
              obtain ⟨r24_, h25_, g26_, hf⟩ := e_2 hf
              refine r_callV (av := []) (st := []) K lkX3_59 mwX3_pop (conX3_pop  h20_ r24_ h25_ g26_) dX3_readOf_130 rfl (Nat.le_of_ble_eq_true rfl) rfl rfl (Nat.le_of_ble_eq_true rfl) ?_
              refine r_if_eq (tgt := 140) K dX3_readOf_133 (by decide) (fun c27_ => ?_) (fun c27_ => ?_)
              · have hf := e_t hf c27_
                refine r_iconst (v := 0) K dX3_readOf_140 rfl ?_
                refine r_lv [2, 3, 4, 7, 0] rfl ?_
                exact sX3_readOf_141 K Z p0 p1 hp0 Q38 hQ38 x2 x5 r19_ 0 h25_ hf
              · have hf := e_f hf c27_
                refine r_lv [2, 3, 4, 7, 0] rfl ?_
                exact sX3_readOf_136 K Z p0 p1 hp0 Q38 hQ38 x2 x5 r19_ h25_ hf
          · have hf := e_f hf c18_
            refine r_aload_n K dX3_readOf_106 1 rfl rfl ?_
            refine r_iload K dX3_readOf_107 0 rfl ?_
            refine r_ineg K dX3_readOf_109 ?_
            obtain ⟨h29_, g30_, hf⟩ := e_v hf
            refine r_callV (av := [.int (-x11_)]) (st := []) K lkX3_56 mwX3_workOut (conX3_workOut (-x11_) h15_ h29_ g30_) dX3_readOf_110 rfl (Nat.le_of_ble_eq_true rfl) rfl rfl (Nat.le_of_ble_eq_true rfl) ?_
            refine r_goto (tgt := 155) K dX3_readOf_113 (by decide) ?_
            refine r_iinc (y := 1) (lv' := [(5, .int (x5 + 1)), (6, .int x11_), (0, .ref 15), (1, .ref p0), (2, .int x2), (3, .int x3), (4, .int x4)]) K dX3_readOf_155 6 rfl rfl (Nat.le_of_ble_eq_true rfl) rfl ?_
            refine r_goto (tgt := 38) K dX3_readOf_158 (by decide) ?_
            refine r_lv [2, 3, 4, 5, 6, 0] rfl ?_
            exact hQ38 x2 x3 x4 (x5 + 1) h29_ hf
        · have hf := e_f hf c17_
          refine r_aload_n K dX3_readOf_84 1 rfl rfl ?_
          refine r_iload K dX3_readOf_85 0 rfl ?_
          refine r_ineg K dX3_readOf_87 ?_
          refine r_aload_n K dX3_readOf_88 2 rfl rfl ?_
          refine r_iload_n K dX3_readOf_89 3 rfl rfl ?_
          obtain ⟨r31_, h32_, g33_, hf⟩ := e_2 hf
          refine r_callS (av := [.int (-x11_), .ref p0, .int x2]) (st := [.ref 15]) K lkX3_52 mwX3_worthOfName (conX3_worthOfName (-x11_) p0 x2 hp0 h15_ r31_ h32_ g33_) dX3_readOf_90 (Nat.le_of_ble_eq_true rfl) rfl rfl (Nat.le_of_ble_eq_true rfl) ?_
          obtain ⟨h35_, g36_, hf⟩ := e_v hf
          refine r_callV (av := [.int r31_]) (st := []) K lkX3_45 mwX3_push (conX3_push r31_ h32_ h35_ g36_) dX3_readOf_93 rfl (Nat.le_of_ble_eq_true rfl) rfl rfl (Nat.le_of_ble_eq_true rfl) ?_
          refine r_goto (tgt := 155) K dX3_readOf_96 (by decide) ?_
          refine r_iinc (y := 1) (lv' := [(5, .int (x5 + 1)), (6, .int x11_), (0, .ref 15), (1, .ref p0), (2, .int x2), (3, .int x3), (4, .int x4)]) K dX3_readOf_155 6 rfl rfl (Nat.le_of_ble_eq_true rfl) rfl ?_
          refine r_goto (tgt := 38) K dX3_readOf_158 (by decide) ?_
          refine r_lv [2, 3, 4, 5, 6, 0] rfl ?_
          exact hQ38 x2 x3 x4 (x5 + 1) h35_ hf
      · have hf := e_f hf c13_
        refine r_aload_n K dX3_readOf_66 1 rfl rfl ?_
        refine r_iload K dX3_readOf_67 0 rfl ?_
        obtain ⟨h38_, g39_, hf⟩ := e_v hf
        refine r_callV (av := [.int x11_]) (st := []) K lkX3_45 mwX3_push (conX3_push x11_ h h38_ g39_) dX3_readOf_69 rfl (Nat.le_of_ble_eq_true rfl) rfl rfl (Nat.le_of_ble_eq_true rfl) ?_
        refine r_goto (tgt := 155) K dX3_readOf_72 (by decide) ?_
        refine r_iinc (y := 1) (lv' := [(5, .int (x5 + 1)), (6, .int x11_), (0, .ref 15), (1, .ref p0), (2, .int x2), (3, .int x3), (4, .int x4)]) K dX3_readOf_155 6 rfl rfl (Nat.le_of_ble_eq_true rfl) rfl ?_
        refine r_goto (tgt := 38) K dX3_readOf_158 (by decide) ?_
        refine r_lv [2, 3, 4, 5, 6, 0] rfl ?_
        exact hQ38 x2 x3 x4 (x5 + 1) h38_ hf
theorem sX3_readOf_38 {G : GG} {E : EE} {rv : Int32} {h' : AH} (K : OK G E 2 RX3 cX3_readOf 8) (Z : RT G E (some .int) (some (.int rv)) h') (p0 : Nat) (p1 : Int32) (hp0 : KD p0 = (7, 12)) : ∀ (n : Nat) (x2 : Int32) (x3 : Int32) (x4 : Int32) (x5 : Int32) (h : AH), fX3_readOf_38 p0 p1 n x2 x3 x4 x5 h = some (rv, h') → JJ G E 8 38 [(0, .ref 15), (1, .ref p0), (2, .int x2), (3, .int x3), (4, .int x4), (5, .int x5)] [] h := by
  intro n
  induction n with
  | zero => intro x2 x3 x4 x5 h hf; cases hf
  | succ n ih => intro x2 x3 x4 x5 h hf; exact sX3_readOf_38_b K Z p0 p1 hp0 _ (fun x2 x3 x4 x5 h hf => ih x2 x3 x4 x5 h hf) x2 x3 x4 x5 h hf
def fX3_readOf_26 (p0 : Nat) (p1 : Int32) (x2 : Int32) (s0 : Int32) (h : AH) : Option (Int32 × AH) :=
  letV (wI h 15 3 0) fun h6_ => fX3_readOf_38 p0 p1 FU x2 s0 0 0 h6_
set_option maxRecDepth 10000 in
theorem sX3_readOf_26 {G : GG} {E : EE} {rv : Int32} {h' : AH} (K : OK G E 2 RX3 cX3_readOf 8) (Z : RT G E (some .int) (some (.int rv)) h') (p0 : Nat) (p1 : Int32) (hp0 : KD p0 = (7, 12)) (x2 : Int32) (s0 : Int32) (h : AH) (hf : fX3_readOf_26 p0 p1 x2 s0 h = some (rv, h')) : JJ G E 8 26 [(0, .ref 15), (1, .ref p0), (2, .int x2)] [.int s0] h := by
  unfold fX3_readOf_26 at hf
  refine r_istore_n (lv' := [(3, .int s0), (0, .ref 15), (1, .ref p0), (2, .int x2)]) K dX3_readOf_26 rfl (Nat.le_of_ble_eq_true rfl) rfl ?_
  refine r_iconst (v := 0) K dX3_readOf_27 rfl ?_
  refine r_istore (lv' := [(4, .int 0), (3, .int s0), (0, .ref 15), (1, .ref p0), (2, .int x2)]) K dX3_readOf_28 (Nat.le_of_ble_eq_true rfl) rfl ?_
  refine r_aload_n K dX3_readOf_30 2 rfl rfl ?_
  refine r_iconst (v := 0) K dX3_readOf_31 rfl ?_
  obtain ⟨h6_, e7_, hf⟩ := e_l hf
  refine r_putI K fpX3_24 dX3_readOf_32 rfl rfl e7_ ?_
  refine r_iconst (v := 0) K dX3_readOf_35 rfl ?_
  refine r_istore (lv' := [(5, .int 0), (4, .int 0), (3, .int s0), (0, .ref 15), (1, .ref p0), (2, .int x2)]) K dX3_readOf_36 (Nat.le_of_ble_eq_true rfl) rfl ?_
  refine r_lv [3, 4, 5, 2, 1, 0] rfl ?_
  exact sX3_readOf_38 K Z p0 p1 hp0 FU x2 s0 0 0 h6_ hf
def fX3_readOf (p0 : Nat) (p1 : Int32) (h : AH) : Option (Int32 × AH) :=
  bind2 (fX7_hasGuest p0 p1 h) fun r1_ h2_ => if r1_ = 0 then some (0, h2_) else if (h2_.1 15 1) = 0 then bind2 (fX3_worthWithoutText p0 p1 h2_) fun r40_ h41_ => fX3_readOf_26 p0 p1 p1 r40_ h41_ else fX3_readOf_26 p0 p1 p1 0 h2_
set_option maxRecDepth 10000 in
theorem sX3_readOf {G : GG} {E : EE} {rv : Int32} {h' : AH} (K : OK G E 2 RX3 cX3_readOf 8) (Z : RT G E (some .int) (some (.int rv)) h') (p0 : Nat) (p1 : Int32) (hp0 : KD p0 = (7, 12)) (h : AH) (hf : fX3_readOf p0 p1 h = some (rv, h')) : JJ G E 8 0 [(0, .ref 15), (1, .ref p0), (2, .int p1)] [] h := by
  unfold fX3_readOf at hf
  refine r_aload_n K dX3_readOf_0 1 rfl rfl ?_
  refine r_iload_n K dX3_readOf_1 2 rfl rfl ?_
  obtain ⟨r1_, h2_, g3_, hf⟩ := e_2 hf
  refine r_callV (av := [.int p1]) (st := []) K lkX3_35 mwX7_hasGuest (conX7_hasGuest p0 p1 hp0 h r1_ h2_ g3_) dX3_readOf_2 hp0 (Nat.le_of_ble_eq_true rfl) rfl rfl (Nat.le_of_ble_eq_true rfl) ?_
  refine r_if_ne (tgt := 10) K dX3_readOf_5 (by decide) (fun c4_ => ?_) (fun c4_ => ?_)
  · have hf := e_f hf c4_
    refine r_aload_n K dX3_readOf_10 0 rfl rfl ?_
    refine r_getI K flX3_17 dX3_readOf_11 rfl rfl ?_
    refine r_if_ne (tgt := 25) K dX3_readOf_14 (by decide) (fun c5_ => ?_) (fun c5_ => ?_)
    · have hf := e_f hf c5_
      refine r_iconst (v := 0) K dX3_readOf_25 rfl ?_
      refine r_lv [0, 1, 2] rfl ?_
      exact sX3_readOf_26 K Z p0 p1 hp0 p1 0 h2_ hf
    · have hf := e_t hf c5_
      refine r_aload_n K dX3_readOf_17 1 rfl rfl ?_
      refine r_iload_n K dX3_readOf_18 2 rfl rfl ?_
      obtain ⟨r40_, h41_, g42_, hf⟩ := e_2 hf
      refine r_callS (av := [.ref p0, .int p1]) (st := []) K lkX3_41 mwX3_worthWithoutText (conX3_worthWithoutText p0 p1 hp0 h2_ r40_ h41_ g42_) dX3_readOf_19 (Nat.le_of_ble_eq_true rfl) rfl rfl (Nat.le_of_ble_eq_true rfl) ?_
      refine r_goto (tgt := 26) K dX3_readOf_22 (by decide) ?_
      refine r_lv [0, 1, 2] rfl ?_
      exact sX3_readOf_26 K Z p0 p1 hp0 p1 r40_ h41_ hf
  · have hf := e_t hf c4_
    refine r_iconst (v := 0) K dX3_readOf_8 rfl ?_
    exact r_iret K Z dX3_readOf_9 hf
theorem conX3_readOf {G : GG} (p0 : Nat) (p1 : Int32) (hp0 : KD p0 = (7, 12)) (h : AH) (rv : Int32) (h' : AH) (hf : fX3_readOf p0 p1 h = some (rv, h')) : Con G 2 yX3_readOf cX3_readOf 8 (some .int) [.ref 15, .ref p0, .int p1] h (some (.int rv)) h' := con_of mwX3_readOf (Nat.le_of_ble_eq_true rfl) (fun E K Z => sX3_readOf K Z p0 p1 hp0 h hf)
def fX7_isLeft (t : Nat) (p0 : Int32) (h : AH) : Option (Int32 × AH) :=
  bind2 (fX7_hasGuest t p0 h) fun r1_ h2_ => if r1_ = 0 then some (0, h2_) else if inb p0 9 = true then if (h2_.1 (rf t 5) (ix p0)) = 0 then some (1, h2_) else some (0, h2_) else none
set_option maxRecDepth 10000 in
theorem sX7_isLeft {G : GG} {E : EE} {rv : Int32} {h' : AH} (K : OK G E 1 RX7 cX7_isLeft 2) (Z : RT G E (some .boolean) (some (.int rv)) h') (t : Nat) (p0 : Int32) (ht : KD t = (7, 12)) (h : AH) (hf : fX7_isLeft t p0 h = some (rv, h')) : JJ G E 2 0 [(0, .ref t), (1, .int p0)] [] h := by
  unfold fX7_isLeft at hf
  refine r_aload_n K dX7_isLeft_0 0 rfl rfl ?_
  refine r_iload_n K dX7_isLeft_1 1 rfl rfl ?_
  obtain ⟨r1_, h2_, g3_, hf⟩ := e_2 hf
  refine r_callV (av := [.int p0]) (st := []) K lkX7_49 mwX7_hasGuest (conX7_hasGuest t p0 ht h r1_ h2_ g3_) dX7_isLeft_2 ht (Nat.le_of_ble_eq_true rfl) rfl rfl (Nat.le_of_ble_eq_true rfl) ?_
  refine r_if_eq (tgt := 21) K dX7_isLeft_5 (by decide) (fun c4_ => ?_) (fun c4_ => ?_)
  · have hf := e_t hf c4_
    refine r_iconst (v := 0) K dX7_isLeft_21 rfl ?_
    exact r_zret K Z dX7_isLeft_22 rfl hf
  · have hf := e_f hf c4_
    refine r_aload_n K dX7_isLeft_8 0 rfl rfl ?_
    refine r_getR (o' := (rf t 5)) K flX7_27 dX7_isLeft_9 ht rfl rfl ?_
    refine r_iload_n K dX7_isLeft_12 1 rfl rfl ?_
    obtain ⟨g5_, hf⟩ := e_g hf
    refine r_iald K dX7_isLeft_13 (kf7_5 ht) g5_ ?_
    refine r_if_ne (tgt := 21) K dX7_isLeft_14 (by decide) (fun c6_ => ?_) (fun c6_ => ?_)
    · have hf := e_f hf c6_
      refine r_iconst (v := 0) K dX7_isLeft_21 rfl ?_
      exact r_zret K Z dX7_isLeft_22 rfl hf
    · have hf := e_t hf c6_
      refine r_iconst (v := 1) K dX7_isLeft_17 rfl ?_
      refine r_goto (tgt := 22) K dX7_isLeft_18 (by decide) ?_
      exact r_zret K Z dX7_isLeft_22 rfl hf
theorem conX7_isLeft {G : GG} (t : Nat) (p0 : Int32) (ht : KD t = (7, 12)) (h : AH) (rv : Int32) (h' : AH) (hf : fX7_isLeft t p0 h = some (rv, h')) : Con G 1 yX7_isLeft cX7_isLeft 2 (some .boolean) [.ref t, .int p0] h (some (.int rv)) h' := con_of mwX7_isLeft (Nat.le_of_ble_eq_true rfl) (fun E K Z => sX7_isLeft K Z t p0 ht h hf)
def fX3_placeInOrder_24_b (p0 : Nat) (p1 : Int32) (Q24 : Int32 → Int32 → Int32 → Int32 → AH → Option (Int32 × AH)) (x2 : Int32) (x3 : Int32) (x4 : Int32) (x5 : Int32) (h : AH) : Option (Int32 × AH) :=
  if (h.1 p0 9) ≤ x5 then some (x4, h) else if inb x5 9 = true then if (h.1 (rf p0 5) (ix x5)) = 0 then if x5 = x2 then Q24 x2 x3 x4 (x5 + 1) h else bind2 (fX3_readOf p0 x5 h) fun r12_ h13_ => if x3 < r12_ then Q24 x2 x3 (x4 + 1) (x5 + 1) h13_ else if r12_ = x3 then if x2 ≤ x5 then Q24 x2 x3 x4 (x5 + 1) h13_ else Q24 x2 x3 (x4 + 1) (x5 + 1) h13_ else Q24 x2 x3 x4 (x5 + 1) h13_ else Q24 x2 x3 x4 (x5 + 1) h else none
def fX3_placeInOrder_24 (p0 : Nat) (p1 : Int32) : Nat → Int32 → Int32 → Int32 → Int32 → AH → Option (Int32 × AH)
  | 0 => fun _ _ _ _ _ => none
  | n + 1 => fX3_placeInOrder_24_b p0 p1 (fX3_placeInOrder_24 p0 p1 n)
set_option maxRecDepth 10000 in
theorem sX3_placeInOrder_24_b {G : GG} {E : EE} {rv : Int32} {h' : AH} (K : OK G E 3 RX3 cX3_placeInOrder 7) (Z : RT G E (some .int) (some (.int rv)) h') (p0 : Nat) (p1 : Int32) (hp0 : KD p0 = (7, 12)) (Q24 : Int32 → Int32 → Int32 → Int32 → AH → Option (Int32 × AH)) (hQ24 : ∀ (x2 : Int32) (x3 : Int32) (x4 : Int32) (x5 : Int32) (h : AH), Q24 x2 x3 x4 x5 h = some (rv, h') → JJ G E 7 24 [(0, .ref 15), (1, .ref p0), (2, .int x2), (3, .int x3), (4, .int x4), (5, .int x5)] [] h) (x2 : Int32) (x3 : Int32) (x4 : Int32) (x5 : Int32) (h : AH) (hf : fX3_placeInOrder_24_b p0 p1 Q24 x2 x3 x4 x5 h = some (rv, h')) : JJ G E 7 24 [(0, .ref 15), (1, .ref p0), (2, .int x2), (3, .int x3), (4, .int x4), (5, .int x5)] [] h := by
  unfold fX3_placeInOrder_24_b at hf
  refine r_iload K dX3_placeInOrder_24 5 rfl ?_
  refine r_aload_n K dX3_placeInOrder_26 1 rfl rfl ?_
  refine r_getI K flX3_72 dX3_placeInOrder_27 hp0 rfl ?_
  refine r_icmp_ge (tgt := 85) K dX3_placeInOrder_30 (by decide) (fun c8_ => ?_) (fun c8_ => ?_)
  · have hf := e_t hf c8_
    refine r_iload K dX3_placeInOrder_85 4 rfl ?_
    exact r_iret K Z dX3_placeInOrder_87 hf
  · have hf := e_f hf c8_
    refine r_aload_n K dX3_placeInOrder_33 1 rfl rfl ?_
    refine r_getR (o' := (rf p0 5)) K flX3_75 dX3_placeInOrder_34 hp0 rfl rfl ?_
    refine r_iload K dX3_placeInOrder_37 5 rfl ?_
    obtain ⟨g9_, hf⟩ := e_g hf
    refine r_iald K dX3_placeInOrder_39 (kf7_5 hp0) g9_ ?_
    refine r_if_ne (tgt := 79) K dX3_placeInOrder_40 (by decide) (fun c10_ => ?_) (fun c10_ => ?_)
    · have hf := e_f hf c10_
      refine r_iinc (y := 1) (lv' := [(5, .int (x5 + 1)), (0, .ref 15), (1, .ref p0), (2, .int x2), (3, .int x3), (4, .int x4)]) K dX3_placeInOrder_79 5 rfl rfl (Nat.le_of_ble_eq_true rfl) rfl ?_
      refine r_goto (tgt := 24) K dX3_placeInOrder_82 (by decide) ?_
      refine r_lv [1, 2, 3, 4, 5, 0] rfl ?_
      exact hQ24 x2 x3 x4 (x5 + 1) h hf
    · have hf := e_t hf c10_
      refine r_iload K dX3_placeInOrder_43 5 rfl ?_
      refine r_iload_n K dX3_placeInOrder_45 2 rfl rfl ?_
      refine r_icmp_eq (tgt := 79) K dX3_placeInOrder_46 (by decide) (fun c11_ => ?_) (fun c11_ => ?_)
      · have hf := e_t hf c11_
        refine r_iinc (y := 1) (lv' := [(5, .int (x5 + 1)), (0, .ref 15), (1, .ref p0), (2, .int x2), (3, .int x3), (4, .int x4)]) K dX3_placeInOrder_79 5 rfl rfl (Nat.le_of_ble_eq_true rfl) rfl ?_
        refine r_goto (tgt := 24) K dX3_placeInOrder_82 (by decide) ?_
        refine r_lv [1, 2, 3, 4, 5, 0] rfl ?_
        exact hQ24 x2 x3 x4 (x5 + 1) h hf
      · have hf := e_f hf c11_
        refine r_aload_n K dX3_placeInOrder_49 0 rfl rfl ?_
        refine r_aload_n K dX3_placeInOrder_50 1 rfl rfl ?_
        refine r_iload K dX3_placeInOrder_51 5 rfl ?_
        obtain ⟨r12_, h13_, g14_, hf⟩ := e_2 hf
        refine r_callV (av := [.ref p0, .int x5]) (st := []) K lkX3_78 mwX3_readOf (conX3_readOf p0 x5 hp0 h r12_ h13_ g14_) dX3_placeInOrder_53 rfl (Nat.le_of_ble_eq_true rfl) rfl rfl (Nat.le_of_ble_eq_true rfl) ?_
        refine r_istore (lv' := [(6, .int r12_), (0, .ref 15), (1, .ref p0), (2, .int x2), (3, .int x3), (4, .int x4), (5, .int x5)]) K dX3_placeInOrder_56 (Nat.le_of_ble_eq_true rfl) rfl ?_
        refine r_iload K dX3_placeInOrder_58 0 rfl ?_
        refine r_iload_n K dX3_placeInOrder_60 4 rfl rfl ?_
        refine r_icmp_gt (tgt := 76) K dX3_placeInOrder_61 (by decide) (fun c15_ => ?_) (fun c15_ => ?_)
        · have hf := e_t hf c15_
          refine r_iinc (y := 1) (lv' := [(4, .int (x4 + 1)), (6, .int r12_), (0, .ref 15), (1, .ref p0), (2, .int x2), (3, .int x3), (5, .int x5)]) K dX3_placeInOrder_76 5 rfl rfl (Nat.le_of_ble_eq_true rfl) rfl ?_
          refine r_iinc (y := 1) (lv' := [(5, .int (x5 + 1)), (4, .int (x4 + 1)), (6, .int r12_), (0, .ref 15), (1, .ref p0), (2, .int x2), (3, .int x3)]) K dX3_placeInOrder_79 6 rfl rfl (Nat.le_of_ble_eq_true rfl) rfl ?_
          refine r_goto (tgt := 24) K dX3_placeInOrder_82 (by decide) ?_
          refine r_lv [3, 4, 5, 6, 1, 0] rfl ?_
          exact hQ24 x2 x3 (x4 + 1) (x5 + 1) h13_ hf
        · have hf := e_f hf c15_
          refine r_iload K dX3_placeInOrder_64 0 rfl ?_
          refine r_iload_n K dX3_placeInOrder_66 4 rfl rfl ?_
          refine r_icmp_ne (tgt := 79) K dX3_placeInOrder_67 (by decide) (fun c16_ => ?_) (fun c16_ => ?_)
          · have hf := e_f hf c16_
            refine r_iinc (y := 1) (lv' := [(5, .int (x5 + 1)), (6, .int r12_), (0, .ref 15), (1, .ref p0), (2, .int x2), (3, .int x3), (4, .int x4)]) K dX3_placeInOrder_79 6 rfl rfl (Nat.le_of_ble_eq_true rfl) rfl ?_
            refine r_goto (tgt := 24) K dX3_placeInOrder_82 (by decide) ?_
            refine r_lv [2, 3, 4, 5, 6, 0] rfl ?_
            exact hQ24 x2 x3 x4 (x5 + 1) h13_ hf
          · have hf := e_t hf c16_
            refine r_iload K dX3_placeInOrder_70 6 rfl ?_
            refine r_iload_n K dX3_placeInOrder_72 3 rfl rfl ?_
            refine r_icmp_ge (tgt := 79) K dX3_placeInOrder_73 (by decide) (fun c17_ => ?_) (fun c17_ => ?_)
            · have hf := e_t hf c17_
              refine r_iinc (y := 1) (lv' := [(5, .int (x5 + 1)), (6, .int r12_), (0, .ref 15), (1, .ref p0), (2, .int x2), (3, .int x3), (4, .int x4)]) K dX3_placeInOrder_79 6 rfl rfl (Nat.le_of_ble_eq_true rfl) rfl ?_
              refine r_goto (tgt := 24) K dX3_placeInOrder_82 (by decide) ?_
              refine r_lv [2, 3, 4, 5, 6, 0] rfl ?_
              exact hQ24 x2 x3 x4 (x5 + 1) h13_ hf
            · have hf := e_f hf c17_
              refine r_iinc (y := 1) (lv' := [(4, .int (x4 + 1)), (6, .int r12_), (0, .ref 15), (1, .ref p0), (2, .int x2), (3, .int x3), (5, .int x5)]) K dX3_placeInOrder_76 5 rfl rfl (Nat.le_of_ble_eq_true rfl) rfl ?_
              refine r_iinc (y := 1) (lv' := [(5, .int (x5 + 1)), (4, .int (x4 + 1)), (6, .int r12_), (0, .ref 15), (1, .ref p0), (2, .int x2), (3, .int x3)]) K dX3_placeInOrder_79 6 rfl rfl (Nat.le_of_ble_eq_true rfl) rfl ?_
              refine r_goto (tgt := 24) K dX3_placeInOrder_82 (by decide) ?_
              refine r_lv [3, 4, 5, 6, 1, 0] rfl ?_
              exact hQ24 x2 x3 (x4 + 1) (x5 + 1) h13_ hf
theorem sX3_placeInOrder_24 {G : GG} {E : EE} {rv : Int32} {h' : AH} (K : OK G E 3 RX3 cX3_placeInOrder 7) (Z : RT G E (some .int) (some (.int rv)) h') (p0 : Nat) (p1 : Int32) (hp0 : KD p0 = (7, 12)) : ∀ (n : Nat) (x2 : Int32) (x3 : Int32) (x4 : Int32) (x5 : Int32) (h : AH), fX3_placeInOrder_24 p0 p1 n x2 x3 x4 x5 h = some (rv, h') → JJ G E 7 24 [(0, .ref 15), (1, .ref p0), (2, .int x2), (3, .int x3), (4, .int x4), (5, .int x5)] [] h := by
  intro n
  induction n with
  | zero => intro x2 x3 x4 x5 h hf; cases hf
  | succ n ih => intro x2 x3 x4 x5 h hf; exact sX3_placeInOrder_24_b K Z p0 p1 hp0 _ (fun x2 x3 x4 x5 h hf => ih x2 x3 x4 x5 h hf) x2 x3 x4 x5 h hf
def fX3_placeInOrder (p0 : Nat) (p1 : Int32) (h : AH) : Option (Int32 × AH) :=
  bind2 (fX7_isLeft p0 p1 h) fun r1_ h2_ => if r1_ = 0 then some ((-2), h2_) else bind2 (fX3_readOf p0 p1 h2_) fun r5_ h6_ => fX3_placeInOrder_24 p0 p1 FU p1 r5_ 0 0 h6_
set_option maxRecDepth 10000 in
theorem sX3_placeInOrder {G : GG} {E : EE} {rv : Int32} {h' : AH} (K : OK G E 3 RX3 cX3_placeInOrder 7) (Z : RT G E (some .int) (some (.int rv)) h') (p0 : Nat) (p1 : Int32) (hp0 : KD p0 = (7, 12)) (h : AH) (hf : fX3_placeInOrder p0 p1 h = some (rv, h')) : JJ G E 7 0 [(0, .ref 15), (1, .ref p0), (2, .int p1)] [] h := by
  unfold fX3_placeInOrder at hf
  refine r_aload_n K dX3_placeInOrder_0 1 rfl rfl ?_
  refine r_iload_n K dX3_placeInOrder_1 2 rfl rfl ?_
  obtain ⟨r1_, h2_, g3_, hf⟩ := e_2 hf
  refine r_callV (av := [.int p1]) (st := []) K lkX3_81 mwX7_isLeft (conX7_isLeft p0 p1 hp0 h r1_ h2_ g3_) dX3_placeInOrder_2 hp0 (Nat.le_of_ble_eq_true rfl) rfl rfl (Nat.le_of_ble_eq_true rfl) ?_
  refine r_if_ne (tgt := 11) K dX3_placeInOrder_5 (by decide) (fun c4_ => ?_) (fun c4_ => ?_)
  · have hf := e_f hf c4_
    refine r_aload_n K dX3_placeInOrder_11 0 rfl rfl ?_
    refine r_aload_n K dX3_placeInOrder_12 1 rfl rfl ?_
    refine r_iload_n K dX3_placeInOrder_13 2 rfl rfl ?_
    obtain ⟨r5_, h6_, g7_, hf⟩ := e_2 hf
    refine r_callV (av := [.ref p0, .int p1]) (st := []) K lkX3_78 mwX3_readOf (conX3_readOf p0 p1 hp0 h2_ r5_ h6_ g7_) dX3_placeInOrder_14 rfl (Nat.le_of_ble_eq_true rfl) rfl rfl (Nat.le_of_ble_eq_true rfl) ?_
    refine r_istore_n (lv' := [(3, .int r5_), (0, .ref 15), (1, .ref p0), (2, .int p1)]) K dX3_placeInOrder_17 rfl (Nat.le_of_ble_eq_true rfl) rfl ?_
    refine r_iconst (v := 0) K dX3_placeInOrder_18 rfl ?_
    refine r_istore (lv' := [(4, .int 0), (3, .int r5_), (0, .ref 15), (1, .ref p0), (2, .int p1)]) K dX3_placeInOrder_19 (Nat.le_of_ble_eq_true rfl) rfl ?_
    refine r_iconst (v := 0) K dX3_placeInOrder_21 rfl ?_
    refine r_istore (lv' := [(5, .int 0), (4, .int 0), (3, .int r5_), (0, .ref 15), (1, .ref p0), (2, .int p1)]) K dX3_placeInOrder_22 (Nat.le_of_ble_eq_true rfl) rfl ?_
    refine r_lv [3, 4, 5, 2, 1, 0] rfl ?_
    exact sX3_placeInOrder_24 K Z p0 p1 hp0 FU p1 r5_ 0 0 h6_ hf
  · have hf := e_t hf c4_
    refine r_bipush (v := (-2)) K dX3_placeInOrder_8 rfl ?_
    exact r_iret K Z dX3_placeInOrder_10 hf
theorem conX3_placeInOrder {G : GG} (p0 : Nat) (p1 : Int32) (hp0 : KD p0 = (7, 12)) (h : AH) (rv : Int32) (h' : AH) (hf : fX3_placeInOrder p0 p1 h = some (rv, h')) : Con G 3 yX3_placeInOrder cX3_placeInOrder 7 (some .int) [.ref 15, .ref p0, .int p1] h (some (.int rv)) h' := con_of mwX3_placeInOrder (Nat.le_of_ble_eq_true rfl) (fun E K Z => sX3_placeInOrder K Z p0 p1 hp0 h hf)
