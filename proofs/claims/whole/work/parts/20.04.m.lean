def fX10_isIn (p0 : Int32) (p1 : Int32) (p2 : Int32) (h : AH) : Option (Int32 × AH) :=
  if p0 < p1 then some (0, h) else if p2 < p0 then some (0, h) else some (1, h)
set_option maxRecDepth 10000 in
theorem sX10_isIn {G : GG} {E : EE} {rv : Int32} {h' : AH} (K : OK G E 0 RX10 cX10_isIn 3) (Z : RT G E (some .boolean) (some (.int rv)) h') (p0 : Int32) (p1 : Int32) (p2 : Int32) (h : AH) (hf : fX10_isIn p0 p1 p2 h = some (rv, h')) : JJ G E 3 0 [(0, .int p0), (1, .int p1), (2, .int p2)] [] h := by
  unfold fX10_isIn at hf
  refine r_iload_n K dX10_isIn_0 0 rfl rfl ?_
  refine r_iload_n K dX10_isIn_1 1 rfl rfl ?_
  refine r_icmp_lt (tgt := 14) K dX10_isIn_2 (by decide) (fun c1_ => ?_) (fun c1_ => ?_)
  · have hf := e_t hf c1_
    refine r_iconst (v := 0) K dX10_isIn_14 rfl ?_
    exact r_zret K Z dX10_isIn_15 rfl hf
  · have hf := e_f hf c1_
    refine r_iload_n K dX10_isIn_5 0 rfl rfl ?_
    refine r_iload_n K dX10_isIn_6 2 rfl rfl ?_
    refine r_icmp_gt (tgt := 14) K dX10_isIn_7 (by decide) (fun c2_ => ?_) (fun c2_ => ?_)
    · have hf := e_t hf c2_
      refine r_iconst (v := 0) K dX10_isIn_14 rfl ?_
      exact r_zret K Z dX10_isIn_15 rfl hf
    · have hf := e_f hf c2_
      refine r_iconst (v := 1) K dX10_isIn_10 rfl ?_
      refine r_goto (tgt := 15) K dX10_isIn_11 (by decide) ?_
      exact r_zret K Z dX10_isIn_15 rfl hf
theorem conX10_isIn {G : GG} (p0 : Int32) (p1 : Int32) (p2 : Int32) (h : AH) (rv : Int32) (h' : AH) (hf : fX10_isIn p0 p1 p2 h = some (rv, h')) : Con G 0 yX10_isIn cX10_isIn 3 (some .boolean) [.int p0, .int p1, .int p2] h (some (.int rv)) h' := con_of mwX10_isIn (Nat.le_of_ble_eq_true rfl) (fun E K Z => sX10_isIn K Z p0 p1 p2 h hf)
def fX10_act (p0 : Int32) (p1 : Int32) (p2 : Int32) (h : AH) : Option (Int32 × AH) :=
  letV (wI h 59 45 0) fun h1_ => bind2 (fX10_isIn p0 0 ((h1_.1 59 43) - 1) h1_) fun r3_ h4_ => if r3_ = 0 then some (0, h4_) else bind2 (fX10_isIn p1 0 3 h4_) fun r7_ h8_ => if r7_ = 0 then some (0, h8_) else bind2 (RGK 20 1 [p0, p1, p2] h8_) fun r11_ h12_ => some (r11_, h12_)
set_option maxRecDepth 10000 in
theorem sX10_act {G : GG} {E : EE} {rv : Int32} {h' : AH} (K : OK G E 21 RX10 cX10_act 4) (Z : RT G E (some .int) (some (.int rv)) h') (p0 : Int32) (p1 : Int32) (p2 : Int32) (h : AH) (hf : fX10_act p0 p1 p2 h = some (rv, h')) : JJ G E 4 0 [(0, .ref 59), (1, .int p0), (2, .int p1), (3, .int p2)] [] h := by
  unfold fX10_act at hf
  refine r_aload_n K dX10_act_0 0 rfl rfl ?_
  refine r_iconst (v := 0) K dX10_act_1 rfl ?_
  obtain ⟨h1_, e2_, hf⟩ := e_l hf
  refine r_putI K fpX10_294 dX10_act_2 rfl rfl e2_ ?_
  refine r_iload_n K dX10_act_5 1 rfl rfl ?_
  refine r_iconst (v := 0) K dX10_act_6 rfl ?_
  refine r_aload_n K dX10_act_7 0 rfl rfl ?_
  refine r_getI K flX10_288 dX10_act_8 rfl rfl ?_
  refine r_iconst (v := 1) K dX10_act_11 rfl ?_
  refine r_isub K dX10_act_12 ?_
  obtain ⟨r3_, h4_, g5_, hf⟩ := e_2 hf
  refine r_callS (av := [.int p0, .int 0, .int ((h1_.1 59 43) - 1)]) (st := []) K lkX10_106 mwX10_isIn (conX10_isIn p0 0 ((h1_.1 59 43) - 1) h1_ r3_ h4_ g5_) dX10_act_13 (Nat.le_of_ble_eq_true rfl) rfl rfl (Nat.le_of_ble_eq_true rfl) ?_
  refine r_if_eq (tgt := 38) K dX10_act_16 (by decide) (fun c6_ => ?_) (fun c6_ => ?_)
  · have hf := e_t hf c6_
    refine r_iconst (v := 0) K dX10_act_38 rfl ?_
    exact r_iret K Z dX10_act_39 hf
  · have hf := e_f hf c6_
    refine r_iload_n K dX10_act_19 2 rfl rfl ?_
    refine r_iconst (v := 0) K dX10_act_20 rfl ?_
    refine r_iconst (v := 3) K dX10_act_21 rfl ?_
    obtain ⟨r7_, h8_, g9_, hf⟩ := e_2 hf
    refine r_callS (av := [.int p1, .int 0, .int 3]) (st := []) K lkX10_106 mwX10_isIn (conX10_isIn p1 0 3 h4_ r7_ h8_ g9_) dX10_act_22 (Nat.le_of_ble_eq_true rfl) rfl rfl (Nat.le_of_ble_eq_true rfl) ?_
    refine r_if_eq (tgt := 38) K dX10_act_25 (by decide) (fun c10_ => ?_) (fun c10_ => ?_)
    · have hf := e_t hf c10_
      refine r_iconst (v := 0) K dX10_act_38 rfl ?_
      exact r_iret K Z dX10_act_39 hf
    · have hf := e_f hf c10_
      refine r_aload_n K dX10_act_28 0 rfl rfl ?_
      refine r_iload_n K dX10_act_29 1 rfl rfl ?_
      refine r_iload_n K dX10_act_30 2 rfl rfl ?_
      refine r_iload_n K dX10_act_31 3 rfl rfl ?_
      obtain ⟨r11_, h12_, g13_, hf⟩ := e_2 hf
      refine r_callV (av := [.int p0, .int p1, .int p2]) (st := []) K lkX10_297 mwX10_does (conRGK_1 20 p0 p1 p2 h8_ r11_ h12_ g13_) dX10_act_32 rfl (Nat.le_of_ble_eq_true rfl) rfl rfl (Nat.le_of_ble_eq_true rfl) ?_
      refine r_goto (tgt := 39) K dX10_act_35 (by decide) ?_
      exact r_iret K Z dX10_act_39 hf
theorem conX10_act {G : GG} (p0 : Int32) (p1 : Int32) (p2 : Int32) (h : AH) (rv : Int32) (h' : AH) (hf : fX10_act p0 p1 p2 h = some (rv, h')) : Con G 21 yX10_act cX10_act 4 (some .int) [.ref 59, .int p0, .int p1, .int p2] h (some (.int rv)) h' := con_of mwX10_act (Nat.le_of_ble_eq_true rfl) (fun E K Z => sX10_act K Z p0 p1 p2 h hf)
def fX10_change (p0 : Int32) (p1 : Int32) (p2 : Int32) (h : AH) : Option AH :=
  if inb ((6 * p0) + p1) 94 = true then letV (wI h 60 (ix ((6 * p0) + p1)) p2) fun h2_ => some h2_ else none
set_option maxRecDepth 10000 in
theorem sX10_change {G : GG} {E : EE} {h' : AH} (K : OK G E 0 RX10 cX10_change 4) (Z : RT G E none (none) h') (p0 : Int32) (p1 : Int32) (p2 : Int32) (h : AH) (hf : fX10_change p0 p1 p2 h = some h') : JJ G E 4 0 [(0, .ref 59), (1, .int p0), (2, .int p1), (3, .int p2)] [] h := by
  unfold fX10_change at hf
  refine r_aload_n K dX10_change_0 0 rfl rfl ?_
  refine r_getR (o' := 60) K flX10_7 dX10_change_1 rfl rfl rfl ?_
  refine r_bipush (v := 6) K dX10_change_4 rfl ?_
  refine r_iload_n K dX10_change_6 1 rfl rfl ?_
  refine r_imul K dX10_change_7 ?_
  refine r_iload_n K dX10_change_8 2 rfl rfl ?_
  refine r_iadd K dX10_change_9 ?_
  refine r_iload_n K dX10_change_10 3 rfl rfl ?_
  obtain ⟨g1_, hf⟩ := e_g hf
  obtain ⟨h2_, e3_, hf⟩ := e_l hf
  refine r_iast K dX10_change_11 rfl g1_ e3_ ?_
  exact r_vret K Z dX10_change_12 hf
theorem conX10_change {G : GG} (p0 : Int32) (p1 : Int32) (p2 : Int32) (h : AH) (h' : AH) (hf : fX10_change p0 p1 p2 h = some h') : Con G 0 yX10_change cX10_change 4 none [.ref 59, .int p0, .int p1, .int p2] h (none) h' := con_of mwX10_change (Nat.le_of_ble_eq_true rfl) (fun E K Z => sX10_change K Z p0 p1 p2 h hf)
def fX10_add (p0 : Int32) (p1 : Int32) (p2 : Int32) (p3 : Int32) (p4 : Int32) (h : AH) : Option (Int32 × AH) :=
  letV ((h.1 59 2)) fun x1_ => bindV (fX10_change x1_ 0 p0 h) fun h4_ => bindV (fX10_change x1_ 1 p1 h4_) fun h7_ => bindV (fX10_change x1_ 2 p2 h7_) fun h10_ => bindV (fX10_change x1_ 3 p3 h10_) fun h13_ => bindV (fX10_change x1_ 4 p4 h13_) fun h16_ => bindV (fX10_change x1_ 5 0 h16_) fun h19_ => letV (wI h19_ 59 2 ((h19_.1 59 2) + 1)) fun h21_ => some (x1_, h21_)
set_option maxRecDepth 10000 in
theorem sX10_add {G : GG} {E : EE} {rv : Int32} {h' : AH} (K : OK G E 1 RX10 cX10_add 7) (Z : RT G E (some .int) (some (.int rv)) h') (p0 : Int32) (p1 : Int32) (p2 : Int32) (p3 : Int32) (p4 : Int32) (h : AH) (hf : fX10_add p0 p1 p2 p3 p4 h = some (rv, h')) : JJ G E 7 0 [(0, .ref 59), (1, .int p0), (2, .int p1), (3, .int p2), (4, .int p3), (5, .int p4)] [] h := by
  unfold fX10_add at hf
  refine r_aload_n K dX10_add_0 0 rfl rfl ?_
  refine r_getI K flX10_103 dX10_add_1 rfl rfl ?_
  obtain ⟨x1_, e2_, hf⟩ := e_l hf
  refine r_nmI e2_ ?_
  refine r_istore (lv' := [(6, .int x1_), (0, .ref 59), (1, .int p0), (2, .int p1), (3, .int p2), (4, .int p3), (5, .int p4)]) K dX10_add_4 (Nat.le_of_ble_eq_true rfl) rfl ?_
  refine r_aload_n K dX10_add_6 1 rfl rfl ?_
  refine r_iload K dX10_add_7 0 rfl ?_
  refine r_iconst (v := 0) K dX10_add_9 rfl ?_
  refine r_iload_n K dX10_add_10 2 rfl rfl ?_
  obtain ⟨h4_, g5_, hf⟩ := e_v hf
  refine r_callV (av := [.int x1_, .int 0, .int p0]) (st := []) K lkX10_113 mwX10_change (conX10_change x1_ 0 p0 h h4_ g5_) dX10_add_11 rfl (Nat.le_of_ble_eq_true rfl) rfl rfl (Nat.le_of_ble_eq_true rfl) ?_
  refine r_aload_n K dX10_add_14 1 rfl rfl ?_
  refine r_iload K dX10_add_15 0 rfl ?_
  refine r_iconst (v := 1) K dX10_add_17 rfl ?_
  refine r_iload_n K dX10_add_18 3 rfl rfl ?_
  obtain ⟨h7_, g8_, hf⟩ := e_v hf
  refine r_callV (av := [.int x1_, .int 1, .int p1]) (st := []) K lkX10_113 mwX10_change (conX10_change x1_ 1 p1 h4_ h7_ g8_) dX10_add_19 rfl (Nat.le_of_ble_eq_true rfl) rfl rfl (Nat.le_of_ble_eq_true rfl) ?_
  refine r_aload_n K dX10_add_22 1 rfl rfl ?_
  refine r_iload K dX10_add_23 0 rfl ?_
  refine r_iconst (v := 2) K dX10_add_25 rfl ?_
  refine r_iload_n K dX10_add_26 4 rfl rfl ?_
  obtain ⟨h10_, g11_, hf⟩ := e_v hf
  refine r_callV (av := [.int x1_, .int 2, .int p2]) (st := []) K lkX10_113 mwX10_change (conX10_change x1_ 2 p2 h7_ h10_ g11_) dX10_add_27 rfl (Nat.le_of_ble_eq_true rfl) rfl rfl (Nat.le_of_ble_eq_true rfl) ?_
  refine r_aload_n K dX10_add_30 1 rfl rfl ?_
  refine r_iload K dX10_add_31 0 rfl ?_
  refine r_iconst (v := 3) K dX10_add_33 rfl ?_
  refine r_iload K dX10_add_34 5 rfl ?_
  obtain ⟨h13_, g14_, hf⟩ := e_v hf
  refine r_callV (av := [.int x1_, .int 3, .int p3]) (st := []) K lkX10_113 mwX10_change (conX10_change x1_ 3 p3 h10_ h13_ g14_) dX10_add_36 rfl (Nat.le_of_ble_eq_true rfl) rfl rfl (Nat.le_of_ble_eq_true rfl) ?_
  refine r_aload_n K dX10_add_39 1 rfl rfl ?_
  refine r_iload K dX10_add_40 0 rfl ?_
  refine r_iconst (v := 4) K dX10_add_42 rfl ?_
  refine r_iload K dX10_add_43 6 rfl ?_
  obtain ⟨h16_, g17_, hf⟩ := e_v hf
  refine r_callV (av := [.int x1_, .int 4, .int p4]) (st := []) K lkX10_113 mwX10_change (conX10_change x1_ 4 p4 h13_ h16_ g17_) dX10_add_45 rfl (Nat.le_of_ble_eq_true rfl) rfl rfl (Nat.le_of_ble_eq_true rfl) ?_
  refine r_aload_n K dX10_add_48 1 rfl rfl ?_
  refine r_iload K dX10_add_49 0 rfl ?_
  refine r_iconst (v := 5) K dX10_add_51 rfl ?_
  refine r_iconst (v := 0) K dX10_add_52 rfl ?_
  obtain ⟨h19_, g20_, hf⟩ := e_v hf
  refine r_callV (av := [.int x1_, .int 5, .int 0]) (st := []) K lkX10_113 mwX10_change (conX10_change x1_ 5 0 h16_ h19_ g20_) dX10_add_53 rfl (Nat.le_of_ble_eq_true rfl) rfl rfl (Nat.le_of_ble_eq_true rfl) ?_
  refine r_aload_n K dX10_add_56 1 rfl rfl ?_
  refine r_dup K dX10_add_57 rfl ?_
  refine r_getI K flX10_103 dX10_add_58 rfl rfl ?_
  refine r_iconst (v := 1) K dX10_add_61 rfl ?_
  refine r_iadd K dX10_add_62 ?_
  obtain ⟨h21_, e22_, hf⟩ := e_l hf
  refine r_putI K fpX10_103 dX10_add_63 rfl rfl e22_ ?_
  refine r_iload K dX10_add_66 0 rfl ?_
  exact r_iret K Z dX10_add_68 hf
theorem conX10_add {G : GG} (p0 : Int32) (p1 : Int32) (p2 : Int32) (p3 : Int32) (p4 : Int32) (h : AH) (rv : Int32) (h' : AH) (hf : fX10_add p0 p1 p2 p3 p4 h = some (rv, h')) : Con G 1 yX10_add cX10_add 7 (some .int) [.ref 59, .int p0, .int p1, .int p2, .int p3, .int p4] h (some (.int rv)) h' := con_of mwX10_add (Nat.le_of_ble_eq_true rfl) (fun E K Z => sX10_add K Z p0 p1 p2 p3 p4 h hf)
def fX10_addSlip (p0 : Int32) (p1 : Int32) (p2 : Int32) (h : AH) : Option (Int32 × AH) :=
  letV ((54 + (3 * (h.1 59 3)))) fun x1_ => if inb x1_ 94 = true then letV (wI h 60 (ix x1_) p1) fun h4_ => if inb (x1_ + 1) 94 = true then letV (wI h4_ 60 (ix (x1_ + 1)) p2) fun h7_ => if inb (x1_ + 2) 94 = true then letV (wI h7_ 60 (ix (x1_ + 2)) p0) fun h10_ => letV (wI h10_ 59 3 ((h10_.1 59 3) + 1)) fun h12_ => some (((h12_.1 59 3) - 1), h12_) else none else none else none
set_option maxRecDepth 10000 in
theorem sX10_addSlip {G : GG} {E : EE} {rv : Int32} {h' : AH} (K : OK G E 0 RX10 cX10_addSlip 5) (Z : RT G E (some .int) (some (.int rv)) h') (p0 : Int32) (p1 : Int32) (p2 : Int32) (h : AH) (hf : fX10_addSlip p0 p1 p2 h = some (rv, h')) : JJ G E 5 0 [(0, .ref 59), (1, .int p0), (2, .int p1), (3, .int p2)] [] h := by
  unfold fX10_addSlip at hf
  refine r_bipush (v := 54) K dX10_addSlip_0 rfl ?_
  refine r_iconst (v := 3) K dX10_addSlip_2 rfl ?_
  refine r_aload_n K dX10_addSlip_3 0 rfl rfl ?_
  refine r_getI K flX10_121 dX10_addSlip_4 rfl rfl ?_
  refine r_imul K dX10_addSlip_7 ?_
  refine r_iadd K dX10_addSlip_8 ?_
  obtain ⟨x1_, e2_, hf⟩ := e_l hf
  refine r_nmI e2_ ?_
  refine r_istore (lv' := [(4, .int x1_), (0, .ref 59), (1, .int p0), (2, .int p1), (3, .int p2)]) K dX10_addSlip_9 (Nat.le_of_ble_eq_true rfl) rfl ?_
  refine r_aload_n K dX10_addSlip_11 1 rfl rfl ?_
  refine r_getR (o' := 60) K flX10_7 dX10_addSlip_12 rfl rfl rfl ?_
  refine r_iload K dX10_addSlip_15 0 rfl ?_
  refine r_iload_n K dX10_addSlip_17 3 rfl rfl ?_
  obtain ⟨g3_, hf⟩ := e_g hf
  obtain ⟨h4_, e5_, hf⟩ := e_l hf
  refine r_iast K dX10_addSlip_18 rfl g3_ e5_ ?_
  refine r_aload_n K dX10_addSlip_19 1 rfl rfl ?_
  refine r_getR (o' := 60) K flX10_7 dX10_addSlip_20 rfl rfl rfl ?_
  refine r_iload K dX10_addSlip_23 0 rfl ?_
  refine r_iconst (v := 1) K dX10_addSlip_25 rfl ?_
  refine r_iadd K dX10_addSlip_26 ?_
  refine r_iload_n K dX10_addSlip_27 4 rfl rfl ?_
  obtain ⟨g6_, hf⟩ := e_g hf
  obtain ⟨h7_, e8_, hf⟩ := e_l hf
  refine r_iast K dX10_addSlip_28 rfl g6_ e8_ ?_
  refine r_aload_n K dX10_addSlip_29 1 rfl rfl ?_
  refine r_getR (o' := 60) K flX10_7 dX10_addSlip_30 rfl rfl rfl ?_
  refine r_iload K dX10_addSlip_33 0 rfl ?_
  refine r_iconst (v := 2) K dX10_addSlip_35 rfl ?_
  refine r_iadd K dX10_addSlip_36 ?_
  refine r_iload_n K dX10_addSlip_37 2 rfl rfl ?_
  obtain ⟨g9_, hf⟩ := e_g hf
  obtain ⟨h10_, e11_, hf⟩ := e_l hf
  refine r_iast K dX10_addSlip_38 rfl g9_ e11_ ?_
  refine r_aload_n K dX10_addSlip_39 1 rfl rfl ?_
  refine r_dup K dX10_addSlip_40 rfl ?_
  refine r_getI K flX10_121 dX10_addSlip_41 rfl rfl ?_
  refine r_iconst (v := 1) K dX10_addSlip_44 rfl ?_
  refine r_iadd K dX10_addSlip_45 ?_
  obtain ⟨h12_, e13_, hf⟩ := e_l hf
  refine r_putI K fpX10_121 dX10_addSlip_46 rfl rfl e13_ ?_
  refine r_aload_n K dX10_addSlip_49 1 rfl rfl ?_
  refine r_getI K flX10_121 dX10_addSlip_50 rfl rfl ?_
  refine r_iconst (v := 1) K dX10_addSlip_53 rfl ?_
  refine r_isub K dX10_addSlip_54 ?_
  exact r_iret K Z dX10_addSlip_55 hf
theorem conX10_addSlip {G : GG} (p0 : Int32) (p1 : Int32) (p2 : Int32) (h : AH) (rv : Int32) (h' : AH) (hf : fX10_addSlip p0 p1 p2 h = some (rv, h')) : Con G 0 yX10_addSlip cX10_addSlip 5 (some .int) [.ref 59, .int p0, .int p1, .int p2] h (some (.int rv)) h' := con_of mwX10_addSlip (Nat.le_of_ble_eq_true rfl) (fun E K Z => sX10_addSlip K Z p0 p1 p2 h hf)
def fX10_isAt (p0 : Int32) (h : AH) : Option (Int32 × AH) :=
  if (h.1 59 19) = 0 then some (0, h) else if (h.1 59 17) ≤ (h.1 59 18) then some (0, h) else if inb (h.1 59 18) 120 = true then if (h.1 69 (ix (h.1 59 18))) = p0 then some (1, h) else some (0, h) else none
set_option maxRecDepth 10000 in
theorem sX10_isAt {G : GG} {E : EE} {rv : Int32} {h' : AH} (K : OK G E 0 RX10 cX10_isAt 2) (Z : RT G E (some .boolean) (some (.int rv)) h') (p0 : Int32) (h : AH) (hf : fX10_isAt p0 h = some (rv, h')) : JJ G E 2 0 [(0, .ref 59), (1, .int p0)] [] h := by
  unfold fX10_isAt at hf
  refine r_aload_n K dX10_isAt_0 0 rfl rfl ?_
  refine r_getI K flX10_144 dX10_isAt_1 rfl rfl ?_
  refine r_if_eq (tgt := 35) K dX10_isAt_4 (by decide) (fun c1_ => ?_) (fun c1_ => ?_)
  · have hf := e_t hf c1_
    refine r_iconst (v := 0) K dX10_isAt_35 rfl ?_
    exact r_zret K Z dX10_isAt_36 rfl hf
  · have hf := e_f hf c1_
    refine r_aload_n K dX10_isAt_7 0 rfl rfl ?_
    refine r_getI K flX10_148 dX10_isAt_8 rfl rfl ?_
    refine r_aload_n K dX10_isAt_11 0 rfl rfl ?_
    refine r_getI K flX10_151 dX10_isAt_12 rfl rfl ?_
    refine r_icmp_ge (tgt := 35) K dX10_isAt_15 (by decide) (fun c2_ => ?_) (fun c2_ => ?_)
    · have hf := e_t hf c2_
      refine r_iconst (v := 0) K dX10_isAt_35 rfl ?_
      exact r_zret K Z dX10_isAt_36 rfl hf
    · have hf := e_f hf c2_
      refine r_aload_n K dX10_isAt_18 0 rfl rfl ?_
      refine r_getR (o' := 69) K flX10_37 dX10_isAt_19 rfl rfl rfl ?_
      refine r_aload_n K dX10_isAt_22 0 rfl rfl ?_
      refine r_getI K flX10_148 dX10_isAt_23 rfl rfl ?_
      obtain ⟨g3_, hf⟩ := e_g hf
      refine r_iald K dX10_isAt_26 rfl g3_ ?_
      refine r_iload_n K dX10_isAt_27 1 rfl rfl ?_
      refine r_icmp_ne (tgt := 35) K dX10_isAt_28 (by decide) (fun c4_ => ?_) (fun c4_ => ?_)
      · have hf := e_f hf c4_
        refine r_iconst (v := 0) K dX10_isAt_35 rfl ?_
        exact r_zret K Z dX10_isAt_36 rfl hf
      · have hf := e_t hf c4_
        refine r_iconst (v := 1) K dX10_isAt_31 rfl ?_
        refine r_goto (tgt := 36) K dX10_isAt_32 (by decide) ?_
        exact r_zret K Z dX10_isAt_36 rfl hf
theorem conX10_isAt {G : GG} (p0 : Int32) (h : AH) (rv : Int32) (h' : AH) (hf : fX10_isAt p0 h = some (rv, h')) : Con G 0 yX10_isAt cX10_isAt 2 (some .boolean) [.ref 59, .int p0] h (some (.int rv)) h' := con_of mwX10_isAt (Nat.le_of_ble_eq_true rfl) (fun E K Z => sX10_isAt K Z p0 h hf)
def fX10_isDigit (h : AH) : Option (Int32 × AH) :=
  if (h.1 59 19) = 0 then some (0, h) else if (h.1 59 17) ≤ (h.1 59 18) then some (0, h) else if inb (h.1 59 18) 120 = true then bind2 (fX10_isIn (h.1 69 (ix (h.1 59 18))) 48 57 h) fun r4_ h5_ => if r4_ = 0 then some (0, h5_) else some (1, h5_) else none
set_option maxRecDepth 10000 in
theorem sX10_isDigit {G : GG} {E : EE} {rv : Int32} {h' : AH} (K : OK G E 1 RX10 cX10_isDigit 1) (Z : RT G E (some .boolean) (some (.int rv)) h') (h : AH) (hf : fX10_isDigit h = some (rv, h')) : JJ G E 1 0 [(0, .ref 59)] [] h := by
  unfold fX10_isDigit at hf
  refine r_aload_n K dX10_isDigit_0 0 rfl rfl ?_
  refine r_getI K flX10_144 dX10_isDigit_1 rfl rfl ?_
  refine r_if_eq (tgt := 41) K dX10_isDigit_4 (by decide) (fun c1_ => ?_) (fun c1_ => ?_)
  · have hf := e_t hf c1_
    refine r_iconst (v := 0) K dX10_isDigit_41 rfl ?_
    exact r_zret K Z dX10_isDigit_42 rfl hf
  · have hf := e_f hf c1_
    refine r_aload_n K dX10_isDigit_7 0 rfl rfl ?_
    refine r_getI K flX10_148 dX10_isDigit_8 rfl rfl ?_
    refine r_aload_n K dX10_isDigit_11 0 rfl rfl ?_
    refine r_getI K flX10_151 dX10_isDigit_12 rfl rfl ?_
    refine r_icmp_ge (tgt := 41) K dX10_isDigit_15 (by decide) (fun c2_ => ?_) (fun c2_ => ?_)
    · have hf := e_t hf c2_
      refine r_iconst (v := 0) K dX10_isDigit_41 rfl ?_
      exact r_zret K Z dX10_isDigit_42 rfl hf
    · have hf := e_f hf c2_
      refine r_aload_n K dX10_isDigit_18 0 rfl rfl ?_
      refine r_getR (o' := 69) K flX10_37 dX10_isDigit_19 rfl rfl rfl ?_
      refine r_aload_n K dX10_isDigit_22 0 rfl rfl ?_
      refine r_getI K flX10_148 dX10_isDigit_23 rfl rfl ?_
      obtain ⟨g3_, hf⟩ := e_g hf
      refine r_iald K dX10_isDigit_26 rfl g3_ ?_
      refine r_bipush (v := 48) K dX10_isDigit_27 rfl ?_
      refine r_bipush (v := 57) K dX10_isDigit_29 rfl ?_
      obtain ⟨r4_, h5_, g6_, hf⟩ := e_2 hf
      refine r_callS (av := [.int (h.1 69 (ix (h.1 59 18))), .int 48, .int 57]) (st := []) K lkX10_106 mwX10_isIn (conX10_isIn (h.1 69 (ix (h.1 59 18))) 48 57 h r4_ h5_ g6_) dX10_isDigit_31 (Nat.le_of_ble_eq_true rfl) rfl rfl (Nat.le_of_ble_eq_true rfl) ?_
      refine r_if_eq (tgt := 41) K dX10_isDigit_34 (by decide) (fun c7_ => ?_) (fun c7_ => ?_)
      · have hf := e_t hf c7_
        refine r_iconst (v := 0) K dX10_isDigit_41 rfl ?_
        exact r_zret K Z dX10_isDigit_42 rfl hf
      · have hf := e_f hf c7_
        refine r_iconst (v := 1) K dX10_isDigit_37 rfl ?_
        refine r_goto (tgt := 42) K dX10_isDigit_38 (by decide) ?_
        exact r_zret K Z dX10_isDigit_42 rfl hf
theorem conX10_isDigit {G : GG} (h : AH) (rv : Int32) (h' : AH) (hf : fX10_isDigit h = some (rv, h')) : Con G 1 yX10_isDigit cX10_isDigit 1 (some .boolean) [.ref 59] h (some (.int rv)) h' := con_of mwX10_isDigit (Nat.le_of_ble_eq_true rfl) (fun E K Z => sX10_isDigit K Z h hf)
def fX10_number__4_b (Q4 : Int32 → Int32 → AH → Option (Int32 × AH)) (x1 : Int32) (x2 : Int32) (h : AH) : Option (Int32 × AH) :=
  if 4 ≤ x2 then some (x1, h) else bind2 (fX10_isDigit  h) fun r2_ h3_ => if r2_ = 0 then some (x1, h3_) else if inb (h3_.1 59 18) 120 = true then letV ((((10 * x1) + (h3_.1 69 (ix (h3_.1 59 18)))) - 48)) fun x7_ => letV (wI h3_ 59 18 ((h3_.1 59 18) + 1)) fun h9_ => Q4 x7_ (x2 + 1) h9_ else none
def fX10_number__4 : Nat → Int32 → Int32 → AH → Option (Int32 × AH)
  | 0 => fun _ _ _ => none
  | n + 1 => fX10_number__4_b (fX10_number__4 n)
set_option maxRecDepth 10000 in
theorem sX10_number__4_b {G : GG} {E : EE} {rv : Int32} {h' : AH} (K : OK G E 2 RX10 cX10_number_ 3) (Z : RT G E (some .int) (some (.int rv)) h') (Q4 : Int32 → Int32 → AH → Option (Int32 × AH)) (hQ4 : ∀ (x1 : Int32) (x2 : Int32) (h : AH), Q4 x1 x2 h = some (rv, h') → JJ G E 3 4 [(0, .ref 59), (1, .int x1), (2, .int x2)] [] h) (x1 : Int32) (x2 : Int32) (h : AH) (hf : fX10_number__4_b Q4 x1 x2 h = some (rv, h')) : JJ G E 3 4 [(0, .ref 59), (1, .int x1), (2, .int x2)] [] h := by
  unfold fX10_number__4_b at hf
  refine r_iload_n K dX10_number__4 2 rfl rfl ?_
  refine r_iconst (v := 4) K dX10_number__5 rfl ?_
  refine r_icmp_ge (tgt := 50) K dX10_number__6 (by decide) (fun c1_ => ?_) (fun c1_ => ?_)
  · have hf := e_t hf c1_
    refine r_iload_n K dX10_number__50 1 rfl rfl ?_
    exact r_iret K Z dX10_number__51 hf
  · have hf := e_f hf c1_
    refine r_aload_n K dX10_number__9 0 rfl rfl ?_
    obtain ⟨r2_, h3_, g4_, hf⟩ := e_2 hf
    refine r_callV (av := []) (st := []) K lkX10_154 mwX10_isDigit (conX10_isDigit  h r2_ h3_ g4_) dX10_number__10 rfl (Nat.le_of_ble_eq_true rfl) rfl rfl (Nat.le_of_ble_eq_true rfl) ?_
    refine r_if_eq (tgt := 50) K dX10_number__13 (by decide) (fun c5_ => ?_) (fun c5_ => ?_)
    · have hf := e_t hf c5_
      refine r_iload_n K dX10_number__50 1 rfl rfl ?_
      exact r_iret K Z dX10_number__51 hf
    · have hf := e_f hf c5_
      refine r_bipush (v := 10) K dX10_number__16 rfl ?_
      refine r_iload_n K dX10_number__18 1 rfl rfl ?_
      refine r_imul K dX10_number__19 ?_
      refine r_aload_n K dX10_number__20 0 rfl rfl ?_
      refine r_getR (o' := 69) K flX10_37 dX10_number__21 rfl rfl rfl ?_
      refine r_aload_n K dX10_number__24 0 rfl rfl ?_
      refine r_getI K flX10_148 dX10_number__25 rfl rfl ?_
      obtain ⟨g6_, hf⟩ := e_g hf
      refine r_iald K dX10_number__28 rfl g6_ ?_
      refine r_iadd K dX10_number__29 ?_
      refine r_bipush (v := 48) K dX10_number__30 rfl ?_
      refine r_isub K dX10_number__32 ?_
      obtain ⟨x7_, e8_, hf⟩ := e_l hf
      refine r_nmI e8_ ?_
      refine r_istore_n (lv' := [(1, .int x7_), (0, .ref 59), (2, .int x2)]) K dX10_number__33 rfl (Nat.le_of_ble_eq_true rfl) rfl ?_
      refine r_aload_n K dX10_number__34 1 rfl rfl ?_
      refine r_dup K dX10_number__35 rfl ?_
      refine r_getI K flX10_148 dX10_number__36 rfl rfl ?_
      refine r_iconst (v := 1) K dX10_number__39 rfl ?_
      refine r_iadd K dX10_number__40 ?_
      obtain ⟨h9_, e10_, hf⟩ := e_l hf
      refine r_putI K fpX10_148 dX10_number__41 rfl rfl e10_ ?_
      refine r_iinc (y := 1) (lv' := [(2, .int (x2 + 1)), (1, .int x7_), (0, .ref 59)]) K dX10_number__44 2 rfl rfl (Nat.le_of_ble_eq_true rfl) rfl ?_
      refine r_goto (tgt := 4) K dX10_number__47 (by decide) ?_
      refine r_lv [2, 1, 0] rfl ?_
      exact hQ4 x7_ (x2 + 1) h9_ hf
theorem sX10_number__4 {G : GG} {E : EE} {rv : Int32} {h' : AH} (K : OK G E 2 RX10 cX10_number_ 3) (Z : RT G E (some .int) (some (.int rv)) h') : ∀ (n : Nat) (x1 : Int32) (x2 : Int32) (h : AH), fX10_number__4 n x1 x2 h = some (rv, h') → JJ G E 3 4 [(0, .ref 59), (1, .int x1), (2, .int x2)] [] h := by
  intro n
  induction n with
  | zero => intro x1 x2 h hf; cases hf
  | succ n ih => intro x1 x2 h hf; exact sX10_number__4_b K Z _ (fun x1 x2 h hf => ih x1 x2 h hf) x1 x2 h hf
def fX10_number_ (h : AH) : Option (Int32 × AH) :=
  fX10_number__4 FU 0 0 h
set_option maxRecDepth 10000 in
theorem sX10_number_ {G : GG} {E : EE} {rv : Int32} {h' : AH} (K : OK G E 2 RX10 cX10_number_ 3) (Z : RT G E (some .int) (some (.int rv)) h') (h : AH) (hf : fX10_number_ h = some (rv, h')) : JJ G E 3 0 [(0, .ref 59)] [] h := by
  unfold fX10_number_ at hf
  refine r_iconst (v := 0) K dX10_number__0 rfl ?_
  refine r_istore_n (lv' := [(1, .int 0), (0, .ref 59)]) K dX10_number__1 rfl (Nat.le_of_ble_eq_true rfl) rfl ?_
  refine r_iconst (v := 0) K dX10_number__2 rfl ?_
  refine r_istore_n (lv' := [(2, .int 0), (1, .int 0), (0, .ref 59)]) K dX10_number__3 rfl (Nat.le_of_ble_eq_true rfl) rfl ?_
  refine r_lv [2, 1, 0] rfl ?_
  exact sX10_number__4 K Z FU 0 0 h hf
theorem conX10_number_ {G : GG} (h : AH) (rv : Int32) (h' : AH) (hf : fX10_number_ h = some (rv, h')) : Con G 2 yX10_number_ cX10_number_ 3 (some .int) [.ref 59] h (some (.int rv)) h' := con_of mwX10_number_ (Nat.le_of_ble_eq_true rfl) (fun E K Z => sX10_number_ K Z h hf)
def fX10_opens_45 (h : AH) : Option (Int32 × AH) :=
  if isB (h.1 59 19) = true then some ((h.1 59 19), h) else none
set_option maxRecDepth 10000 in
theorem sX10_opens_45 {G : GG} {E : EE} {rv : Int32} {h' : AH} (K : OK G E 0 RX10 cX10_opens 1) (Z : RT G E (some .boolean) (some (.int rv)) h') (h : AH) (hf : fX10_opens_45 h = some (rv, h')) : JJ G E 1 45 [(0, .ref 59)] [] h := by
  unfold fX10_opens_45 at hf
  refine r_aload_n K dX10_opens_45 0 rfl rfl ?_
  refine r_getI K flX10_144 dX10_opens_46 rfl rfl ?_
  obtain ⟨g6_, hf⟩ := e_g hf
  exact r_zret K Z dX10_opens_49 g6_ hf
def fX10_opens_15 (s0 : Int32) (h : AH) : Option (Int32 × AH) :=
  if isB s0 = true then letV (wI h 59 19 s0) fun h3_ => if (h3_.1 59 19) = 0 then fX10_opens_45 h3_ else letV (wI h3_ 59 20 ((h3_.1 59 20) + 1)) fun h7_ => letV (wI h7_ 59 18 ((h7_.1 59 18) + 1)) fun h9_ => fX10_opens_45 h9_ else none
set_option maxRecDepth 10000 in
theorem sX10_opens_15 {G : GG} {E : EE} {rv : Int32} {h' : AH} (K : OK G E 0 RX10 cX10_opens 1) (Z : RT G E (some .boolean) (some (.int rv)) h') (s0 : Int32) (h : AH) (hf : fX10_opens_15 s0 h = some (rv, h')) : JJ G E 1 15 [(0, .ref 59)] [.int s0, .ref 59] h := by
  unfold fX10_opens_15 at hf
  obtain ⟨g2_, hf⟩ := e_g hf
  obtain ⟨h3_, e4_, hf⟩ := e_l hf
  refine r_putZ K fpX10_144 dX10_opens_15 rfl rfl g2_ e4_ ?_
  refine r_aload_n K dX10_opens_18 0 rfl rfl ?_
  refine r_getI K flX10_144 dX10_opens_19 rfl rfl ?_
  refine r_if_eq (tgt := 45) K dX10_opens_22 (by decide) (fun c5_ => ?_) (fun c5_ => ?_)
  · have hf := e_t hf c5_
    refine r_lv [0] rfl ?_
    exact sX10_opens_45 K Z h3_ hf
  · have hf := e_f hf c5_
    refine r_aload_n K dX10_opens_25 0 rfl rfl ?_
    refine r_dup K dX10_opens_26 rfl ?_
    refine r_getI K flX10_158 dX10_opens_27 rfl rfl ?_
    refine r_iconst (v := 1) K dX10_opens_30 rfl ?_
    refine r_iadd K dX10_opens_31 ?_
    obtain ⟨h7_, e8_, hf⟩ := e_l hf
    refine r_putI K fpX10_158 dX10_opens_32 rfl rfl e8_ ?_
    refine r_aload_n K dX10_opens_35 0 rfl rfl ?_
    refine r_dup K dX10_opens_36 rfl ?_
    refine r_getI K flX10_148 dX10_opens_37 rfl rfl ?_
    refine r_iconst (v := 1) K dX10_opens_40 rfl ?_
    refine r_iadd K dX10_opens_41 ?_
    obtain ⟨h9_, e10_, hf⟩ := e_l hf
    refine r_putI K fpX10_148 dX10_opens_42 rfl rfl e10_ ?_
    refine r_lv [0] rfl ?_
    exact sX10_opens_45 K Z h9_ hf
def fX10_opens (h : AH) : Option (Int32 × AH) :=
  if 6 ≤ (h.1 59 20) then fX10_opens_15 0 h else fX10_opens_15 1 h
set_option maxRecDepth 10000 in
theorem sX10_opens {G : GG} {E : EE} {rv : Int32} {h' : AH} (K : OK G E 0 RX10 cX10_opens 1) (Z : RT G E (some .boolean) (some (.int rv)) h') (h : AH) (hf : fX10_opens h = some (rv, h')) : JJ G E 1 0 [(0, .ref 59)] [] h := by
  unfold fX10_opens at hf
  refine r_aload_n K dX10_opens_0 0 rfl rfl ?_
  refine r_aload_n K dX10_opens_1 0 rfl rfl ?_
  refine r_getI K flX10_158 dX10_opens_2 rfl rfl ?_
  refine r_bipush (v := 6) K dX10_opens_5 rfl ?_
  refine r_icmp_ge (tgt := 14) K dX10_opens_7 (by decide) (fun c1_ => ?_) (fun c1_ => ?_)
  · have hf := e_t hf c1_
    refine r_iconst (v := 0) K dX10_opens_14 rfl ?_
    refine r_lv [0] rfl ?_
    exact sX10_opens_15 K Z 0 h hf
  · have hf := e_f hf c1_
    refine r_iconst (v := 1) K dX10_opens_10 rfl ?_
    refine r_goto (tgt := 15) K dX10_opens_11 (by decide) ?_
    refine r_lv [0] rfl ?_
    exact sX10_opens_15 K Z 1 h hf
theorem conX10_opens {G : GG} (h : AH) (rv : Int32) (h' : AH) (hf : fX10_opens h = some (rv, h')) : Con G 0 yX10_opens cX10_opens 1 (some .boolean) [.ref 59] h (some (.int rv)) h' := con_of mwX10_opens (Nat.le_of_ble_eq_true rfl) (fun E K Z => sX10_opens K Z h hf)
def fX10_one_69 (RR : Nat → List Int32 → AH → Option (Int32 × AH)) (s0 : Int32) (h : AH) : Option (Int32 × AH) :=
  letV (wI h 59 20 ((h.1 59 20) - 1)) fun h20_ => some (s0, h20_)
set_option maxRecDepth 10000 in
theorem sX10_one_69 {G : GG} {E : EE} {rv : Int32} {h' : AH} {dd : Nat} (hdd : 2 ≤ dd) (K : OK G E (dd + 1) RX10 cX10_one 4) (Z : RT G E (some .int) (some (.int rv)) h') (RR : Nat → List Int32 → AH → Option (Int32 × AH)) (hRR : (∀ (h : AH) (r : Int32) (h1 : AH), RR 0 [] h = some (r, h1) → Con G dd yX10_one cX10_one 4 (some .int) [.ref 59] h (some (.int r)) h1) ∧ (∀ (h : AH) (r : Int32) (h1 : AH), RR 1 [] h = some (r, h1) → Con G dd yX10_product cX10_product 4 (some .int) [.ref 59] h (some (.int r)) h1) ∧ (∀ (h : AH) (r : Int32) (h1 : AH), RR 2 [] h = some (r, h1) → Con G dd yX10_total cX10_total 4 (some .int) [.ref 59] h (some (.int r)) h1) ∧ (∀ (h : AH) (r : Int32) (h1 : AH), RR 3 [] h = some (r, h1) → Con G dd yX10_compared cX10_compared 5 (some .int) [.ref 59] h (some (.int r)) h1) ∧ (∀ (h : AH) (r : Int32) (h1 : AH), RR 4 [] h = some (r, h1) → Con G dd yX10_both cX10_both 3 (some .int) [.ref 59] h (some (.int r)) h1) ∧ (∀ (h : AH) (r : Int32) (h1 : AH), RR 5 [] h = some (r, h1) → Con G dd yX10_any cX10_any 3 (some .int) [.ref 59] h (some (.int r)) h1)) (s0 : Int32) (h : AH) (hf : fX10_one_69 RR s0 h = some (rv, h')) : JJ G E 4 69 [(0, .ref 59)] [.int s0] h := by
  unfold fX10_one_69 at hf
  refine r_istore_n (lv' := [(1, .int s0), (0, .ref 59)]) K dX10_one_69 rfl (Nat.le_of_ble_eq_true rfl) rfl ?_
  refine r_aload_n K dX10_one_70 1 rfl rfl ?_
  refine r_dup K dX10_one_71 rfl ?_
  refine r_getI K flX10_158 dX10_one_72 rfl rfl ?_
  refine r_iconst (v := 1) K dX10_one_75 rfl ?_
  refine r_isub K dX10_one_76 ?_
  obtain ⟨h20_, e21_, hf⟩ := e_l hf
  refine r_putI K fpX10_158 dX10_one_77 rfl rfl e21_ ?_
  refine r_iload_n K dX10_one_80 0 rfl rfl ?_
  exact r_iret K Z dX10_one_81 hf
def fX10_one_32 (RR : Nat → List Int32 → AH → Option (Int32 × AH)) (x1 : Int32) (h : AH) : Option (Int32 × AH) :=
  bind2 (fX10_isAt 33 h) fun r9_ h10_ => bind2 (fX10_opens  h10_) fun r12_ h13_ => if r12_ = 0 then some (x1, h13_) else bind2 (RR 0 [] h13_) fun r16_ h17_ => if r9_ = 0 then fX10_one_69 RR (-r16_) h17_ else if r16_ = 0 then fX10_one_69 RR 1 h17_ else fX10_one_69 RR 0 h17_
set_option maxRecDepth 10000 in
theorem sX10_one_32 {G : GG} {E : EE} {rv : Int32} {h' : AH} {dd : Nat} (hdd : 2 ≤ dd) (K : OK G E (dd + 1) RX10 cX10_one 4) (Z : RT G E (some .int) (some (.int rv)) h') (RR : Nat → List Int32 → AH → Option (Int32 × AH)) (hRR : (∀ (h : AH) (r : Int32) (h1 : AH), RR 0 [] h = some (r, h1) → Con G dd yX10_one cX10_one 4 (some .int) [.ref 59] h (some (.int r)) h1) ∧ (∀ (h : AH) (r : Int32) (h1 : AH), RR 1 [] h = some (r, h1) → Con G dd yX10_product cX10_product 4 (some .int) [.ref 59] h (some (.int r)) h1) ∧ (∀ (h : AH) (r : Int32) (h1 : AH), RR 2 [] h = some (r, h1) → Con G dd yX10_total cX10_total 4 (some .int) [.ref 59] h (some (.int r)) h1) ∧ (∀ (h : AH) (r : Int32) (h1 : AH), RR 3 [] h = some (r, h1) → Con G dd yX10_compared cX10_compared 5 (some .int) [.ref 59] h (some (.int r)) h1) ∧ (∀ (h : AH) (r : Int32) (h1 : AH), RR 4 [] h = some (r, h1) → Con G dd yX10_both cX10_both 3 (some .int) [.ref 59] h (some (.int r)) h1) ∧ (∀ (h : AH) (r : Int32) (h1 : AH), RR 5 [] h = some (r, h1) → Con G dd yX10_any cX10_any 3 (some .int) [.ref 59] h (some (.int r)) h1)) (x1 : Int32) (h : AH) (hf : fX10_one_32 RR x1 h = some (rv, h')) : JJ G E 4 32 [(0, .ref 59), (1, .int x1)] [] h := by
  unfold fX10_one_32 at hf
  refine r_aload_n K dX10_one_32 0 rfl rfl ?_
  refine r_bipush (v := 33) K dX10_one_33 rfl ?_
  obtain ⟨r9_, h10_, g11_, hf⟩ := e_2 hf
  refine r_callV (av := [.int 33]) (st := []) K lkX10_164 mwX10_isAt (conX10_isAt 33 h r9_ h10_ g11_) dX10_one_35 rfl (by omega) rfl rfl (Nat.le_of_ble_eq_true rfl) ?_
  refine r_istore_n (lv' := [(2, .int r9_), (0, .ref 59), (1, .int x1)]) K dX10_one_38 rfl (Nat.le_of_ble_eq_true rfl) rfl ?_
  refine r_aload_n K dX10_one_39 1 rfl rfl ?_
  obtain ⟨r12_, h13_, g14_, hf⟩ := e_2 hf
  refine r_callV (av := []) (st := []) K lkX10_167 mwX10_opens (conX10_opens  h10_ r12_ h13_ g14_) dX10_one_40 rfl (by omega) rfl rfl (Nat.le_of_ble_eq_true rfl) ?_
  refine r_if_eq (tgt := 80) K dX10_one_43 (by decide) (fun c15_ => ?_) (fun c15_ => ?_)
  · have hf := e_t hf c15_
    refine r_iload_n K dX10_one_80 2 rfl rfl ?_
    exact r_iret K Z dX10_one_81 hf
  · have hf := e_f hf c15_
    refine r_aload_n K dX10_one_46 1 rfl rfl ?_
    obtain ⟨r16_, h17_, g18_, hf⟩ := e_2 hf
    refine r_callV (av := []) (st := []) K lkX10_170 mwX10_one (hRR.1  h13_ r16_ h17_ g18_) dX10_one_47 rfl (Nat.le_refl _) rfl rfl (Nat.le_of_ble_eq_true rfl) ?_
    refine r_istore_n (lv' := [(3, .int r16_), (2, .int r9_), (0, .ref 59), (1, .int x1)]) K dX10_one_50 rfl (Nat.le_of_ble_eq_true rfl) rfl ?_
    refine r_iload_n K dX10_one_51 1 rfl rfl ?_
    refine r_if_eq (tgt := 67) K dX10_one_52 (by decide) (fun c19_ => ?_) (fun c19_ => ?_)
    · have hf := e_t hf c19_
      refine r_iload_n K dX10_one_67 0 rfl rfl ?_
      refine r_ineg K dX10_one_68 ?_
      refine r_lv [2] rfl ?_
      exact sX10_one_69 hdd K Z RR hRR (-r16_) h17_ hf
    · have hf := e_f hf c19_
      refine r_iload_n K dX10_one_55 0 rfl rfl ?_
      refine r_if_ne (tgt := 63) K dX10_one_56 (by decide) (fun c22_ => ?_) (fun c22_ => ?_)
      · have hf := e_f hf c22_
        refine r_iconst (v := 0) K dX10_one_63 rfl ?_
        refine r_goto (tgt := 69) K dX10_one_64 (by decide) ?_
        refine r_lv [2] rfl ?_
        exact sX10_one_69 hdd K Z RR hRR 0 h17_ hf
      · have hf := e_t hf c22_
        refine r_iconst (v := 1) K dX10_one_59 rfl ?_
        refine r_goto (tgt := 69) K dX10_one_60 (by decide) ?_
        refine r_lv [2] rfl ?_
        exact sX10_one_69 hdd K Z RR hRR 1 h17_ hf
def fX10_one_148_b (RR : Nat → List Int32 → AH → Option (Int32 × AH)) (Q148 : Int32 → AH → Option (Int32 × AH)) (x2 : Int32) (h : AH) : Option (Int32 × AH) :=
  if 6 ≤ x2 then letV (wI h 59 19 0) fun h32_ => some (0, h32_) else if inb x2 6 = true then bind2 (fX10_isAt (h.1 71 (ix x2)) h) fun r35_ h36_ => if r35_ = 0 then Q148 (x2 + 1) h36_ else letV (wI h36_ 59 18 ((h36_.1 59 18) + 1)) fun h39_ => some ((h39_.1 70 (ix x2)), h39_) else none
def fX10_one_148 (RR : Nat → List Int32 → AH → Option (Int32 × AH)) : Nat → Int32 → AH → Option (Int32 × AH)
  | 0 => fun _ _ => none
  | n + 1 => fX10_one_148_b RR (fX10_one_148 RR n)
set_option maxRecDepth 10000 in
theorem sX10_one_148_b {G : GG} {E : EE} {rv : Int32} {h' : AH} {dd : Nat} (hdd : 2 ≤ dd) (K : OK G E (dd + 1) RX10 cX10_one 4) (Z : RT G E (some .int) (some (.int rv)) h') (RR : Nat → List Int32 → AH → Option (Int32 × AH)) (hRR : (∀ (h : AH) (r : Int32) (h1 : AH), RR 0 [] h = some (r, h1) → Con G dd yX10_one cX10_one 4 (some .int) [.ref 59] h (some (.int r)) h1) ∧ (∀ (h : AH) (r : Int32) (h1 : AH), RR 1 [] h = some (r, h1) → Con G dd yX10_product cX10_product 4 (some .int) [.ref 59] h (some (.int r)) h1) ∧ (∀ (h : AH) (r : Int32) (h1 : AH), RR 2 [] h = some (r, h1) → Con G dd yX10_total cX10_total 4 (some .int) [.ref 59] h (some (.int r)) h1) ∧ (∀ (h : AH) (r : Int32) (h1 : AH), RR 3 [] h = some (r, h1) → Con G dd yX10_compared cX10_compared 5 (some .int) [.ref 59] h (some (.int r)) h1) ∧ (∀ (h : AH) (r : Int32) (h1 : AH), RR 4 [] h = some (r, h1) → Con G dd yX10_both cX10_both 3 (some .int) [.ref 59] h (some (.int r)) h1) ∧ (∀ (h : AH) (r : Int32) (h1 : AH), RR 5 [] h = some (r, h1) → Con G dd yX10_any cX10_any 3 (some .int) [.ref 59] h (some (.int r)) h1)) (Q148 : Int32 → AH → Option (Int32 × AH)) (hQ148 : ∀ (x2 : Int32) (h : AH), Q148 x2 h = some (rv, h') → JJ G E 4 148 [(0, .ref 59), (2, .int x2)] [] h) (x2 : Int32) (h : AH) (hf : fX10_one_148_b RR Q148 x2 h = some (rv, h')) : JJ G E 4 148 [(0, .ref 59), (2, .int x2)] [] h := by
  unfold fX10_one_148_b at hf
  refine r_iload_n K dX10_one_148 1 rfl rfl ?_
  refine r_bipush (v := 6) K dX10_one_149 rfl ?_
  refine r_icmp_ge (tgt := 190) K dX10_one_151 (by decide) (fun c31_ => ?_) (fun c31_ => ?_)
  · have hf := e_t hf c31_
    refine r_aload_n K dX10_one_190 0 rfl rfl ?_
    refine r_iconst (v := 0) K dX10_one_191 rfl ?_
    obtain ⟨h32_, e33_, hf⟩ := e_l hf
    refine r_putZ K fpX10_144 dX10_one_192 rfl rfl rfl e33_ ?_
    refine r_iconst (v := 0) K dX10_one_195 rfl ?_
    exact r_iret K Z dX10_one_196 hf
  · have hf := e_f hf c31_
    refine r_aload_n K dX10_one_154 0 rfl rfl ?_
    refine r_aload_n K dX10_one_155 0 rfl rfl ?_
    refine r_getR (o' := 71) K flX10_43 dX10_one_156 rfl rfl rfl ?_
    refine r_iload_n K dX10_one_159 1 rfl rfl ?_
    obtain ⟨g34_, hf⟩ := e_g hf
    refine r_cald K dX10_one_160 rfl g34_ ?_
    obtain ⟨r35_, h36_, g37_, hf⟩ := e_2 hf
    refine r_callV (av := [.int (h.1 71 (ix x2))]) (st := []) K lkX10_164 mwX10_isAt (conX10_isAt (h.1 71 (ix x2)) h r35_ h36_ g37_) dX10_one_161 rfl (by omega) rfl rfl (Nat.le_of_ble_eq_true rfl) ?_
    refine r_if_eq (tgt := 184) K dX10_one_164 (by decide) (fun c38_ => ?_) (fun c38_ => ?_)
    · have hf := e_t hf c38_
      refine r_iinc (y := 1) (lv' := [(2, .int (x2 + 1)), (0, .ref 59)]) K dX10_one_184 1 rfl rfl (Nat.le_of_ble_eq_true rfl) rfl ?_
      refine r_goto (tgt := 148) K dX10_one_187 (by decide) ?_
      refine r_lv [1, 0] rfl ?_
      exact hQ148 (x2 + 1) h36_ hf
    · have hf := e_f hf c38_
      refine r_aload_n K dX10_one_167 0 rfl rfl ?_
      refine r_dup K dX10_one_168 rfl ?_
      refine r_getI K flX10_148 dX10_one_169 rfl rfl ?_
      refine r_iconst (v := 1) K dX10_one_172 rfl ?_
      refine r_iadd K dX10_one_173 ?_
      obtain ⟨h39_, e40_, hf⟩ := e_l hf
      refine r_putI K fpX10_148 dX10_one_174 rfl rfl e40_ ?_
      refine r_aload_n K dX10_one_177 0 rfl rfl ?_
      refine r_getR (o' := 70) K flX10_40 dX10_one_178 rfl rfl rfl ?_
      refine r_iload_n K dX10_one_181 1 rfl rfl ?_
      refine r_iald K dX10_one_182 rfl g34_ ?_
      exact r_iret K Z dX10_one_183 hf
theorem sX10_one_148 {G : GG} {E : EE} {rv : Int32} {h' : AH} {dd : Nat} (hdd : 2 ≤ dd) (K : OK G E (dd + 1) RX10 cX10_one 4) (Z : RT G E (some .int) (some (.int rv)) h') (RR : Nat → List Int32 → AH → Option (Int32 × AH)) (hRR : (∀ (h : AH) (r : Int32) (h1 : AH), RR 0 [] h = some (r, h1) → Con G dd yX10_one cX10_one 4 (some .int) [.ref 59] h (some (.int r)) h1) ∧ (∀ (h : AH) (r : Int32) (h1 : AH), RR 1 [] h = some (r, h1) → Con G dd yX10_product cX10_product 4 (some .int) [.ref 59] h (some (.int r)) h1) ∧ (∀ (h : AH) (r : Int32) (h1 : AH), RR 2 [] h = some (r, h1) → Con G dd yX10_total cX10_total 4 (some .int) [.ref 59] h (some (.int r)) h1) ∧ (∀ (h : AH) (r : Int32) (h1 : AH), RR 3 [] h = some (r, h1) → Con G dd yX10_compared cX10_compared 5 (some .int) [.ref 59] h (some (.int r)) h1) ∧ (∀ (h : AH) (r : Int32) (h1 : AH), RR 4 [] h = some (r, h1) → Con G dd yX10_both cX10_both 3 (some .int) [.ref 59] h (some (.int r)) h1) ∧ (∀ (h : AH) (r : Int32) (h1 : AH), RR 5 [] h = some (r, h1) → Con G dd yX10_any cX10_any 3 (some .int) [.ref 59] h (some (.int r)) h1)) : ∀ (n : Nat) (x2 : Int32) (h : AH), fX10_one_148 RR n x2 h = some (rv, h') → JJ G E 4 148 [(0, .ref 59), (2, .int x2)] [] h := by
  intro n
  induction n with
  | zero => intro x2 h hf; cases hf
  | succ n ih => intro x2 h hf; exact sX10_one_148_b hdd K Z RR hRR _ (fun x2 h hf => ih x2 h hf) x2 h hf
def fX10_one_130 (RR : Nat → List Int32 → AH → Option (Int32 × AH)) (x1 : Int32) (s0 : Int32) (s1 : Int32) (h : AH) : Option (Int32 × AH) :=
  letV (wI h 59 18 (s1 + s0)) fun h56_ => letV (wI h56_ 59 20 ((h56_.1 59 20) - 1)) fun h58_ => some (x1, h58_)
set_option maxRecDepth 10000 in
theorem sX10_one_130 {G : GG} {E : EE} {rv : Int32} {h' : AH} {dd : Nat} (hdd : 2 ≤ dd) (K : OK G E (dd + 1) RX10 cX10_one 4) (Z : RT G E (some .int) (some (.int rv)) h') (RR : Nat → List Int32 → AH → Option (Int32 × AH)) (hRR : (∀ (h : AH) (r : Int32) (h1 : AH), RR 0 [] h = some (r, h1) → Con G dd yX10_one cX10_one 4 (some .int) [.ref 59] h (some (.int r)) h1) ∧ (∀ (h : AH) (r : Int32) (h1 : AH), RR 1 [] h = some (r, h1) → Con G dd yX10_product cX10_product 4 (some .int) [.ref 59] h (some (.int r)) h1) ∧ (∀ (h : AH) (r : Int32) (h1 : AH), RR 2 [] h = some (r, h1) → Con G dd yX10_total cX10_total 4 (some .int) [.ref 59] h (some (.int r)) h1) ∧ (∀ (h : AH) (r : Int32) (h1 : AH), RR 3 [] h = some (r, h1) → Con G dd yX10_compared cX10_compared 5 (some .int) [.ref 59] h (some (.int r)) h1) ∧ (∀ (h : AH) (r : Int32) (h1 : AH), RR 4 [] h = some (r, h1) → Con G dd yX10_both cX10_both 3 (some .int) [.ref 59] h (some (.int r)) h1) ∧ (∀ (h : AH) (r : Int32) (h1 : AH), RR 5 [] h = some (r, h1) → Con G dd yX10_any cX10_any 3 (some .int) [.ref 59] h (some (.int r)) h1)) (x1 : Int32) (s0 : Int32) (s1 : Int32) (h : AH) (hf : fX10_one_130 RR x1 s0 s1 h = some (rv, h')) : JJ G E 4 130 [(0, .ref 59), (1, .int x1)] [.int s0, .int s1, .ref 59] h := by
  unfold fX10_one_130 at hf
  refine r_iadd K dX10_one_130 ?_
  obtain ⟨h56_, e57_, hf⟩ := e_l hf
  refine r_putI K fpX10_148 dX10_one_131 rfl rfl e57_ ?_
  refine r_aload_n K dX10_one_134 0 rfl rfl ?_
  refine r_dup K dX10_one_135 rfl ?_
  refine r_getI K flX10_158 dX10_one_136 rfl rfl ?_
  refine r_iconst (v := 1) K dX10_one_139 rfl ?_
  refine r_isub K dX10_one_140 ?_
  obtain ⟨h58_, e59_, hf⟩ := e_l hf
  refine r_putI K fpX10_158 dX10_one_141 rfl rfl e59_ ?_
  refine r_iload_n K dX10_one_144 1 rfl rfl ?_
  exact r_iret K Z dX10_one_145 hf
def fX10_one (RR : Nat → List Int32 → AH → Option (Int32 × AH)) (h : AH) : Option (Int32 × AH) :=
  bind2 (fX10_isDigit  h) fun r1_ h2_ => if r1_ = 0 then bind2 (fX10_isAt 33 h2_) fun r5_ h6_ => if r5_ = 0 then bind2 (fX10_isAt 45 h6_) fun r23_ h24_ => if r23_ = 0 then bind2 (fX10_isAt 40 h24_) fun r27_ h28_ => if r27_ = 0 then fX10_one_148 RR FU 0 h28_ else bind2 (fX10_opens  h28_) fun r42_ h43_ => if r42_ = 0 then some (0, h43_) else bind2 (RR 5 [] h43_) fun r46_ h47_ => bind2 (fX10_isAt 41 h47_) fun r49_ h50_ => if isB r49_ = true then letV (wI h50_ 59 19 r49_) fun h53_ => if (h53_.1 59 19) = 0 then fX10_one_130 RR r46_ 0 (h53_.1 59 18) h53_ else fX10_one_130 RR r46_ 1 (h53_.1 59 18) h53_ else none else fX10_one_32 RR 0 h24_ else fX10_one_32 RR 0 h6_ else bind2 (fX10_number_  h2_) fun r60_ h61_ => some (r60_, h61_)
set_option maxRecDepth 10000 in
theorem sX10_one {G : GG} {E : EE} {rv : Int32} {h' : AH} {dd : Nat} (hdd : 2 ≤ dd) (K : OK G E (dd + 1) RX10 cX10_one 4) (Z : RT G E (some .int) (some (.int rv)) h') (RR : Nat → List Int32 → AH → Option (Int32 × AH)) (hRR : (∀ (h : AH) (r : Int32) (h1 : AH), RR 0 [] h = some (r, h1) → Con G dd yX10_one cX10_one 4 (some .int) [.ref 59] h (some (.int r)) h1) ∧ (∀ (h : AH) (r : Int32) (h1 : AH), RR 1 [] h = some (r, h1) → Con G dd yX10_product cX10_product 4 (some .int) [.ref 59] h (some (.int r)) h1) ∧ (∀ (h : AH) (r : Int32) (h1 : AH), RR 2 [] h = some (r, h1) → Con G dd yX10_total cX10_total 4 (some .int) [.ref 59] h (some (.int r)) h1) ∧ (∀ (h : AH) (r : Int32) (h1 : AH), RR 3 [] h = some (r, h1) → Con G dd yX10_compared cX10_compared 5 (some .int) [.ref 59] h (some (.int r)) h1) ∧ (∀ (h : AH) (r : Int32) (h1 : AH), RR 4 [] h = some (r, h1) → Con G dd yX10_both cX10_both 3 (some .int) [.ref 59] h (some (.int r)) h1) ∧ (∀ (h : AH) (r : Int32) (h1 : AH), RR 5 [] h = some (r, h1) → Con G dd yX10_any cX10_any 3 (some .int) [.ref 59] h (some (.int r)) h1)) (h : AH) (hf : fX10_one RR h = some (rv, h')) : JJ G E 4 0 [(0, .ref 59)] [] h := by
  unfold fX10_one at hf
  refine r_iconst (v := 0) K dX10_one_0 rfl ?_
  refine r_istore_n (lv' := [(1, .int 0), (0, .ref 59)]) K dX10_one_1 rfl (Nat.le_of_ble_eq_true rfl) rfl ?_
  refine r_aload_n K dX10_one_2 1 rfl rfl ?_
  obtain ⟨r1_, h2_, g3_, hf⟩ := e_2 hf
  refine r_callV (av := []) (st := []) K lkX10_154 mwX10_isDigit (conX10_isDigit  h r1_ h2_ g3_) dX10_one_3 rfl (by omega) rfl rfl (Nat.le_of_ble_eq_true rfl) ?_
  refine r_if_eq (tgt := 14) K dX10_one_6 (by decide) (fun c4_ => ?_) (fun c4_ => ?_)
  · have hf := e_t hf c4_
    refine r_aload_n K dX10_one_14 1 rfl rfl ?_
    refine r_bipush (v := 33) K dX10_one_15 rfl ?_
    obtain ⟨r5_, h6_, g7_, hf⟩ := e_2 hf
    refine r_callV (av := [.int 33]) (st := []) K lkX10_164 mwX10_isAt (conX10_isAt 33 h2_ r5_ h6_ g7_) dX10_one_17 rfl (by omega) rfl rfl (Nat.le_of_ble_eq_true rfl) ?_
    refine r_if_ne (tgt := 32) K dX10_one_20 (by decide) (fun c8_ => ?_) (fun c8_ => ?_)
    · have hf := e_f hf c8_
      refine r_lv [1, 0] rfl ?_
      exact sX10_one_32 hdd K Z RR hRR 0 h6_ hf
    · have hf := e_t hf c8_
      refine r_aload_n K dX10_one_23 1 rfl rfl ?_
      refine r_bipush (v := 45) K dX10_one_24 rfl ?_
      obtain ⟨r23_, h24_, g25_, hf⟩ := e_2 hf
      refine r_callV (av := [.int 45]) (st := []) K lkX10_164 mwX10_isAt (conX10_isAt 45 h6_ r23_ h24_ g25_) dX10_one_26 rfl (by omega) rfl rfl (Nat.le_of_ble_eq_true rfl) ?_
      refine r_if_eq (tgt := 82) K dX10_one_29 (by decide) (fun c26_ => ?_) (fun c26_ => ?_)
      · have hf := e_t hf c26_
        refine r_aload_n K dX10_one_82 1 rfl rfl ?_
        refine r_bipush (v := 40) K dX10_one_83 rfl ?_
        obtain ⟨r27_, h28_, g29_, hf⟩ := e_2 hf
        refine r_callV (av := [.int 40]) (st := []) K lkX10_164 mwX10_isAt (conX10_isAt 40 h24_ r27_ h28_ g29_) dX10_one_85 rfl (by omega) rfl rfl (Nat.le_of_ble_eq_true rfl) ?_
        refine r_if_eq (tgt := 146) K dX10_one_88 (by decide) (fun c30_ => ?_) (fun c30_ => ?_)
        · have hf := e_t hf c30_
          refine r_iconst (v := 0) K dX10_one_146 rfl ?_
          refine r_istore_n (lv' := [(2, .int 0), (1, .int 0), (0, .ref 59)]) K dX10_one_147 rfl (Nat.le_of_ble_eq_true rfl) rfl ?_
          refine r_lv [2, 0] rfl ?_
          exact sX10_one_148 hdd K Z RR hRR FU 0 h28_ hf
        · have hf := e_f hf c30_
          refine r_aload_n K dX10_one_91 1 rfl rfl ?_
          obtain ⟨r42_, h43_, g44_, hf⟩ := e_2 hf
          refine r_callV (av := []) (st := []) K lkX10_167 mwX10_opens (conX10_opens  h28_ r42_ h43_ g44_) dX10_one_92 rfl (by omega) rfl rfl (Nat.le_of_ble_eq_true rfl) ?_
          refine r_if_eq (tgt := 144) K dX10_one_95 (by decide) (fun c45_ => ?_) (fun c45_ => ?_)
          · have hf := e_t hf c45_
            refine r_iload_n K dX10_one_144 0 rfl rfl ?_
            exact r_iret K Z dX10_one_145 hf
          · have hf := e_f hf c45_
            refine r_aload_n K dX10_one_98 1 rfl rfl ?_
            obtain ⟨r46_, h47_, g48_, hf⟩ := e_2 hf
            refine r_callV (av := []) (st := []) K lkX10_173 mwX10_any (hRR.2.2.2.2.2  h43_ r46_ h47_ g48_) dX10_one_99 rfl (Nat.le_refl _) rfl rfl (Nat.le_of_ble_eq_true rfl) ?_
            refine r_istore_n (lv' := [(1, .int r46_), (0, .ref 59)]) K dX10_one_102 rfl (Nat.le_of_ble_eq_true rfl) rfl ?_
            refine r_aload_n K dX10_one_103 1 rfl rfl ?_
            refine r_aload_n K dX10_one_104 1 rfl rfl ?_
            refine r_bipush (v := 41) K dX10_one_105 rfl ?_
            obtain ⟨r49_, h50_, g51_, hf⟩ := e_2 hf
            refine r_callV (av := [.int 41]) (st := [.ref 59]) K lkX10_164 mwX10_isAt (conX10_isAt 41 h47_ r49_ h50_ g51_) dX10_one_107 rfl (by omega) rfl rfl (Nat.le_of_ble_eq_true rfl) ?_
            obtain ⟨g52_, hf⟩ := e_g hf
            obtain ⟨h53_, e54_, hf⟩ := e_l hf
            refine r_putZ K fpX10_144 dX10_one_110 rfl rfl g52_ e54_ ?_
            refine r_aload_n K dX10_one_113 1 rfl rfl ?_
            refine r_dup K dX10_one_114 rfl ?_
            refine r_getI K flX10_148 dX10_one_115 rfl rfl ?_
            refine r_aload_n K dX10_one_118 1 rfl rfl ?_
            refine r_getI K flX10_144 dX10_one_119 rfl rfl ?_
            refine r_if_eq (tgt := 129) K dX10_one_122 (by decide) (fun c55_ => ?_) (fun c55_ => ?_)
            · have hf := e_t hf c55_
              refine r_iconst (v := 0) K dX10_one_129 rfl ?_
              refine r_lv [1, 0] rfl ?_
              exact sX10_one_130 hdd K Z RR hRR r46_ 0 (h53_.1 59 18) h53_ hf
            · have hf := e_f hf c55_
              refine r_iconst (v := 1) K dX10_one_125 rfl ?_
              refine r_goto (tgt := 130) K dX10_one_126 (by decide) ?_
              refine r_lv [1, 0] rfl ?_
              exact sX10_one_130 hdd K Z RR hRR r46_ 1 (h53_.1 59 18) h53_ hf
      · have hf := e_f hf c26_
        refine r_lv [1, 0] rfl ?_
        exact sX10_one_32 hdd K Z RR hRR 0 h24_ hf
  · have hf := e_f hf c4_
    refine r_aload_n K dX10_one_9 1 rfl rfl ?_
    obtain ⟨r60_, h61_, g62_, hf⟩ := e_2 hf
    refine r_callV (av := []) (st := []) K lkX10_161 mwX10_number_ (conX10_number_  h2_ r60_ h61_ g62_) dX10_one_10 rfl (by omega) rfl rfl (Nat.le_of_ble_eq_true rfl) ?_
    exact r_iret K Z dX10_one_13 hf
def fX10_product_32 (RR : Nat → List Int32 → AH → Option (Int32 × AH)) (Q5 : Int32 → AH → Option (Int32 × AH)) (x1 : Int32) (h : AH) : Option (Int32 × AH) :=
  if inb (h.1 59 18) 120 = true then letV ((h.1 69 (ix (h.1 59 18)))) fun x9_ => letV (wI h 59 18 ((h.1 59 18) + 1)) fun h11_ => bind2 (RR 0 [] h11_) fun r13_ h14_ => if x9_ = 42 then letV ((x1 * r13_)) fun x25_ => Q5 x25_ h14_ else if r13_ = 0 then Q5 0 h14_ else if x9_ = 47 then if r13_ = 0 then none else letV ((x1 / r13_)) fun x23_ => Q5 x23_ h14_ else if r13_ = 0 then none else letV ((jrem x1 r13_)) fun x20_ => Q5 x20_ h14_ else none
set_option maxRecDepth 10000 in
theorem sX10_product_32 {G : GG} {E : EE} {rv : Int32} {h' : AH} {dd : Nat} (hdd : 2 ≤ dd) (K : OK G E (dd + 1) RX10 cX10_product 4) (Z : RT G E (some .int) (some (.int rv)) h') (RR : Nat → List Int32 → AH → Option (Int32 × AH)) (hRR : (∀ (h : AH) (r : Int32) (h1 : AH), RR 0 [] h = some (r, h1) → Con G dd yX10_one cX10_one 4 (some .int) [.ref 59] h (some (.int r)) h1) ∧ (∀ (h : AH) (r : Int32) (h1 : AH), RR 1 [] h = some (r, h1) → Con G dd yX10_product cX10_product 4 (some .int) [.ref 59] h (some (.int r)) h1) ∧ (∀ (h : AH) (r : Int32) (h1 : AH), RR 2 [] h = some (r, h1) → Con G dd yX10_total cX10_total 4 (some .int) [.ref 59] h (some (.int r)) h1) ∧ (∀ (h : AH) (r : Int32) (h1 : AH), RR 3 [] h = some (r, h1) → Con G dd yX10_compared cX10_compared 5 (some .int) [.ref 59] h (some (.int r)) h1) ∧ (∀ (h : AH) (r : Int32) (h1 : AH), RR 4 [] h = some (r, h1) → Con G dd yX10_both cX10_both 3 (some .int) [.ref 59] h (some (.int r)) h1) ∧ (∀ (h : AH) (r : Int32) (h1 : AH), RR 5 [] h = some (r, h1) → Con G dd yX10_any cX10_any 3 (some .int) [.ref 59] h (some (.int r)) h1)) (Q5 : Int32 → AH → Option (Int32 × AH)) (hQ5 : ∀ (x1 : Int32) (h : AH), Q5 x1 h = some (rv, h') → JJ G E 4 5 [(0, .ref 59), (1, .int x1)] [] h) (x1 : Int32) (h : AH) (hf : fX10_product_32 RR Q5 x1 h = some (rv, h')) : JJ G E 4 32 [(0, .ref 59), (1, .int x1)] [] h := by
  unfold fX10_product_32 at hf
  refine r_aload_n K dX10_product_32 0 rfl rfl ?_
  refine r_getR (o' := 69) K flX10_37 dX10_product_33 rfl rfl rfl ?_
  refine r_aload_n K dX10_product_36 0 rfl rfl ?_
  refine r_getI K flX10_148 dX10_product_37 rfl rfl ?_
  obtain ⟨g8_, hf⟩ := e_g hf
  refine r_iald K dX10_product_40 rfl g8_ ?_
  obtain ⟨x9_, e10_, hf⟩ := e_l hf
  refine r_nmI e10_ ?_
  refine r_istore_n (lv' := [(2, .int x9_), (0, .ref 59), (1, .int x1)]) K dX10_product_41 rfl (Nat.le_of_ble_eq_true rfl) rfl ?_
  refine r_aload_n K dX10_product_42 1 rfl rfl ?_
  refine r_dup K dX10_product_43 rfl ?_
  refine r_getI K flX10_148 dX10_product_44 rfl rfl ?_
  refine r_iconst (v := 1) K dX10_product_47 rfl ?_
  refine r_iadd K dX10_product_48 ?_
  obtain ⟨h11_, e12_, hf⟩ := e_l hf
  refine r_putI K fpX10_148 dX10_product_49 rfl rfl e12_ ?_
  refine r_aload_n K dX10_product_52 1 rfl rfl ?_
  obtain ⟨r13_, h14_, g15_, hf⟩ := e_2 hf
  refine r_callV (av := []) (st := []) K lkX10_170 mwX10_one (hRR.1  h11_ r13_ h14_ g15_) dX10_product_53 rfl (Nat.le_refl _) rfl rfl (Nat.le_of_ble_eq_true rfl) ?_
  refine r_istore_n (lv' := [(3, .int r13_), (2, .int x9_), (0, .ref 59), (1, .int x1)]) K dX10_product_56 rfl (Nat.le_of_ble_eq_true rfl) rfl ?_
  refine r_iload_n K dX10_product_57 1 rfl rfl ?_
  refine r_bipush (v := 42) K dX10_product_58 rfl ?_
  refine r_icmp_ne (tgt := 69) K dX10_product_60 (by decide) (fun c16_ => ?_) (fun c16_ => ?_)
  · have hf := e_f hf c16_
    refine r_iload_n K dX10_product_69 0 rfl rfl ?_
    refine r_if_ne (tgt := 77) K dX10_product_70 (by decide) (fun c17_ => ?_) (fun c17_ => ?_)
    · have hf := e_f hf c17_
      refine r_iload_n K dX10_product_77 1 rfl rfl ?_
      refine r_bipush (v := 47) K dX10_product_78 rfl ?_
      refine r_icmp_ne (tgt := 89) K dX10_product_80 (by decide) (fun c18_ => ?_) (fun c18_ => ?_)
      · have hf := e_f hf c18_
        refine r_iload_n K dX10_product_89 3 rfl rfl ?_
        refine r_iload_n K dX10_product_90 0 rfl rfl ?_
        obtain ⟨g19_, hf⟩ := e_n hf
        refine r_irem K dX10_product_91 g19_ ?_
        obtain ⟨x20_, e21_, hf⟩ := e_l hf
        refine r_nmI e21_ ?_
        refine r_istore_n (lv' := [(1, .int x20_), (3, .int r13_), (2, .int x9_), (0, .ref 59)]) K dX10_product_92 rfl (Nat.le_of_ble_eq_true rfl) rfl ?_
        refine r_goto (tgt := 5) K dX10_product_93 (by decide) ?_
        refine r_lv [3, 0] rfl ?_
        exact hQ5 x20_ h14_ hf
      · have hf := e_t hf c18_
        refine r_iload_n K dX10_product_83 3 rfl rfl ?_
        refine r_iload_n K dX10_product_84 0 rfl rfl ?_
        obtain ⟨g22_, hf⟩ := e_n hf
        refine r_idiv K dX10_product_85 g22_ ?_
        refine r_goto (tgt := 92) K dX10_product_86 (by decide) ?_
        obtain ⟨x23_, e24_, hf⟩ := e_l hf
        refine r_nmI e24_ ?_
        refine r_istore_n (lv' := [(1, .int x23_), (3, .int r13_), (2, .int x9_), (0, .ref 59)]) K dX10_product_92 rfl (Nat.le_of_ble_eq_true rfl) rfl ?_
        refine r_goto (tgt := 5) K dX10_product_93 (by decide) ?_
        refine r_lv [3, 0] rfl ?_
        exact hQ5 x23_ h14_ hf
    · have hf := e_t hf c17_
      refine r_iconst (v := 0) K dX10_product_73 rfl ?_
      refine r_goto (tgt := 92) K dX10_product_74 (by decide) ?_
      refine r_istore_n (lv' := [(1, .int 0), (3, .int r13_), (2, .int x9_), (0, .ref 59)]) K dX10_product_92 rfl (Nat.le_of_ble_eq_true rfl) rfl ?_
      refine r_goto (tgt := 5) K dX10_product_93 (by decide) ?_
      refine r_lv [3, 0] rfl ?_
      exact hQ5 0 h14_ hf
  · have hf := e_t hf c16_
    refine r_iload_n K dX10_product_63 3 rfl rfl ?_
    refine r_iload_n K dX10_product_64 0 rfl rfl ?_
    refine r_imul K dX10_product_65 ?_
    refine r_goto (tgt := 92) K dX10_product_66 (by decide) ?_
    obtain ⟨x25_, e26_, hf⟩ := e_l hf
    refine r_nmI e26_ ?_
    refine r_istore_n (lv' := [(1, .int x25_), (3, .int r13_), (2, .int x9_), (0, .ref 59)]) K dX10_product_92 rfl (Nat.le_of_ble_eq_true rfl) rfl ?_
    refine r_goto (tgt := 5) K dX10_product_93 (by decide) ?_
    refine r_lv [3, 0] rfl ?_
    exact hQ5 x25_ h14_ hf
def fX10_product_5_b (RR : Nat → List Int32 → AH → Option (Int32 × AH)) (Q5 : Int32 → AH → Option (Int32 × AH)) (x1 : Int32) (h : AH) : Option (Int32 × AH) :=
  bind2 (fX10_isAt 42 h) fun r4_ h5_ => if r4_ = 0 then bind2 (fX10_isAt 47 h5_) fun r27_ h28_ => if r27_ = 0 then bind2 (fX10_isAt 37 h28_) fun r31_ h32_ => if r31_ = 0 then some (x1, h32_) else fX10_product_32 RR Q5 x1 h32_ else fX10_product_32 RR Q5 x1 h28_ else fX10_product_32 RR Q5 x1 h5_
def fX10_product_5 (RR : Nat → List Int32 → AH → Option (Int32 × AH)) : Nat → Int32 → AH → Option (Int32 × AH)
  | 0 => fun _ _ => none
  | n + 1 => fX10_product_5_b RR (fX10_product_5 RR n)
set_option maxRecDepth 10000 in
theorem sX10_product_5_b {G : GG} {E : EE} {rv : Int32} {h' : AH} {dd : Nat} (hdd : 2 ≤ dd) (K : OK G E (dd + 1) RX10 cX10_product 4) (Z : RT G E (some .int) (some (.int rv)) h') (RR : Nat → List Int32 → AH → Option (Int32 × AH)) (hRR : (∀ (h : AH) (r : Int32) (h1 : AH), RR 0 [] h = some (r, h1) → Con G dd yX10_one cX10_one 4 (some .int) [.ref 59] h (some (.int r)) h1) ∧ (∀ (h : AH) (r : Int32) (h1 : AH), RR 1 [] h = some (r, h1) → Con G dd yX10_product cX10_product 4 (some .int) [.ref 59] h (some (.int r)) h1) ∧ (∀ (h : AH) (r : Int32) (h1 : AH), RR 2 [] h = some (r, h1) → Con G dd yX10_total cX10_total 4 (some .int) [.ref 59] h (some (.int r)) h1) ∧ (∀ (h : AH) (r : Int32) (h1 : AH), RR 3 [] h = some (r, h1) → Con G dd yX10_compared cX10_compared 5 (some .int) [.ref 59] h (some (.int r)) h1) ∧ (∀ (h : AH) (r : Int32) (h1 : AH), RR 4 [] h = some (r, h1) → Con G dd yX10_both cX10_both 3 (some .int) [.ref 59] h (some (.int r)) h1) ∧ (∀ (h : AH) (r : Int32) (h1 : AH), RR 5 [] h = some (r, h1) → Con G dd yX10_any cX10_any 3 (some .int) [.ref 59] h (some (.int r)) h1)) (Q5 : Int32 → AH → Option (Int32 × AH)) (hQ5 : ∀ (x1 : Int32) (h : AH), Q5 x1 h = some (rv, h') → JJ G E 4 5 [(0, .ref 59), (1, .int x1)] [] h) (x1 : Int32) (h : AH) (hf : fX10_product_5_b RR Q5 x1 h = some (rv, h')) : JJ G E 4 5 [(0, .ref 59), (1, .int x1)] [] h := by
  unfold fX10_product_5_b at hf
  refine r_aload_n K dX10_product_5 0 rfl rfl ?_
  refine r_bipush (v := 42) K dX10_product_6 rfl ?_
  obtain ⟨r4_, h5_, g6_, hf⟩ := e_2 hf
  refine r_callV (av := [.int 42]) (st := []) K lkX10_164 mwX10_isAt (conX10_isAt 42 h r4_ h5_ g6_) dX10_product_8 rfl (by omega) rfl rfl (Nat.le_of_ble_eq_true rfl) ?_
  refine r_if_ne (tgt := 32) K dX10_product_11 (by decide) (fun c7_ => ?_) (fun c7_ => ?_)
  · have hf := e_f hf c7_
    refine r_lv [0, 1] rfl ?_
    exact sX10_product_32 hdd K Z RR hRR Q5 hQ5 x1 h5_ hf
  · have hf := e_t hf c7_
    refine r_aload_n K dX10_product_14 0 rfl rfl ?_
    refine r_bipush (v := 47) K dX10_product_15 rfl ?_
    obtain ⟨r27_, h28_, g29_, hf⟩ := e_2 hf
    refine r_callV (av := [.int 47]) (st := []) K lkX10_164 mwX10_isAt (conX10_isAt 47 h5_ r27_ h28_ g29_) dX10_product_17 rfl (by omega) rfl rfl (Nat.le_of_ble_eq_true rfl) ?_
    refine r_if_ne (tgt := 32) K dX10_product_20 (by decide) (fun c30_ => ?_) (fun c30_ => ?_)
    · have hf := e_f hf c30_
      refine r_lv [0, 1] rfl ?_
      exact sX10_product_32 hdd K Z RR hRR Q5 hQ5 x1 h28_ hf
    · have hf := e_t hf c30_
      refine r_aload_n K dX10_product_23 0 rfl rfl ?_
      refine r_bipush (v := 37) K dX10_product_24 rfl ?_
      obtain ⟨r31_, h32_, g33_, hf⟩ := e_2 hf
      refine r_callV (av := [.int 37]) (st := []) K lkX10_164 mwX10_isAt (conX10_isAt 37 h28_ r31_ h32_ g33_) dX10_product_26 rfl (by omega) rfl rfl (Nat.le_of_ble_eq_true rfl) ?_
      refine r_if_eq (tgt := 96) K dX10_product_29 (by decide) (fun c34_ => ?_) (fun c34_ => ?_)
      · have hf := e_t hf c34_
        refine r_iload_n K dX10_product_96 1 rfl rfl ?_
        exact r_iret K Z dX10_product_97 hf
      · have hf := e_f hf c34_
        refine r_lv [0, 1] rfl ?_
        exact sX10_product_32 hdd K Z RR hRR Q5 hQ5 x1 h32_ hf
theorem sX10_product_5 {G : GG} {E : EE} {rv : Int32} {h' : AH} {dd : Nat} (hdd : 2 ≤ dd) (K : OK G E (dd + 1) RX10 cX10_product 4) (Z : RT G E (some .int) (some (.int rv)) h') (RR : Nat → List Int32 → AH → Option (Int32 × AH)) (hRR : (∀ (h : AH) (r : Int32) (h1 : AH), RR 0 [] h = some (r, h1) → Con G dd yX10_one cX10_one 4 (some .int) [.ref 59] h (some (.int r)) h1) ∧ (∀ (h : AH) (r : Int32) (h1 : AH), RR 1 [] h = some (r, h1) → Con G dd yX10_product cX10_product 4 (some .int) [.ref 59] h (some (.int r)) h1) ∧ (∀ (h : AH) (r : Int32) (h1 : AH), RR 2 [] h = some (r, h1) → Con G dd yX10_total cX10_total 4 (some .int) [.ref 59] h (some (.int r)) h1) ∧ (∀ (h : AH) (r : Int32) (h1 : AH), RR 3 [] h = some (r, h1) → Con G dd yX10_compared cX10_compared 5 (some .int) [.ref 59] h (some (.int r)) h1) ∧ (∀ (h : AH) (r : Int32) (h1 : AH), RR 4 [] h = some (r, h1) → Con G dd yX10_both cX10_both 3 (some .int) [.ref 59] h (some (.int r)) h1) ∧ (∀ (h : AH) (r : Int32) (h1 : AH), RR 5 [] h = some (r, h1) → Con G dd yX10_any cX10_any 3 (some .int) [.ref 59] h (some (.int r)) h1)) : ∀ (n : Nat) (x1 : Int32) (h : AH), fX10_product_5 RR n x1 h = some (rv, h') → JJ G E 4 5 [(0, .ref 59), (1, .int x1)] [] h := by
  intro n
  induction n with
  | zero => intro x1 h hf; cases hf
  | succ n ih => intro x1 h hf; exact sX10_product_5_b hdd K Z RR hRR _ (fun x1 h hf => ih x1 h hf) x1 h hf
def fX10_product (RR : Nat → List Int32 → AH → Option (Int32 × AH)) (h : AH) : Option (Int32 × AH) :=
  bind2 (RR 0 [] h) fun r1_ h2_ => fX10_product_5 RR FU r1_ h2_
set_option maxRecDepth 10000 in
theorem sX10_product {G : GG} {E : EE} {rv : Int32} {h' : AH} {dd : Nat} (hdd : 2 ≤ dd) (K : OK G E (dd + 1) RX10 cX10_product 4) (Z : RT G E (some .int) (some (.int rv)) h') (RR : Nat → List Int32 → AH → Option (Int32 × AH)) (hRR : (∀ (h : AH) (r : Int32) (h1 : AH), RR 0 [] h = some (r, h1) → Con G dd yX10_one cX10_one 4 (some .int) [.ref 59] h (some (.int r)) h1) ∧ (∀ (h : AH) (r : Int32) (h1 : AH), RR 1 [] h = some (r, h1) → Con G dd yX10_product cX10_product 4 (some .int) [.ref 59] h (some (.int r)) h1) ∧ (∀ (h : AH) (r : Int32) (h1 : AH), RR 2 [] h = some (r, h1) → Con G dd yX10_total cX10_total 4 (some .int) [.ref 59] h (some (.int r)) h1) ∧ (∀ (h : AH) (r : Int32) (h1 : AH), RR 3 [] h = some (r, h1) → Con G dd yX10_compared cX10_compared 5 (some .int) [.ref 59] h (some (.int r)) h1) ∧ (∀ (h : AH) (r : Int32) (h1 : AH), RR 4 [] h = some (r, h1) → Con G dd yX10_both cX10_both 3 (some .int) [.ref 59] h (some (.int r)) h1) ∧ (∀ (h : AH) (r : Int32) (h1 : AH), RR 5 [] h = some (r, h1) → Con G dd yX10_any cX10_any 3 (some .int) [.ref 59] h (some (.int r)) h1)) (h : AH) (hf : fX10_product RR h = some (rv, h')) : JJ G E 4 0 [(0, .ref 59)] [] h := by
  unfold fX10_product at hf
  refine r_aload_n K dX10_product_0 0 rfl rfl ?_
  obtain ⟨r1_, h2_, g3_, hf⟩ := e_2 hf
  refine r_callV (av := []) (st := []) K lkX10_170 mwX10_one (hRR.1  h r1_ h2_ g3_) dX10_product_1 rfl (Nat.le_refl _) rfl rfl (Nat.le_of_ble_eq_true rfl) ?_
  refine r_istore_n (lv' := [(1, .int r1_), (0, .ref 59)]) K dX10_product_4 rfl (Nat.le_of_ble_eq_true rfl) rfl ?_
  refine r_lv [1, 0] rfl ?_
  exact sX10_product_5 hdd K Z RR hRR FU r1_ h2_ hf
def fX10_total_23 (RR : Nat → List Int32 → AH → Option (Int32 × AH)) (Q5 : Int32 → AH → Option (Int32 × AH)) (x1 : Int32) (h : AH) : Option (Int32 × AH) :=
  bind2 (fX10_isAt 43 h) fun r8_ h9_ => letV (wI h9_ 59 18 ((h9_.1 59 18) + 1)) fun h11_ => bind2 (RR 1 [] h11_) fun r13_ h14_ => if r8_ = 0 then letV ((x1 - r13_)) fun x17_ => Q5 x17_ h14_ else letV ((x1 + r13_)) fun x19_ => Q5 x19_ h14_
set_option maxRecDepth 10000 in
theorem sX10_total_23 {G : GG} {E : EE} {rv : Int32} {h' : AH} {dd : Nat} (hdd : 2 ≤ dd) (K : OK G E (dd + 1) RX10 cX10_total 4) (Z : RT G E (some .int) (some (.int rv)) h') (RR : Nat → List Int32 → AH → Option (Int32 × AH)) (hRR : (∀ (h : AH) (r : Int32) (h1 : AH), RR 0 [] h = some (r, h1) → Con G dd yX10_one cX10_one 4 (some .int) [.ref 59] h (some (.int r)) h1) ∧ (∀ (h : AH) (r : Int32) (h1 : AH), RR 1 [] h = some (r, h1) → Con G dd yX10_product cX10_product 4 (some .int) [.ref 59] h (some (.int r)) h1) ∧ (∀ (h : AH) (r : Int32) (h1 : AH), RR 2 [] h = some (r, h1) → Con G dd yX10_total cX10_total 4 (some .int) [.ref 59] h (some (.int r)) h1) ∧ (∀ (h : AH) (r : Int32) (h1 : AH), RR 3 [] h = some (r, h1) → Con G dd yX10_compared cX10_compared 5 (some .int) [.ref 59] h (some (.int r)) h1) ∧ (∀ (h : AH) (r : Int32) (h1 : AH), RR 4 [] h = some (r, h1) → Con G dd yX10_both cX10_both 3 (some .int) [.ref 59] h (some (.int r)) h1) ∧ (∀ (h : AH) (r : Int32) (h1 : AH), RR 5 [] h = some (r, h1) → Con G dd yX10_any cX10_any 3 (some .int) [.ref 59] h (some (.int r)) h1)) (Q5 : Int32 → AH → Option (Int32 × AH)) (hQ5 : ∀ (x1 : Int32) (h : AH), Q5 x1 h = some (rv, h') → JJ G E 4 5 [(0, .ref 59), (1, .int x1)] [] h) (x1 : Int32) (h : AH) (hf : fX10_total_23 RR Q5 x1 h = some (rv, h')) : JJ G E 4 23 [(0, .ref 59), (1, .int x1)] [] h := by
  unfold fX10_total_23 at hf
  refine r_aload_n K dX10_total_23 0 rfl rfl ?_
  refine r_bipush (v := 43) K dX10_total_24 rfl ?_
  obtain ⟨r8_, h9_, g10_, hf⟩ := e_2 hf
  refine r_callV (av := [.int 43]) (st := []) K lkX10_164 mwX10_isAt (conX10_isAt 43 h r8_ h9_ g10_) dX10_total_26 rfl (by omega) rfl rfl (Nat.le_of_ble_eq_true rfl) ?_
  refine r_istore_n (lv' := [(2, .int r8_), (0, .ref 59), (1, .int x1)]) K dX10_total_29 rfl (Nat.le_of_ble_eq_true rfl) rfl ?_
  refine r_aload_n K dX10_total_30 1 rfl rfl ?_
  refine r_dup K dX10_total_31 rfl ?_
  refine r_getI K flX10_148 dX10_total_32 rfl rfl ?_
  refine r_iconst (v := 1) K dX10_total_35 rfl ?_
  refine r_iadd K dX10_total_36 ?_
  obtain ⟨h11_, e12_, hf⟩ := e_l hf
  refine r_putI K fpX10_148 dX10_total_37 rfl rfl e12_ ?_
  refine r_aload_n K dX10_total_40 1 rfl rfl ?_
  obtain ⟨r13_, h14_, g15_, hf⟩ := e_2 hf
  refine r_callV (av := []) (st := []) K lkX10_176 mwX10_product (hRR.2.1  h11_ r13_ h14_ g15_) dX10_total_41 rfl (Nat.le_refl _) rfl rfl (Nat.le_of_ble_eq_true rfl) ?_
  refine r_istore_n (lv' := [(3, .int r13_), (2, .int r8_), (0, .ref 59), (1, .int x1)]) K dX10_total_44 rfl (Nat.le_of_ble_eq_true rfl) rfl ?_
  refine r_iload_n K dX10_total_45 1 rfl rfl ?_
  refine r_if_eq (tgt := 55) K dX10_total_46 (by decide) (fun c16_ => ?_) (fun c16_ => ?_)
  · have hf := e_t hf c16_
    refine r_iload_n K dX10_total_55 3 rfl rfl ?_
    refine r_iload_n K dX10_total_56 0 rfl rfl ?_
    refine r_isub K dX10_total_57 ?_
    obtain ⟨x17_, e18_, hf⟩ := e_l hf
    refine r_nmI e18_ ?_
    refine r_istore_n (lv' := [(1, .int x17_), (3, .int r13_), (2, .int r8_), (0, .ref 59)]) K dX10_total_58 rfl (Nat.le_of_ble_eq_true rfl) rfl ?_
    refine r_goto (tgt := 5) K dX10_total_59 (by decide) ?_
    refine r_lv [3, 0] rfl ?_
    exact hQ5 x17_ h14_ hf
  · have hf := e_f hf c16_
    refine r_iload_n K dX10_total_49 3 rfl rfl ?_
    refine r_iload_n K dX10_total_50 0 rfl rfl ?_
    refine r_iadd K dX10_total_51 ?_
    refine r_goto (tgt := 58) K dX10_total_52 (by decide) ?_
    obtain ⟨x19_, e20_, hf⟩ := e_l hf
    refine r_nmI e20_ ?_
    refine r_istore_n (lv' := [(1, .int x19_), (3, .int r13_), (2, .int r8_), (0, .ref 59)]) K dX10_total_58 rfl (Nat.le_of_ble_eq_true rfl) rfl ?_
    refine r_goto (tgt := 5) K dX10_total_59 (by decide) ?_
    refine r_lv [3, 0] rfl ?_
    exact hQ5 x19_ h14_ hf
def fX10_total_5_b (RR : Nat → List Int32 → AH → Option (Int32 × AH)) (Q5 : Int32 → AH → Option (Int32 × AH)) (x1 : Int32) (h : AH) : Option (Int32 × AH) :=
  bind2 (fX10_isAt 43 h) fun r4_ h5_ => if r4_ = 0 then bind2 (fX10_isAt 45 h5_) fun r21_ h22_ => if r21_ = 0 then some (x1, h22_) else fX10_total_23 RR Q5 x1 h22_ else fX10_total_23 RR Q5 x1 h5_
def fX10_total_5 (RR : Nat → List Int32 → AH → Option (Int32 × AH)) : Nat → Int32 → AH → Option (Int32 × AH)
  | 0 => fun _ _ => none
  | n + 1 => fX10_total_5_b RR (fX10_total_5 RR n)
set_option maxRecDepth 10000 in
theorem sX10_total_5_b {G : GG} {E : EE} {rv : Int32} {h' : AH} {dd : Nat} (hdd : 2 ≤ dd) (K : OK G E (dd + 1) RX10 cX10_total 4) (Z : RT G E (some .int) (some (.int rv)) h') (RR : Nat → List Int32 → AH → Option (Int32 × AH)) (hRR : (∀ (h : AH) (r : Int32) (h1 : AH), RR 0 [] h = some (r, h1) → Con G dd yX10_one cX10_one 4 (some .int) [.ref 59] h (some (.int r)) h1) ∧ (∀ (h : AH) (r : Int32) (h1 : AH), RR 1 [] h = some (r, h1) → Con G dd yX10_product cX10_product 4 (some .int) [.ref 59] h (some (.int r)) h1) ∧ (∀ (h : AH) (r : Int32) (h1 : AH), RR 2 [] h = some (r, h1) → Con G dd yX10_total cX10_total 4 (some .int) [.ref 59] h (some (.int r)) h1) ∧ (∀ (h : AH) (r : Int32) (h1 : AH), RR 3 [] h = some (r, h1) → Con G dd yX10_compared cX10_compared 5 (some .int) [.ref 59] h (some (.int r)) h1) ∧ (∀ (h : AH) (r : Int32) (h1 : AH), RR 4 [] h = some (r, h1) → Con G dd yX10_both cX10_both 3 (some .int) [.ref 59] h (some (.int r)) h1) ∧ (∀ (h : AH) (r : Int32) (h1 : AH), RR 5 [] h = some (r, h1) → Con G dd yX10_any cX10_any 3 (some .int) [.ref 59] h (some (.int r)) h1)) (Q5 : Int32 → AH → Option (Int32 × AH)) (hQ5 : ∀ (x1 : Int32) (h : AH), Q5 x1 h = some (rv, h') → JJ G E 4 5 [(0, .ref 59), (1, .int x1)] [] h) (x1 : Int32) (h : AH) (hf : fX10_total_5_b RR Q5 x1 h = some (rv, h')) : JJ G E 4 5 [(0, .ref 59), (1, .int x1)] [] h := by
  unfold fX10_total_5_b at hf
  refine r_aload_n K dX10_total_5 0 rfl rfl ?_
  refine r_bipush (v := 43) K dX10_total_6 rfl ?_
  obtain ⟨r4_, h5_, g6_, hf⟩ := e_2 hf
  refine r_callV (av := [.int 43]) (st := []) K lkX10_164 mwX10_isAt (conX10_isAt 43 h r4_ h5_ g6_) dX10_total_8 rfl (by omega) rfl rfl (Nat.le_of_ble_eq_true rfl) ?_
  refine r_if_ne (tgt := 23) K dX10_total_11 (by decide) (fun c7_ => ?_) (fun c7_ => ?_)
  · have hf := e_f hf c7_
    refine r_lv [0, 1] rfl ?_
    exact sX10_total_23 hdd K Z RR hRR Q5 hQ5 x1 h5_ hf
  · have hf := e_t hf c7_
    refine r_aload_n K dX10_total_14 0 rfl rfl ?_
    refine r_bipush (v := 45) K dX10_total_15 rfl ?_
    obtain ⟨r21_, h22_, g23_, hf⟩ := e_2 hf
    refine r_callV (av := [.int 45]) (st := []) K lkX10_164 mwX10_isAt (conX10_isAt 45 h5_ r21_ h22_ g23_) dX10_total_17 rfl (by omega) rfl rfl (Nat.le_of_ble_eq_true rfl) ?_
    refine r_if_eq (tgt := 62) K dX10_total_20 (by decide) (fun c24_ => ?_) (fun c24_ => ?_)
    · have hf := e_t hf c24_
      refine r_iload_n K dX10_total_62 1 rfl rfl ?_
      exact r_iret K Z dX10_total_63 hf
    · have hf := e_f hf c24_
      refine r_lv [0, 1] rfl ?_
      exact sX10_total_23 hdd K Z RR hRR Q5 hQ5 x1 h22_ hf
theorem sX10_total_5 {G : GG} {E : EE} {rv : Int32} {h' : AH} {dd : Nat} (hdd : 2 ≤ dd) (K : OK G E (dd + 1) RX10 cX10_total 4) (Z : RT G E (some .int) (some (.int rv)) h') (RR : Nat → List Int32 → AH → Option (Int32 × AH)) (hRR : (∀ (h : AH) (r : Int32) (h1 : AH), RR 0 [] h = some (r, h1) → Con G dd yX10_one cX10_one 4 (some .int) [.ref 59] h (some (.int r)) h1) ∧ (∀ (h : AH) (r : Int32) (h1 : AH), RR 1 [] h = some (r, h1) → Con G dd yX10_product cX10_product 4 (some .int) [.ref 59] h (some (.int r)) h1) ∧ (∀ (h : AH) (r : Int32) (h1 : AH), RR 2 [] h = some (r, h1) → Con G dd yX10_total cX10_total 4 (some .int) [.ref 59] h (some (.int r)) h1) ∧ (∀ (h : AH) (r : Int32) (h1 : AH), RR 3 [] h = some (r, h1) → Con G dd yX10_compared cX10_compared 5 (some .int) [.ref 59] h (some (.int r)) h1) ∧ (∀ (h : AH) (r : Int32) (h1 : AH), RR 4 [] h = some (r, h1) → Con G dd yX10_both cX10_both 3 (some .int) [.ref 59] h (some (.int r)) h1) ∧ (∀ (h : AH) (r : Int32) (h1 : AH), RR 5 [] h = some (r, h1) → Con G dd yX10_any cX10_any 3 (some .int) [.ref 59] h (some (.int r)) h1)) : ∀ (n : Nat) (x1 : Int32) (h : AH), fX10_total_5 RR n x1 h = some (rv, h') → JJ G E 4 5 [(0, .ref 59), (1, .int x1)] [] h := by
  intro n
  induction n with
  | zero => intro x1 h hf; cases hf
  | succ n ih => intro x1 h hf; exact sX10_total_5_b hdd K Z RR hRR _ (fun x1 h hf => ih x1 h hf) x1 h hf
def fX10_total (RR : Nat → List Int32 → AH → Option (Int32 × AH)) (h : AH) : Option (Int32 × AH) :=
  bind2 (RR 1 [] h) fun r1_ h2_ => fX10_total_5 RR FU r1_ h2_
set_option maxRecDepth 10000 in
theorem sX10_total {G : GG} {E : EE} {rv : Int32} {h' : AH} {dd : Nat} (hdd : 2 ≤ dd) (K : OK G E (dd + 1) RX10 cX10_total 4) (Z : RT G E (some .int) (some (.int rv)) h') (RR : Nat → List Int32 → AH → Option (Int32 × AH)) (hRR : (∀ (h : AH) (r : Int32) (h1 : AH), RR 0 [] h = some (r, h1) → Con G dd yX10_one cX10_one 4 (some .int) [.ref 59] h (some (.int r)) h1) ∧ (∀ (h : AH) (r : Int32) (h1 : AH), RR 1 [] h = some (r, h1) → Con G dd yX10_product cX10_product 4 (some .int) [.ref 59] h (some (.int r)) h1) ∧ (∀ (h : AH) (r : Int32) (h1 : AH), RR 2 [] h = some (r, h1) → Con G dd yX10_total cX10_total 4 (some .int) [.ref 59] h (some (.int r)) h1) ∧ (∀ (h : AH) (r : Int32) (h1 : AH), RR 3 [] h = some (r, h1) → Con G dd yX10_compared cX10_compared 5 (some .int) [.ref 59] h (some (.int r)) h1) ∧ (∀ (h : AH) (r : Int32) (h1 : AH), RR 4 [] h = some (r, h1) → Con G dd yX10_both cX10_both 3 (some .int) [.ref 59] h (some (.int r)) h1) ∧ (∀ (h : AH) (r : Int32) (h1 : AH), RR 5 [] h = some (r, h1) → Con G dd yX10_any cX10_any 3 (some .int) [.ref 59] h (some (.int r)) h1)) (h : AH) (hf : fX10_total RR h = some (rv, h')) : JJ G E 4 0 [(0, .ref 59)] [] h := by
  unfold fX10_total at hf
  refine r_aload_n K dX10_total_0 0 rfl rfl ?_
  obtain ⟨r1_, h2_, g3_, hf⟩ := e_2 hf
  refine r_callV (av := []) (st := []) K lkX10_176 mwX10_product (hRR.2.1  h r1_ h2_ g3_) dX10_total_1 rfl (Nat.le_refl _) rfl rfl (Nat.le_of_ble_eq_true rfl) ?_
  refine r_istore_n (lv' := [(1, .int r1_), (0, .ref 59)]) K dX10_total_4 rfl (Nat.le_of_ble_eq_true rfl) rfl ?_
  refine r_lv [1, 0] rfl ?_
  exact sX10_total_5 hdd K Z RR hRR FU r1_ h2_ hf
def fX10_compared_105 (RR : Nat → List Int32 → AH → Option (Int32 × AH)) (s0 : Int32) (h : AH) : Option (Int32 × AH) :=
  if s0 = 0 then some (0, h) else some (1, h)
set_option maxRecDepth 10000 in
theorem sX10_compared_105 {G : GG} {E : EE} {rv : Int32} {h' : AH} {dd : Nat} (hdd : 2 ≤ dd) (K : OK G E (dd + 1) RX10 cX10_compared 5) (Z : RT G E (some .int) (some (.int rv)) h') (RR : Nat → List Int32 → AH → Option (Int32 × AH)) (hRR : (∀ (h : AH) (r : Int32) (h1 : AH), RR 0 [] h = some (r, h1) → Con G dd yX10_one cX10_one 4 (some .int) [.ref 59] h (some (.int r)) h1) ∧ (∀ (h : AH) (r : Int32) (h1 : AH), RR 1 [] h = some (r, h1) → Con G dd yX10_product cX10_product 4 (some .int) [.ref 59] h (some (.int r)) h1) ∧ (∀ (h : AH) (r : Int32) (h1 : AH), RR 2 [] h = some (r, h1) → Con G dd yX10_total cX10_total 4 (some .int) [.ref 59] h (some (.int r)) h1) ∧ (∀ (h : AH) (r : Int32) (h1 : AH), RR 3 [] h = some (r, h1) → Con G dd yX10_compared cX10_compared 5 (some .int) [.ref 59] h (some (.int r)) h1) ∧ (∀ (h : AH) (r : Int32) (h1 : AH), RR 4 [] h = some (r, h1) → Con G dd yX10_both cX10_both 3 (some .int) [.ref 59] h (some (.int r)) h1) ∧ (∀ (h : AH) (r : Int32) (h1 : AH), RR 5 [] h = some (r, h1) → Con G dd yX10_any cX10_any 3 (some .int) [.ref 59] h (some (.int r)) h1)) (s0 : Int32) (h : AH) (hf : fX10_compared_105 RR s0 h = some (rv, h')) : JJ G E 5 105 [] [.int s0] h := by
  unfold fX10_compared_105 at hf
  refine r_istore (lv' := [(4, .int s0)]) K dX10_compared_105 (Nat.le_of_ble_eq_true rfl) rfl ?_
  refine r_iload K dX10_compared_107 0 rfl ?_
  refine r_if_eq (tgt := 116) K dX10_compared_109 (by decide) (fun c19_ => ?_) (fun c19_ => ?_)
  · have hf := e_t hf c19_
    refine r_iconst (v := 0) K dX10_compared_116 rfl ?_
    refine r_istore_n (lv' := [(1, .int 0), (4, .int s0)]) K dX10_compared_117 rfl (Nat.le_of_ble_eq_true rfl) rfl ?_
    refine r_iload_n K dX10_compared_118 0 rfl rfl ?_
    exact r_iret K Z dX10_compared_119 hf
  · have hf := e_f hf c19_
    refine r_iconst (v := 1) K dX10_compared_112 rfl ?_
    refine r_goto (tgt := 117) K dX10_compared_113 (by decide) ?_
    refine r_istore_n (lv' := [(1, .int 1), (4, .int s0)]) K dX10_compared_117 rfl (Nat.le_of_ble_eq_true rfl) rfl ?_
    refine r_iload_n K dX10_compared_118 0 rfl rfl ?_
    exact r_iret K Z dX10_compared_119 hf
def fX10_compared_32 (RR : Nat → List Int32 → AH → Option (Int32 × AH)) (x1 : Int32) (h : AH) : Option (Int32 × AH) :=
  if inb (h.1 59 18) 120 = true then letV ((h.1 69 (ix (h.1 59 18)))) fun x9_ => letV (wI h 59 18 ((h.1 59 18) + 1)) fun h11_ => bind2 (RR 2 [] h11_) fun r13_ h14_ => if x9_ = 60 then if r13_ ≤ x1 then fX10_compared_105 RR 0 h14_ else fX10_compared_105 RR 1 h14_ else if x9_ = 61 then if x1 = r13_ then fX10_compared_105 RR 1 h14_ else fX10_compared_105 RR 0 h14_ else if x1 ≤ r13_ then fX10_compared_105 RR 0 h14_ else fX10_compared_105 RR 1 h14_ else none
set_option maxRecDepth 10000 in
theorem sX10_compared_32 {G : GG} {E : EE} {rv : Int32} {h' : AH} {dd : Nat} (hdd : 2 ≤ dd) (K : OK G E (dd + 1) RX10 cX10_compared 5) (Z : RT G E (some .int) (some (.int rv)) h') (RR : Nat → List Int32 → AH → Option (Int32 × AH)) (hRR : (∀ (h : AH) (r : Int32) (h1 : AH), RR 0 [] h = some (r, h1) → Con G dd yX10_one cX10_one 4 (some .int) [.ref 59] h (some (.int r)) h1) ∧ (∀ (h : AH) (r : Int32) (h1 : AH), RR 1 [] h = some (r, h1) → Con G dd yX10_product cX10_product 4 (some .int) [.ref 59] h (some (.int r)) h1) ∧ (∀ (h : AH) (r : Int32) (h1 : AH), RR 2 [] h = some (r, h1) → Con G dd yX10_total cX10_total 4 (some .int) [.ref 59] h (some (.int r)) h1) ∧ (∀ (h : AH) (r : Int32) (h1 : AH), RR 3 [] h = some (r, h1) → Con G dd yX10_compared cX10_compared 5 (some .int) [.ref 59] h (some (.int r)) h1) ∧ (∀ (h : AH) (r : Int32) (h1 : AH), RR 4 [] h = some (r, h1) → Con G dd yX10_both cX10_both 3 (some .int) [.ref 59] h (some (.int r)) h1) ∧ (∀ (h : AH) (r : Int32) (h1 : AH), RR 5 [] h = some (r, h1) → Con G dd yX10_any cX10_any 3 (some .int) [.ref 59] h (some (.int r)) h1)) (x1 : Int32) (h : AH) (hf : fX10_compared_32 RR x1 h = some (rv, h')) : JJ G E 5 32 [(0, .ref 59), (1, .int x1)] [] h := by
  unfold fX10_compared_32 at hf
  refine r_aload_n K dX10_compared_32 0 rfl rfl ?_
  refine r_getR (o' := 69) K flX10_37 dX10_compared_33 rfl rfl rfl ?_
  refine r_aload_n K dX10_compared_36 0 rfl rfl ?_
  refine r_getI K flX10_148 dX10_compared_37 rfl rfl ?_
  obtain ⟨g8_, hf⟩ := e_g hf
  refine r_iald K dX10_compared_40 rfl g8_ ?_
  obtain ⟨x9_, e10_, hf⟩ := e_l hf
  refine r_nmI e10_ ?_
  refine r_istore_n (lv' := [(2, .int x9_), (0, .ref 59), (1, .int x1)]) K dX10_compared_41 rfl (Nat.le_of_ble_eq_true rfl) rfl ?_
  refine r_aload_n K dX10_compared_42 1 rfl rfl ?_
  refine r_dup K dX10_compared_43 rfl ?_
  refine r_getI K flX10_148 dX10_compared_44 rfl rfl ?_
  refine r_iconst (v := 1) K dX10_compared_47 rfl ?_
  refine r_iadd K dX10_compared_48 ?_
  obtain ⟨h11_, e12_, hf⟩ := e_l hf
  refine r_putI K fpX10_148 dX10_compared_49 rfl rfl e12_ ?_
  refine r_aload_n K dX10_compared_52 1 rfl rfl ?_
  obtain ⟨r13_, h14_, g15_, hf⟩ := e_2 hf
  refine r_callV (av := []) (st := []) K lkX10_179 mwX10_total (hRR.2.2.1  h11_ r13_ h14_ g15_) dX10_compared_53 rfl (Nat.le_refl _) rfl rfl (Nat.le_of_ble_eq_true rfl) ?_
  refine r_istore_n (lv' := [(3, .int r13_), (2, .int x9_), (0, .ref 59), (1, .int x1)]) K dX10_compared_56 rfl (Nat.le_of_ble_eq_true rfl) rfl ?_
  refine r_iload_n K dX10_compared_57 1 rfl rfl ?_
  refine r_bipush (v := 60) K dX10_compared_58 rfl ?_
  refine r_icmp_ne (tgt := 76) K dX10_compared_60 (by decide) (fun c16_ => ?_) (fun c16_ => ?_)
  · have hf := e_f hf c16_
    refine r_iload_n K dX10_compared_76 1 rfl rfl ?_
    refine r_bipush (v := 61) K dX10_compared_77 rfl ?_
    refine r_icmp_ne (tgt := 95) K dX10_compared_79 (by decide) (fun c17_ => ?_) (fun c17_ => ?_)
    · have hf := e_f hf c17_
      refine r_iload_n K dX10_compared_95 3 rfl rfl ?_
      refine r_iload_n K dX10_compared_96 0 rfl rfl ?_
      refine r_icmp_le (tgt := 104) K dX10_compared_97 (by decide) (fun c18_ => ?_) (fun c18_ => ?_)
      · have hf := e_t hf c18_
        refine r_iconst (v := 0) K dX10_compared_104 rfl ?_
        refine r_lv [] rfl ?_
        exact sX10_compared_105 hdd K Z RR hRR 0 h14_ hf
      · have hf := e_f hf c18_
        refine r_iconst (v := 1) K dX10_compared_100 rfl ?_
        refine r_goto (tgt := 105) K dX10_compared_101 (by decide) ?_
        refine r_lv [] rfl ?_
        exact sX10_compared_105 hdd K Z RR hRR 1 h14_ hf
    · have hf := e_t hf c17_
      refine r_iload_n K dX10_compared_82 3 rfl rfl ?_
      refine r_iload_n K dX10_compared_83 0 rfl rfl ?_
      refine r_icmp_ne (tgt := 91) K dX10_compared_84 (by decide) (fun c20_ => ?_) (fun c20_ => ?_)
      · have hf := e_f hf c20_
        refine r_iconst (v := 0) K dX10_compared_91 rfl ?_
        refine r_goto (tgt := 105) K dX10_compared_92 (by decide) ?_
        refine r_lv [] rfl ?_
        exact sX10_compared_105 hdd K Z RR hRR 0 h14_ hf
      · have hf := e_t hf c20_
        refine r_iconst (v := 1) K dX10_compared_87 rfl ?_
        refine r_goto (tgt := 105) K dX10_compared_88 (by decide) ?_
        refine r_lv [] rfl ?_
        exact sX10_compared_105 hdd K Z RR hRR 1 h14_ hf
  · have hf := e_t hf c16_
    refine r_iload_n K dX10_compared_63 3 rfl rfl ?_
    refine r_iload_n K dX10_compared_64 0 rfl rfl ?_
    refine r_icmp_ge (tgt := 72) K dX10_compared_65 (by decide) (fun c21_ => ?_) (fun c21_ => ?_)
    · have hf := e_t hf c21_
      refine r_iconst (v := 0) K dX10_compared_72 rfl ?_
      refine r_goto (tgt := 105) K dX10_compared_73 (by decide) ?_
      refine r_lv [] rfl ?_
      exact sX10_compared_105 hdd K Z RR hRR 0 h14_ hf
    · have hf := e_f hf c21_
      refine r_iconst (v := 1) K dX10_compared_68 rfl ?_
      refine r_goto (tgt := 105) K dX10_compared_69 (by decide) ?_
      refine r_lv [] rfl ?_
      exact sX10_compared_105 hdd K Z RR hRR 1 h14_ hf
def fX10_compared (RR : Nat → List Int32 → AH → Option (Int32 × AH)) (h : AH) : Option (Int32 × AH) :=
  bind2 (RR 2 [] h) fun r1_ h2_ => bind2 (fX10_isAt 60 h2_) fun r4_ h5_ => if r4_ = 0 then bind2 (fX10_isAt 61 h5_) fun r22_ h23_ => if r22_ = 0 then bind2 (fX10_isAt 62 h23_) fun r26_ h27_ => if r26_ = 0 then some (r1_, h27_) else fX10_compared_32 RR r1_ h27_ else fX10_compared_32 RR r1_ h23_ else fX10_compared_32 RR r1_ h5_
set_option maxRecDepth 10000 in
theorem sX10_compared {G : GG} {E : EE} {rv : Int32} {h' : AH} {dd : Nat} (hdd : 2 ≤ dd) (K : OK G E (dd + 1) RX10 cX10_compared 5) (Z : RT G E (some .int) (some (.int rv)) h') (RR : Nat → List Int32 → AH → Option (Int32 × AH)) (hRR : (∀ (h : AH) (r : Int32) (h1 : AH), RR 0 [] h = some (r, h1) → Con G dd yX10_one cX10_one 4 (some .int) [.ref 59] h (some (.int r)) h1) ∧ (∀ (h : AH) (r : Int32) (h1 : AH), RR 1 [] h = some (r, h1) → Con G dd yX10_product cX10_product 4 (some .int) [.ref 59] h (some (.int r)) h1) ∧ (∀ (h : AH) (r : Int32) (h1 : AH), RR 2 [] h = some (r, h1) → Con G dd yX10_total cX10_total 4 (some .int) [.ref 59] h (some (.int r)) h1) ∧ (∀ (h : AH) (r : Int32) (h1 : AH), RR 3 [] h = some (r, h1) → Con G dd yX10_compared cX10_compared 5 (some .int) [.ref 59] h (some (.int r)) h1) ∧ (∀ (h : AH) (r : Int32) (h1 : AH), RR 4 [] h = some (r, h1) → Con G dd yX10_both cX10_both 3 (some .int) [.ref 59] h (some (.int r)) h1) ∧ (∀ (h : AH) (r : Int32) (h1 : AH), RR 5 [] h = some (r, h1) → Con G dd yX10_any cX10_any 3 (some .int) [.ref 59] h (some (.int r)) h1)) (h : AH) (hf : fX10_compared RR h = some (rv, h')) : JJ G E 5 0 [(0, .ref 59)] [] h := by
  unfold fX10_compared at hf
  refine r_aload_n K dX10_compared_0 0 rfl rfl ?_
  obtain ⟨r1_, h2_, g3_, hf⟩ := e_2 hf
  refine r_callV (av := []) (st := []) K lkX10_179 mwX10_total (hRR.2.2.1  h r1_ h2_ g3_) dX10_compared_1 rfl (Nat.le_refl _) rfl rfl (Nat.le_of_ble_eq_true rfl) ?_
  refine r_istore_n (lv' := [(1, .int r1_), (0, .ref 59)]) K dX10_compared_4 rfl (Nat.le_of_ble_eq_true rfl) rfl ?_
  refine r_aload_n K dX10_compared_5 1 rfl rfl ?_
  refine r_bipush (v := 60) K dX10_compared_6 rfl ?_
  obtain ⟨r4_, h5_, g6_, hf⟩ := e_2 hf
  refine r_callV (av := [.int 60]) (st := []) K lkX10_164 mwX10_isAt (conX10_isAt 60 h2_ r4_ h5_ g6_) dX10_compared_8 rfl (by omega) rfl rfl (Nat.le_of_ble_eq_true rfl) ?_
  refine r_if_ne (tgt := 32) K dX10_compared_11 (by decide) (fun c7_ => ?_) (fun c7_ => ?_)
  · have hf := e_f hf c7_
    refine r_lv [1, 0] rfl ?_
    exact sX10_compared_32 hdd K Z RR hRR r1_ h5_ hf
  · have hf := e_t hf c7_
    refine r_aload_n K dX10_compared_14 1 rfl rfl ?_
    refine r_bipush (v := 61) K dX10_compared_15 rfl ?_
    obtain ⟨r22_, h23_, g24_, hf⟩ := e_2 hf
    refine r_callV (av := [.int 61]) (st := []) K lkX10_164 mwX10_isAt (conX10_isAt 61 h5_ r22_ h23_ g24_) dX10_compared_17 rfl (by omega) rfl rfl (Nat.le_of_ble_eq_true rfl) ?_
    refine r_if_ne (tgt := 32) K dX10_compared_20 (by decide) (fun c25_ => ?_) (fun c25_ => ?_)
    · have hf := e_f hf c25_
      refine r_lv [1, 0] rfl ?_
      exact sX10_compared_32 hdd K Z RR hRR r1_ h23_ hf
    · have hf := e_t hf c25_
      refine r_aload_n K dX10_compared_23 1 rfl rfl ?_
      refine r_bipush (v := 62) K dX10_compared_24 rfl ?_
      obtain ⟨r26_, h27_, g28_, hf⟩ := e_2 hf
      refine r_callV (av := [.int 62]) (st := []) K lkX10_164 mwX10_isAt (conX10_isAt 62 h23_ r26_ h27_ g28_) dX10_compared_26 rfl (by omega) rfl rfl (Nat.le_of_ble_eq_true rfl) ?_
      refine r_if_eq (tgt := 118) K dX10_compared_29 (by decide) (fun c29_ => ?_) (fun c29_ => ?_)
      · have hf := e_t hf c29_
        refine r_iload_n K dX10_compared_118 0 rfl rfl ?_
        exact r_iret K Z dX10_compared_119 hf
      · have hf := e_f hf c29_
        refine r_lv [1, 0] rfl ?_
        exact sX10_compared_32 hdd K Z RR hRR r1_ h27_ hf
def fX10_both_5_b (RR : Nat → List Int32 → AH → Option (Int32 × AH)) (Q5 : Int32 → AH → Option (Int32 × AH)) (x1 : Int32) (h : AH) : Option (Int32 × AH) :=
  bind2 (fX10_isAt 38 h) fun r4_ h5_ => if r4_ = 0 then some (x1, h5_) else letV (wI h5_ 59 18 ((h5_.1 59 18) + 1)) fun h8_ => bind2 (RR 3 [] h8_) fun r10_ h11_ => if x1 = 0 then Q5 0 h11_ else if r10_ = 0 then Q5 0 h11_ else Q5 1 h11_
def fX10_both_5 (RR : Nat → List Int32 → AH → Option (Int32 × AH)) : Nat → Int32 → AH → Option (Int32 × AH)
  | 0 => fun _ _ => none
  | n + 1 => fX10_both_5_b RR (fX10_both_5 RR n)
set_option maxRecDepth 10000 in
theorem sX10_both_5_b {G : GG} {E : EE} {rv : Int32} {h' : AH} {dd : Nat} (hdd : 2 ≤ dd) (K : OK G E (dd + 1) RX10 cX10_both 3) (Z : RT G E (some .int) (some (.int rv)) h') (RR : Nat → List Int32 → AH → Option (Int32 × AH)) (hRR : (∀ (h : AH) (r : Int32) (h1 : AH), RR 0 [] h = some (r, h1) → Con G dd yX10_one cX10_one 4 (some .int) [.ref 59] h (some (.int r)) h1) ∧ (∀ (h : AH) (r : Int32) (h1 : AH), RR 1 [] h = some (r, h1) → Con G dd yX10_product cX10_product 4 (some .int) [.ref 59] h (some (.int r)) h1) ∧ (∀ (h : AH) (r : Int32) (h1 : AH), RR 2 [] h = some (r, h1) → Con G dd yX10_total cX10_total 4 (some .int) [.ref 59] h (some (.int r)) h1) ∧ (∀ (h : AH) (r : Int32) (h1 : AH), RR 3 [] h = some (r, h1) → Con G dd yX10_compared cX10_compared 5 (some .int) [.ref 59] h (some (.int r)) h1) ∧ (∀ (h : AH) (r : Int32) (h1 : AH), RR 4 [] h = some (r, h1) → Con G dd yX10_both cX10_both 3 (some .int) [.ref 59] h (some (.int r)) h1) ∧ (∀ (h : AH) (r : Int32) (h1 : AH), RR 5 [] h = some (r, h1) → Con G dd yX10_any cX10_any 3 (some .int) [.ref 59] h (some (.int r)) h1)) (Q5 : Int32 → AH → Option (Int32 × AH)) (hQ5 : ∀ (x1 : Int32) (h : AH), Q5 x1 h = some (rv, h') → JJ G E 3 5 [(0, .ref 59), (1, .int x1)] [] h) (x1 : Int32) (h : AH) (hf : fX10_both_5_b RR Q5 x1 h = some (rv, h')) : JJ G E 3 5 [(0, .ref 59), (1, .int x1)] [] h := by
  unfold fX10_both_5_b at hf
  refine r_aload_n K dX10_both_5 0 rfl rfl ?_
  refine r_bipush (v := 38) K dX10_both_6 rfl ?_
  obtain ⟨r4_, h5_, g6_, hf⟩ := e_2 hf
  refine r_callV (av := [.int 38]) (st := []) K lkX10_164 mwX10_isAt (conX10_isAt 38 h r4_ h5_ g6_) dX10_both_8 rfl (by omega) rfl rfl (Nat.le_of_ble_eq_true rfl) ?_
  refine r_if_eq (tgt := 46) K dX10_both_11 (by decide) (fun c7_ => ?_) (fun c7_ => ?_)
  · have hf := e_t hf c7_
    refine r_iload_n K dX10_both_46 1 rfl rfl ?_
    exact r_iret K Z dX10_both_47 hf
  · have hf := e_f hf c7_
    refine r_aload_n K dX10_both_14 0 rfl rfl ?_
    refine r_dup K dX10_both_15 rfl ?_
    refine r_getI K flX10_148 dX10_both_16 rfl rfl ?_
    refine r_iconst (v := 1) K dX10_both_19 rfl ?_
    refine r_iadd K dX10_both_20 ?_
    obtain ⟨h8_, e9_, hf⟩ := e_l hf
    refine r_putI K fpX10_148 dX10_both_21 rfl rfl e9_ ?_
    refine r_aload_n K dX10_both_24 0 rfl rfl ?_
    obtain ⟨r10_, h11_, g12_, hf⟩ := e_2 hf
    refine r_callV (av := []) (st := []) K lkX10_182 mwX10_compared (hRR.2.2.2.1  h8_ r10_ h11_ g12_) dX10_both_25 rfl (Nat.le_refl _) rfl rfl (Nat.le_of_ble_eq_true rfl) ?_
    refine r_istore_n (lv' := [(2, .int r10_), (0, .ref 59), (1, .int x1)]) K dX10_both_28 rfl (Nat.le_of_ble_eq_true rfl) rfl ?_
    refine r_iload_n K dX10_both_29 2 rfl rfl ?_
    refine r_if_eq (tgt := 41) K dX10_both_30 (by decide) (fun c13_ => ?_) (fun c13_ => ?_)
    · have hf := e_t hf c13_
      refine r_iconst (v := 0) K dX10_both_41 rfl ?_
      refine r_istore_n (lv' := [(1, .int 0), (2, .int r10_), (0, .ref 59)]) K dX10_both_42 rfl (Nat.le_of_ble_eq_true rfl) rfl ?_
      refine r_goto (tgt := 5) K dX10_both_43 (by decide) ?_
      refine r_lv [2, 0] rfl ?_
      exact hQ5 0 h11_ hf
    · have hf := e_f hf c13_
      refine r_iload_n K dX10_both_33 0 rfl rfl ?_
      refine r_if_eq (tgt := 41) K dX10_both_34 (by decide) (fun c14_ => ?_) (fun c14_ => ?_)
      · have hf := e_t hf c14_
        refine r_iconst (v := 0) K dX10_both_41 rfl ?_
        refine r_istore_n (lv' := [(1, .int 0), (2, .int r10_), (0, .ref 59)]) K dX10_both_42 rfl (Nat.le_of_ble_eq_true rfl) rfl ?_
        refine r_goto (tgt := 5) K dX10_both_43 (by decide) ?_
        refine r_lv [2, 0] rfl ?_
        exact hQ5 0 h11_ hf
      · have hf := e_f hf c14_
        refine r_iconst (v := 1) K dX10_both_37 rfl ?_
        refine r_goto (tgt := 42) K dX10_both_38 (by decide) ?_
        refine r_istore_n (lv' := [(1, .int 1), (2, .int r10_), (0, .ref 59)]) K dX10_both_42 rfl (Nat.le_of_ble_eq_true rfl) rfl ?_
        refine r_goto (tgt := 5) K dX10_both_43 (by decide) ?_
        refine r_lv [2, 0] rfl ?_
        exact hQ5 1 h11_ hf
theorem sX10_both_5 {G : GG} {E : EE} {rv : Int32} {h' : AH} {dd : Nat} (hdd : 2 ≤ dd) (K : OK G E (dd + 1) RX10 cX10_both 3) (Z : RT G E (some .int) (some (.int rv)) h') (RR : Nat → List Int32 → AH → Option (Int32 × AH)) (hRR : (∀ (h : AH) (r : Int32) (h1 : AH), RR 0 [] h = some (r, h1) → Con G dd yX10_one cX10_one 4 (some .int) [.ref 59] h (some (.int r)) h1) ∧ (∀ (h : AH) (r : Int32) (h1 : AH), RR 1 [] h = some (r, h1) → Con G dd yX10_product cX10_product 4 (some .int) [.ref 59] h (some (.int r)) h1) ∧ (∀ (h : AH) (r : Int32) (h1 : AH), RR 2 [] h = some (r, h1) → Con G dd yX10_total cX10_total 4 (some .int) [.ref 59] h (some (.int r)) h1) ∧ (∀ (h : AH) (r : Int32) (h1 : AH), RR 3 [] h = some (r, h1) → Con G dd yX10_compared cX10_compared 5 (some .int) [.ref 59] h (some (.int r)) h1) ∧ (∀ (h : AH) (r : Int32) (h1 : AH), RR 4 [] h = some (r, h1) → Con G dd yX10_both cX10_both 3 (some .int) [.ref 59] h (some (.int r)) h1) ∧ (∀ (h : AH) (r : Int32) (h1 : AH), RR 5 [] h = some (r, h1) → Con G dd yX10_any cX10_any 3 (some .int) [.ref 59] h (some (.int r)) h1)) : ∀ (n : Nat) (x1 : Int32) (h : AH), fX10_both_5 RR n x1 h = some (rv, h') → JJ G E 3 5 [(0, .ref 59), (1, .int x1)] [] h := by
  intro n
  induction n with
  | zero => intro x1 h hf; cases hf
  | succ n ih => intro x1 h hf; exact sX10_both_5_b hdd K Z RR hRR _ (fun x1 h hf => ih x1 h hf) x1 h hf
def fX10_both (RR : Nat → List Int32 → AH → Option (Int32 × AH)) (h : AH) : Option (Int32 × AH) :=
  bind2 (RR 3 [] h) fun r1_ h2_ => fX10_both_5 RR FU r1_ h2_
set_option maxRecDepth 10000 in
theorem sX10_both {G : GG} {E : EE} {rv : Int32} {h' : AH} {dd : Nat} (hdd : 2 ≤ dd) (K : OK G E (dd + 1) RX10 cX10_both 3) (Z : RT G E (some .int) (some (.int rv)) h') (RR : Nat → List Int32 → AH → Option (Int32 × AH)) (hRR : (∀ (h : AH) (r : Int32) (h1 : AH), RR 0 [] h = some (r, h1) → Con G dd yX10_one cX10_one 4 (some .int) [.ref 59] h (some (.int r)) h1) ∧ (∀ (h : AH) (r : Int32) (h1 : AH), RR 1 [] h = some (r, h1) → Con G dd yX10_product cX10_product 4 (some .int) [.ref 59] h (some (.int r)) h1) ∧ (∀ (h : AH) (r : Int32) (h1 : AH), RR 2 [] h = some (r, h1) → Con G dd yX10_total cX10_total 4 (some .int) [.ref 59] h (some (.int r)) h1) ∧ (∀ (h : AH) (r : Int32) (h1 : AH), RR 3 [] h = some (r, h1) → Con G dd yX10_compared cX10_compared 5 (some .int) [.ref 59] h (some (.int r)) h1) ∧ (∀ (h : AH) (r : Int32) (h1 : AH), RR 4 [] h = some (r, h1) → Con G dd yX10_both cX10_both 3 (some .int) [.ref 59] h (some (.int r)) h1) ∧ (∀ (h : AH) (r : Int32) (h1 : AH), RR 5 [] h = some (r, h1) → Con G dd yX10_any cX10_any 3 (some .int) [.ref 59] h (some (.int r)) h1)) (h : AH) (hf : fX10_both RR h = some (rv, h')) : JJ G E 3 0 [(0, .ref 59)] [] h := by
  unfold fX10_both at hf
  refine r_aload_n K dX10_both_0 0 rfl rfl ?_
  obtain ⟨r1_, h2_, g3_, hf⟩ := e_2 hf
  refine r_callV (av := []) (st := []) K lkX10_182 mwX10_compared (hRR.2.2.2.1  h r1_ h2_ g3_) dX10_both_1 rfl (Nat.le_refl _) rfl rfl (Nat.le_of_ble_eq_true rfl) ?_
  refine r_istore_n (lv' := [(1, .int r1_), (0, .ref 59)]) K dX10_both_4 rfl (Nat.le_of_ble_eq_true rfl) rfl ?_
  refine r_lv [1, 0] rfl ?_
  exact sX10_both_5 hdd K Z RR hRR FU r1_ h2_ hf
def fX10_any_5_b (RR : Nat → List Int32 → AH → Option (Int32 × AH)) (Q5 : Int32 → AH → Option (Int32 × AH)) (x1 : Int32) (h : AH) : Option (Int32 × AH) :=
  bind2 (fX10_isAt 124 h) fun r4_ h5_ => if r4_ = 0 then some (x1, h5_) else letV (wI h5_ 59 18 ((h5_.1 59 18) + 1)) fun h8_ => bind2 (RR 4 [] h8_) fun r10_ h11_ => if x1 = 0 then if r10_ = 0 then Q5 0 h11_ else Q5 1 h11_ else Q5 1 h11_
def fX10_any_5 (RR : Nat → List Int32 → AH → Option (Int32 × AH)) : Nat → Int32 → AH → Option (Int32 × AH)
  | 0 => fun _ _ => none
  | n + 1 => fX10_any_5_b RR (fX10_any_5 RR n)
set_option maxRecDepth 10000 in
theorem sX10_any_5_b {G : GG} {E : EE} {rv : Int32} {h' : AH} {dd : Nat} (hdd : 2 ≤ dd) (K : OK G E (dd + 1) RX10 cX10_any 3) (Z : RT G E (some .int) (some (.int rv)) h') (RR : Nat → List Int32 → AH → Option (Int32 × AH)) (hRR : (∀ (h : AH) (r : Int32) (h1 : AH), RR 0 [] h = some (r, h1) → Con G dd yX10_one cX10_one 4 (some .int) [.ref 59] h (some (.int r)) h1) ∧ (∀ (h : AH) (r : Int32) (h1 : AH), RR 1 [] h = some (r, h1) → Con G dd yX10_product cX10_product 4 (some .int) [.ref 59] h (some (.int r)) h1) ∧ (∀ (h : AH) (r : Int32) (h1 : AH), RR 2 [] h = some (r, h1) → Con G dd yX10_total cX10_total 4 (some .int) [.ref 59] h (some (.int r)) h1) ∧ (∀ (h : AH) (r : Int32) (h1 : AH), RR 3 [] h = some (r, h1) → Con G dd yX10_compared cX10_compared 5 (some .int) [.ref 59] h (some (.int r)) h1) ∧ (∀ (h : AH) (r : Int32) (h1 : AH), RR 4 [] h = some (r, h1) → Con G dd yX10_both cX10_both 3 (some .int) [.ref 59] h (some (.int r)) h1) ∧ (∀ (h : AH) (r : Int32) (h1 : AH), RR 5 [] h = some (r, h1) → Con G dd yX10_any cX10_any 3 (some .int) [.ref 59] h (some (.int r)) h1)) (Q5 : Int32 → AH → Option (Int32 × AH)) (hQ5 : ∀ (x1 : Int32) (h : AH), Q5 x1 h = some (rv, h') → JJ G E 3 5 [(0, .ref 59), (1, .int x1)] [] h) (x1 : Int32) (h : AH) (hf : fX10_any_5_b RR Q5 x1 h = some (rv, h')) : JJ G E 3 5 [(0, .ref 59), (1, .int x1)] [] h := by
  unfold fX10_any_5_b at hf
  refine r_aload_n K dX10_any_5 0 rfl rfl ?_
  refine r_bipush (v := 124) K dX10_any_6 rfl ?_
  obtain ⟨r4_, h5_, g6_, hf⟩ := e_2 hf
  refine r_callV (av := [.int 124]) (st := []) K lkX10_164 mwX10_isAt (conX10_isAt 124 h r4_ h5_ g6_) dX10_any_8 rfl (by omega) rfl rfl (Nat.le_of_ble_eq_true rfl) ?_
  refine r_if_eq (tgt := 46) K dX10_any_11 (by decide) (fun c7_ => ?_) (fun c7_ => ?_)
  · have hf := e_t hf c7_
    refine r_iload_n K dX10_any_46 1 rfl rfl ?_
    exact r_iret K Z dX10_any_47 hf
  · have hf := e_f hf c7_
    refine r_aload_n K dX10_any_14 0 rfl rfl ?_
    refine r_dup K dX10_any_15 rfl ?_
    refine r_getI K flX10_148 dX10_any_16 rfl rfl ?_
    refine r_iconst (v := 1) K dX10_any_19 rfl ?_
    refine r_iadd K dX10_any_20 ?_
    obtain ⟨h8_, e9_, hf⟩ := e_l hf
    refine r_putI K fpX10_148 dX10_any_21 rfl rfl e9_ ?_
    refine r_aload_n K dX10_any_24 0 rfl rfl ?_
    obtain ⟨r10_, h11_, g12_, hf⟩ := e_2 hf
    refine r_callV (av := []) (st := []) K lkX10_185 mwX10_both (hRR.2.2.2.2.1  h8_ r10_ h11_ g12_) dX10_any_25 rfl (Nat.le_refl _) rfl rfl (Nat.le_of_ble_eq_true rfl) ?_
    refine r_istore_n (lv' := [(2, .int r10_), (0, .ref 59), (1, .int x1)]) K dX10_any_28 rfl (Nat.le_of_ble_eq_true rfl) rfl ?_
    refine r_iload_n K dX10_any_29 2 rfl rfl ?_
    refine r_if_ne (tgt := 37) K dX10_any_30 (by decide) (fun c13_ => ?_) (fun c13_ => ?_)
    · have hf := e_f hf c13_
      refine r_iconst (v := 1) K dX10_any_37 rfl ?_
      refine r_goto (tgt := 42) K dX10_any_38 (by decide) ?_
      refine r_istore_n (lv' := [(1, .int 1), (2, .int r10_), (0, .ref 59)]) K dX10_any_42 rfl (Nat.le_of_ble_eq_true rfl) rfl ?_
      refine r_goto (tgt := 5) K dX10_any_43 (by decide) ?_
      refine r_lv [2, 0] rfl ?_
      exact hQ5 1 h11_ hf
    · have hf := e_t hf c13_
      refine r_iload_n K dX10_any_33 0 rfl rfl ?_
      refine r_if_eq (tgt := 41) K dX10_any_34 (by decide) (fun c14_ => ?_) (fun c14_ => ?_)
      · have hf := e_t hf c14_
        refine r_iconst (v := 0) K dX10_any_41 rfl ?_
        refine r_istore_n (lv' := [(1, .int 0), (2, .int r10_), (0, .ref 59)]) K dX10_any_42 rfl (Nat.le_of_ble_eq_true rfl) rfl ?_
        refine r_goto (tgt := 5) K dX10_any_43 (by decide) ?_
        refine r_lv [2, 0] rfl ?_
        exact hQ5 0 h11_ hf
      · have hf := e_f hf c14_
        refine r_iconst (v := 1) K dX10_any_37 rfl ?_
        refine r_goto (tgt := 42) K dX10_any_38 (by decide) ?_
        refine r_istore_n (lv' := [(1, .int 1), (2, .int r10_), (0, .ref 59)]) K dX10_any_42 rfl (Nat.le_of_ble_eq_true rfl) rfl ?_
        refine r_goto (tgt := 5) K dX10_any_43 (by decide) ?_
        refine r_lv [2, 0] rfl ?_
        exact hQ5 1 h11_ hf
theorem sX10_any_5 {G : GG} {E : EE} {rv : Int32} {h' : AH} {dd : Nat} (hdd : 2 ≤ dd) (K : OK G E (dd + 1) RX10 cX10_any 3) (Z : RT G E (some .int) (some (.int rv)) h') (RR : Nat → List Int32 → AH → Option (Int32 × AH)) (hRR : (∀ (h : AH) (r : Int32) (h1 : AH), RR 0 [] h = some (r, h1) → Con G dd yX10_one cX10_one 4 (some .int) [.ref 59] h (some (.int r)) h1) ∧ (∀ (h : AH) (r : Int32) (h1 : AH), RR 1 [] h = some (r, h1) → Con G dd yX10_product cX10_product 4 (some .int) [.ref 59] h (some (.int r)) h1) ∧ (∀ (h : AH) (r : Int32) (h1 : AH), RR 2 [] h = some (r, h1) → Con G dd yX10_total cX10_total 4 (some .int) [.ref 59] h (some (.int r)) h1) ∧ (∀ (h : AH) (r : Int32) (h1 : AH), RR 3 [] h = some (r, h1) → Con G dd yX10_compared cX10_compared 5 (some .int) [.ref 59] h (some (.int r)) h1) ∧ (∀ (h : AH) (r : Int32) (h1 : AH), RR 4 [] h = some (r, h1) → Con G dd yX10_both cX10_both 3 (some .int) [.ref 59] h (some (.int r)) h1) ∧ (∀ (h : AH) (r : Int32) (h1 : AH), RR 5 [] h = some (r, h1) → Con G dd yX10_any cX10_any 3 (some .int) [.ref 59] h (some (.int r)) h1)) : ∀ (n : Nat) (x1 : Int32) (h : AH), fX10_any_5 RR n x1 h = some (rv, h') → JJ G E 3 5 [(0, .ref 59), (1, .int x1)] [] h := by
  intro n
  induction n with
  | zero => intro x1 h hf; cases hf
  | succ n ih => intro x1 h hf; exact sX10_any_5_b hdd K Z RR hRR _ (fun x1 h hf => ih x1 h hf) x1 h hf
def fX10_any (RR : Nat → List Int32 → AH → Option (Int32 × AH)) (h : AH) : Option (Int32 × AH) :=
  bind2 (RR 4 [] h) fun r1_ h2_ => fX10_any_5 RR FU r1_ h2_
set_option maxRecDepth 10000 in
theorem sX10_any {G : GG} {E : EE} {rv : Int32} {h' : AH} {dd : Nat} (hdd : 2 ≤ dd) (K : OK G E (dd + 1) RX10 cX10_any 3) (Z : RT G E (some .int) (some (.int rv)) h') (RR : Nat → List Int32 → AH → Option (Int32 × AH)) (hRR : (∀ (h : AH) (r : Int32) (h1 : AH), RR 0 [] h = some (r, h1) → Con G dd yX10_one cX10_one 4 (some .int) [.ref 59] h (some (.int r)) h1) ∧ (∀ (h : AH) (r : Int32) (h1 : AH), RR 1 [] h = some (r, h1) → Con G dd yX10_product cX10_product 4 (some .int) [.ref 59] h (some (.int r)) h1) ∧ (∀ (h : AH) (r : Int32) (h1 : AH), RR 2 [] h = some (r, h1) → Con G dd yX10_total cX10_total 4 (some .int) [.ref 59] h (some (.int r)) h1) ∧ (∀ (h : AH) (r : Int32) (h1 : AH), RR 3 [] h = some (r, h1) → Con G dd yX10_compared cX10_compared 5 (some .int) [.ref 59] h (some (.int r)) h1) ∧ (∀ (h : AH) (r : Int32) (h1 : AH), RR 4 [] h = some (r, h1) → Con G dd yX10_both cX10_both 3 (some .int) [.ref 59] h (some (.int r)) h1) ∧ (∀ (h : AH) (r : Int32) (h1 : AH), RR 5 [] h = some (r, h1) → Con G dd yX10_any cX10_any 3 (some .int) [.ref 59] h (some (.int r)) h1)) (h : AH) (hf : fX10_any RR h = some (rv, h')) : JJ G E 3 0 [(0, .ref 59)] [] h := by
  unfold fX10_any at hf
  refine r_aload_n K dX10_any_0 0 rfl rfl ?_
  obtain ⟨r1_, h2_, g3_, hf⟩ := e_2 hf
  refine r_callV (av := []) (st := []) K lkX10_185 mwX10_both (hRR.2.2.2.2.1  h r1_ h2_ g3_) dX10_any_1 rfl (Nat.le_refl _) rfl rfl (Nat.le_of_ble_eq_true rfl) ?_
  refine r_istore_n (lv' := [(1, .int r1_), (0, .ref 59)]) K dX10_any_4 rfl (Nat.le_of_ble_eq_true rfl) rfl ?_
  refine r_lv [1, 0] rfl ?_
  exact sX10_any_5 hdd K Z RR hRR FU r1_ h2_ hf
def RGP : Nat → Nat → List Int32 → AH → Option (Int32 × AH)
  | 0 => fun _ _ _ => none
  | n + 1 => fun w a h => if w = 0 then fX10_one (RGP n) h else if w = 1 then fX10_product (RGP n) h else if w = 2 then fX10_total (RGP n) h else if w = 3 then fX10_compared (RGP n) h else if w = 4 then fX10_both (RGP n) h else if w = 5 then fX10_any (RGP n) h else none
theorem conRGP {G : GG} : ∀ n : Nat, (∀ (h : AH) (r : Int32) (h1 : AH), RGP n 0 [] h = some (r, h1) → Con G (2 + n) yX10_one cX10_one 4 (some .int) [.ref 59] h (some (.int r)) h1) ∧ (∀ (h : AH) (r : Int32) (h1 : AH), RGP n 1 [] h = some (r, h1) → Con G (2 + n) yX10_product cX10_product 4 (some .int) [.ref 59] h (some (.int r)) h1) ∧ (∀ (h : AH) (r : Int32) (h1 : AH), RGP n 2 [] h = some (r, h1) → Con G (2 + n) yX10_total cX10_total 4 (some .int) [.ref 59] h (some (.int r)) h1) ∧ (∀ (h : AH) (r : Int32) (h1 : AH), RGP n 3 [] h = some (r, h1) → Con G (2 + n) yX10_compared cX10_compared 5 (some .int) [.ref 59] h (some (.int r)) h1) ∧ (∀ (h : AH) (r : Int32) (h1 : AH), RGP n 4 [] h = some (r, h1) → Con G (2 + n) yX10_both cX10_both 3 (some .int) [.ref 59] h (some (.int r)) h1) ∧ (∀ (h : AH) (r : Int32) (h1 : AH), RGP n 5 [] h = some (r, h1) → Con G (2 + n) yX10_any cX10_any 3 (some .int) [.ref 59] h (some (.int r)) h1) := by
  intro n
  induction n with
  | zero => exact ⟨fun _ _ _ q => (by cases q), fun _ _ _ q => (by cases q), fun _ _ _ q => (by cases q), fun _ _ _ q => (by cases q), fun _ _ _ q => (by cases q), fun _ _ _ q => (by cases q)⟩
  | succ n ih => exact ⟨fun h r h1 q => con_of mwX10_one (Nat.le_of_ble_eq_true rfl) (fun E K Z => sX10_one (dd := 2 + n) (Nat.le_add_right _ _) K Z (RGP n) ih h q), fun h r h1 q => con_of mwX10_product (Nat.le_of_ble_eq_true rfl) (fun E K Z => sX10_product (dd := 2 + n) (Nat.le_add_right _ _) K Z (RGP n) ih h q), fun h r h1 q => con_of mwX10_total (Nat.le_of_ble_eq_true rfl) (fun E K Z => sX10_total (dd := 2 + n) (Nat.le_add_right _ _) K Z (RGP n) ih h q), fun h r h1 q => con_of mwX10_compared (Nat.le_of_ble_eq_true rfl) (fun E K Z => sX10_compared (dd := 2 + n) (Nat.le_add_right _ _) K Z (RGP n) ih h q), fun h r h1 q => con_of mwX10_both (Nat.le_of_ble_eq_true rfl) (fun E K Z => sX10_both (dd := 2 + n) (Nat.le_add_right _ _) K Z (RGP n) ih h q), fun h r h1 q => con_of mwX10_any (Nat.le_of_ble_eq_true rfl) (fun E K Z => sX10_any (dd := 2 + n) (Nat.le_add_right _ _) K Z (RGP n) ih h q)⟩
theorem conRGP_0 {G : GG} (n : Nat) (h : AH) (r : Int32) (h1 : AH) (q : RGP n 0 [] h = some (r, h1)) : Con G (2 + n) yX10_one cX10_one 4 (some .int) [.ref 59] h (some (.int r)) h1 := (conRGP n).1 h r h1 q
theorem conRGP_1 {G : GG} (n : Nat) (h : AH) (r : Int32) (h1 : AH) (q : RGP n 1 [] h = some (r, h1)) : Con G (2 + n) yX10_product cX10_product 4 (some .int) [.ref 59] h (some (.int r)) h1 := (conRGP n).2.1 h r h1 q
theorem conRGP_2 {G : GG} (n : Nat) (h : AH) (r : Int32) (h1 : AH) (q : RGP n 2 [] h = some (r, h1)) : Con G (2 + n) yX10_total cX10_total 4 (some .int) [.ref 59] h (some (.int r)) h1 := (conRGP n).2.2.1 h r h1 q
theorem conRGP_3 {G : GG} (n : Nat) (h : AH) (r : Int32) (h1 : AH) (q : RGP n 3 [] h = some (r, h1)) : Con G (2 + n) yX10_compared cX10_compared 5 (some .int) [.ref 59] h (some (.int r)) h1 := (conRGP n).2.2.2.1 h r h1 q
theorem conRGP_4 {G : GG} (n : Nat) (h : AH) (r : Int32) (h1 : AH) (q : RGP n 4 [] h = some (r, h1)) : Con G (2 + n) yX10_both cX10_both 3 (some .int) [.ref 59] h (some (.int r)) h1 := (conRGP n).2.2.2.2.1 h r h1 q
theorem conRGP_5 {G : GG} (n : Nat) (h : AH) (r : Int32) (h1 : AH) (q : RGP n 5 [] h = some (r, h1)) : Con G (2 + n) yX10_any cX10_any 3 (some .int) [.ref 59] h (some (.int r)) h1 := (conRGP n).2.2.2.2.2 h r h1 q
def fX10_back_91_b (Q91 : Int32 → AH → Option (Int32 × AH)) (x1 : Int32) (h : AH) : Option (Int32 × AH) :=
  if 5 ≤ x1 then some ((h.1 79 (ix 2)), h) else if inb x1 5 = true then letV (wI h 79 (ix x1) (h.1 81 (ix x1))) fun h11_ => Q91 (x1 + 1) h11_ else none
def fX10_back_91 : Nat → Int32 → AH → Option (Int32 × AH)
  | 0 => fun _ _ => none
  | n + 1 => fX10_back_91_b (fX10_back_91 n)
set_option maxRecDepth 10000 in
theorem sX10_back_91_b {G : GG} {E : EE} {rv : Int32} {h' : AH} (K : OK G E 1 RX10 cX10_back 2) (Z : RT G E (some .int) (some (.int rv)) h') (Q91 : Int32 → AH → Option (Int32 × AH)) (hQ91 : ∀ (x1 : Int32) (h : AH), Q91 x1 h = some (rv, h') → JJ G E 2 91 [(0, .ref 59), (1, .int x1)] [] h) (x1 : Int32) (h : AH) (hf : fX10_back_91_b Q91 x1 h = some (rv, h')) : JJ G E 2 91 [(0, .ref 59), (1, .int x1)] [] h := by
  unfold fX10_back_91_b at hf
  refine r_iload_n K dX10_back_91 1 rfl rfl ?_
  refine r_iconst (v := 5) K dX10_back_92 rfl ?_
  refine r_icmp_ge (tgt := 114) K dX10_back_93 (by decide) (fun c7_ => ?_) (fun c7_ => ?_)
  · have hf := e_t hf c7_
    refine r_aload_n K dX10_back_114 0 rfl rfl ?_
    refine r_getR (o' := 79) K flX10_73 dX10_back_115 rfl rfl rfl ?_
    refine r_iconst (v := 2) K dX10_back_118 rfl ?_
    refine r_iald K dX10_back_119 rfl (by decide +kernel) ?_
    exact r_iret K Z dX10_back_120 hf
  · have hf := e_f hf c7_
    refine r_aload_n K dX10_back_96 0 rfl rfl ?_
    refine r_getR (o' := 79) K flX10_73 dX10_back_97 rfl rfl rfl ?_
    refine r_iload_n K dX10_back_100 1 rfl rfl ?_
    refine r_aload_n K dX10_back_101 0 rfl rfl ?_
    refine r_getR (o' := 81) K flX10_79 dX10_back_102 rfl rfl rfl ?_
    refine r_iload_n K dX10_back_105 1 rfl rfl ?_
    obtain ⟨g9_, hf⟩ := e_g hf
    refine r_iald K dX10_back_106 rfl g9_ ?_
    obtain ⟨h11_, e12_, hf⟩ := e_l hf
    refine r_iast K dX10_back_107 rfl g9_ e12_ ?_
    refine r_iinc (y := 1) (lv' := [(1, .int (x1 + 1)), (0, .ref 59)]) K dX10_back_108 1 rfl rfl (Nat.le_of_ble_eq_true rfl) rfl ?_
    refine r_goto (tgt := 91) K dX10_back_111 (by decide) ?_
    refine r_lv [1, 0] rfl ?_
    exact hQ91 (x1 + 1) h11_ hf
theorem sX10_back_91 {G : GG} {E : EE} {rv : Int32} {h' : AH} (K : OK G E 1 RX10 cX10_back 2) (Z : RT G E (some .int) (some (.int rv)) h') : ∀ (n : Nat) (x1 : Int32) (h : AH), fX10_back_91 n x1 h = some (rv, h') → JJ G E 2 91 [(0, .ref 59), (1, .int x1)] [] h := by
  intro n
  induction n with
  | zero => intro x1 h hf; cases hf
  | succ n ih => intro x1 h hf; exact sX10_back_91_b K Z _ (fun x1 h hf => ih x1 h hf) x1 h hf
def fX10_back_12_b (Q12 : Int32 → AH → Option (Int32 × AH)) (x1 : Int32) (h : AH) : Option (Int32 × AH) :=
  if (h.1 59 38) ≤ x1 then letV (wI h 60 (ix 93) (h.1 80 (ix 93))) fun h5_ => fX10_back_91 FU 0 h5_ else if inb (6 * x1) 94 = true then bindV (fX10_change x1 0 (h.1 80 (ix (6 * x1))) h) fun h15_ => if inb ((6 * x1) + 2) 94 = true then bindV (fX10_change x1 2 (h15_.1 80 (ix ((6 * x1) + 2))) h15_) fun h19_ => if inb ((6 * x1) + 5) 94 = true then bindV (fX10_change x1 5 (h19_.1 80 (ix ((6 * x1) + 5))) h19_) fun h23_ => Q12 (x1 + 1) h23_ else none else none else none
def fX10_back_12 : Nat → Int32 → AH → Option (Int32 × AH)
  | 0 => fun _ _ => none
  | n + 1 => fX10_back_12_b (fX10_back_12 n)
set_option maxRecDepth 10000 in
theorem sX10_back_12_b {G : GG} {E : EE} {rv : Int32} {h' : AH} (K : OK G E 1 RX10 cX10_back 2) (Z : RT G E (some .int) (some (.int rv)) h') (Q12 : Int32 → AH → Option (Int32 × AH)) (hQ12 : ∀ (x1 : Int32) (h : AH), Q12 x1 h = some (rv, h') → JJ G E 2 12 [(0, .ref 59), (1, .int x1)] [] h) (x1 : Int32) (h : AH) (hf : fX10_back_12_b Q12 x1 h = some (rv, h')) : JJ G E 2 12 [(0, .ref 59), (1, .int x1)] [] h := by
  unfold fX10_back_12_b at hf
  refine r_iload_n K dX10_back_12 1 rfl rfl ?_
  refine r_aload_n K dX10_back_13 0 rfl rfl ?_
  refine r_getI K flX10_282 dX10_back_14 rfl rfl ?_
  refine r_icmp_ge (tgt := 75) K dX10_back_17 (by decide) (fun c2_ => ?_) (fun c2_ => ?_)
  · have hf := e_t hf c2_
    refine r_aload_n K dX10_back_75 0 rfl rfl ?_
    refine r_getR (o' := 60) K flX10_7 dX10_back_76 rfl rfl rfl ?_
    refine r_bipush (v := 93) K dX10_back_79 rfl ?_
    refine r_aload_n K dX10_back_81 0 rfl rfl ?_
    refine r_getR (o' := 80) K flX10_76 dX10_back_82 rfl rfl rfl ?_
    refine r_bipush (v := 93) K dX10_back_85 rfl ?_
    refine r_iald K dX10_back_87 rfl (by decide +kernel) ?_
    obtain ⟨h5_, e6_, hf⟩ := e_l hf
    refine r_iast K dX10_back_88 rfl (by decide +kernel) e6_ ?_
    refine r_iconst (v := 0) K dX10_back_89 rfl ?_
    refine r_istore_n (lv' := [(1, .int 0), (0, .ref 59)]) K dX10_back_90 rfl (Nat.le_of_ble_eq_true rfl) rfl ?_
    refine r_lv [1, 0] rfl ?_
    exact sX10_back_91 K Z FU 0 h5_ hf
  · have hf := e_f hf c2_
    refine r_aload_n K dX10_back_20 0 rfl rfl ?_
    refine r_iload_n K dX10_back_21 1 rfl rfl ?_
    refine r_iconst (v := 0) K dX10_back_22 rfl ?_
    refine r_aload_n K dX10_back_23 0 rfl rfl ?_
    refine r_getR (o' := 80) K flX10_76 dX10_back_24 rfl rfl rfl ?_
    refine r_bipush (v := 6) K dX10_back_27 rfl ?_
    refine r_iload_n K dX10_back_29 1 rfl rfl ?_
    refine r_imul K dX10_back_30 ?_
    obtain ⟨g13_, hf⟩ := e_g hf
    refine r_iald K dX10_back_31 rfl g13_ ?_
    obtain ⟨h15_, g16_, hf⟩ := e_v hf
    refine r_callV (av := [.int x1, .int 0, .int (h.1 80 (ix (6 * x1)))]) (st := []) K lkX10_113 mwX10_change (conX10_change x1 0 (h.1 80 (ix (6 * x1))) h h15_ g16_) dX10_back_32 rfl (Nat.le_of_ble_eq_true rfl) rfl rfl (Nat.le_of_ble_eq_true rfl) ?_
    refine r_aload_n K dX10_back_35 0 rfl rfl ?_
    refine r_iload_n K dX10_back_36 1 rfl rfl ?_
    refine r_iconst (v := 2) K dX10_back_37 rfl ?_
    refine r_aload_n K dX10_back_38 0 rfl rfl ?_
    refine r_getR (o' := 80) K flX10_76 dX10_back_39 rfl rfl rfl ?_
    refine r_bipush (v := 6) K dX10_back_42 rfl ?_
    refine r_iload_n K dX10_back_44 1 rfl rfl ?_
    refine r_imul K dX10_back_45 ?_
    refine r_iconst (v := 2) K dX10_back_46 rfl ?_
    refine r_iadd K dX10_back_47 ?_
    obtain ⟨g17_, hf⟩ := e_g hf
    refine r_iald K dX10_back_48 rfl g17_ ?_
    obtain ⟨h19_, g20_, hf⟩ := e_v hf
    refine r_callV (av := [.int x1, .int 2, .int (h15_.1 80 (ix ((6 * x1) + 2)))]) (st := []) K lkX10_113 mwX10_change (conX10_change x1 2 (h15_.1 80 (ix ((6 * x1) + 2))) h15_ h19_ g20_) dX10_back_49 rfl (Nat.le_of_ble_eq_true rfl) rfl rfl (Nat.le_of_ble_eq_true rfl) ?_
    refine r_aload_n K dX10_back_52 0 rfl rfl ?_
    refine r_iload_n K dX10_back_53 1 rfl rfl ?_
    refine r_iconst (v := 5) K dX10_back_54 rfl ?_
    refine r_aload_n K dX10_back_55 0 rfl rfl ?_
    refine r_getR (o' := 80) K flX10_76 dX10_back_56 rfl rfl rfl ?_
    refine r_bipush (v := 6) K dX10_back_59 rfl ?_
    refine r_iload_n K dX10_back_61 1 rfl rfl ?_
    refine r_imul K dX10_back_62 ?_
    refine r_iconst (v := 5) K dX10_back_63 rfl ?_
    refine r_iadd K dX10_back_64 ?_
    obtain ⟨g21_, hf⟩ := e_g hf
    refine r_iald K dX10_back_65 rfl g21_ ?_
    obtain ⟨h23_, g24_, hf⟩ := e_v hf
    refine r_callV (av := [.int x1, .int 5, .int (h19_.1 80 (ix ((6 * x1) + 5)))]) (st := []) K lkX10_113 mwX10_change (conX10_change x1 5 (h19_.1 80 (ix ((6 * x1) + 5))) h19_ h23_ g24_) dX10_back_66 rfl (Nat.le_of_ble_eq_true rfl) rfl rfl (Nat.le_of_ble_eq_true rfl) ?_
    refine r_iinc (y := 1) (lv' := [(1, .int (x1 + 1)), (0, .ref 59)]) K dX10_back_69 1 rfl rfl (Nat.le_of_ble_eq_true rfl) rfl ?_
    refine r_goto (tgt := 12) K dX10_back_72 (by decide) ?_
    refine r_lv [1, 0] rfl ?_
    exact hQ12 (x1 + 1) h23_ hf
theorem sX10_back_12 {G : GG} {E : EE} {rv : Int32} {h' : AH} (K : OK G E 1 RX10 cX10_back 2) (Z : RT G E (some .int) (some (.int rv)) h') : ∀ (n : Nat) (x1 : Int32) (h : AH), fX10_back_12 n x1 h = some (rv, h') → JJ G E 2 12 [(0, .ref 59), (1, .int x1)] [] h := by
  intro n
  induction n with
  | zero => intro x1 h hf; cases hf
  | succ n ih => intro x1 h hf; exact sX10_back_12_b K Z _ (fun x1 h hf => ih x1 h hf) x1 h hf
def fX10_back (h : AH) : Option (Int32 × AH) :=
  if (h.1 59 39) = 0 then some ((-5), h) else fX10_back_12 FU 0 h
set_option maxRecDepth 10000 in
theorem sX10_back {G : GG} {E : EE} {rv : Int32} {h' : AH} (K : OK G E 1 RX10 cX10_back 2) (Z : RT G E (some .int) (some (.int rv)) h') (h : AH) (hf : fX10_back h = some (rv, h')) : JJ G E 2 0 [(0, .ref 59)] [] h := by
  unfold fX10_back at hf
  refine r_aload_n K dX10_back_0 0 rfl rfl ?_
  refine r_getI K flX10_285 dX10_back_1 rfl rfl ?_
  refine r_if_ne (tgt := 10) K dX10_back_4 (by decide) (fun c1_ => ?_) (fun c1_ => ?_)
  · have hf := e_f hf c1_
    refine r_iconst (v := 0) K dX10_back_10 rfl ?_
    refine r_istore_n (lv' := [(1, .int 0), (0, .ref 59)]) K dX10_back_11 rfl (Nat.le_of_ble_eq_true rfl) rfl ?_
    refine r_lv [1, 0] rfl ?_
    exact sX10_back_12 K Z FU 0 h hf
  · have hf := e_t hf c1_
    refine r_bipush (v := (-5)) K dX10_back_7 rfl ?_
    exact r_iret K Z dX10_back_9 hf
theorem conX10_back {G : GG} (h : AH) (rv : Int32) (h' : AH) (hf : fX10_back h = some (rv, h')) : Con G 1 yX10_back cX10_back 2 (some .int) [.ref 59] h (some (.int rv)) h' := con_of mwX10_back (Nat.le_of_ble_eq_true rfl) (fun E K Z => sX10_back K Z h hf)
def fX10_body (p0 : Int32) (h : AH) : Option (Int32 × AH) :=
  bind2 (fX10_isIn p0 0 7 h) fun r1_ h2_ => if r1_ = 0 then some ((-1), h2_) else if (h2_.1 59 43) = 50 then some ((-3), h2_) else if inb (h2_.1 59 43) 50 = true then letV (wI h2_ 84 (ix (h2_.1 59 43)) p0) fun h7_ => letV (wI h7_ 59 43 ((h7_.1 59 43) + 1)) fun h9_ => some (((h9_.1 59 43) - 1), h9_) else none
set_option maxRecDepth 10000 in
theorem sX10_body {G : GG} {E : EE} {rv : Int32} {h' : AH} (K : OK G E 1 RX10 cX10_body 2) (Z : RT G E (some .int) (some (.int rv)) h') (p0 : Int32) (h : AH) (hf : fX10_body p0 h = some (rv, h')) : JJ G E 2 0 [(0, .ref 59), (1, .int p0)] [] h := by
  unfold fX10_body at hf
  refine r_iload_n K dX10_body_0 1 rfl rfl ?_
  refine r_iconst (v := 0) K dX10_body_1 rfl ?_
  refine r_bipush (v := 7) K dX10_body_2 rfl ?_
  obtain ⟨r1_, h2_, g3_, hf⟩ := e_2 hf
  refine r_callS (av := [.int p0, .int 0, .int 7]) (st := []) K lkX10_106 mwX10_isIn (conX10_isIn p0 0 7 h r1_ h2_ g3_) dX10_body_4 (Nat.le_of_ble_eq_true rfl) rfl rfl (Nat.le_of_ble_eq_true rfl) ?_
  refine r_if_ne (tgt := 12) K dX10_body_7 (by decide) (fun c4_ => ?_) (fun c4_ => ?_)
  · have hf := e_f hf c4_
    refine r_aload_n K dX10_body_12 0 rfl rfl ?_
    refine r_getI K flX10_288 dX10_body_13 rfl rfl ?_
    refine r_bipush (v := 50) K dX10_body_16 rfl ?_
    refine r_icmp_ne (tgt := 24) K dX10_body_18 (by decide) (fun c5_ => ?_) (fun c5_ => ?_)
    · have hf := e_f hf c5_
      refine r_aload_n K dX10_body_24 0 rfl rfl ?_
      refine r_getR (o' := 84) K flX10_88 dX10_body_25 rfl rfl rfl ?_
      refine r_aload_n K dX10_body_28 0 rfl rfl ?_
      refine r_getI K flX10_288 dX10_body_29 rfl rfl ?_
      refine r_iload_n K dX10_body_32 1 rfl rfl ?_
      obtain ⟨g6_, hf⟩ := e_g hf
      obtain ⟨h7_, e8_, hf⟩ := e_l hf
      refine r_iast K dX10_body_33 rfl g6_ e8_ ?_
      refine r_aload_n K dX10_body_34 0 rfl rfl ?_
      refine r_dup K dX10_body_35 rfl ?_
      refine r_getI K flX10_288 dX10_body_36 rfl rfl ?_
      refine r_iconst (v := 1) K dX10_body_39 rfl ?_
      refine r_iadd K dX10_body_40 ?_
      obtain ⟨h9_, e10_, hf⟩ := e_l hf
      refine r_putI K fpX10_288 dX10_body_41 rfl rfl e10_ ?_
      refine r_aload_n K dX10_body_44 0 rfl rfl ?_
      refine r_getI K flX10_288 dX10_body_45 rfl rfl ?_
      refine r_iconst (v := 1) K dX10_body_48 rfl ?_
      refine r_isub K dX10_body_49 ?_
      exact r_iret K Z dX10_body_50 hf
    · have hf := e_t hf c5_
      refine r_bipush (v := (-3)) K dX10_body_21 rfl ?_
      exact r_iret K Z dX10_body_23 hf
  · have hf := e_t hf c4_
    refine r_iconst (v := (-1)) K dX10_body_10 rfl ?_
    exact r_iret K Z dX10_body_11 hf
theorem conX10_body {G : GG} (p0 : Int32) (h : AH) (rv : Int32) (h' : AH) (hf : fX10_body p0 h = some (rv, h')) : Con G 1 yX10_body cX10_body 2 (some .int) [.ref 59, .int p0] h (some (.int rv)) h' := con_of mwX10_body (Nat.le_of_ble_eq_true rfl) (fun E K Z => sX10_body K Z p0 h hf)
def fX10_bound (p0 : Int32) (p1 : Int32) (p2 : Int32) (h : AH) : Option (Int32 × AH) :=
  some ((jmax p1 (jmin p2 p0)), h)
set_option maxRecDepth 10000 in
theorem sX10_bound {G : GG} {E : EE} {rv : Int32} {h' : AH} (K : OK G E 1 RX10 cX10_bound 3) (Z : RT G E (some .int) (some (.int rv)) h') (p0 : Int32) (p1 : Int32) (p2 : Int32) (h : AH) (hf : fX10_bound p0 p1 p2 h = some (rv, h')) : JJ G E 3 0 [(0, .int p0), (1, .int p1), (2, .int p2)] [] h := by
  unfold fX10_bound at hf
  refine r_iload_n K dX10_bound_0 1 rfl rfl ?_
  refine r_iload_n K dX10_bound_1 2 rfl rfl ?_
  refine r_iload_n K dX10_bound_2 0 rfl rfl ?_
  refine r_mmin K lmX10_94 dX10_bound_3 (Nat.le_of_ble_eq_true rfl) (Nat.le_of_ble_eq_true rfl) ?_
  refine r_mmax K lmX10_100 dX10_bound_6 (Nat.le_of_ble_eq_true rfl) (Nat.le_of_ble_eq_true rfl) ?_
  exact r_iret K Z dX10_bound_9 hf
theorem conX10_bound {G : GG} (p0 : Int32) (p1 : Int32) (p2 : Int32) (h : AH) (rv : Int32) (h' : AH) (hf : fX10_bound p0 p1 p2 h = some (rv, h')) : Con G 1 yX10_bound cX10_bound 3 (some .int) [.int p0, .int p1, .int p2] h (some (.int rv)) h' := con_of mwX10_bound (Nat.le_of_ble_eq_true rfl) (fun E K Z => sX10_bound K Z p0 p1 p2 h hf)
def fX10_isGuest (p0 : Int32) (h : AH) : Option (Int32 × AH) :=
  bind2 (fX10_isIn p0 0 ((h.1 59 2) - 1) h) fun r1_ h2_ => if isB r1_ = true then some (r1_, h2_) else none
set_option maxRecDepth 10000 in
theorem sX10_isGuest {G : GG} {E : EE} {rv : Int32} {h' : AH} (K : OK G E 1 RX10 cX10_isGuest 2) (Z : RT G E (some .boolean) (some (.int rv)) h') (p0 : Int32) (h : AH) (hf : fX10_isGuest p0 h = some (rv, h')) : JJ G E 2 0 [(0, .ref 59), (1, .int p0)] [] h := by
  unfold fX10_isGuest at hf
  refine r_iload_n K dX10_isGuest_0 1 rfl rfl ?_
  refine r_iconst (v := 0) K dX10_isGuest_1 rfl ?_
  refine r_aload_n K dX10_isGuest_2 0 rfl rfl ?_
  refine r_getI K flX10_103 dX10_isGuest_3 rfl rfl ?_
  refine r_iconst (v := 1) K dX10_isGuest_6 rfl ?_
  refine r_isub K dX10_isGuest_7 ?_
  obtain ⟨r1_, h2_, g3_, hf⟩ := e_2 hf
  refine r_callS (av := [.int p0, .int 0, .int ((h.1 59 2) - 1)]) (st := []) K lkX10_106 mwX10_isIn (conX10_isIn p0 0 ((h.1 59 2) - 1) h r1_ h2_ g3_) dX10_isGuest_8 (Nat.le_of_ble_eq_true rfl) rfl rfl (Nat.le_of_ble_eq_true rfl) ?_
  obtain ⟨g4_, hf⟩ := e_g hf
  exact r_zret K Z dX10_isGuest_11 g4_ hf
theorem conX10_isGuest {G : GG} (p0 : Int32) (h : AH) (rv : Int32) (h' : AH) (hf : fX10_isGuest p0 h = some (rv, h')) : Con G 1 yX10_isGuest cX10_isGuest 2 (some .boolean) [.ref 59, .int p0] h (some (.int rv)) h' := con_of mwX10_isGuest (Nat.le_of_ble_eq_true rfl) (fun E K Z => sX10_isGuest K Z p0 h hf)
def fX10_number (p0 : Int32) (p1 : Int32) (h : AH) : Option (Int32 × AH) :=
  if inb ((6 * p0) + p1) 94 = true then some ((h.1 60 (ix ((6 * p0) + p1))), h) else none
set_option maxRecDepth 10000 in
theorem sX10_number {G : GG} {E : EE} {rv : Int32} {h' : AH} (K : OK G E 0 RX10 cX10_number 3) (Z : RT G E (some .int) (some (.int rv)) h') (p0 : Int32) (p1 : Int32) (h : AH) (hf : fX10_number p0 p1 h = some (rv, h')) : JJ G E 3 0 [(0, .ref 59), (1, .int p0), (2, .int p1)] [] h := by
  unfold fX10_number at hf
  refine r_aload_n K dX10_number_0 0 rfl rfl ?_
  refine r_getR (o' := 60) K flX10_7 dX10_number_1 rfl rfl rfl ?_
  refine r_bipush (v := 6) K dX10_number_4 rfl ?_
  refine r_iload_n K dX10_number_6 1 rfl rfl ?_
  refine r_imul K dX10_number_7 ?_
  refine r_iload_n K dX10_number_8 2 rfl rfl ?_
  refine r_iadd K dX10_number_9 ?_
  obtain ⟨g1_, hf⟩ := e_g hf
  refine r_iald K dX10_number_10 rfl g1_ ?_
  exact r_iret K Z dX10_number_11 hf
theorem conX10_number {G : GG} (p0 : Int32) (p1 : Int32) (h : AH) (rv : Int32) (h' : AH) (hf : fX10_number p0 p1 h = some (rv, h')) : Con G 0 yX10_number cX10_number 3 (some .int) [.ref 59, .int p0, .int p1] h (some (.int rv)) h' := con_of mwX10_number (Nat.le_of_ble_eq_true rfl) (fun E K Z => sX10_number K Z p0 p1 h hf)
def fX10_isHere (p0 : Int32) (h : AH) : Option (Int32 × AH) :=
  bind2 (fX10_number p0 5 h) fun r1_ h2_ => if r1_ = 0 then some (1, h2_) else some (0, h2_)
set_option maxRecDepth 10000 in
theorem sX10_isHere {G : GG} {E : EE} {rv : Int32} {h' : AH} (K : OK G E 1 RX10 cX10_isHere 2) (Z : RT G E (some .boolean) (some (.int rv)) h') (p0 : Int32) (h : AH) (hf : fX10_isHere p0 h = some (rv, h')) : JJ G E 2 0 [(0, .ref 59), (1, .int p0)] [] h := by
  unfold fX10_isHere at hf
  refine r_aload_n K dX10_isHere_0 0 rfl rfl ?_
  refine r_iload_n K dX10_isHere_1 1 rfl rfl ?_
  refine r_iconst (v := 5) K dX10_isHere_2 rfl ?_
  obtain ⟨r1_, h2_, g3_, hf⟩ := e_2 hf
  refine r_callV (av := [.int p0, .int 5]) (st := []) K lkX10_110 mwX10_number (conX10_number p0 5 h r1_ h2_ g3_) dX10_isHere_3 rfl (Nat.le_of_ble_eq_true rfl) rfl rfl (Nat.le_of_ble_eq_true rfl) ?_
  refine r_if_ne (tgt := 13) K dX10_isHere_6 (by decide) (fun c4_ => ?_) (fun c4_ => ?_)
  · have hf := e_f hf c4_
    refine r_iconst (v := 0) K dX10_isHere_13 rfl ?_
    exact r_zret K Z dX10_isHere_14 rfl hf
  · have hf := e_t hf c4_
    refine r_iconst (v := 1) K dX10_isHere_9 rfl ?_
    refine r_goto (tgt := 14) K dX10_isHere_10 (by decide) ?_
    exact r_zret K Z dX10_isHere_14 rfl hf
theorem conX10_isHere {G : GG} (p0 : Int32) (h : AH) (rv : Int32) (h' : AH) (hf : fX10_isHere p0 h = some (rv, h')) : Con G 1 yX10_isHere cX10_isHere 2 (some .boolean) [.ref 59, .int p0] h (some (.int rv)) h' := con_of mwX10_isHere (Nat.le_of_ble_eq_true rfl) (fun E K Z => sX10_isHere K Z p0 h hf)
def fX10_goMinute_131 (Q2 : Int32 → AH → Option AH) (x1 : Int32) (x2 : Int32) (h : AH) : Option AH :=
  bind2 (fX10_bound x2 0 99 h) fun r20_ h21_ => bindV (fX10_change x1 0 r20_ h21_) fun h24_ => Q2 (x1 + 1) h24_
set_option maxRecDepth 10000 in
theorem sX10_goMinute_131 {G : GG} {E : EE} {h' : AH} (K : OK G E 2 RX10 cX10_goMinute 5) (Z : RT G E none (none) h') (Q2 : Int32 → AH → Option AH) (hQ2 : ∀ (x1 : Int32) (h : AH), Q2 x1 h = some h' → JJ G E 5 2 [(0, .ref 59), (1, .int x1)] [] h) (x1 : Int32) (x2 : Int32) (h : AH) (hf : fX10_goMinute_131 Q2 x1 x2 h = some h') : JJ G E 5 131 [(0, .ref 59), (1, .int x1), (2, .int x2)] [] h := by
  unfold fX10_goMinute_131 at hf
  refine r_aload_n K dX10_goMinute_131 0 rfl rfl ?_
  refine r_iload_n K dX10_goMinute_132 1 rfl rfl ?_
  refine r_iconst (v := 0) K dX10_goMinute_133 rfl ?_
  refine r_iload_n K dX10_goMinute_134 2 rfl rfl ?_
  refine r_iconst (v := 0) K dX10_goMinute_135 rfl ?_
  refine r_bipush (v := 99) K dX10_goMinute_136 rfl ?_
  obtain ⟨r20_, h21_, g22_, hf⟩ := e_2 hf
  refine r_callS (av := [.int x2, .int 0, .int 99]) (st := [.int 0, .int x1, .ref 59]) K lkX10_200 mwX10_bound (conX10_bound x2 0 99 h r20_ h21_ g22_) dX10_goMinute_138 (Nat.le_of_ble_eq_true rfl) rfl rfl (Nat.le_of_ble_eq_true rfl) ?_
  obtain ⟨h24_, g25_, hf⟩ := e_v hf
  refine r_callV (av := [.int x1, .int 0, .int r20_]) (st := []) K lkX10_113 mwX10_change (conX10_change x1 0 r20_ h21_ h24_ g25_) dX10_goMinute_141 rfl (Nat.le_of_ble_eq_true rfl) rfl rfl (Nat.le_of_ble_eq_true rfl) ?_
  refine r_iinc (y := 1) (lv' := [(1, .int (x1 + 1)), (0, .ref 59), (2, .int x2)]) K dX10_goMinute_144 1 rfl rfl (Nat.le_of_ble_eq_true rfl) rfl ?_
  refine r_goto (tgt := 2) K dX10_goMinute_147 (by decide) ?_
  refine r_lv [1, 0] rfl ?_
  exact hQ2 (x1 + 1) h24_ hf
def fX10_goMinute_34_b (Q2 : Int32 → AH → Option AH) (Q34 : Int32 → Int32 → Int32 → AH → Option AH) (x1 : Int32) (x2 : Int32) (x3 : Int32) (h : AH) : Option AH :=
  if (h.1 59 3) ≤ x3 then if (h.1 59 23) = x1 then if (h.1 59 24) = (h.1 60 (ix 93)) then letV ((x2 + (h.1 59 25))) fun x28_ => fX10_goMinute_131 Q2 x1 x28_ h else fX10_goMinute_131 Q2 x1 x2 h else fX10_goMinute_131 Q2 x1 x2 h else letV ((54 + (3 * x3))) fun x30_ => if inb x30_ 94 = true then if (h.1 60 (ix x30_)) = (h.1 60 (ix 93)) then if inb (x30_ + 2) 94 = true then if (h.1 60 (ix (x30_ + 2))) = x1 then if inb (x30_ + 1) 94 = true then letV ((x2 + (h.1 60 (ix (x30_ + 1))))) fun x42_ => Q34 x1 x42_ (x3 + 1) h else none else letV ((x2 + 0)) fun x39_ => Q34 x1 x39_ (x3 + 1) h else none else letV ((x2 + 0)) fun x35_ => Q34 x1 x35_ (x3 + 1) h else none
def fX10_goMinute_34 (Q2 : Int32 → AH → Option AH) : Nat → Int32 → Int32 → Int32 → AH → Option AH
  | 0 => fun _ _ _ _ => none
  | n + 1 => fX10_goMinute_34_b Q2 (fX10_goMinute_34 Q2 n)
set_option maxRecDepth 10000 in
theorem sX10_goMinute_34_b {G : GG} {E : EE} {h' : AH} (K : OK G E 2 RX10 cX10_goMinute 5) (Z : RT G E none (none) h') (Q2 : Int32 → AH → Option AH) (hQ2 : ∀ (x1 : Int32) (h : AH), Q2 x1 h = some h' → JJ G E 5 2 [(0, .ref 59), (1, .int x1)] [] h) (Q34 : Int32 → Int32 → Int32 → AH → Option AH) (hQ34 : ∀ (x1 : Int32) (x2 : Int32) (x3 : Int32) (h : AH), Q34 x1 x2 x3 h = some h' → JJ G E 5 34 [(0, .ref 59), (1, .int x1), (2, .int x2), (3, .int x3)] [] h) (x1 : Int32) (x2 : Int32) (x3 : Int32) (h : AH) (hf : fX10_goMinute_34_b Q2 Q34 x1 x2 x3 h = some h') : JJ G E 5 34 [(0, .ref 59), (1, .int x1), (2, .int x2), (3, .int x3)] [] h := by
  unfold fX10_goMinute_34_b at hf
  refine r_iload_n K dX10_goMinute_34 3 rfl rfl ?_
  refine r_aload_n K dX10_goMinute_35 0 rfl rfl ?_
  refine r_getI K flX10_121 dX10_goMinute_36 rfl rfl ?_
  refine r_icmp_ge (tgt := 102) K dX10_goMinute_39 (by decide) (fun c18_ => ?_) (fun c18_ => ?_)
  · have hf := e_t hf c18_
    refine r_aload_n K dX10_goMinute_102 0 rfl rfl ?_
    refine r_getI K flX10_47 dX10_goMinute_103 rfl rfl ?_
    refine r_iload_n K dX10_goMinute_106 1 rfl rfl ?_
    refine r_icmp_ne (tgt := 131) K dX10_goMinute_107 (by decide) (fun c19_ => ?_) (fun c19_ => ?_)
    · have hf := e_f hf c19_
      refine r_lv [0, 1, 2] rfl ?_
      exact sX10_goMinute_131 K Z Q2 hQ2 x1 x2 h hf
    · have hf := e_t hf c19_
      refine r_aload_n K dX10_goMinute_110 0 rfl rfl ?_
      refine r_getI K flX10_206 dX10_goMinute_111 rfl rfl ?_
      refine r_aload_n K dX10_goMinute_114 0 rfl rfl ?_
      refine r_getR (o' := 60) K flX10_7 dX10_goMinute_115 rfl rfl rfl ?_
      refine r_bipush (v := 93) K dX10_goMinute_118 rfl ?_
      refine r_iald K dX10_goMinute_120 rfl (by decide +kernel) ?_
      refine r_icmp_ne (tgt := 131) K dX10_goMinute_121 (by decide) (fun c27_ => ?_) (fun c27_ => ?_)
      · have hf := e_f hf c27_
        refine r_lv [0, 1, 2] rfl ?_
        exact sX10_goMinute_131 K Z Q2 hQ2 x1 x2 h hf
      · have hf := e_t hf c27_
        refine r_iload_n K dX10_goMinute_124 2 rfl rfl ?_
        refine r_aload_n K dX10_goMinute_125 0 rfl rfl ?_
        refine r_getI K flX10_209 dX10_goMinute_126 rfl rfl ?_
        refine r_iadd K dX10_goMinute_129 ?_
        obtain ⟨x28_, e29_, hf⟩ := e_l hf
        refine r_nmI e29_ ?_
        refine r_istore_n (lv' := [(2, .int x28_), (0, .ref 59), (1, .int x1), (3, .int x3)]) K dX10_goMinute_130 rfl (Nat.le_of_ble_eq_true rfl) rfl ?_
        refine r_lv [1, 2, 0] rfl ?_
        exact sX10_goMinute_131 K Z Q2 hQ2 x1 x28_ h hf
  · have hf := e_f hf c18_
    refine r_bipush (v := 54) K dX10_goMinute_42 rfl ?_
    refine r_iconst (v := 3) K dX10_goMinute_44 rfl ?_
    refine r_iload_n K dX10_goMinute_45 3 rfl rfl ?_
    refine r_imul K dX10_goMinute_46 ?_
    refine r_iadd K dX10_goMinute_47 ?_
    obtain ⟨x30_, e31_, hf⟩ := e_l hf
    refine r_nmI e31_ ?_
    refine r_istore (lv' := [(4, .int x30_), (0, .ref 59), (1, .int x1), (2, .int x2), (3, .int x3)]) K dX10_goMinute_48 (Nat.le_of_ble_eq_true rfl) rfl ?_
    refine r_iload_n K dX10_goMinute_50 3 rfl rfl ?_
    refine r_aload_n K dX10_goMinute_51 1 rfl rfl ?_
    refine r_getR (o' := 60) K flX10_7 dX10_goMinute_52 rfl rfl rfl ?_
    refine r_iload K dX10_goMinute_55 0 rfl ?_
    obtain ⟨g32_, hf⟩ := e_g hf
    refine r_iald K dX10_goMinute_57 rfl g32_ ?_
    refine r_aload_n K dX10_goMinute_58 1 rfl rfl ?_
    refine r_getR (o' := 60) K flX10_7 dX10_goMinute_59 rfl rfl rfl ?_
    refine r_bipush (v := 93) K dX10_goMinute_62 rfl ?_
    refine r_iald K dX10_goMinute_64 rfl (by decide +kernel) ?_
    refine r_icmp_ne (tgt := 93) K dX10_goMinute_65 (by decide) (fun c34_ => ?_) (fun c34_ => ?_)
    · have hf := e_f hf c34_
      refine r_iconst (v := 0) K dX10_goMinute_93 rfl ?_
      refine r_iadd K dX10_goMinute_94 ?_
      obtain ⟨x35_, e36_, hf⟩ := e_l hf
      refine r_nmI e36_ ?_
      refine r_istore_n (lv' := [(2, .int x35_), (4, .int x30_), (0, .ref 59), (1, .int x1), (3, .int x3)]) K dX10_goMinute_95 rfl (Nat.le_of_ble_eq_true rfl) rfl ?_
      refine r_iinc (y := 1) (lv' := [(3, .int (x3 + 1)), (2, .int x35_), (4, .int x30_), (0, .ref 59), (1, .int x1)]) K dX10_goMinute_96 4 rfl rfl (Nat.le_of_ble_eq_true rfl) rfl ?_
      refine r_goto (tgt := 34) K dX10_goMinute_99 (by decide) ?_
      refine r_lv [3, 4, 1, 0] rfl ?_
      exact hQ34 x1 x35_ (x3 + 1) h hf
    · have hf := e_t hf c34_
      refine r_aload_n K dX10_goMinute_68 1 rfl rfl ?_
      refine r_getR (o' := 60) K flX10_7 dX10_goMinute_69 rfl rfl rfl ?_
      refine r_iload K dX10_goMinute_72 0 rfl ?_
      refine r_iconst (v := 2) K dX10_goMinute_74 rfl ?_
      refine r_iadd K dX10_goMinute_75 ?_
      obtain ⟨g37_, hf⟩ := e_g hf
      refine r_iald K dX10_goMinute_76 rfl g37_ ?_
      refine r_iload_n K dX10_goMinute_77 2 rfl rfl ?_
      refine r_icmp_ne (tgt := 93) K dX10_goMinute_78 (by decide) (fun c38_ => ?_) (fun c38_ => ?_)
      · have hf := e_f hf c38_
        refine r_iconst (v := 0) K dX10_goMinute_93 rfl ?_
        refine r_iadd K dX10_goMinute_94 ?_
        obtain ⟨x39_, e40_, hf⟩ := e_l hf
        refine r_nmI e40_ ?_
        refine r_istore_n (lv' := [(2, .int x39_), (4, .int x30_), (0, .ref 59), (1, .int x1), (3, .int x3)]) K dX10_goMinute_95 rfl (Nat.le_of_ble_eq_true rfl) rfl ?_
        refine r_iinc (y := 1) (lv' := [(3, .int (x3 + 1)), (2, .int x39_), (4, .int x30_), (0, .ref 59), (1, .int x1)]) K dX10_goMinute_96 4 rfl rfl (Nat.le_of_ble_eq_true rfl) rfl ?_
        refine r_goto (tgt := 34) K dX10_goMinute_99 (by decide) ?_
        refine r_lv [3, 4, 1, 0] rfl ?_
        exact hQ34 x1 x39_ (x3 + 1) h hf
      · have hf := e_t hf c38_
        refine r_aload_n K dX10_goMinute_81 1 rfl rfl ?_
        refine r_getR (o' := 60) K flX10_7 dX10_goMinute_82 rfl rfl rfl ?_
        refine r_iload K dX10_goMinute_85 0 rfl ?_
        refine r_iconst (v := 1) K dX10_goMinute_87 rfl ?_
        refine r_iadd K dX10_goMinute_88 ?_
        obtain ⟨g41_, hf⟩ := e_g hf
        refine r_iald K dX10_goMinute_89 rfl g41_ ?_
        refine r_goto (tgt := 94) K dX10_goMinute_90 (by decide) ?_
        refine r_iadd K dX10_goMinute_94 ?_
        obtain ⟨x42_, e43_, hf⟩ := e_l hf
        refine r_nmI e43_ ?_
        refine r_istore_n (lv' := [(2, .int x42_), (4, .int x30_), (0, .ref 59), (1, .int x1), (3, .int x3)]) K dX10_goMinute_95 rfl (Nat.le_of_ble_eq_true rfl) rfl ?_
        refine r_iinc (y := 1) (lv' := [(3, .int (x3 + 1)), (2, .int x42_), (4, .int x30_), (0, .ref 59), (1, .int x1)]) K dX10_goMinute_96 4 rfl rfl (Nat.le_of_ble_eq_true rfl) rfl ?_
        refine r_goto (tgt := 34) K dX10_goMinute_99 (by decide) ?_
        refine r_lv [3, 4, 1, 0] rfl ?_
        exact hQ34 x1 x42_ (x3 + 1) h hf
theorem sX10_goMinute_34 {G : GG} {E : EE} {h' : AH} (K : OK G E 2 RX10 cX10_goMinute 5) (Z : RT G E none (none) h') (Q2 : Int32 → AH → Option AH) (hQ2 : ∀ (x1 : Int32) (h : AH), Q2 x1 h = some h' → JJ G E 5 2 [(0, .ref 59), (1, .int x1)] [] h) : ∀ (n : Nat) (x1 : Int32) (x2 : Int32) (x3 : Int32) (h : AH), fX10_goMinute_34 Q2 n x1 x2 x3 h = some h' → JJ G E 5 34 [(0, .ref 59), (1, .int x1), (2, .int x2), (3, .int x3)] [] h := by
  intro n
  induction n with
  | zero => intro x1 x2 x3 h hf; cases hf
  | succ n ih => intro x1 x2 x3 h hf; exact sX10_goMinute_34_b K Z Q2 hQ2 _ (fun x1 x2 x3 h hf => ih x1 x2 x3 h hf) x1 x2 x3 h hf
def fX10_goMinute_2_b (Q2 : Int32 → AH → Option AH) (x1 : Int32) (h : AH) : Option AH :=
  if (h.1 59 2) ≤ x1 then letV (wI h 60 (ix 93) (jmin 199 ((h.1 60 (ix 93)) + 1))) fun h4_ => some h4_ else bind2 (fX10_isHere x1 h) fun r6_ h7_ => if r6_ = 0 then Q2 (x1 + 1) h7_ else bind2 (fX10_number x1 0 h7_) fun r10_ h11_ => bind2 (fX10_number x1 1 h11_) fun r13_ h14_ => letV ((r10_ - r13_)) fun x16_ => fX10_goMinute_34 Q2 FU x1 x16_ 0 h14_
def fX10_goMinute_2 : Nat → Int32 → AH → Option AH
  | 0 => fun _ _ => none
  | n + 1 => fX10_goMinute_2_b (fX10_goMinute_2 n)
set_option maxRecDepth 10000 in
theorem sX10_goMinute_2_b {G : GG} {E : EE} {h' : AH} (K : OK G E 2 RX10 cX10_goMinute 5) (Z : RT G E none (none) h') (Q2 : Int32 → AH → Option AH) (hQ2 : ∀ (x1 : Int32) (h : AH), Q2 x1 h = some h' → JJ G E 5 2 [(0, .ref 59), (1, .int x1)] [] h) (x1 : Int32) (h : AH) (hf : fX10_goMinute_2_b Q2 x1 h = some h') : JJ G E 5 2 [(0, .ref 59), (1, .int x1)] [] h := by
  unfold fX10_goMinute_2_b at hf
  refine r_iload_n K dX10_goMinute_2 1 rfl rfl ?_
  refine r_aload_n K dX10_goMinute_3 0 rfl rfl ?_
  refine r_getI K flX10_103 dX10_goMinute_4 rfl rfl ?_
  refine r_icmp_ge (tgt := 150) K dX10_goMinute_7 (by decide) (fun c1_ => ?_) (fun c1_ => ?_)
  · have hf := e_t hf c1_
    refine r_aload_n K dX10_goMinute_150 0 rfl rfl ?_
    refine r_getR (o' := 60) K flX10_7 dX10_goMinute_151 rfl rfl rfl ?_
    refine r_bipush (v := 93) K dX10_goMinute_154 rfl ?_
    refine r_sipush (v := 199) K dX10_goMinute_156 rfl ?_
    refine r_aload_n K dX10_goMinute_159 0 rfl rfl ?_
    refine r_getR (o' := 60) K flX10_7 dX10_goMinute_160 rfl rfl rfl ?_
    refine r_bipush (v := 93) K dX10_goMinute_163 rfl ?_
    refine r_iald K dX10_goMinute_165 rfl (by decide +kernel) ?_
    refine r_iconst (v := 1) K dX10_goMinute_166 rfl ?_
    refine r_iadd K dX10_goMinute_167 ?_
    refine r_mmin K lmX10_94 dX10_goMinute_168 (Nat.le_of_ble_eq_true rfl) (Nat.le_of_ble_eq_true rfl) ?_
    obtain ⟨h4_, e5_, hf⟩ := e_l hf
    refine r_iast K dX10_goMinute_171 rfl (by decide +kernel) e5_ ?_
    exact r_vret K Z dX10_goMinute_172 hf
  · have hf := e_f hf c1_
    refine r_aload_n K dX10_goMinute_10 0 rfl rfl ?_
    refine r_iload_n K dX10_goMinute_11 1 rfl rfl ?_
    obtain ⟨r6_, h7_, g8_, hf⟩ := e_2 hf
    refine r_callV (av := [.int x1]) (st := []) K lkX10_197 mwX10_isHere (conX10_isHere x1 h r6_ h7_ g8_) dX10_goMinute_12 rfl (Nat.le_of_ble_eq_true rfl) rfl rfl (Nat.le_of_ble_eq_true rfl) ?_
    refine r_if_eq (tgt := 144) K dX10_goMinute_15 (by decide) (fun c9_ => ?_) (fun c9_ => ?_)
    · have hf := e_t hf c9_
      refine r_iinc (y := 1) (lv' := [(1, .int (x1 + 1)), (0, .ref 59)]) K dX10_goMinute_144 1 rfl rfl (Nat.le_of_ble_eq_true rfl) rfl ?_
      refine r_goto (tgt := 2) K dX10_goMinute_147 (by decide) ?_
      refine r_lv [1, 0] rfl ?_
      exact hQ2 (x1 + 1) h7_ hf
    · have hf := e_f hf c9_
      refine r_aload_n K dX10_goMinute_18 0 rfl rfl ?_
      refine r_iload_n K dX10_goMinute_19 1 rfl rfl ?_
      refine r_iconst (v := 0) K dX10_goMinute_20 rfl ?_
      obtain ⟨r10_, h11_, g12_, hf⟩ := e_2 hf
      refine r_callV (av := [.int x1, .int 0]) (st := []) K lkX10_110 mwX10_number (conX10_number x1 0 h7_ r10_ h11_ g12_) dX10_goMinute_21 rfl (Nat.le_of_ble_eq_true rfl) rfl rfl (Nat.le_of_ble_eq_true rfl) ?_
      refine r_aload_n K dX10_goMinute_24 0 rfl rfl ?_
      refine r_iload_n K dX10_goMinute_25 1 rfl rfl ?_
      refine r_iconst (v := 1) K dX10_goMinute_26 rfl ?_
      obtain ⟨r13_, h14_, g15_, hf⟩ := e_2 hf
      refine r_callV (av := [.int x1, .int 1]) (st := [.int r10_]) K lkX10_110 mwX10_number (conX10_number x1 1 h11_ r13_ h14_ g15_) dX10_goMinute_27 rfl (Nat.le_of_ble_eq_true rfl) rfl rfl (Nat.le_of_ble_eq_true rfl) ?_
      refine r_isub K dX10_goMinute_30 ?_
      obtain ⟨x16_, e17_, hf⟩ := e_l hf
      refine r_nmI e17_ ?_
      refine r_istore_n (lv' := [(2, .int x16_), (0, .ref 59), (1, .int x1)]) K dX10_goMinute_31 rfl (Nat.le_of_ble_eq_true rfl) rfl ?_
      refine r_iconst (v := 0) K dX10_goMinute_32 rfl ?_
      refine r_istore_n (lv' := [(3, .int 0), (2, .int x16_), (0, .ref 59), (1, .int x1)]) K dX10_goMinute_33 rfl (Nat.le_of_ble_eq_true rfl) rfl ?_
      refine r_lv [2, 3, 1, 0] rfl ?_
      exact sX10_goMinute_34 K Z Q2 hQ2 FU x1 x16_ 0 h14_ hf
theorem sX10_goMinute_2 {G : GG} {E : EE} {h' : AH} (K : OK G E 2 RX10 cX10_goMinute 5) (Z : RT G E none (none) h') : ∀ (n : Nat) (x1 : Int32) (h : AH), fX10_goMinute_2 n x1 h = some h' → JJ G E 5 2 [(0, .ref 59), (1, .int x1)] [] h := by
  intro n
  induction n with
  | zero => intro x1 h hf; cases hf
  | succ n ih => intro x1 h hf; exact sX10_goMinute_2_b K Z _ (fun x1 h hf => ih x1 h hf) x1 h hf
def fX10_goMinute (h : AH) : Option AH :=
  fX10_goMinute_2 FU 0 h
set_option maxRecDepth 10000 in
theorem sX10_goMinute {G : GG} {E : EE} {h' : AH} (K : OK G E 2 RX10 cX10_goMinute 5) (Z : RT G E none (none) h') (h : AH) (hf : fX10_goMinute h = some h') : JJ G E 5 0 [(0, .ref 59)] [] h := by
  unfold fX10_goMinute at hf
  refine r_iconst (v := 0) K dX10_goMinute_0 rfl ?_
  refine r_istore_n (lv' := [(1, .int 0), (0, .ref 59)]) K dX10_goMinute_1 rfl (Nat.le_of_ble_eq_true rfl) rfl ?_
  refine r_lv [1, 0] rfl ?_
  exact sX10_goMinute_2 K Z FU 0 h hf
theorem conX10_goMinute {G : GG} (h : AH) (h' : AH) (hf : fX10_goMinute h = some h') : Con G 2 yX10_goMinute cX10_goMinute 5 none [.ref 59] h (none) h' := con_of mwX10_goMinute (Nat.le_of_ble_eq_true rfl) (fun E K Z => sX10_goMinute K Z h hf)
def fX10_goMinutes_2_b (p0 : Int32) (Q2 : Int32 → Int32 → AH → Option AH) (x1 : Int32) (x2 : Int32) (h : AH) : Option AH :=
  if x1 ≤ x2 then some h else bindV (fX10_goMinute  h) fun h3_ => Q2 x1 (x2 + 1) h3_
def fX10_goMinutes_2 (p0 : Int32) : Nat → Int32 → Int32 → AH → Option AH
  | 0 => fun _ _ _ => none
  | n + 1 => fX10_goMinutes_2_b p0 (fX10_goMinutes_2 p0 n)
set_option maxRecDepth 10000 in
theorem sX10_goMinutes_2_b {G : GG} {E : EE} {h' : AH} (K : OK G E 3 RX10 cX10_goMinutes 3) (Z : RT G E none (none) h') (p0 : Int32) (Q2 : Int32 → Int32 → AH → Option AH) (hQ2 : ∀ (x1 : Int32) (x2 : Int32) (h : AH), Q2 x1 x2 h = some h' → JJ G E 3 2 [(0, .ref 59), (1, .int x1), (2, .int x2)] [] h) (x1 : Int32) (x2 : Int32) (h : AH) (hf : fX10_goMinutes_2_b p0 Q2 x1 x2 h = some h') : JJ G E 3 2 [(0, .ref 59), (1, .int x1), (2, .int x2)] [] h := by
  unfold fX10_goMinutes_2_b at hf
  refine r_iload_n K dX10_goMinutes_2 2 rfl rfl ?_
  refine r_iload_n K dX10_goMinutes_3 1 rfl rfl ?_
  refine r_icmp_ge (tgt := 17) K dX10_goMinutes_4 (by decide) (fun c1_ => ?_) (fun c1_ => ?_)
  · have hf := e_t hf c1_
    exact r_vret K Z dX10_goMinutes_17 hf
  · have hf := e_f hf c1_
    refine r_aload_n K dX10_goMinutes_7 0 rfl rfl ?_
    obtain ⟨h3_, g4_, hf⟩ := e_v hf
    refine r_callV (av := []) (st := []) K lkX10_212 mwX10_goMinute (conX10_goMinute  h h3_ g4_) dX10_goMinutes_8 rfl (Nat.le_of_ble_eq_true rfl) rfl rfl (Nat.le_of_ble_eq_true rfl) ?_
    refine r_iinc (y := 1) (lv' := [(2, .int (x2 + 1)), (0, .ref 59), (1, .int x1)]) K dX10_goMinutes_11 2 rfl rfl (Nat.le_of_ble_eq_true rfl) rfl ?_
    refine r_goto (tgt := 2) K dX10_goMinutes_14 (by decide) ?_
    refine r_lv [1, 2, 0] rfl ?_
    exact hQ2 x1 (x2 + 1) h3_ hf
theorem sX10_goMinutes_2 {G : GG} {E : EE} {h' : AH} (K : OK G E 3 RX10 cX10_goMinutes 3) (Z : RT G E none (none) h') (p0 : Int32) : ∀ (n : Nat) (x1 : Int32) (x2 : Int32) (h : AH), fX10_goMinutes_2 p0 n x1 x2 h = some h' → JJ G E 3 2 [(0, .ref 59), (1, .int x1), (2, .int x2)] [] h := by
  intro n
  induction n with
  | zero => intro x1 x2 h hf; cases hf
  | succ n ih => intro x1 x2 h hf; exact sX10_goMinutes_2_b K Z p0 _ (fun x1 x2 h hf => ih x1 x2 h hf) x1 x2 h hf
def fX10_goMinutes (p0 : Int32) (h : AH) : Option AH :=
  fX10_goMinutes_2 p0 FU p0 0 h
set_option maxRecDepth 10000 in
theorem sX10_goMinutes {G : GG} {E : EE} {h' : AH} (K : OK G E 3 RX10 cX10_goMinutes 3) (Z : RT G E none (none) h') (p0 : Int32) (h : AH) (hf : fX10_goMinutes p0 h = some h') : JJ G E 3 0 [(0, .ref 59), (1, .int p0)] [] h := by
  unfold fX10_goMinutes at hf
  refine r_iconst (v := 0) K dX10_goMinutes_0 rfl ?_
  refine r_istore_n (lv' := [(2, .int 0), (0, .ref 59), (1, .int p0)]) K dX10_goMinutes_1 rfl (Nat.le_of_ble_eq_true rfl) rfl ?_
  refine r_lv [1, 2, 0] rfl ?_
  exact sX10_goMinutes_2 K Z p0 FU p0 0 h hf
theorem conX10_goMinutes {G : GG} (p0 : Int32) (h : AH) (h' : AH) (hf : fX10_goMinutes p0 h = some h') : Con G 3 yX10_goMinutes cX10_goMinutes 3 none [.ref 59, .int p0] h (none) h' := con_of mwX10_goMinutes (Nat.le_of_ble_eq_true rfl) (fun E K Z => sX10_goMinutes K Z p0 h hf)
def fX10_keepAll_2_b (p0 : Int32) (Q2 : Int32 → Int32 → AH → Option AH) (x1 : Int32) (x2 : Int32) (h : AH) : Option AH :=
  if 94 ≤ x2 then some h else if inb x2 94 = true then if inb ((94 * x1) + x2) 188 = true then letV (wI h 61 (ix ((94 * x1) + x2)) (h.1 60 (ix x2))) fun h4_ => Q2 x1 (x2 + 1) h4_ else none else none
def fX10_keepAll_2 (p0 : Int32) : Nat → Int32 → Int32 → AH → Option AH
  | 0 => fun _ _ _ => none
  | n + 1 => fX10_keepAll_2_b p0 (fX10_keepAll_2 p0 n)
set_option maxRecDepth 10000 in
theorem sX10_keepAll_2_b {G : GG} {E : EE} {h' : AH} (K : OK G E 0 RX10 cX10_keepAll 3) (Z : RT G E none (none) h') (p0 : Int32) (Q2 : Int32 → Int32 → AH → Option AH) (hQ2 : ∀ (x1 : Int32) (x2 : Int32) (h : AH), Q2 x1 x2 h = some h' → JJ G E 3 2 [(0, .ref 59), (1, .int x1), (2, .int x2)] [] h) (x1 : Int32) (x2 : Int32) (h : AH) (hf : fX10_keepAll_2_b p0 Q2 x1 x2 h = some h') : JJ G E 3 2 [(0, .ref 59), (1, .int x1), (2, .int x2)] [] h := by
  unfold fX10_keepAll_2_b at hf
  refine r_iload_n K dX10_keepAll_2 2 rfl rfl ?_
  refine r_bipush (v := 94) K dX10_keepAll_3 rfl ?_
  refine r_icmp_ge (tgt := 31) K dX10_keepAll_5 (by decide) (fun c1_ => ?_) (fun c1_ => ?_)
  · have hf := e_t hf c1_
    exact r_vret K Z dX10_keepAll_31 hf
  · have hf := e_f hf c1_
    refine r_aload_n K dX10_keepAll_8 0 rfl rfl ?_
    refine r_getR (o' := 61) K flX10_13 dX10_keepAll_9 rfl rfl rfl ?_
    refine r_bipush (v := 94) K dX10_keepAll_12 rfl ?_
    refine r_iload_n K dX10_keepAll_14 1 rfl rfl ?_
    refine r_imul K dX10_keepAll_15 ?_
    refine r_iload_n K dX10_keepAll_16 2 rfl rfl ?_
    refine r_iadd K dX10_keepAll_17 ?_
    refine r_aload_n K dX10_keepAll_18 0 rfl rfl ?_
    refine r_getR (o' := 60) K flX10_7 dX10_keepAll_19 rfl rfl rfl ?_
    refine r_iload_n K dX10_keepAll_22 2 rfl rfl ?_
    obtain ⟨g2_, hf⟩ := e_g hf
    refine r_iald K dX10_keepAll_23 rfl g2_ ?_
    obtain ⟨g3_, hf⟩ := e_g hf
    obtain ⟨h4_, e5_, hf⟩ := e_l hf
    refine r_iast K dX10_keepAll_24 rfl g3_ e5_ ?_
    refine r_iinc (y := 1) (lv' := [(2, .int (x2 + 1)), (0, .ref 59), (1, .int x1)]) K dX10_keepAll_25 2 rfl rfl (Nat.le_of_ble_eq_true rfl) rfl ?_
    refine r_goto (tgt := 2) K dX10_keepAll_28 (by decide) ?_
    refine r_lv [1, 2, 0] rfl ?_
    exact hQ2 x1 (x2 + 1) h4_ hf
theorem sX10_keepAll_2 {G : GG} {E : EE} {h' : AH} (K : OK G E 0 RX10 cX10_keepAll 3) (Z : RT G E none (none) h') (p0 : Int32) : ∀ (n : Nat) (x1 : Int32) (x2 : Int32) (h : AH), fX10_keepAll_2 p0 n x1 x2 h = some h' → JJ G E 3 2 [(0, .ref 59), (1, .int x1), (2, .int x2)] [] h := by
  intro n
  induction n with
  | zero => intro x1 x2 h hf; cases hf
  | succ n ih => intro x1 x2 h hf; exact sX10_keepAll_2_b K Z p0 _ (fun x1 x2 h hf => ih x1 x2 h hf) x1 x2 h hf
def fX10_keepAll (p0 : Int32) (h : AH) : Option AH :=
  fX10_keepAll_2 p0 FU p0 0 h
set_option maxRecDepth 10000 in
theorem sX10_keepAll {G : GG} {E : EE} {h' : AH} (K : OK G E 0 RX10 cX10_keepAll 3) (Z : RT G E none (none) h') (p0 : Int32) (h : AH) (hf : fX10_keepAll p0 h = some h') : JJ G E 3 0 [(0, .ref 59), (1, .int p0)] [] h := by
  unfold fX10_keepAll at hf
  refine r_iconst (v := 0) K dX10_keepAll_0 rfl ?_
  refine r_istore_n (lv' := [(2, .int 0), (0, .ref 59), (1, .int p0)]) K dX10_keepAll_1 rfl (Nat.le_of_ble_eq_true rfl) rfl ?_
  refine r_lv [1, 2, 0] rfl ?_
  exact sX10_keepAll_2 K Z p0 FU p0 0 h hf
theorem conX10_keepAll {G : GG} (p0 : Int32) (h : AH) (h' : AH) (hf : fX10_keepAll p0 h = some h') : Con G 0 yX10_keepAll cX10_keepAll 3 none [.ref 59, .int p0] h (none) h' := con_of mwX10_keepAll (Nat.le_of_ble_eq_true rfl) (fun E K Z => sX10_keepAll K Z p0 h hf)
def fX10_gives_123 (Q21 : Int32 → Int32 → Int32 → AH → Option (Int32 × AH)) (x1 : Int32) (x2 : Int32) (x3 : Int32) (s0 : Int32) (s1 : Int32) (h : AH) : Option (Int32 × AH) :=
  letV (wI h 59 18 (s1 + s0)) fun h21_ => Q21 x1 x2 x3 h21_
set_option maxRecDepth 10000 in
theorem sX10_gives_123 {G : GG} {E : EE} {rv : Int32} {h' : AH} (K : OK G E 63 RX10 cX10_gives 6) (Z : RT G E (some .int) (some (.int rv)) h') (Q21 : Int32 → Int32 → Int32 → AH → Option (Int32 × AH)) (hQ21 : ∀ (x1 : Int32) (x2 : Int32) (x3 : Int32) (h : AH), Q21 x1 x2 x3 h = some (rv, h') → JJ G E 6 21 [(0, .ref 59), (1, .int x1), (2, .int x2), (3, .int x3)] [] h) (x1 : Int32) (x2 : Int32) (x3 : Int32) (s0 : Int32) (s1 : Int32) (h : AH) (hf : fX10_gives_123 Q21 x1 x2 x3 s0 s1 h = some (rv, h')) : JJ G E 6 123 [(0, .ref 59), (1, .int x1), (2, .int x2), (3, .int x3)] [.int s0, .int s1, .ref 59] h := by
  unfold fX10_gives_123 at hf
  refine r_iadd K dX10_gives_123 ?_
  obtain ⟨h21_, e22_, hf⟩ := e_l hf
  refine r_putI K fpX10_148 dX10_gives_124 rfl rfl e22_ ?_
  refine r_goto (tgt := 21) K dX10_gives_127 (by decide) ?_
  refine r_lv [0, 1, 2, 3] rfl ?_
  exact hQ21 x1 x2 x3 h21_ hf
def fX10_gives_101 (Q21 : Int32 → Int32 → Int32 → AH → Option (Int32 × AH)) (x1 : Int32) (s0 : Int32) (h : AH) : Option (Int32 × AH) :=
  bind2 (fX10_isAt 59 h) fun r17_ h18_ => if r17_ = 0 then fX10_gives_123 Q21 x1 s0 r17_ 0 (h18_.1 59 18) h18_ else fX10_gives_123 Q21 x1 s0 r17_ 1 (h18_.1 59 18) h18_
set_option maxRecDepth 10000 in
theorem sX10_gives_101 {G : GG} {E : EE} {rv : Int32} {h' : AH} (K : OK G E 63 RX10 cX10_gives 6) (Z : RT G E (some .int) (some (.int rv)) h') (Q21 : Int32 → Int32 → Int32 → AH → Option (Int32 × AH)) (hQ21 : ∀ (x1 : Int32) (x2 : Int32) (x3 : Int32) (h : AH), Q21 x1 x2 x3 h = some (rv, h') → JJ G E 6 21 [(0, .ref 59), (1, .int x1), (2, .int x2), (3, .int x3)] [] h) (x1 : Int32) (s0 : Int32) (h : AH) (hf : fX10_gives_101 Q21 x1 s0 h = some (rv, h')) : JJ G E 6 101 [(0, .ref 59), (1, .int x1)] [.int s0] h := by
  unfold fX10_gives_101 at hf
  refine r_istore_n (lv' := [(2, .int s0), (0, .ref 59), (1, .int x1)]) K dX10_gives_101 rfl (Nat.le_of_ble_eq_true rfl) rfl ?_
  refine r_aload_n K dX10_gives_102 1 rfl rfl ?_
  refine r_bipush (v := 59) K dX10_gives_103 rfl ?_
  obtain ⟨r17_, h18_, g19_, hf⟩ := e_2 hf
  refine r_callV (av := [.int 59]) (st := []) K lkX10_164 mwX10_isAt (conX10_isAt 59 h r17_ h18_ g19_) dX10_gives_105 rfl (Nat.le_of_ble_eq_true rfl) rfl rfl (Nat.le_of_ble_eq_true rfl) ?_
  refine r_istore_n (lv' := [(3, .int r17_), (2, .int s0), (0, .ref 59), (1, .int x1)]) K dX10_gives_108 rfl (Nat.le_of_ble_eq_true rfl) rfl ?_
  refine r_aload_n K dX10_gives_109 2 rfl rfl ?_
  refine r_dup K dX10_gives_110 rfl ?_
  refine r_getI K flX10_148 dX10_gives_111 rfl rfl ?_
  refine r_iload_n K dX10_gives_114 0 rfl rfl ?_
  refine r_if_eq (tgt := 122) K dX10_gives_115 (by decide) (fun c20_ => ?_) (fun c20_ => ?_)
  · have hf := e_t hf c20_
    refine r_iconst (v := 0) K dX10_gives_122 rfl ?_
    refine r_lv [2, 3, 1, 0] rfl ?_
    exact sX10_gives_123 K Z Q21 hQ21 x1 s0 r17_ 0 (h18_.1 59 18) h18_ hf
  · have hf := e_f hf c20_
    refine r_iconst (v := 1) K dX10_gives_118 rfl ?_
    refine r_goto (tgt := 123) K dX10_gives_119 (by decide) ?_
    refine r_lv [2, 3, 1, 0] rfl ?_
    exact sX10_gives_123 K Z Q21 hQ21 x1 s0 r17_ 1 (h18_.1 59 18) h18_ hf
def fX10_gives_96 (Q21 : Int32 → Int32 → Int32 → AH → Option (Int32 × AH)) (x1 : Int32) (h : AH) : Option (Int32 × AH) :=
  fX10_gives_101 Q21 x1 1 h
set_option maxRecDepth 10000 in
theorem sX10_gives_96 {G : GG} {E : EE} {rv : Int32} {h' : AH} (K : OK G E 63 RX10 cX10_gives 6) (Z : RT G E (some .int) (some (.int rv)) h') (Q21 : Int32 → Int32 → Int32 → AH → Option (Int32 × AH)) (hQ21 : ∀ (x1 : Int32) (x2 : Int32) (x3 : Int32) (h : AH), Q21 x1 x2 x3 h = some (rv, h') → JJ G E 6 21 [(0, .ref 59), (1, .int x1), (2, .int x2), (3, .int x3)] [] h) (x1 : Int32) (h : AH) (hf : fX10_gives_96 Q21 x1 h = some (rv, h')) : JJ G E 6 96 [(0, .ref 59), (1, .int x1)] [] h := by
  unfold fX10_gives_96 at hf
  refine r_iconst (v := 1) K dX10_gives_96 rfl ?_
  refine r_goto (tgt := 101) K dX10_gives_97 (by decide) ?_
  refine r_lv [0, 1] rfl ?_
  exact sX10_gives_101 K Z Q21 hQ21 x1 1 h hf
def fX10_gives_86 (Q21 : Int32 → Int32 → Int32 → AH → Option (Int32 × AH)) (x2 : Int32) (x5 : Int32) (s0 : Int32) (h : AH) : Option (Int32 × AH) :=
  if x2 = 0 then if x5 = 0 then fX10_gives_101 Q21 s0 0 h else fX10_gives_96 Q21 s0 h else fX10_gives_96 Q21 s0 h
set_option maxRecDepth 10000 in
theorem sX10_gives_86 {G : GG} {E : EE} {rv : Int32} {h' : AH} (K : OK G E 63 RX10 cX10_gives 6) (Z : RT G E (some .int) (some (.int rv)) h') (Q21 : Int32 → Int32 → Int32 → AH → Option (Int32 × AH)) (hQ21 : ∀ (x1 : Int32) (x2 : Int32) (x3 : Int32) (h : AH), Q21 x1 x2 x3 h = some (rv, h') → JJ G E 6 21 [(0, .ref 59), (1, .int x1), (2, .int x2), (3, .int x3)] [] h) (x2 : Int32) (x5 : Int32) (s0 : Int32) (h : AH) (hf : fX10_gives_86 Q21 x2 x5 s0 h = some (rv, h')) : JJ G E 6 86 [(0, .ref 59), (2, .int x2), (5, .int x5)] [.int s0] h := by
  unfold fX10_gives_86 at hf
  refine r_istore_n (lv' := [(1, .int s0), (0, .ref 59), (2, .int x2), (5, .int x5)]) K dX10_gives_86 rfl (Nat.le_of_ble_eq_true rfl) rfl ?_
  refine r_iload_n K dX10_gives_87 2 rfl rfl ?_
  refine r_if_ne (tgt := 96) K dX10_gives_88 (by decide) (fun c16_ => ?_) (fun c16_ => ?_)
  · have hf := e_f hf c16_
    refine r_lv [1, 0] rfl ?_
    exact sX10_gives_96 K Z Q21 hQ21 s0 h hf
  · have hf := e_t hf c16_
    refine r_iload K dX10_gives_91 3 rfl ?_
    refine r_if_eq (tgt := 100) K dX10_gives_93 (by decide) (fun c23_ => ?_) (fun c23_ => ?_)
    · have hf := e_t hf c23_
      refine r_iconst (v := 0) K dX10_gives_100 rfl ?_
      refine r_lv [1, 0] rfl ?_
      exact sX10_gives_101 K Z Q21 hQ21 s0 0 h hf
    · have hf := e_f hf c23_
      refine r_lv [1, 0] rfl ?_
      exact sX10_gives_96 K Z Q21 hQ21 s0 h hf
def fX10_gives_85 (Q21 : Int32 → Int32 → Int32 → AH → Option (Int32 × AH)) (x1 : Int32) (x2 : Int32) (x5 : Int32) (h : AH) : Option (Int32 × AH) :=
  fX10_gives_86 Q21 x2 x5 x1 h
set_option maxRecDepth 10000 in
theorem sX10_gives_85 {G : GG} {E : EE} {rv : Int32} {h' : AH} (K : OK G E 63 RX10 cX10_gives 6) (Z : RT G E (some .int) (some (.int rv)) h') (Q21 : Int32 → Int32 → Int32 → AH → Option (Int32 × AH)) (hQ21 : ∀ (x1 : Int32) (x2 : Int32) (x3 : Int32) (h : AH), Q21 x1 x2 x3 h = some (rv, h') → JJ G E 6 21 [(0, .ref 59), (1, .int x1), (2, .int x2), (3, .int x3)] [] h) (x1 : Int32) (x2 : Int32) (x5 : Int32) (h : AH) (hf : fX10_gives_85 Q21 x1 x2 x5 h = some (rv, h')) : JJ G E 6 85 [(0, .ref 59), (1, .int x1), (2, .int x2), (5, .int x5)] [] h := by
  unfold fX10_gives_85 at hf
  refine r_iload_n K dX10_gives_85 1 rfl rfl ?_
  refine r_lv [0, 2, 3] rfl ?_
  exact sX10_gives_86 K Z Q21 hQ21 x2 x5 x1 h hf
def fX10_gives_71 (Q21 : Int32 → Int32 → Int32 → AH → Option (Int32 × AH)) (x1 : Int32) (x2 : Int32) (x4 : Int32) (x5 : Int32) (h : AH) : Option (Int32 × AH) :=
  if x5 = 0 then fX10_gives_85 Q21 x1 x2 x5 h else if x2 = 0 then fX10_gives_86 Q21 x2 x5 x4 h else fX10_gives_85 Q21 x1 x2 x5 h
set_option maxRecDepth 10000 in
theorem sX10_gives_71 {G : GG} {E : EE} {rv : Int32} {h' : AH} (K : OK G E 63 RX10 cX10_gives 6) (Z : RT G E (some .int) (some (.int rv)) h') (Q21 : Int32 → Int32 → Int32 → AH → Option (Int32 × AH)) (hQ21 : ∀ (x1 : Int32) (x2 : Int32) (x3 : Int32) (h : AH), Q21 x1 x2 x3 h = some (rv, h') → JJ G E 6 21 [(0, .ref 59), (1, .int x1), (2, .int x2), (3, .int x3)] [] h) (x1 : Int32) (x2 : Int32) (x4 : Int32) (x5 : Int32) (h : AH) (hf : fX10_gives_71 Q21 x1 x2 x4 x5 h = some (rv, h')) : JJ G E 6 71 [(0, .ref 59), (1, .int x1), (2, .int x2), (4, .int x4), (5, .int x5)] [] h := by
  unfold fX10_gives_71 at hf
  refine r_iload K dX10_gives_71 4 rfl ?_
  refine r_if_eq (tgt := 85) K dX10_gives_73 (by decide) (fun c15_ => ?_) (fun c15_ => ?_)
  · have hf := e_t hf c15_
    refine r_lv [0, 1, 2, 4] rfl ?_
    exact sX10_gives_85 K Z Q21 hQ21 x1 x2 x5 h hf
  · have hf := e_f hf c15_
    refine r_iload_n K dX10_gives_76 2 rfl rfl ?_
    refine r_if_ne (tgt := 85) K dX10_gives_77 (by decide) (fun c24_ => ?_) (fun c24_ => ?_)
    · have hf := e_f hf c24_
      refine r_lv [0, 1, 2, 4] rfl ?_
      exact sX10_gives_85 K Z Q21 hQ21 x1 x2 x5 h hf
    · have hf := e_t hf c24_
      refine r_iload K dX10_gives_80 3 rfl ?_
      refine r_goto (tgt := 86) K dX10_gives_82 (by decide) ?_
      refine r_lv [0, 2, 4] rfl ?_
      exact sX10_gives_86 K Z Q21 hQ21 x2 x5 x4 h hf
def fX10_gives_63 (Q21 : Int32 → Int32 → Int32 → AH → Option (Int32 × AH)) (x1 : Int32) (x2 : Int32) (s0 : Int32) (h : AH) : Option (Int32 × AH) :=
  bind2 (RGP 60 5 [] h) fun r28_ h29_ => fX10_gives_71 Q21 x1 x2 r28_ s0 h29_
set_option maxRecDepth 10000 in
theorem sX10_gives_63 {G : GG} {E : EE} {rv : Int32} {h' : AH} (K : OK G E 63 RX10 cX10_gives 6) (Z : RT G E (some .int) (some (.int rv)) h') (Q21 : Int32 → Int32 → Int32 → AH → Option (Int32 × AH)) (hQ21 : ∀ (x1 : Int32) (x2 : Int32) (x3 : Int32) (h : AH), Q21 x1 x2 x3 h = some (rv, h') → JJ G E 6 21 [(0, .ref 59), (1, .int x1), (2, .int x2), (3, .int x3)] [] h) (x1 : Int32) (x2 : Int32) (s0 : Int32) (h : AH) (hf : fX10_gives_63 Q21 x1 x2 s0 h = some (rv, h')) : JJ G E 6 63 [(0, .ref 59), (1, .int x1), (2, .int x2)] [.int s0] h := by
  unfold fX10_gives_63 at hf
  refine r_istore (lv' := [(5, .int s0), (0, .ref 59), (1, .int x1), (2, .int x2)]) K dX10_gives_63 (Nat.le_of_ble_eq_true rfl) rfl ?_
  refine r_aload_n K dX10_gives_65 1 rfl rfl ?_
  obtain ⟨r28_, h29_, g30_, hf⟩ := e_2 hf
  refine r_callV (av := []) (st := []) K lkX10_173 mwX10_any (conRGP_5 60  h r28_ h29_ g30_) dX10_gives_66 rfl (Nat.le_of_ble_eq_true rfl) rfl rfl (Nat.le_of_ble_eq_true rfl) ?_
  refine r_istore (lv' := [(4, .int r28_), (5, .int s0), (0, .ref 59), (1, .int x1), (2, .int x2)]) K dX10_gives_69 (Nat.le_of_ble_eq_true rfl) rfl ?_
  refine r_lv [2, 3, 4, 0, 1] rfl ?_
  exact sX10_gives_71 K Z Q21 hQ21 x1 x2 r28_ s0 h29_ hf
def fX10_gives_21_b (Q21 : Int32 → Int32 → Int32 → AH → Option (Int32 × AH)) (x1 : Int32) (x2 : Int32) (x3 : Int32) (h : AH) : Option (Int32 × AH) :=
  if x3 = 0 then some (x1, h) else bind2 (RGP 60 5 [] h) fun r8_ h9_ => bind2 (fX10_isAt 63 h9_) fun r11_ h12_ => if r11_ = 0 then fX10_gives_71 Q21 x1 x2 r8_ 1 h12_ else letV (wI h12_ 59 18 ((h12_.1 59 18) + 1)) fun h25_ => if r8_ = 0 then fX10_gives_63 Q21 x1 x2 0 h25_ else fX10_gives_63 Q21 x1 x2 1 h25_
def fX10_gives_21 : Nat → Int32 → Int32 → Int32 → AH → Option (Int32 × AH)
  | 0 => fun _ _ _ _ => none
  | n + 1 => fX10_gives_21_b (fX10_gives_21 n)
set_option maxRecDepth 10000 in
theorem sX10_gives_21_b {G : GG} {E : EE} {rv : Int32} {h' : AH} (K : OK G E 63 RX10 cX10_gives 6) (Z : RT G E (some .int) (some (.int rv)) h') (Q21 : Int32 → Int32 → Int32 → AH → Option (Int32 × AH)) (hQ21 : ∀ (x1 : Int32) (x2 : Int32) (x3 : Int32) (h : AH), Q21 x1 x2 x3 h = some (rv, h') → JJ G E 6 21 [(0, .ref 59), (1, .int x1), (2, .int x2), (3, .int x3)] [] h) (x1 : Int32) (x2 : Int32) (x3 : Int32) (h : AH) (hf : fX10_gives_21_b Q21 x1 x2 x3 h = some (rv, h')) : JJ G E 6 21 [(0, .ref 59), (1, .int x1), (2, .int x2), (3, .int x3)] [] h := by
  unfold fX10_gives_21_b at hf
  refine r_iload_n K dX10_gives_21 3 rfl rfl ?_
  refine r_if_eq (tgt := 130) K dX10_gives_22 (by decide) (fun c7_ => ?_) (fun c7_ => ?_)
  · have hf := e_t hf c7_
    refine r_iload_n K dX10_gives_130 1 rfl rfl ?_
    exact r_iret K Z dX10_gives_131 hf
  · have hf := e_f hf c7_
    refine r_aload_n K dX10_gives_25 0 rfl rfl ?_
    obtain ⟨r8_, h9_, g10_, hf⟩ := e_2 hf
    refine r_callV (av := []) (st := []) K lkX10_173 mwX10_any (conRGP_5 60  h r8_ h9_ g10_) dX10_gives_26 rfl (Nat.le_of_ble_eq_true rfl) rfl rfl (Nat.le_of_ble_eq_true rfl) ?_
    refine r_istore (lv' := [(4, .int r8_), (0, .ref 59), (1, .int x1), (2, .int x2), (3, .int x3)]) K dX10_gives_29 (Nat.le_of_ble_eq_true rfl) rfl ?_
    refine r_iconst (v := 1) K dX10_gives_31 rfl ?_
    refine r_istore (lv' := [(5, .int 1), (4, .int r8_), (0, .ref 59), (1, .int x1), (2, .int x2), (3, .int x3)]) K dX10_gives_32 (Nat.le_of_ble_eq_true rfl) rfl ?_
    refine r_aload_n K dX10_gives_34 2 rfl rfl ?_
    refine r_bipush (v := 63) K dX10_gives_35 rfl ?_
    obtain ⟨r11_, h12_, g13_, hf⟩ := e_2 hf
    refine r_callV (av := [.int 63]) (st := []) K lkX10_164 mwX10_isAt (conX10_isAt 63 h9_ r11_ h12_ g13_) dX10_gives_37 rfl (Nat.le_of_ble_eq_true rfl) rfl rfl (Nat.le_of_ble_eq_true rfl) ?_
    refine r_if_eq (tgt := 71) K dX10_gives_40 (by decide) (fun c14_ => ?_) (fun c14_ => ?_)
    · have hf := e_t hf c14_
      refine r_lv [2, 3, 4, 1, 0] rfl ?_
      exact sX10_gives_71 K Z Q21 hQ21 x1 x2 r8_ 1 h12_ hf
    · have hf := e_f hf c14_
      refine r_aload_n K dX10_gives_43 2 rfl rfl ?_
      refine r_dup K dX10_gives_44 rfl ?_
      refine r_getI K flX10_148 dX10_gives_45 rfl rfl ?_
      refine r_iconst (v := 1) K dX10_gives_48 rfl ?_
      refine r_iadd K dX10_gives_49 ?_
      obtain ⟨h25_, e26_, hf⟩ := e_l hf
      refine r_putI K fpX10_148 dX10_gives_50 rfl rfl e26_ ?_
      refine r_iload K dX10_gives_53 1 rfl ?_
      refine r_if_eq (tgt := 62) K dX10_gives_55 (by decide) (fun c27_ => ?_) (fun c27_ => ?_)
      · have hf := e_t hf c27_
        refine r_iconst (v := 0) K dX10_gives_62 rfl ?_
        refine r_lv [2, 3, 4] rfl ?_
        exact sX10_gives_63 K Z Q21 hQ21 x1 x2 0 h25_ hf
      · have hf := e_f hf c27_
        refine r_iconst (v := 1) K dX10_gives_58 rfl ?_
        refine r_goto (tgt := 63) K dX10_gives_59 (by decide) ?_
        refine r_lv [2, 3, 4] rfl ?_
        exact sX10_gives_63 K Z Q21 hQ21 x1 x2 1 h25_ hf
theorem sX10_gives_21 {G : GG} {E : EE} {rv : Int32} {h' : AH} (K : OK G E 63 RX10 cX10_gives 6) (Z : RT G E (some .int) (some (.int rv)) h') : ∀ (n : Nat) (x1 : Int32) (x2 : Int32) (x3 : Int32) (h : AH), fX10_gives_21 n x1 x2 x3 h = some (rv, h') → JJ G E 6 21 [(0, .ref 59), (1, .int x1), (2, .int x2), (3, .int x3)] [] h := by
  intro n
  induction n with
  | zero => intro x1 x2 x3 h hf; cases hf
  | succ n ih => intro x1 x2 x3 h hf; exact sX10_gives_21_b K Z _ (fun x1 x2 x3 h hf => ih x1 x2 x3 h hf) x1 x2 x3 h hf
def fX10_gives (h : AH) : Option (Int32 × AH) :=
  letV (wI h 59 18 0) fun h1_ => letV (wI h1_ 59 19 1) fun h3_ => letV (wI h3_ 59 20 0) fun h5_ => fX10_gives_21 FU 0 0 1 h5_
set_option maxRecDepth 10000 in
theorem sX10_gives {G : GG} {E : EE} {rv : Int32} {h' : AH} (K : OK G E 63 RX10 cX10_gives 6) (Z : RT G E (some .int) (some (.int rv)) h') (h : AH) (hf : fX10_gives h = some (rv, h')) : JJ G E 6 0 [(0, .ref 59)] [] h := by
  unfold fX10_gives at hf
  refine r_aload_n K dX10_gives_0 0 rfl rfl ?_
  refine r_iconst (v := 0) K dX10_gives_1 rfl ?_
  obtain ⟨h1_, e2_, hf⟩ := e_l hf
  refine r_putI K fpX10_148 dX10_gives_2 rfl rfl e2_ ?_
  refine r_aload_n K dX10_gives_5 0 rfl rfl ?_
  refine r_iconst (v := 1) K dX10_gives_6 rfl ?_
  obtain ⟨h3_, e4_, hf⟩ := e_l hf
  refine r_putZ K fpX10_144 dX10_gives_7 rfl rfl rfl e4_ ?_
  refine r_aload_n K dX10_gives_10 0 rfl rfl ?_
  refine r_iconst (v := 0) K dX10_gives_11 rfl ?_
  obtain ⟨h5_, e6_, hf⟩ := e_l hf
  refine r_putI K fpX10_158 dX10_gives_12 rfl rfl e6_ ?_
  refine r_iconst (v := 0) K dX10_gives_15 rfl ?_
  refine r_istore_n (lv' := [(1, .int 0), (0, .ref 59)]) K dX10_gives_16 rfl (Nat.le_of_ble_eq_true rfl) rfl ?_
  refine r_iconst (v := 0) K dX10_gives_17 rfl ?_
  refine r_istore_n (lv' := [(2, .int 0), (1, .int 0), (0, .ref 59)]) K dX10_gives_18 rfl (Nat.le_of_ble_eq_true rfl) rfl ?_
  refine r_iconst (v := 1) K dX10_gives_19 rfl ?_
  refine r_istore_n (lv' := [(3, .int 1), (2, .int 0), (1, .int 0), (0, .ref 59)]) K dX10_gives_20 rfl (Nat.le_of_ble_eq_true rfl) rfl ?_
  refine r_lv [3, 2, 1, 0] rfl ?_
  exact sX10_gives_21 K Z FU 0 0 1 h5_ hf
theorem conX10_gives {G : GG} (h : AH) (rv : Int32) (h' : AH) (hf : fX10_gives h = some (rv, h')) : Con G 63 yX10_gives cX10_gives 6 (some .int) [.ref 59] h (some (.int rv)) h' := con_of mwX10_gives (Nat.le_of_ble_eq_true rfl) (fun E K Z => sX10_gives K Z h hf)
