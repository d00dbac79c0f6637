def fX9_judge (p0 : Int32) (h : AH) : Option (Int32 × AH) :=
  bind2 (fX9_isShelf p0 h) fun r1_ h2_ => if r1_ = 0 then some ((-1), h2_) else if inb p0 6 = true then bind2 (fX9_refusalOfBytes (rf 46 (ix p0)) h2_) fun r6_ h7_ => if r6_ = 0 then bindV (fX6_startBehind 0 h7_) fun h11_ => bindV (fX6_allGo 9 h11_) fun h14_ => bind2 (fX6_firstOtherwise (rf 46 (ix p0)) h14_) fun r17_ h18_ => some (r17_, h18_) else some (r6_, h7_) else none
set_option maxRecDepth 10000 in
theorem sX9_judge {G : GG} {E : EE} {rv : Int32} {h' : AH} (K : OK G E 5 RX9 cX9_judge 3) (Z : RT G E (some .int) (some (.int rv)) h') (p0 : Int32) (h : AH) (hf : fX9_judge p0 h = some (rv, h')) : JJ G E 3 0 [(0, .ref 0), (1, .int p0)] [] h := by
  unfold fX9_judge at hf
  refine r_iload_n K dX9_judge_0 1 rfl rfl ?_
  obtain ⟨r1_, h2_, g3_, hf⟩ := e_2 hf
  refine r_callS (av := [.int p0]) (st := []) K lkX9_98 mwX9_isShelf (conX9_isShelf p0 h r1_ h2_ g3_) dX9_judge_1 (Nat.le_of_ble_eq_true rfl) rfl rfl (Nat.le_of_ble_eq_true rfl) ?_
  refine r_if_ne (tgt := 9) K dX9_judge_4 (by decide) (fun c4_ => ?_) (fun c4_ => ?_)
  · have hf := e_f hf c4_
    refine r_aload_n K dX9_judge_9 0 rfl rfl ?_
    refine r_getR (o' := 46) K flX9_82 dX9_judge_10 rfl rfl rfl ?_
    refine r_iload_n K dX9_judge_13 1 rfl rfl ?_
    obtain ⟨g5_, hf⟩ := e_g hf
    refine r_aald K dX9_judge_14 rfl g5_ ?_
    obtain ⟨r6_, h7_, g8_, hf⟩ := e_2 hf
    refine r_callS (av := [.ref (rf 46 (ix p0))]) (st := []) K lkX9_217 mwX9_refusalOfBytes (conX9_refusalOfBytes (rf 46 (ix p0)) (kshelf g5_) h2_ r6_ h7_ g8_) dX9_judge_15 (Nat.le_of_ble_eq_true rfl) rfl rfl (Nat.le_of_ble_eq_true rfl) ?_
    refine r_istore_n (lv' := [(2, .int r6_), (0, .ref 0), (1, .int p0)]) K dX9_judge_18 rfl (Nat.le_of_ble_eq_true rfl) rfl ?_
    refine r_iload_n K dX9_judge_19 0 rfl rfl ?_
    refine r_if_eq (tgt := 25) K dX9_judge_20 (by decide) (fun c9_ => ?_) (fun c9_ => ?_)
    · have hf := e_t hf c9_
      refine r_aload_n K dX9_judge_25 1 rfl rfl ?_
      refine r_getR (o' := 18) K flX9_43 dX9_judge_26 rfl rfl rfl ?_
      refine r_iconst (v := 0) K dX9_judge_29 rfl ?_
      obtain ⟨h11_, g12_, hf⟩ := e_v hf
      refine r_callV (av := [.int 0]) (st := []) K lkX9_149 mwX6_startBehind (conX6_startBehind 0 h7_ h11_ g12_) dX9_judge_30 rfl (Nat.le_of_ble_eq_true rfl) rfl rfl (Nat.le_of_ble_eq_true rfl) ?_
      refine r_aload_n K dX9_judge_33 1 rfl rfl ?_
      refine r_getR (o' := 18) K flX9_43 dX9_judge_34 rfl rfl rfl ?_
      refine r_bipush (v := 9) K dX9_judge_37 rfl ?_
      obtain ⟨h14_, g15_, hf⟩ := e_v hf
      refine r_callV (av := [.int 9]) (st := []) K lkX9_173 mwX6_allGo (conX6_allGo 9 h11_ h14_ g15_) dX9_judge_39 rfl (Nat.le_of_ble_eq_true rfl) rfl rfl (Nat.le_of_ble_eq_true rfl) ?_
      refine r_aload_n K dX9_judge_42 1 rfl rfl ?_
      refine r_getR (o' := 18) K flX9_43 dX9_judge_43 rfl rfl rfl ?_
      refine r_aload_n K dX9_judge_46 1 rfl rfl ?_
      refine r_getR (o' := 46) K flX9_82 dX9_judge_47 rfl rfl rfl ?_
      refine r_iload_n K dX9_judge_50 2 rfl rfl ?_
      refine r_aald K dX9_judge_51 rfl g5_ ?_
      obtain ⟨r17_, h18_, g19_, hf⟩ := e_2 hf
      refine r_callV (av := [.ref (rf 46 (ix p0))]) (st := []) K lkX9_221 mwX6_firstOtherwise (conX6_firstOtherwise (rf 46 (ix p0)) (kshelf g5_) h14_ r17_ h18_ g19_) dX9_judge_52 rfl (Nat.le_of_ble_eq_true rfl) rfl rfl (Nat.le_of_ble_eq_true rfl) ?_
      exact r_iret K Z dX9_judge_55 hf
    · have hf := e_f hf c9_
      refine r_iload_n K dX9_judge_23 0 rfl rfl ?_
      exact r_iret K Z dX9_judge_24 hf
  · have hf := e_t hf c4_
    refine r_iconst (v := (-1)) K dX9_judge_7 rfl ?_
    exact r_iret K Z dX9_judge_8 hf
theorem conX9_judge {G : GG} (p0 : Int32) (h : AH) (rv : Int32) (h' : AH) (hf : fX9_judge p0 h = some (rv, h')) : Con G 5 yX9_judge cX9_judge 3 (some .int) [.ref 0, .int p0] h (some (.int rv)) h' := con_of mwX9_judge (Nat.le_of_ble_eq_true rfl) (fun E K Z => sX9_judge K Z p0 h hf)
def fX9_keep_41 (p0 : Int32) (p1 : Int32) (x1 : Int32) (x2 : Int32) (s0 : Int32) (s1 : Nat) (h : AH) : Option (Int32 × AH) :=
  letV (wI h s1 0 s0) fun h8_ => if inb x1 6 = true then letV (wI h8_ (rf 46 (ix x1)) 1 x2) fun h11_ => some (1, h11_) else none
set_option maxRecDepth 10000 in
theorem sX9_keep_41 {G : GG} {E : EE} {rv : Int32} {h' : AH} (K : OK G E 1 RX9 cX9_keep 3) (Z : RT G E (some .int) (some (.int rv)) h') (p0 : Int32) (p1 : Int32) (x1 : Int32) (x2 : Int32) (s0 : Int32) (s1 : Nat) (hs1 : KD s1 = (5, 5)) (h : AH) (hf : fX9_keep_41 p0 p1 x1 x2 s0 s1 h = some (rv, h')) : JJ G E 3 41 [(0, .ref 0), (1, .int x1), (2, .int x2)] [.int s0, .ref s1] h := by
  unfold fX9_keep_41 at hf
  obtain ⟨h8_, e9_, hf⟩ := e_l hf
  refine r_putI K fpX9_102 dX9_keep_41 hs1 rfl e9_ ?_
  refine r_aload_n K dX9_keep_44 0 rfl rfl ?_
  refine r_getR (o' := 46) K flX9_82 dX9_keep_45 rfl rfl rfl ?_
  refine r_iload_n K dX9_keep_48 1 rfl rfl ?_
  obtain ⟨g10_, hf⟩ := e_g hf
  refine r_aald K dX9_keep_49 rfl g10_ ?_
  refine r_iload_n K dX9_keep_50 2 rfl rfl ?_
  obtain ⟨h11_, e12_, hf⟩ := e_l hf
  refine r_putI K fpX9_289 dX9_keep_51 (kshelf g10_) rfl e12_ ?_
  refine r_iconst (v := 1) K dX9_keep_54 rfl ?_
  exact r_iret K Z dX9_keep_55 hf
def fX9_keep_25 (p0 : Int32) (p1 : Int32) (x1 : Int32) (x2 : Int32) (h : AH) : Option (Int32 × AH) :=
  if inb x1 6 = true then if x2 = (-1) then fX9_keep_41 p0 p1 x1 x2 0 (rf 46 (ix x1)) h else fX9_keep_41 p0 p1 x1 x2 1 (rf 46 (ix x1)) h else none
set_option maxRecDepth 10000 in
theorem sX9_keep_25 {G : GG} {E : EE} {rv : Int32} {h' : AH} (K : OK G E 1 RX9 cX9_keep 3) (Z : RT G E (some .int) (some (.int rv)) h') (p0 : Int32) (p1 : Int32) (x1 : Int32) (x2 : Int32) (h : AH) (hf : fX9_keep_25 p0 p1 x1 x2 h = some (rv, h')) : JJ G E 3 25 [(0, .ref 0), (1, .int x1), (2, .int x2)] [] h := by
  unfold fX9_keep_25 at hf
  refine r_aload_n K dX9_keep_25 0 rfl rfl ?_
  refine r_getR (o' := 46) K flX9_82 dX9_keep_26 rfl rfl rfl ?_
  refine r_iload_n K dX9_keep_29 1 rfl rfl ?_
  obtain ⟨g6_, hf⟩ := e_g hf
  refine r_aald K dX9_keep_30 rfl g6_ ?_
  refine r_iload_n K dX9_keep_31 2 rfl rfl ?_
  refine r_iconst (v := (-1)) K dX9_keep_32 rfl ?_
  refine r_icmp_ne (tgt := 40) K dX9_keep_33 (by decide) (fun c7_ => ?_) (fun c7_ => ?_)
  · have hf := e_f hf c7_
    refine r_iconst (v := 1) K dX9_keep_40 rfl ?_
    refine r_lv [0, 1, 2] rfl ?_
    exact sX9_keep_41 K Z p0 p1 x1 x2 1 (rf 46 (ix x1)) (kshelf g6_) h hf
  · have hf := e_t hf c7_
    refine r_iconst (v := 0) K dX9_keep_36 rfl ?_
    refine r_goto (tgt := 41) K dX9_keep_37 (by decide) ?_
    refine r_lv [0, 1, 2] rfl ?_
    exact sX9_keep_41 K Z p0 p1 x1 x2 0 (rf 46 (ix x1)) (kshelf g6_) h hf
def fX9_keep (p0 : Int32) (p1 : Int32) (h : AH) : Option (Int32 × AH) :=
  bind2 (fX9_isShelf p0 h) fun r1_ h2_ => if r1_ = 0 then some ((-1), h2_) else if p1 = (-1) then fX9_keep_25 p0 p1 p0 p1 h2_ else bind2 (fX1_hasBody p1 h2_) fun r13_ h14_ => if r13_ = 0 then some ((-1), h14_) else fX9_keep_25 p0 p1 p0 p1 h14_
set_option maxRecDepth 10000 in
theorem sX9_keep {G : GG} {E : EE} {rv : Int32} {h' : AH} (K : OK G E 1 RX9 cX9_keep 3) (Z : RT G E (some .int) (some (.int rv)) h') (p0 : Int32) (p1 : Int32) (h : AH) (hf : fX9_keep p0 p1 h = some (rv, h')) : JJ G E 3 0 [(0, .ref 0), (1, .int p0), (2, .int p1)] [] h := by
  unfold fX9_keep at hf
  refine r_iload_n K dX9_keep_0 1 rfl rfl ?_
  obtain ⟨r1_, h2_, g3_, hf⟩ := e_2 hf
  refine r_callS (av := [.int p0]) (st := []) K lkX9_98 mwX9_isShelf (conX9_isShelf p0 h r1_ h2_ g3_) dX9_keep_1 (Nat.le_of_ble_eq_true rfl) rfl rfl (Nat.le_of_ble_eq_true rfl) ?_
  refine r_if_eq (tgt := 23) K dX9_keep_4 (by decide) (fun c4_ => ?_) (fun c4_ => ?_)
  · have hf := e_t hf c4_
    refine r_iconst (v := (-1)) K dX9_keep_23 rfl ?_
    exact r_iret K Z dX9_keep_24 hf
  · have hf := e_f hf c4_
    refine r_iload_n K dX9_keep_7 2 rfl rfl ?_
    refine r_iconst (v := (-1)) K dX9_keep_8 rfl ?_
    refine r_icmp_eq (tgt := 25) K dX9_keep_9 (by decide) (fun c5_ => ?_) (fun c5_ => ?_)
    · have hf := e_t hf c5_
      refine r_lv [0, 1, 2] rfl ?_
      exact sX9_keep_25 K Z p0 p1 p0 p1 h2_ hf
    · have hf := e_f hf c5_
      refine r_aload_n K dX9_keep_12 0 rfl rfl ?_
      refine r_getR (o' := 43) K flX9_76 dX9_keep_13 rfl rfl rfl ?_
      refine r_iload_n K dX9_keep_16 2 rfl rfl ?_
      obtain ⟨r13_, h14_, g15_, hf⟩ := e_2 hf
      refine r_callV (av := [.int p1]) (st := []) K lkX9_286 mwX1_hasBody (conX1_hasBody p1 h2_ r13_ h14_ g15_) dX9_keep_17 rfl (Nat.le_of_ble_eq_true rfl) rfl rfl (Nat.le_of_ble_eq_true rfl) ?_
      refine r_if_ne (tgt := 25) K dX9_keep_20 (by decide) (fun c16_ => ?_) (fun c16_ => ?_)
      · have hf := e_f hf c16_
        refine r_lv [0, 1, 2] rfl ?_
        exact sX9_keep_25 K Z p0 p1 p0 p1 h14_ hf
      · have hf := e_t hf c16_
        refine r_iconst (v := (-1)) K dX9_keep_23 rfl ?_
        exact r_iret K Z dX9_keep_24 hf
theorem conX9_keep {G : GG} (p0 : Int32) (p1 : Int32) (h : AH) (rv : Int32) (h' : AH) (hf : fX9_keep p0 p1 h = some (rv, h')) : Con G 1 yX9_keep cX9_keep 3 (some .int) [.ref 0, .int p0, .int p1] h (some (.int rv)) h' := con_of mwX9_keep (Nat.le_of_ble_eq_true rfl) (fun E K Z => sX9_keep K Z p0 p1 h hf)
def fX9_later (p0 : Int32) (p1 : Int32) (p2 : Int32) (h : AH) : Option (Int32 × AH) :=
  bind2 (fX9_isThought p0 h) fun r1_ h2_ => if r1_ = 0 then some ((-1), h2_) else bind2 (fX7_hasGuest 1 p1 h2_) fun r5_ h6_ => if r5_ = 0 then some ((-1), h6_) else if p2 < 0 then some ((-1), h6_) else if p2 ≤ 2 then bindV (fX6_startBehind p0 h6_) fun h12_ => if p2 = 0 then bind2 (fX3_readOf 19 p1 h12_) fun r20_ h21_ => some (r20_, h21_) else if p2 = 1 then if inb p1 9 = true then some ((h12_.1 20 (ix p1)), h12_) else none else bind2 (fX3_placeInOrder 19 p1 h12_) fun r16_ h17_ => some (r16_, h17_) else some ((-1), h6_)
set_option maxRecDepth 10000 in
theorem sX9_later {G : GG} {E : EE} {rv : Int32} {h' : AH} (K : OK G E 4 RX9 cX9_later 4) (Z : RT G E (some .int) (some (.int rv)) h') (p0 : Int32) (p1 : Int32) (p2 : Int32) (h : AH) (hf : fX9_later p0 p1 p2 h = some (rv, h')) : JJ G E 4 0 [(0, .ref 0), (1, .int p0), (2, .int p1), (3, .int p2)] [] h := by
  unfold fX9_later at hf
  refine r_iload_n K dX9_later_0 1 rfl rfl ?_
  obtain ⟨r1_, h2_, g3_, hf⟩ := e_2 hf
  refine r_callS (av := [.int p0]) (st := []) K lkX9_146 mwX9_isThought (conX9_isThought p0 h r1_ h2_ g3_) dX9_later_1 (Nat.le_of_ble_eq_true rfl) rfl rfl (Nat.le_of_ble_eq_true rfl) ?_
  refine r_if_eq (tgt := 27) K dX9_later_4 (by decide) (fun c4_ => ?_) (fun c4_ => ?_)
  · have hf := e_t hf c4_
    refine r_iconst (v := (-1)) K dX9_later_27 rfl ?_
    exact r_iret K Z dX9_later_28 hf
  · have hf := e_f hf c4_
    refine r_aload_n K dX9_later_7 0 rfl rfl ?_
    refine r_getR (o' := 1) K flX9_10 dX9_later_8 rfl rfl rfl ?_
    refine r_iload_n K dX9_later_11 2 rfl rfl ?_
    obtain ⟨r5_, h6_, g7_, hf⟩ := e_2 hf
    refine r_callV (av := [.int p1]) (st := []) K lkX9_114 mwX7_hasGuest (conX7_hasGuest 1 p1 rfl h2_ r5_ h6_ g7_) dX9_later_12 rfl (Nat.le_of_ble_eq_true rfl) rfl rfl (Nat.le_of_ble_eq_true rfl) ?_
    refine r_if_eq (tgt := 27) K dX9_later_15 (by decide) (fun c8_ => ?_) (fun c8_ => ?_)
    · have hf := e_t hf c8_
      refine r_iconst (v := (-1)) K dX9_later_27 rfl ?_
      exact r_iret K Z dX9_later_28 hf
    · have hf := e_f hf c8_
      refine r_iload_n K dX9_later_18 3 rfl rfl ?_
      refine r_if_lt (tgt := 27) K dX9_later_19 (by decide) (fun c9_ => ?_) (fun c9_ => ?_)
      · have hf := e_t hf c9_
        refine r_iconst (v := (-1)) K dX9_later_27 rfl ?_
        exact r_iret K Z dX9_later_28 hf
      · have hf := e_f hf c9_
        refine r_iload_n K dX9_later_22 3 rfl rfl ?_
        refine r_iconst (v := 2) K dX9_later_23 rfl ?_
        refine r_icmp_le (tgt := 29) K dX9_later_24 (by decide) (fun c10_ => ?_) (fun c10_ => ?_)
        · have hf := e_t hf c10_
          refine r_aload_n K dX9_later_29 0 rfl rfl ?_
          refine r_getR (o' := 18) K flX9_43 dX9_later_30 rfl rfl rfl ?_
          refine r_iload_n K dX9_later_33 1 rfl rfl ?_
          obtain ⟨h12_, g13_, hf⟩ := e_v hf
          refine r_callV (av := [.int p0]) (st := []) K lkX9_149 mwX6_startBehind (conX6_startBehind p0 h6_ h12_ g13_) dX9_later_34 rfl (Nat.le_of_ble_eq_true rfl) rfl rfl (Nat.le_of_ble_eq_true rfl) ?_
          refine r_iload_n K dX9_later_37 3 rfl rfl ?_
          refine r_if_ne (tgt := 57) K dX9_later_38 (by decide) (fun c14_ => ?_) (fun c14_ => ?_)
          · have hf := e_f hf c14_
            refine r_iload_n K dX9_later_57 3 rfl rfl ?_
            refine r_iconst (v := 1) K dX9_later_58 rfl ?_
            refine r_icmp_ne (tgt := 77) K dX9_later_59 (by decide) (fun c15_ => ?_) (fun c15_ => ?_)
            · have hf := e_f hf c15_
              refine r_aload_n K dX9_later_77 0 rfl rfl ?_
              refine r_getR (o' := 15) K flX9_34 dX9_later_78 rfl rfl rfl ?_
              refine r_aload_n K dX9_later_81 0 rfl rfl ?_
              refine r_getR (o' := 18) K flX9_43 dX9_later_82 rfl rfl rfl ?_
              refine r_getR (o' := 19) K flX9_153 dX9_later_85 rfl rfl rfl ?_
              refine r_iload_n K dX9_later_88 2 rfl rfl ?_
              obtain ⟨r16_, h17_, g18_, hf⟩ := e_2 hf
              refine r_callV (av := [.ref 19, .int p1]) (st := []) K lkX9_161 mwX3_placeInOrder (conX3_placeInOrder 19 p1 rfl h12_ r16_ h17_ g18_) dX9_later_89 rfl (Nat.le_of_ble_eq_true rfl) rfl rfl (Nat.le_of_ble_eq_true rfl) ?_
              exact r_iret K Z dX9_later_92 hf
            · have hf := e_t hf c15_
              refine r_aload_n K dX9_later_62 0 rfl rfl ?_
              refine r_getR (o' := 18) K flX9_43 dX9_later_63 rfl rfl rfl ?_
              refine r_getR (o' := 19) K flX9_153 dX9_later_66 rfl rfl rfl ?_
              refine r_getR (o' := 20) K flX9_158 dX9_later_69 rfl rfl rfl ?_
              refine r_iload_n K dX9_later_72 2 rfl rfl ?_
              obtain ⟨g19_, hf⟩ := e_g hf
              refine r_iald K dX9_later_73 rfl g19_ ?_
              refine r_goto (tgt := 92) K dX9_later_74 (by decide) ?_
              exact r_iret K Z dX9_later_92 hf
          · have hf := e_t hf c14_
            refine r_aload_n K dX9_later_41 0 rfl rfl ?_
            refine r_getR (o' := 15) K flX9_34 dX9_later_42 rfl rfl rfl ?_
            refine r_aload_n K dX9_later_45 0 rfl rfl ?_
            refine r_getR (o' := 18) K flX9_43 dX9_later_46 rfl rfl rfl ?_
            refine r_getR (o' := 19) K flX9_153 dX9_later_49 rfl rfl rfl ?_
            refine r_iload_n K dX9_later_52 2 rfl rfl ?_
            obtain ⟨r20_, h21_, g22_, hf⟩ := e_2 hf
            refine r_callV (av := [.ref 19, .int p1]) (st := []) K lkX9_154 mwX3_readOf (conX3_readOf 19 p1 rfl h12_ r20_ h21_ g22_) dX9_later_53 rfl (Nat.le_of_ble_eq_true rfl) rfl rfl (Nat.le_of_ble_eq_true rfl) ?_
            exact r_iret K Z dX9_later_56 hf
        · have hf := e_f hf c10_
          refine r_iconst (v := (-1)) K dX9_later_27 rfl ?_
          exact r_iret K Z dX9_later_28 hf
theorem conX9_later {G : GG} (p0 : Int32) (p1 : Int32) (p2 : Int32) (h : AH) (rv : Int32) (h' : AH) (hf : fX9_later p0 p1 p2 h = some (rv, h')) : Con G 4 yX9_later cX9_later 4 (some .int) [.ref 0, .int p0, .int p1, .int p2] h (some (.int rv)) h' := con_of mwX9_later (Nat.le_of_ble_eq_true rfl) (fun E K Z => sX9_later K Z p0 p1 p2 h hf)
def fX9_law (h : AH) : Option (Int32 × AH) :=
  bind2 (fX4_faultOf (h.1 0 2) h) fun r1_ h2_ => letV (wI h2_ 0 2 0) fun h4_ => if r1_ < 0 then bindV (fX3_become  h4_) fun h8_ => some (1, h8_) else some (((-100) - r1_), h4_)
set_option maxRecDepth 10000 in
theorem sX9_law {G : GG} {E : EE} {rv : Int32} {h' : AH} (K : OK G E 6 RX9 cX9_law 2) (Z : RT G E (some .int) (some (.int rv)) h') (h : AH) (hf : fX9_law h = some (rv, h')) : JJ G E 2 0 [(0, .ref 0)] [] h := by
  unfold fX9_law at hf
  refine r_aload_n K dX9_law_0 0 rfl rfl ?_
  refine r_getR (o' := 12) K flX9_27 dX9_law_1 rfl rfl rfl ?_
  refine r_aload_n K dX9_law_4 0 rfl rfl ?_
  refine r_getR (o' := 11) K flX9_16 dX9_law_5 rfl rfl rfl ?_
  refine r_aload_n K dX9_law_8 0 rfl rfl ?_
  refine r_getI K flX9_20 dX9_law_9 rfl rfl ?_
  obtain ⟨r1_, h2_, g3_, hf⟩ := e_2 hf
  refine r_callV (av := [.ref 11, .int (h.1 0 2)]) (st := []) K lkX9_138 mwX4_faultOf (conX4_faultOf (h.1 0 2) h r1_ h2_ g3_) dX9_law_12 rfl (Nat.le_of_ble_eq_true rfl) rfl rfl (Nat.le_of_ble_eq_true rfl) ?_
  refine r_istore_n (lv' := [(1, .int r1_), (0, .ref 0)]) K dX9_law_15 rfl (Nat.le_of_ble_eq_true rfl) rfl ?_
  refine r_aload_n K dX9_law_16 1 rfl rfl ?_
  refine r_iconst (v := 0) K dX9_law_17 rfl ?_
  obtain ⟨h4_, e5_, hf⟩ := e_l hf
  refine r_putI K fpX9_20 dX9_law_18 rfl rfl e5_ ?_
  refine r_iload_n K dX9_law_21 0 rfl rfl ?_
  refine r_if_lt (tgt := 30) K dX9_law_22 (by decide) (fun c6_ => ?_) (fun c6_ => ?_)
  · have hf := e_t hf c6_
    refine r_aload_n K dX9_law_30 1 rfl rfl ?_
    refine r_getR (o' := 15) K flX9_34 dX9_law_31 rfl rfl rfl ?_
    refine r_aload_n K dX9_law_34 1 rfl rfl ?_
    refine r_getR (o' := 12) K flX9_27 dX9_law_35 rfl rfl rfl ?_
    obtain ⟨h8_, g9_, hf⟩ := e_v hf
    refine r_callV (av := [.ref 12]) (st := []) K lkX9_142 mwX3_become (conX3_become  h4_ h8_ g9_) dX9_law_38 rfl (Nat.le_of_ble_eq_true rfl) rfl rfl (Nat.le_of_ble_eq_true rfl) ?_
    refine r_iconst (v := 1) K dX9_law_41 rfl ?_
    exact r_iret K Z dX9_law_42 hf
  · have hf := e_f hf c6_
    refine r_bipush (v := (-100)) K dX9_law_25 rfl ?_
    refine r_iload_n K dX9_law_27 0 rfl rfl ?_
    refine r_isub K dX9_law_28 ?_
    exact r_iret K Z dX9_law_29 hf
theorem conX9_law {G : GG} (h : AH) (rv : Int32) (h' : AH) (hf : fX9_law h = some (rv, h')) : Con G 6 yX9_law cX9_law 2 (some .int) [.ref 0] h (some (.int rv)) h' := con_of mwX9_law (Nat.le_of_ble_eq_true rfl) (fun E K Z => sX9_law K Z h hf)
def fX9_led (p0 : Int32) (h : AH) : Option (Int32 × AH) :=
  if p0 < 0 then some ((-1), h) else if 5 ≤ p0 then some ((-1), h) else if inb p0 5 = true then some ((h.1 32 (ix p0)), h) else none
set_option maxRecDepth 10000 in
theorem sX9_led {G : GG} {E : EE} {rv : Int32} {h' : AH} (K : OK G E 0 RX9 cX9_led 2) (Z : RT G E (some .int) (some (.int rv)) h') (p0 : Int32) (h : AH) (hf : fX9_led p0 h = some (rv, h')) : JJ G E 2 0 [(0, .ref 0), (1, .int p0)] [] h := by
  unfold fX9_led at hf
  refine r_iload_n K dX9_led_0 1 rfl rfl ?_
  refine r_if_lt (tgt := 18) K dX9_led_1 (by decide) (fun c1_ => ?_) (fun c1_ => ?_)
  · have hf := e_t hf c1_
    refine r_iconst (v := (-1)) K dX9_led_18 rfl ?_
    exact r_iret K Z dX9_led_19 hf
  · have hf := e_f hf c1_
    refine r_iload_n K dX9_led_4 1 rfl rfl ?_
    refine r_iconst (v := 5) K dX9_led_5 rfl ?_
    refine r_icmp_ge (tgt := 18) K dX9_led_6 (by decide) (fun c2_ => ?_) (fun c2_ => ?_)
    · have hf := e_t hf c2_
      refine r_iconst (v := (-1)) K dX9_led_18 rfl ?_
      exact r_iret K Z dX9_led_19 hf
    · have hf := e_f hf c2_
      refine r_aload_n K dX9_led_9 0 rfl rfl ?_
      refine r_getR (o' := 32) K flX9_56 dX9_led_10 rfl rfl rfl ?_
      refine r_iload_n K dX9_led_13 1 rfl rfl ?_
      obtain ⟨g3_, hf⟩ := e_g hf
      refine r_iald K dX9_led_14 rfl g3_ ?_
      refine r_goto (tgt := 19) K dX9_led_15 (by decide) ?_
      exact r_iret K Z dX9_led_19 hf
theorem conX9_led {G : GG} (p0 : Int32) (h : AH) (rv : Int32) (h' : AH) (hf : fX9_led p0 h = some (rv, h')) : Con G 0 yX9_led cX9_led 2 (some .int) [.ref 0, .int p0] h (some (.int rv)) h' := con_of mwX9_led (Nat.le_of_ble_eq_true rfl) (fun E K Z => sX9_led K Z p0 h hf)
def fX9_looks (p0 : Int32) (p1 : Int32) (h : AH) : Option (Int32 × AH) :=
  bind2 (fX7_hasGuest 1 p0 h) fun r1_ h2_ => if r1_ = 0 then some ((-1), h2_) else bind2 (fX9_isWithin p1 2 h2_) fun r5_ h6_ => if r5_ = 0 then some ((-1), h6_) else bind2 (fX7_isLeft 1 p0 h6_) fun r9_ h10_ => if r9_ = 0 then some ((-5), h10_) else letV (wI h10_ 32 (ix 3) ((h10_.1 32 (ix 3)) + 1)) fun h15_ => if inb p0 9 = true then letV ((h15_.1 4 (ix p0))) fun x18_ => letV (wI h15_ 4 (ix p0) p1) fun h21_ => some (x18_, h21_) else none
set_option maxRecDepth 10000 in
theorem sX9_looks {G : GG} {E : EE} {rv : Int32} {h' : AH} (K : OK G E 2 RX9 cX9_looks 4) (Z : RT G E (some .int) (some (.int rv)) h') (p0 : Int32) (p1 : Int32) (h : AH) (hf : fX9_looks p0 p1 h = some (rv, h')) : JJ G E 4 0 [(0, .ref 0), (1, .int p0), (2, .int p1)] [] h := by
  unfold fX9_looks at hf
  refine r_aload_n K dX9_looks_0 0 rfl rfl ?_
  refine r_getR (o' := 1) K flX9_10 dX9_looks_1 rfl rfl rfl ?_
  refine r_iload_n K dX9_looks_4 1 rfl rfl ?_
  obtain ⟨r1_, h2_, g3_, hf⟩ := e_2 hf
  refine r_callV (av := [.int p0]) (st := []) K lkX9_114 mwX7_hasGuest (conX7_hasGuest 1 p0 rfl h r1_ h2_ g3_) dX9_looks_5 rfl (Nat.le_of_ble_eq_true rfl) rfl rfl (Nat.le_of_ble_eq_true rfl) ?_
  refine r_if_eq (tgt := 19) K dX9_looks_8 (by decide) (fun c4_ => ?_) (fun c4_ => ?_)
  · have hf := e_t hf c4_
    refine r_iconst (v := (-1)) K dX9_looks_19 rfl ?_
    exact r_iret K Z dX9_looks_20 hf
  · have hf := e_f hf c4_
    refine r_iload_n K dX9_looks_11 2 rfl rfl ?_
    refine r_iconst (v := 2) K dX9_looks_12 rfl ?_
    obtain ⟨r5_, h6_, g7_, hf⟩ := e_2 hf
    refine r_callS (av := [.int p1, .int 2]) (st := []) K lkX9_87 mwX9_isWithin (conX9_isWithin p1 2 h2_ r5_ h6_ g7_) dX9_looks_13 (Nat.le_of_ble_eq_true rfl) rfl rfl (Nat.le_of_ble_eq_true rfl) ?_
    refine r_if_ne (tgt := 21) K dX9_looks_16 (by decide) (fun c8_ => ?_) (fun c8_ => ?_)
    · have hf := e_f hf c8_
      refine r_aload_n K dX9_looks_21 0 rfl rfl ?_
      refine r_getR (o' := 1) K flX9_10 dX9_looks_22 rfl rfl rfl ?_
      refine r_iload_n K dX9_looks_25 1 rfl rfl ?_
      obtain ⟨r9_, h10_, g11_, hf⟩ := e_2 hf
      refine r_callV (av := [.int p0]) (st := []) K lkX9_182 mwX7_isLeft (conX7_isLeft 1 p0 rfl h6_ r9_ h10_ g11_) dX9_looks_26 rfl (Nat.le_of_ble_eq_true rfl) rfl rfl (Nat.le_of_ble_eq_true rfl) ?_
      refine r_if_ne (tgt := 35) K dX9_looks_29 (by decide) (fun c12_ => ?_) (fun c12_ => ?_)
      · have hf := e_f hf c12_
        refine r_aload_n K dX9_looks_35 0 rfl rfl ?_
        refine r_getR (o' := 32) K flX9_56 dX9_looks_36 rfl rfl rfl ?_
        refine r_iconst (v := 3) K dX9_looks_39 rfl ?_
        refine r_dup2 K dX9_looks_40 rfl rfl ?_
        refine r_iald K dX9_looks_41 rfl (by decide +kernel) ?_
        refine r_iconst (v := 1) K dX9_looks_42 rfl ?_
        refine r_iadd K dX9_looks_43 ?_
        obtain ⟨h15_, e16_, hf⟩ := e_l hf
        refine r_iast K dX9_looks_44 rfl (by decide +kernel) e16_ ?_
        refine r_aload_n K dX9_looks_45 0 rfl rfl ?_
        refine r_getR (o' := 1) K flX9_10 dX9_looks_46 rfl rfl rfl ?_
        refine r_getR (o' := 4) K flX9_193 dX9_looks_49 rfl rfl rfl ?_
        refine r_iload_n K dX9_looks_52 1 rfl rfl ?_
        obtain ⟨g17_, hf⟩ := e_g hf
        refine r_iald K dX9_looks_53 rfl g17_ ?_
        obtain ⟨x18_, e19_, hf⟩ := e_l hf
        refine r_nmI e19_ ?_
        refine r_istore_n (lv' := [(3, .int x18_), (0, .ref 0), (1, .int p0), (2, .int p1)]) K dX9_looks_54 rfl (Nat.le_of_ble_eq_true rfl) rfl ?_
        refine r_aload_n K dX9_looks_55 1 rfl rfl ?_
        refine r_getR (o' := 1) K flX9_10 dX9_looks_56 rfl rfl rfl ?_
        refine r_getR (o' := 4) K flX9_193 dX9_looks_59 rfl rfl rfl ?_
        refine r_iload_n K dX9_looks_62 2 rfl rfl ?_
        refine r_iload_n K dX9_looks_63 3 rfl rfl ?_
        obtain ⟨h21_, e22_, hf⟩ := e_l hf
        refine r_iast K dX9_looks_64 rfl g17_ e22_ ?_
        refine r_iload_n K dX9_looks_65 0 rfl rfl ?_
        exact r_iret K Z dX9_looks_66 hf
      · have hf := e_t hf c12_
        refine r_bipush (v := (-5)) K dX9_looks_32 rfl ?_
        exact r_iret K Z dX9_looks_34 hf
    · have hf := e_t hf c8_
      refine r_iconst (v := (-1)) K dX9_looks_19 rfl ?_
      exact r_iret K Z dX9_looks_20 hf
theorem conX9_looks {G : GG} (p0 : Int32) (p1 : Int32) (h : AH) (rv : Int32) (h' : AH) (hf : fX9_looks p0 p1 h = some (rv, h')) : Con G 2 yX9_looks cX9_looks 4 (some .int) [.ref 0, .int p0, .int p1] h (some (.int rv)) h' := con_of mwX9_looks (Nat.le_of_ble_eq_true rfl) (fun E K Z => sX9_looks K Z p0 p1 h hf)
def fX9_mend (p0 : Int32) (p1 : Int32) (p2 : Int32) (h : AH) : Option (Int32 × AH) :=
  if 8 < p1 then some ((-1), h) else bind2 (fX7_hasNumber 1 p0 p1 h) fun r2_ h3_ => if r2_ = 0 then some ((-1), h3_) else bind2 (fX9_isWithin p2 p1 h3_) fun r6_ h7_ => if r6_ = 0 then some ((-1), h7_) else bind2 (fX7_numberOf 1 p0 p1 h7_) fun r10_ h11_ => if r10_ = p2 then some (r10_, h11_) else bindV (fX7_setNumber 1 p0 p1 p2 h11_) fun h15_ => bindV (fX0_add p0 p1 r10_ p2 h15_) fun h18_ => some (r10_, h18_)
set_option maxRecDepth 10000 in
theorem sX9_mend {G : GG} {E : EE} {rv : Int32} {h' : AH} (K : OK G E 3 RX9 cX9_mend 5) (Z : RT G E (some .int) (some (.int rv)) h') (p0 : Int32) (p1 : Int32) (p2 : Int32) (h : AH) (hf : fX9_mend p0 p1 p2 h = some (rv, h')) : JJ G E 5 0 [(0, .ref 0), (1, .int p0), (2, .int p1), (3, .int p2)] [] h := by
  unfold fX9_mend at hf
  refine r_iload_n K dX9_mend_0 2 rfl rfl ?_
  refine r_bipush (v := 8) K dX9_mend_1 rfl ?_
  refine r_icmp_gt (tgt := 26) K dX9_mend_3 (by decide) (fun c1_ => ?_) (fun c1_ => ?_)
  · have hf := e_t hf c1_
    refine r_iconst (v := (-1)) K dX9_mend_26 rfl ?_
    exact r_iret K Z dX9_mend_27 hf
  · have hf := e_f hf c1_
    refine r_aload_n K dX9_mend_6 0 rfl rfl ?_
    refine r_getR (o' := 1) K flX9_10 dX9_mend_7 rfl rfl rfl ?_
    refine r_iload_n K dX9_mend_10 1 rfl rfl ?_
    refine r_iload_n K dX9_mend_11 2 rfl rfl ?_
    obtain ⟨r2_, h3_, g4_, hf⟩ := e_2 hf
    refine r_callV (av := [.int p0, .int p1]) (st := []) K lkX9_124 mwX7_hasNumber (conX7_hasNumber 1 p0 p1 rfl h r2_ h3_ g4_) dX9_mend_12 rfl (Nat.le_of_ble_eq_true rfl) rfl rfl (Nat.le_of_ble_eq_true rfl) ?_
    refine r_if_eq (tgt := 26) K dX9_mend_15 (by decide) (fun c5_ => ?_) (fun c5_ => ?_)
    · have hf := e_t hf c5_
      refine r_iconst (v := (-1)) K dX9_mend_26 rfl ?_
      exact r_iret K Z dX9_mend_27 hf
    · have hf := e_f hf c5_
      refine r_iload_n K dX9_mend_18 3 rfl rfl ?_
      refine r_iload_n K dX9_mend_19 2 rfl rfl ?_
      obtain ⟨r6_, h7_, g8_, hf⟩ := e_2 hf
      refine r_callS (av := [.int p2, .int p1]) (st := []) K lkX9_87 mwX9_isWithin (conX9_isWithin p2 p1 h3_ r6_ h7_ g8_) dX9_mend_20 (Nat.le_of_ble_eq_true rfl) rfl rfl (Nat.le_of_ble_eq_true rfl) ?_
      refine r_if_ne (tgt := 28) K dX9_mend_23 (by decide) (fun c9_ => ?_) (fun c9_ => ?_)
      · have hf := e_f hf c9_
        refine r_aload_n K dX9_mend_28 0 rfl rfl ?_
        refine r_getR (o' := 1) K flX9_10 dX9_mend_29 rfl rfl rfl ?_
        refine r_iload_n K dX9_mend_32 1 rfl rfl ?_
        refine r_iload_n K dX9_mend_33 2 rfl rfl ?_
        obtain ⟨r10_, h11_, g12_, hf⟩ := e_2 hf
        refine r_callV (av := [.int p0, .int p1]) (st := []) K lkX9_127 mwX7_numberOf (conX7_numberOf 1 p0 p1 rfl h7_ r10_ h11_ g12_) dX9_mend_34 rfl (Nat.le_of_ble_eq_true rfl) rfl rfl (Nat.le_of_ble_eq_true rfl) ?_
        refine r_istore (lv' := [(4, .int r10_), (0, .ref 0), (1, .int p0), (2, .int p1), (3, .int p2)]) K dX9_mend_37 (Nat.le_of_ble_eq_true rfl) rfl ?_
        refine r_iload K dX9_mend_39 0 rfl ?_
        refine r_iload_n K dX9_mend_41 4 rfl rfl ?_
        refine r_icmp_eq (tgt := 67) K dX9_mend_42 (by decide) (fun c13_ => ?_) (fun c13_ => ?_)
        · have hf := e_t hf c13_
          refine r_iload K dX9_mend_67 0 rfl ?_
          exact r_iret K Z dX9_mend_69 hf
        · have hf := e_f hf c13_
          refine r_aload_n K dX9_mend_45 1 rfl rfl ?_
          refine r_getR (o' := 1) K flX9_10 dX9_mend_46 rfl rfl rfl ?_
          refine r_iload_n K dX9_mend_49 2 rfl rfl ?_
          refine r_iload_n K dX9_mend_50 3 rfl rfl ?_
          refine r_iload_n K dX9_mend_51 4 rfl rfl ?_
          obtain ⟨h15_, g16_, hf⟩ := e_v hf
          refine r_callV (av := [.int p0, .int p1, .int p2]) (st := []) K lkX9_130 mwX7_setNumber (conX7_setNumber 1 p0 p1 p2 rfl h11_ h15_ g16_) dX9_mend_52 rfl (Nat.le_of_ble_eq_true rfl) rfl rfl (Nat.le_of_ble_eq_true rfl) ?_
          refine r_aload_n K dX9_mend_55 1 rfl rfl ?_
          refine r_getR (o' := 38) K flX9_69 dX9_mend_56 rfl rfl rfl ?_
          refine r_iload_n K dX9_mend_59 2 rfl rfl ?_
          refine r_iload_n K dX9_mend_60 3 rfl rfl ?_
          refine r_iload K dX9_mend_61 0 rfl ?_
          refine r_iload_n K dX9_mend_63 4 rfl rfl ?_
          obtain ⟨h18_, g19_, hf⟩ := e_v hf
          refine r_callV (av := [.int p0, .int p1, .int r10_, .int p2]) (st := []) K lkX9_134 mwX0_add (conX0_add p0 p1 r10_ p2 h15_ h18_ g19_) dX9_mend_64 rfl (Nat.le_of_ble_eq_true rfl) rfl rfl (Nat.le_of_ble_eq_true rfl) ?_
          refine r_iload K dX9_mend_67 0 rfl ?_
          exact r_iret K Z dX9_mend_69 hf
      · have hf := e_t hf c9_
        refine r_iconst (v := (-1)) K dX9_mend_26 rfl ?_
        exact r_iret K Z dX9_mend_27 hf
theorem conX9_mend {G : GG} (p0 : Int32) (p1 : Int32) (p2 : Int32) (h : AH) (rv : Int32) (h' : AH) (hf : fX9_mend p0 p1 p2 h = some (rv, h')) : Con G 3 yX9_mend cX9_mend 5 (some .int) [.ref 0, .int p0, .int p1, .int p2] h (some (.int rv)) h' := con_of mwX9_mend (Nat.le_of_ble_eq_true rfl) (fun E K Z => sX9_mend K Z p0 p1 p2 h hf)
def fX9_minute (h : AH) : Option (Int32 × AH) :=
  letV (wI h 32 (ix 1) ((h.1 32 (ix 1)) + 1)) fun h3_ => bindV (fX7_passMinute 1 h3_) fun h6_ => some ((h6_.1 1 11), h6_)
set_option maxRecDepth 10000 in
theorem sX9_minute {G : GG} {E : EE} {rv : Int32} {h' : AH} (K : OK G E 3 RX9 cX9_minute 1) (Z : RT G E (some .int) (some (.int rv)) h') (h : AH) (hf : fX9_minute h = some (rv, h')) : JJ G E 1 0 [(0, .ref 0)] [] h := by
  unfold fX9_minute at hf
  refine r_aload_n K dX9_minute_0 0 rfl rfl ?_
  refine r_getR (o' := 32) K flX9_56 dX9_minute_1 rfl rfl rfl ?_
  refine r_iconst (v := 1) K dX9_minute_4 rfl ?_
  refine r_dup2 K dX9_minute_5 rfl rfl ?_
  refine r_iald K dX9_minute_6 rfl (by decide +kernel) ?_
  refine r_iconst (v := 1) K dX9_minute_7 rfl ?_
  refine r_iadd K dX9_minute_8 ?_
  obtain ⟨h3_, e4_, hf⟩ := e_l hf
  refine r_iast K dX9_minute_9 rfl (by decide +kernel) e4_ ?_
  refine r_aload_n K dX9_minute_10 0 rfl rfl ?_
  refine r_getR (o' := 1) K flX9_10 dX9_minute_11 rfl rfl rfl ?_
  obtain ⟨h6_, g7_, hf⟩ := e_v hf
  refine r_callV (av := []) (st := []) K lkX9_170 mwX7_passMinute (conX7_passMinute 1 rfl h3_ h6_ g7_) dX9_minute_14 rfl (Nat.le_of_ble_eq_true rfl) rfl rfl (Nat.le_of_ble_eq_true rfl) ?_
  refine r_aload_n K dX9_minute_17 0 rfl rfl ?_
  refine r_getR (o' := 1) K flX9_10 dX9_minute_18 rfl rfl rfl ?_
  refine r_getI K flX9_245 dX9_minute_21 rfl rfl ?_
  exact r_iret K Z dX9_minute_24 hf
theorem conX9_minute {G : GG} (h : AH) (rv : Int32) (h' : AH) (hf : fX9_minute h = some (rv, h')) : Con G 3 yX9_minute cX9_minute 1 (some .int) [.ref 0] h (some (.int rv)) h' := con_of mwX9_minute (Nat.le_of_ble_eq_true rfl) (fun E K Z => sX9_minute K Z h hf)
def fX9_of (p0 : Int32) (p1 : Int32) (h : AH) : Option (Int32 × AH) :=
  bind2 (fX7_hasNumber 1 p0 p1 h) fun r1_ h2_ => if r1_ = 0 then some ((-1), h2_) else bind2 (fX7_numberOf 1 p0 p1 h2_) fun r5_ h6_ => some (r5_, h6_)
set_option maxRecDepth 10000 in
theorem sX9_of {G : GG} {E : EE} {rv : Int32} {h' : AH} (K : OK G E 3 RX9 cX9_of 3) (Z : RT G E (some .int) (some (.int rv)) h') (p0 : Int32) (p1 : Int32) (h : AH) (hf : fX9_of p0 p1 h = some (rv, h')) : JJ G E 3 0 [(0, .ref 0), (1, .int p0), (2, .int p1)] [] h := by
  unfold fX9_of at hf
  refine r_aload_n K dX9_of_0 0 rfl rfl ?_
  refine r_getR (o' := 1) K flX9_10 dX9_of_1 rfl rfl rfl ?_
  refine r_iload_n K dX9_of_4 1 rfl rfl ?_
  refine r_iload_n K dX9_of_5 2 rfl rfl ?_
  obtain ⟨r1_, h2_, g3_, hf⟩ := e_2 hf
  refine r_callV (av := [.int p0, .int p1]) (st := []) K lkX9_124 mwX7_hasNumber (conX7_hasNumber 1 p0 p1 rfl h r1_ h2_ g3_) dX9_of_6 rfl (Nat.le_of_ble_eq_true rfl) rfl rfl (Nat.le_of_ble_eq_true rfl) ?_
  refine r_if_eq (tgt := 24) K dX9_of_9 (by decide) (fun c4_ => ?_) (fun c4_ => ?_)
  · have hf := e_t hf c4_
    refine r_iconst (v := (-1)) K dX9_of_24 rfl ?_
    exact r_iret K Z dX9_of_25 hf
  · have hf := e_f hf c4_
    refine r_aload_n K dX9_of_12 0 rfl rfl ?_
    refine r_getR (o' := 1) K flX9_10 dX9_of_13 rfl rfl rfl ?_
    refine r_iload_n K dX9_of_16 1 rfl rfl ?_
    refine r_iload_n K dX9_of_17 2 rfl rfl ?_
    obtain ⟨r5_, h6_, g7_, hf⟩ := e_2 hf
    refine r_callV (av := [.int p0, .int p1]) (st := []) K lkX9_127 mwX7_numberOf (conX7_numberOf 1 p0 p1 rfl h2_ r5_ h6_ g7_) dX9_of_18 rfl (Nat.le_of_ble_eq_true rfl) rfl rfl (Nat.le_of_ble_eq_true rfl) ?_
    refine r_goto (tgt := 25) K dX9_of_21 (by decide) ?_
    exact r_iret K Z dX9_of_25 hf
theorem conX9_of {G : GG} (p0 : Int32) (p1 : Int32) (h : AH) (rv : Int32) (h' : AH) (hf : fX9_of p0 p1 h = some (rv, h')) : Con G 3 yX9_of cX9_of 3 (some .int) [.ref 0, .int p0, .int p1] h (some (.int rv)) h' := con_of mwX9_of (Nat.le_of_ble_eq_true rfl) (fun E K Z => sX9_of K Z p0 p1 h hf)
def fX9_pairs_23_b (p0 : Int32) (Q23 : Int32 → Int32 → Int32 → Int32 → AH → Option (Int32 × AH)) (x1 : Int32) (x2 : Int32) (x3 : Int32) (x4 : Int32) (h : AH) : Option (Int32 × AH) :=
  if x4 < (ST 200 (ix 4)) then if x1 = 0 then some (x2, h) else if x1 = 1 then bind2 (fX7_howManyLeft 1 h) fun r10_ h11_ => some ((r10_ - (2 * x2)), h11_) else some (x3, h) else bind2 (fX7_howManyGloves 1 0 x4 h) fun r13_ h14_ => bind2 (fX7_howManyGloves 1 1 x4 h14_) fun r16_ h17_ => letV ((x2 + (jmin r13_ r16_))) fun x19_ => if r13_ = r16_ then Q23 x1 x19_ x3 (x4 + (-1)) h17_ else Q23 x1 x19_ x4 (x4 + (-1)) h17_
def fX9_pairs_23 (p0 : Int32) : Nat → Int32 → Int32 → Int32 → Int32 → AH → Option (Int32 × AH)
  | 0 => fun _ _ _ _ _ => none
  | n + 1 => fX9_pairs_23_b p0 (fX9_pairs_23 p0 n)
set_option maxRecDepth 10000 in
theorem sX9_pairs_23_b {G : GG} {E : EE} {rv : Int32} {h' : AH} (K : OK G E 1 RX9 cX9_pairs 7) (Z : RT G E (some .int) (some (.int rv)) h') (p0 : Int32) (Q23 : Int32 → Int32 → Int32 → Int32 → AH → Option (Int32 × AH)) (hQ23 : ∀ (x1 : Int32) (x2 : Int32) (x3 : Int32) (x4 : Int32) (h : AH), Q23 x1 x2 x3 x4 h = some (rv, h') → JJ G E 7 23 [(0, .ref 0), (1, .int x1), (2, .int x2), (3, .int x3), (4, .int x4)] [] h) (x1 : Int32) (x2 : Int32) (x3 : Int32) (x4 : Int32) (h : AH) (hf : fX9_pairs_23_b p0 Q23 x1 x2 x3 x4 h = some (rv, h')) : JJ G E 7 23 [(0, .ref 0), (1, .int x1), (2, .int x2), (3, .int x3), (4, .int x4)] [] h := by
  unfold fX9_pairs_23_b at hf
  refine r_iload K dX9_pairs_23 4 rfl ?_
  refine r_gets K gsX9_206 dX9_pairs_25 ?_
  refine r_iconst (v := 4) K dX9_pairs_28 rfl ?_
  refine r_sald K dX9_pairs_29 sl200 (by decide +kernel) ?_
  refine r_icmp_lt (tgt := 83) K dX9_pairs_30 (by decide) (fun c7_ => ?_) (fun c7_ => ?_)
  · have hf := e_t hf c7_
    refine r_iload_n K dX9_pairs_83 1 rfl rfl ?_
    refine r_if_ne (tgt := 89) K dX9_pairs_84 (by decide) (fun c8_ => ?_) (fun c8_ => ?_)
    · have hf := e_f hf c8_
      refine r_iload_n K dX9_pairs_89 1 rfl rfl ?_
      refine r_iconst (v := 1) K dX9_pairs_90 rfl ?_
      refine r_icmp_ne (tgt := 108) K dX9_pairs_91 (by decide) (fun c9_ => ?_) (fun c9_ => ?_)
      · have hf := e_f hf c9_
        refine r_iload_n K dX9_pairs_108 3 rfl rfl ?_
        exact r_iret K Z dX9_pairs_109 hf
      · have hf := e_t hf c9_
        refine r_aload_n K dX9_pairs_94 0 rfl rfl ?_
        refine r_getR (o' := 1) K flX9_10 dX9_pairs_95 rfl rfl rfl ?_
        obtain ⟨r10_, h11_, g12_, hf⟩ := e_2 hf
        refine r_callV (av := []) (st := []) K lkX9_189 mwX7_howManyLeft (conX7_howManyLeft 1 rfl h r10_ h11_ g12_) dX9_pairs_98 rfl (Nat.le_of_ble_eq_true rfl) rfl rfl (Nat.le_of_ble_eq_true rfl) ?_
        refine r_iconst (v := 2) K dX9_pairs_101 rfl ?_
        refine r_iload_n K dX9_pairs_102 2 rfl rfl ?_
        refine r_imul K dX9_pairs_103 ?_
        refine r_isub K dX9_pairs_104 ?_
        refine r_goto (tgt := 109) K dX9_pairs_105 (by decide) ?_
        exact r_iret K Z dX9_pairs_109 hf
    · have hf := e_t hf c8_
      refine r_iload_n K dX9_pairs_87 2 rfl rfl ?_
      exact r_iret K Z dX9_pairs_88 hf
  · have hf := e_f hf c7_
    refine r_aload_n K dX9_pairs_33 0 rfl rfl ?_
    refine r_getR (o' := 1) K flX9_10 dX9_pairs_34 rfl rfl rfl ?_
    refine r_iconst (v := 0) K dX9_pairs_37 rfl ?_
    refine r_iload K dX9_pairs_38 4 rfl ?_
    obtain ⟨r13_, h14_, g15_, hf⟩ := e_2 hf
    refine r_callV (av := [.int 0, .int x4]) (st := []) K lkX9_209 mwX7_howManyGloves (conX7_howManyGloves 1 0 x4 rfl h r13_ h14_ g15_) dX9_pairs_40 rfl (Nat.le_of_ble_eq_true rfl) rfl rfl (Nat.le_of_ble_eq_true rfl) ?_
    refine r_istore (lv' := [(5, .int r13_), (0, .ref 0), (1, .int x1), (2, .int x2), (3, .int x3), (4, .int x4)]) K dX9_pairs_43 (Nat.le_of_ble_eq_true rfl) rfl ?_
    refine r_aload_n K dX9_pairs_45 1 rfl rfl ?_
    refine r_getR (o' := 1) K flX9_10 dX9_pairs_46 rfl rfl rfl ?_
    refine r_iconst (v := 1) K dX9_pairs_49 rfl ?_
    refine r_iload K dX9_pairs_50 5 rfl ?_
    obtain ⟨r16_, h17_, g18_, hf⟩ := e_2 hf
    refine r_callV (av := [.int 1, .int x4]) (st := []) K lkX9_209 mwX7_howManyGloves (conX7_howManyGloves 1 1 x4 rfl h14_ r16_ h17_ g18_) dX9_pairs_52 rfl (Nat.le_of_ble_eq_true rfl) rfl rfl (Nat.le_of_ble_eq_true rfl) ?_
    refine r_istore (lv' := [(6, .int r16_), (5, .int r13_), (0, .ref 0), (1, .int x1), (2, .int x2), (3, .int x3), (4, .int x4)]) K dX9_pairs_55 (Nat.le_of_ble_eq_true rfl) rfl ?_
    refine r_iload_n K dX9_pairs_57 4 rfl rfl ?_
    refine r_iload K dX9_pairs_58 1 rfl ?_
    refine r_iload K dX9_pairs_60 0 rfl ?_
    refine r_mmin K lmX9_212 dX9_pairs_62 (Nat.le_of_ble_eq_true rfl) (Nat.le_of_ble_eq_true rfl) ?_
    refine r_iadd K dX9_pairs_65 ?_
    obtain ⟨x19_, e20_, hf⟩ := e_l hf
    refine r_nmI e20_ ?_
    refine r_istore_n (lv' := [(2, .int x19_), (6, .int r16_), (5, .int r13_), (0, .ref 0), (1, .int x1), (3, .int x3), (4, .int x4)]) K dX9_pairs_66 rfl (Nat.le_of_ble_eq_true rfl) rfl ?_
    refine r_iload K dX9_pairs_67 2 rfl ?_
    refine r_iload K dX9_pairs_69 1 rfl ?_
    refine r_icmp_eq (tgt := 77) K dX9_pairs_71 (by decide) (fun c21_ => ?_) (fun c21_ => ?_)
    · have hf := e_t hf c21_
      refine r_iinc (y := (-1)) (lv' := [(4, .int (x4 + (-1))), (2, .int x19_), (6, .int r16_), (5, .int r13_), (0, .ref 0), (1, .int x1), (3, .int x3)]) K dX9_pairs_77 6 rfl rfl (Nat.le_of_ble_eq_true rfl) rfl ?_
      refine r_goto (tgt := 23) K dX9_pairs_80 (by decide) ?_
      refine r_lv [4, 5, 1, 6, 0] rfl ?_
      exact hQ23 x1 x19_ x3 (x4 + (-1)) h17_ hf
    · have hf := e_f hf c21_
      refine r_iload K dX9_pairs_74 6 rfl ?_
      refine r_istore_n (lv' := [(3, .int x4), (2, .int x19_), (6, .int r16_), (5, .int r13_), (0, .ref 0), (1, .int x1), (4, .int x4)]) K dX9_pairs_76 rfl (Nat.le_of_ble_eq_true rfl) rfl ?_
      refine r_iinc (y := (-1)) (lv' := [(4, .int (x4 + (-1))), (3, .int x4), (2, .int x19_), (6, .int r16_), (5, .int r13_), (0, .ref 0), (1, .int x1)]) K dX9_pairs_77 6 rfl rfl (Nat.le_of_ble_eq_true rfl) rfl ?_
      refine r_goto (tgt := 23) K dX9_pairs_80 (by decide) ?_
      refine r_lv [5, 6, 2, 1, 0] rfl ?_
      exact hQ23 x1 x19_ x4 (x4 + (-1)) h17_ hf
theorem sX9_pairs_23 {G : GG} {E : EE} {rv : Int32} {h' : AH} (K : OK G E 1 RX9 cX9_pairs 7) (Z : RT G E (some .int) (some (.int rv)) h') (p0 : Int32) : ∀ (n : Nat) (x1 : Int32) (x2 : Int32) (x3 : Int32) (x4 : Int32) (h : AH), fX9_pairs_23 p0 n x1 x2 x3 x4 h = some (rv, h') → JJ G E 7 23 [(0, .ref 0), (1, .int x1), (2, .int x2), (3, .int x3), (4, .int x4)] [] h := by
  intro n
  induction n with
  | zero => intro x1 x2 x3 x4 h hf; cases hf
  | succ n ih => intro x1 x2 x3 x4 h hf; exact sX9_pairs_23_b K Z p0 _ (fun x1 x2 x3 x4 h hf => ih x1 x2 x3 x4 h hf) x1 x2 x3 x4 h hf
def fX9_pairs (p0 : Int32) (h : AH) : Option (Int32 × AH) :=
  if p0 < 0 then some ((-1), h) else if p0 ≤ 2 then letV ((ST 201 (ix 4))) fun x4_ => fX9_pairs_23 p0 FU p0 0 (-2) x4_ h else some ((-1), h)
set_option maxRecDepth 10000 in
theorem sX9_pairs {G : GG} {E : EE} {rv : Int32} {h' : AH} (K : OK G E 1 RX9 cX9_pairs 7) (Z : RT G E (some .int) (some (.int rv)) h') (p0 : Int32) (h : AH) (hf : fX9_pairs p0 h = some (rv, h')) : JJ G E 7 0 [(0, .ref 0), (1, .int p0)] [] h := by
  unfold fX9_pairs at hf
  refine r_iload_n K dX9_pairs_0 1 rfl rfl ?_
  refine r_if_lt (tgt := 9) K dX9_pairs_1 (by decide) (fun c1_ => ?_) (fun c1_ => ?_)
  · have hf := e_t hf c1_
    refine r_iconst (v := (-1)) K dX9_pairs_9 rfl ?_
    exact r_iret K Z dX9_pairs_10 hf
  · have hf := e_f hf c1_
    refine r_iload_n K dX9_pairs_4 1 rfl rfl ?_
    refine r_iconst (v := 2) K dX9_pairs_5 rfl ?_
    refine r_icmp_le (tgt := 11) K dX9_pairs_6 (by decide) (fun c2_ => ?_) (fun c2_ => ?_)
    · have hf := e_t hf c2_
      refine r_iconst (v := 0) K dX9_pairs_11 rfl ?_
      refine r_istore_n (lv' := [(2, .int 0), (0, .ref 0), (1, .int p0)]) K dX9_pairs_12 rfl (Nat.le_of_ble_eq_true rfl) rfl ?_
      refine r_bipush (v := (-2)) K dX9_pairs_13 rfl ?_
      refine r_istore_n (lv' := [(3, .int (-2)), (2, .int 0), (0, .ref 0), (1, .int p0)]) K dX9_pairs_15 rfl (Nat.le_of_ble_eq_true rfl) rfl ?_
      refine r_gets K gsX9_203 dX9_pairs_16 ?_
      refine r_iconst (v := 4) K dX9_pairs_19 rfl ?_
      refine r_sald K dX9_pairs_20 sl201 (by decide +kernel) ?_
      obtain ⟨x4_, e5_, hf⟩ := e_l hf
      refine r_nmI e5_ ?_
      refine r_istore (lv' := [(4, .int x4_), (3, .int (-2)), (2, .int 0), (0, .ref 0), (1, .int p0)]) K dX9_pairs_21 (Nat.le_of_ble_eq_true rfl) rfl ?_
      refine r_lv [3, 4, 2, 1, 0] rfl ?_
      exact sX9_pairs_23 K Z p0 FU p0 0 (-2) x4_ h hf
    · have hf := e_f hf c2_
      refine r_iconst (v := (-1)) K dX9_pairs_9 rfl ?_
      exact r_iret K Z dX9_pairs_10 hf
theorem conX9_pairs {G : GG} (p0 : Int32) (h : AH) (rv : Int32) (h' : AH) (hf : fX9_pairs p0 h = some (rv, h')) : Con G 1 yX9_pairs cX9_pairs 7 (some .int) [.ref 0, .int p0] h (some (.int rv)) h' := con_of mwX9_pairs (Nat.le_of_ble_eq_true rfl) (fun E K Z => sX9_pairs K Z p0 h hf)
def fX9_peak_47_b (p0 : Int32) (p1 : Int32) (Q47 : Int32 → Int32 → Int32 → Int32 → Int32 → AH → Option (Int32 × AH)) (x1 : Int32) (x2 : Int32) (x3 : Int32) (x4 : Int32) (x5 : Int32) (h : AH) : Option (Int32 × AH) :=
  if 60 < x5 then if x2 = 0 then some (x3, h) else some (x4, h) else bindV (fX7_passMinute 19 h) fun h18_ => if inb x1 9 = true then if (h18_.1 20 (ix x1)) ≤ x4 then Q47 x1 x2 x3 x4 (x5 + 1) h18_ else letV ((h18_.1 20 (ix x1))) fun x23_ => Q47 x1 x2 x5 x23_ (x5 + 1) h18_ else none
def fX9_peak_47 (p0 : Int32) (p1 : Int32) : Nat → Int32 → Int32 → Int32 → Int32 → Int32 → AH → Option (Int32 × AH)
  | 0 => fun _ _ _ _ _ _ => none
  | n + 1 => fX9_peak_47_b p0 p1 (fX9_peak_47 p0 p1 n)
set_option maxRecDepth 10000 in
theorem sX9_peak_47_b {G : GG} {E : EE} {rv : Int32} {h' : AH} (K : OK G E 4 RX9 cX9_peak 6) (Z : RT G E (some .int) (some (.int rv)) h') (p0 : Int32) (p1 : Int32) (Q47 : Int32 → Int32 → Int32 → Int32 → Int32 → AH → Option (Int32 × AH)) (hQ47 : ∀ (x1 : Int32) (x2 : Int32) (x3 : Int32) (x4 : Int32) (x5 : Int32) (h : AH), Q47 x1 x2 x3 x4 x5 h = some (rv, h') → JJ G E 6 47 [(0, .ref 0), (1, .int x1), (2, .int x2), (3, .int x3), (4, .int x4), (5, .int x5)] [] h) (x1 : Int32) (x2 : Int32) (x3 : Int32) (x4 : Int32) (x5 : Int32) (h : AH) (hf : fX9_peak_47_b p0 p1 Q47 x1 x2 x3 x4 x5 h = some (rv, h')) : JJ G E 6 47 [(0, .ref 0), (1, .int x1), (2, .int x2), (3, .int x3), (4, .int x4), (5, .int x5)] [] h := by
  unfold fX9_peak_47_b at hf
  refine r_iload K dX9_peak_47 5 rfl ?_
  refine r_bipush (v := 60) K dX9_peak_49 rfl ?_
  refine r_icmp_gt (tgt := 104) K dX9_peak_51 (by decide) (fun c15_ => ?_) (fun c15_ => ?_)
  · have hf := e_t hf c15_
    refine r_iload_n K dX9_peak_104 2 rfl rfl ?_
    refine r_if_ne (tgt := 112) K dX9_peak_105 (by decide) (fun c16_ => ?_) (fun c16_ => ?_)
    · have hf := e_f hf c16_
      refine r_iload K dX9_peak_112 4 rfl ?_
      exact r_iret K Z dX9_peak_114 hf
    · have hf := e_t hf c16_
      refine r_iload_n K dX9_peak_108 3 rfl rfl ?_
      refine r_goto (tgt := 114) K dX9_peak_109 (by decide) ?_
      exact r_iret K Z dX9_peak_114 hf
  · have hf := e_f hf c15_
    refine r_aload_n K dX9_peak_54 0 rfl rfl ?_
    refine r_getR (o' := 18) K flX9_43 dX9_peak_55 rfl rfl rfl ?_
    refine r_getR (o' := 19) K flX9_153 dX9_peak_58 rfl rfl rfl ?_
    obtain ⟨h18_, g19_, hf⟩ := e_v hf
    refine r_callV (av := []) (st := []) K lkX9_170 mwX7_passMinute (conX7_passMinute 19 rfl h h18_ g19_) dX9_peak_61 rfl (Nat.le_of_ble_eq_true rfl) rfl rfl (Nat.le_of_ble_eq_true rfl) ?_
    refine r_aload_n K dX9_peak_64 0 rfl rfl ?_
    refine r_getR (o' := 18) K flX9_43 dX9_peak_65 rfl rfl rfl ?_
    refine r_getR (o' := 19) K flX9_153 dX9_peak_68 rfl rfl rfl ?_
    refine r_getR (o' := 20) K flX9_158 dX9_peak_71 rfl rfl rfl ?_
    refine r_iload_n K dX9_peak_74 1 rfl rfl ?_
    obtain ⟨g20_, hf⟩ := e_g hf
    refine r_iald K dX9_peak_75 rfl g20_ ?_
    refine r_iload K dX9_peak_76 4 rfl ?_
    refine r_icmp_le (tgt := 98) K dX9_peak_78 (by decide) (fun c21_ => ?_) (fun c21_ => ?_)
    · have hf := e_t hf c21_
      refine r_iinc (y := 1) (lv' := [(5, .int (x5 + 1)), (0, .ref 0), (1, .int x1), (2, .int x2), (3, .int x3), (4, .int x4)]) K dX9_peak_98 5 rfl rfl (Nat.le_of_ble_eq_true rfl) rfl ?_
      refine r_goto (tgt := 47) K dX9_peak_101 (by decide) ?_
      refine r_lv [1, 2, 3, 4, 5, 0] rfl ?_
      exact hQ47 x1 x2 x3 x4 (x5 + 1) h18_ hf
    · have hf := e_f hf c21_
      refine r_aload_n K dX9_peak_81 0 rfl rfl ?_
      refine r_getR (o' := 18) K flX9_43 dX9_peak_82 rfl rfl rfl ?_
      refine r_getR (o' := 19) K flX9_153 dX9_peak_85 rfl rfl rfl ?_
      refine r_getR (o' := 20) K flX9_158 dX9_peak_88 rfl rfl rfl ?_
      refine r_iload_n K dX9_peak_91 1 rfl rfl ?_
      refine r_iald K dX9_peak_92 rfl g20_ ?_
      obtain ⟨x23_, e24_, hf⟩ := e_l hf
      refine r_nmI e24_ ?_
      refine r_istore (lv' := [(4, .int x23_), (0, .ref 0), (1, .int x1), (2, .int x2), (3, .int x3), (5, .int x5)]) K dX9_peak_93 (Nat.le_of_ble_eq_true rfl) rfl ?_
      refine r_iload K dX9_peak_95 5 rfl ?_
      refine r_istore_n (lv' := [(3, .int x5), (4, .int x23_), (0, .ref 0), (1, .int x1), (2, .int x2), (5, .int x5)]) K dX9_peak_97 rfl (Nat.le_of_ble_eq_true rfl) rfl ?_
      refine r_iinc (y := 1) (lv' := [(5, .int (x5 + 1)), (3, .int x5), (4, .int x23_), (0, .ref 0), (1, .int x1), (2, .int x2)]) K dX9_peak_98 5 rfl rfl (Nat.le_of_ble_eq_true rfl) rfl ?_
      refine r_goto (tgt := 47) K dX9_peak_101 (by decide) ?_
      refine r_lv [3, 4, 5, 1, 2, 0] rfl ?_
      exact hQ47 x1 x2 x5 x23_ (x5 + 1) h18_ hf
theorem sX9_peak_47 {G : GG} {E : EE} {rv : Int32} {h' : AH} (K : OK G E 4 RX9 cX9_peak 6) (Z : RT G E (some .int) (some (.int rv)) h') (p0 : Int32) (p1 : Int32) : ∀ (n : Nat) (x1 : Int32) (x2 : Int32) (x3 : Int32) (x4 : Int32) (x5 : Int32) (h : AH), fX9_peak_47 p0 p1 n x1 x2 x3 x4 x5 h = some (rv, h') → JJ G E 6 47 [(0, .ref 0), (1, .int x1), (2, .int x2), (3, .int x3), (4, .int x4), (5, .int x5)] [] h := by
  intro n
  induction n with
  | zero => intro x1 x2 x3 x4 x5 h hf; cases hf
  | succ n ih => intro x1 x2 x3 x4 x5 h hf; exact sX9_peak_47_b K Z p0 p1 _ (fun x1 x2 x3 x4 x5 h hf => ih x1 x2 x3 x4 x5 h hf) x1 x2 x3 x4 x5 h hf
def fX9_peak (p0 : Int32) (p1 : Int32) (h : AH) : Option (Int32 × AH) :=
  bind2 (fX7_hasGuest 1 p0 h) fun r1_ h2_ => if r1_ = 0 then some ((-1), h2_) else bind2 (fX9_isChoiceOfTwo p1 h2_) fun r5_ h6_ => if r5_ = 0 then some ((-1), h6_) else bindV (fX6_startBehind 0 h6_) fun h10_ => if inb p0 9 = true then letV ((h10_.1 20 (ix p0))) fun x13_ => fX9_peak_47 p0 p1 FU p0 p1 0 x13_ 1 h10_ else none
set_option maxRecDepth 10000 in
theorem sX9_peak {G : GG} {E : EE} {rv : Int32} {h' : AH} (K : OK G E 4 RX9 cX9_peak 6) (Z : RT G E (some .int) (some (.int rv)) h') (p0 : Int32) (p1 : Int32) (h : AH) (hf : fX9_peak p0 p1 h = some (rv, h')) : JJ G E 6 0 [(0, .ref 0), (1, .int p0), (2, .int p1)] [] h := by
  unfold fX9_peak at hf
  refine r_aload_n K dX9_peak_0 0 rfl rfl ?_
  refine r_getR (o' := 1) K flX9_10 dX9_peak_1 rfl rfl rfl ?_
  refine r_iload_n K dX9_peak_4 1 rfl rfl ?_
  obtain ⟨r1_, h2_, g3_, hf⟩ := e_2 hf
  refine r_callV (av := [.int p0]) (st := []) K lkX9_114 mwX7_hasGuest (conX7_hasGuest 1 p0 rfl h r1_ h2_ g3_) dX9_peak_5 rfl (Nat.le_of_ble_eq_true rfl) rfl rfl (Nat.le_of_ble_eq_true rfl) ?_
  refine r_if_eq (tgt := 18) K dX9_peak_8 (by decide) (fun c4_ => ?_) (fun c4_ => ?_)
  · have hf := e_t hf c4_
    refine r_iconst (v := (-1)) K dX9_peak_18 rfl ?_
    exact r_iret K Z dX9_peak_19 hf
  · have hf := e_f hf c4_
    refine r_iload_n K dX9_peak_11 2 rfl rfl ?_
    obtain ⟨r5_, h6_, g7_, hf⟩ := e_2 hf
    refine r_callS (av := [.int p1]) (st := []) K lkX9_167 mwX9_isChoiceOfTwo (conX9_isChoiceOfTwo p1 h2_ r5_ h6_ g7_) dX9_peak_12 (Nat.le_of_ble_eq_true rfl) rfl rfl (Nat.le_of_ble_eq_true rfl) ?_
    refine r_if_ne (tgt := 20) K dX9_peak_15 (by decide) (fun c8_ => ?_) (fun c8_ => ?_)
    · have hf := e_f hf c8_
      refine r_aload_n K dX9_peak_20 0 rfl rfl ?_
      refine r_getR (o' := 18) K flX9_43 dX9_peak_21 rfl rfl rfl ?_
      refine r_iconst (v := 0) K dX9_peak_24 rfl ?_
      obtain ⟨h10_, g11_, hf⟩ := e_v hf
      refine r_callV (av := [.int 0]) (st := []) K lkX9_149 mwX6_startBehind (conX6_startBehind 0 h6_ h10_ g11_) dX9_peak_25 rfl (Nat.le_of_ble_eq_true rfl) rfl rfl (Nat.le_of_ble_eq_true rfl) ?_
      refine r_iconst (v := 0) K dX9_peak_28 rfl ?_
      refine r_istore_n (lv' := [(3, .int 0), (0, .ref 0), (1, .int p0), (2, .int p1)]) K dX9_peak_29 rfl (Nat.le_of_ble_eq_true rfl) rfl ?_
      refine r_aload_n K dX9_peak_30 1 rfl rfl ?_
      refine r_getR (o' := 18) K flX9_43 dX9_peak_31 rfl rfl rfl ?_
      refine r_getR (o' := 19) K flX9_153 dX9_peak_34 rfl rfl rfl ?_
      refine r_getR (o' := 20) K flX9_158 dX9_peak_37 rfl rfl rfl ?_
      refine r_iload_n K dX9_peak_40 2 rfl rfl ?_
      obtain ⟨g12_, hf⟩ := e_g hf
      refine r_iald K dX9_peak_41 rfl g12_ ?_
      obtain ⟨x13_, e14_, hf⟩ := e_l hf
      refine r_nmI e14_ ?_
      refine r_istore (lv' := [(4, .int x13_), (3, .int 0), (0, .ref 0), (1, .int p0), (2, .int p1)]) K dX9_peak_42 (Nat.le_of_ble_eq_true rfl) rfl ?_
      refine r_iconst (v := 1) K dX9_peak_44 rfl ?_
      refine r_istore (lv' := [(5, .int 1), (4, .int x13_), (3, .int 0), (0, .ref 0), (1, .int p0), (2, .int p1)]) K dX9_peak_45 (Nat.le_of_ble_eq_true rfl) rfl ?_
      refine r_lv [3, 4, 5, 2, 1, 0] rfl ?_
      exact sX9_peak_47 K Z p0 p1 FU p0 p1 0 x13_ 1 h10_ hf
    · have hf := e_t hf c8_
      refine r_iconst (v := (-1)) K dX9_peak_18 rfl ?_
      exact r_iret K Z dX9_peak_19 hf
theorem conX9_peak {G : GG} (p0 : Int32) (p1 : Int32) (h : AH) (rv : Int32) (h' : AH) (hf : fX9_peak p0 p1 h = some (rv, h')) : Con G 4 yX9_peak cX9_peak 6 (some .int) [.ref 0, .int p0, .int p1] h (some (.int rv)) h' := con_of mwX9_peak (Nat.le_of_ble_eq_true rfl) (fun E K Z => sX9_peak K Z p0 p1 h hf)
def fX9_put (p0 : Int32) (p1 : Int32) (p2 : Int64) (h : AH) : Option (Int32 × AH) :=
  bind2 (fX9_isShelf p0 h) fun r1_ h2_ => if r1_ = 0 then some ((-1), h2_) else if inb p0 6 = true then bind2 (fX9_refusalOfPlace (rf 46 (ix p0)) p1 h2_) fun r6_ h7_ => if r6_ = 0 then bind2 (fX5_cut (rf 46 (ix p0)) p2 h7_) fun r12_ h13_ => if inb p1 60 = true then letV (wL h13_ (rf (rf 46 (ix p0)) 4) (ix p1) r12_) fun h16_ => some (1, h16_) else none else some (r6_, h7_) else none
set_option maxRecDepth 10000 in
theorem sX9_put {G : GG} {E : EE} {rv : Int32} {h' : AH} (K : OK G E 1 RX9 cX9_put 6) (Z : RT G E (some .int) (some (.int rv)) h') (p0 : Int32) (p1 : Int32) (p2 : Int64) (h : AH) (hf : fX9_put p0 p1 p2 h = some (rv, h')) : JJ G E 6 0 [(0, .ref 0), (1, .int p0), (2, .int p1), (3, .long p2)] [] h := by
  unfold fX9_put at hf
  refine r_iload_n K dX9_put_0 1 rfl rfl ?_
  obtain ⟨r1_, h2_, g3_, hf⟩ := e_2 hf
  refine r_callS (av := [.int p0]) (st := []) K lkX9_98 mwX9_isShelf (conX9_isShelf p0 h r1_ h2_ g3_) dX9_put_1 (Nat.le_of_ble_eq_true rfl) rfl rfl (Nat.le_of_ble_eq_true rfl) ?_
  refine r_if_ne (tgt := 9) K dX9_put_4 (by decide) (fun c4_ => ?_) (fun c4_ => ?_)
  · have hf := e_f hf c4_
    refine r_aload_n K dX9_put_9 0 rfl rfl ?_
    refine r_getR (o' := 46) K flX9_82 dX9_put_10 rfl rfl rfl ?_
    refine r_iload_n K dX9_put_13 1 rfl rfl ?_
    obtain ⟨g5_, hf⟩ := e_g hf
    refine r_aald K dX9_put_14 rfl g5_ ?_
    refine r_iload_n K dX9_put_15 2 rfl rfl ?_
    obtain ⟨r6_, h7_, g8_, hf⟩ := e_2 hf
    refine r_callS (av := [.ref (rf 46 (ix p0)), .int p1]) (st := []) K lkX9_295 mwX9_refusalOfPlace (conX9_refusalOfPlace (rf 46 (ix p0)) p1 (kshelf g5_) h2_ r6_ h7_ g8_) dX9_put_16 (Nat.le_of_ble_eq_true rfl) rfl rfl (Nat.le_of_ble_eq_true rfl) ?_
    refine r_istore (lv' := [(5, .int r6_), (0, .ref 0), (1, .int p0), (2, .int p1), (3, .long p2)]) K dX9_put_19 (Nat.le_of_ble_eq_true rfl) rfl ?_
    refine r_iload K dX9_put_21 0 rfl ?_
    refine r_if_eq (tgt := 29) K dX9_put_23 (by decide) (fun c9_ => ?_) (fun c9_ => ?_)
    · have hf := e_t hf c9_
      refine r_aload_n K dX9_put_29 1 rfl rfl ?_
      refine r_getR (o' := 46) K flX9_82 dX9_put_30 rfl rfl rfl ?_
      refine r_iload_n K dX9_put_33 2 rfl rfl ?_
      refine r_aald K dX9_put_34 rfl g5_ ?_
      refine r_getR (o' := (rf (rf 46 (ix p0)) 4)) K flX9_299 dX9_put_35 (kshelf g5_) rfl rfl ?_
      refine r_iload_n K dX9_put_38 3 rfl rfl ?_
      refine r_aload_n K dX9_put_39 1 rfl rfl ?_
      refine r_getR (o' := 46) K flX9_82 dX9_put_40 rfl rfl rfl ?_
      refine r_iload_n K dX9_put_43 2 rfl rfl ?_
      refine r_aald K dX9_put_44 rfl g5_ ?_
      refine r_lload_n K dX9_put_45 4 rfl rfl ?_
      obtain ⟨r12_, h13_, g14_, hf⟩ := e_2 hf
      refine r_callV (av := [.long p2]) (st := [.int p1, .ref (rf (rf 46 (ix p0)) 4)]) K lkX9_303 mwX5_cut (conX5_cut (rf 46 (ix p0)) p2 (kshelf g5_) h7_ r12_ h13_ g14_) dX9_put_46 (kshelf g5_) (Nat.le_of_ble_eq_true rfl) rfl rfl (Nat.le_of_ble_eq_true rfl) ?_
      obtain ⟨g15_, hf⟩ := e_g hf
      obtain ⟨h16_, e17_, hf⟩ := e_l hf
      refine r_last K dX9_put_49 (kf5_4 (kshelf g5_)) g15_ e17_ ?_
      refine r_iconst (v := 1) K dX9_put_50 rfl ?_
      exact r_iret K Z dX9_put_51 hf
    · have hf := e_f hf c9_
      refine r_iload K dX9_put_26 0 rfl ?_
      exact r_iret K Z dX9_put_28 hf
  · have hf := e_t hf c4_
    refine r_iconst (v := (-1)) K dX9_put_7 rfl ?_
    exact r_iret K Z dX9_put_8 hf
theorem conX9_put {G : GG} (p0 : Int32) (p1 : Int32) (p2 : Int64) (h : AH) (rv : Int32) (h' : AH) (hf : fX9_put p0 p1 p2 h = some (rv, h')) : Con G 1 yX9_put cX9_put 6 (some .int) [.ref 0, .int p0, .int p1, .long p2] h (some (.int rv)) h' := con_of mwX9_put (Nat.le_of_ble_eq_true rfl) (fun E K Z => sX9_put K Z p0 p1 p2 h hf)
def fX9_redo (h : AH) : Option (Int32 × AH) :=
  bind2 (fX0_stepOn 1 h) fun r1_ h2_ => some (r1_, h2_)
set_option maxRecDepth 10000 in
theorem sX9_redo {G : GG} {E : EE} {rv : Int32} {h' : AH} (K : OK G E 4 RX9 cX9_redo 1) (Z : RT G E (some .int) (some (.int rv)) h') (h : AH) (hf : fX9_redo h = some (rv, h')) : JJ G E 1 0 [(0, .ref 0)] [] h := by
  unfold fX9_redo at hf
  refine r_aload_n K dX9_redo_0 0 rfl rfl ?_
  refine r_getR (o' := 38) K flX9_69 dX9_redo_1 rfl rfl rfl ?_
  refine r_aload_n K dX9_redo_4 0 rfl rfl ?_
  refine r_getR (o' := 1) K flX9_10 dX9_redo_5 rfl rfl rfl ?_
  obtain ⟨r1_, h2_, g3_, hf⟩ := e_2 hf
  refine r_callV (av := [.ref 1]) (st := []) K lkX9_266 mwX0_stepOn (conX0_stepOn 1 rfl h r1_ h2_ g3_) dX9_redo_8 rfl (Nat.le_of_ble_eq_true rfl) rfl rfl (Nat.le_of_ble_eq_true rfl) ?_
  exact r_iret K Z dX9_redo_11 hf
theorem conX9_redo {G : GG} (h : AH) (rv : Int32) (h' : AH) (hf : fX9_redo h = some (rv, h')) : Con G 4 yX9_redo cX9_redo 1 (some .int) [.ref 0] h (some (.int rv)) h' := con_of mwX9_redo (Nat.le_of_ble_eq_true rfl) (fun E K Z => sX9_redo K Z h hf)
def fX9_row (p0 : Int32) (p1 : Int32) (p2 : Int32) (h : AH) : Option (Int32 × AH) :=
  bind2 (fX9_isShelf p0 h) fun r1_ h2_ => if r1_ = 0 then some ((-1), h2_) else if p1 < 0 then some ((-1), h2_) else if 4 < p1 then some ((-1), h2_) else if p2 ≤ 60 then if 0 ≤ p2 then if inb p0 6 = true then bindV (fX5_holdRow (rf 46 (ix p0)) p1 p2 h2_) fun h11_ => some (1, h11_) else none else some ((-14), h2_) else some ((-1), h2_)
set_option maxRecDepth 10000 in
theorem sX9_row {G : GG} {E : EE} {rv : Int32} {h' : AH} (K : OK G E 2 RX9 cX9_row 4) (Z : RT G E (some .int) (some (.int rv)) h') (p0 : Int32) (p1 : Int32) (p2 : Int32) (h : AH) (hf : fX9_row p0 p1 p2 h = some (rv, h')) : JJ G E 4 0 [(0, .ref 0), (1, .int p0), (2, .int p1), (3, .int p2)] [] h := by
  unfold fX9_row at hf
  refine r_iload_n K dX9_row_0 1 rfl rfl ?_
  obtain ⟨r1_, h2_, g3_, hf⟩ := e_2 hf
  refine r_callS (av := [.int p0]) (st := []) K lkX9_98 mwX9_isShelf (conX9_isShelf p0 h r1_ h2_ g3_) dX9_row_1 (Nat.le_of_ble_eq_true rfl) rfl rfl (Nat.le_of_ble_eq_true rfl) ?_
  refine r_if_eq (tgt := 22) K dX9_row_4 (by decide) (fun c4_ => ?_) (fun c4_ => ?_)
  · have hf := e_t hf c4_
    refine r_iconst (v := (-1)) K dX9_row_22 rfl ?_
    exact r_iret K Z dX9_row_23 hf
  · have hf := e_f hf c4_
    refine r_iload_n K dX9_row_7 2 rfl rfl ?_
    refine r_if_lt (tgt := 22) K dX9_row_8 (by decide) (fun c5_ => ?_) (fun c5_ => ?_)
    · have hf := e_t hf c5_
      refine r_iconst (v := (-1)) K dX9_row_22 rfl ?_
      exact r_iret K Z dX9_row_23 hf
    · have hf := e_f hf c5_
      refine r_iload_n K dX9_row_11 2 rfl rfl ?_
      refine r_iconst (v := 4) K dX9_row_12 rfl ?_
      refine r_icmp_gt (tgt := 22) K dX9_row_13 (by decide) (fun c6_ => ?_) (fun c6_ => ?_)
      · have hf := e_t hf c6_
        refine r_iconst (v := (-1)) K dX9_row_22 rfl ?_
        exact r_iret K Z dX9_row_23 hf
      · have hf := e_f hf c6_
        refine r_iload_n K dX9_row_16 3 rfl rfl ?_
        refine r_bipush (v := 60) K dX9_row_17 rfl ?_
        refine r_icmp_le (tgt := 24) K dX9_row_19 (by decide) (fun c7_ => ?_) (fun c7_ => ?_)
        · have hf := e_t hf c7_
          refine r_iload_n K dX9_row_24 3 rfl rfl ?_
          refine r_if_ge (tgt := 31) K dX9_row_25 (by decide) (fun c8_ => ?_) (fun c8_ => ?_)
          · have hf := e_t hf c8_
            refine r_aload_n K dX9_row_31 0 rfl rfl ?_
            refine r_getR (o' := 46) K flX9_82 dX9_row_32 rfl rfl rfl ?_
            refine r_iload_n K dX9_row_35 1 rfl rfl ?_
            obtain ⟨g9_, hf⟩ := e_g hf
            refine r_aald K dX9_row_36 rfl g9_ ?_
            refine r_iload_n K dX9_row_37 2 rfl rfl ?_
            refine r_iload_n K dX9_row_38 3 rfl rfl ?_
            obtain ⟨h11_, g12_, hf⟩ := e_v hf
            refine r_callV (av := [.int p1, .int p2]) (st := []) K lkX9_292 mwX5_holdRow (conX5_holdRow (rf 46 (ix p0)) p1 p2 (kshelf g9_) h2_ h11_ g12_) dX9_row_39 (kshelf g9_) (Nat.le_of_ble_eq_true rfl) rfl rfl (Nat.le_of_ble_eq_true rfl) ?_
            refine r_iconst (v := 1) K dX9_row_42 rfl ?_
            exact r_iret K Z dX9_row_43 hf
          · have hf := e_f hf c8_
            refine r_bipush (v := (-14)) K dX9_row_28 rfl ?_
            exact r_iret K Z dX9_row_30 hf
        · have hf := e_f hf c7_
          refine r_iconst (v := (-1)) K dX9_row_22 rfl ?_
          exact r_iret K Z dX9_row_23 hf
theorem conX9_row {G : GG} (p0 : Int32) (p1 : Int32) (p2 : Int32) (h : AH) (rv : Int32) (h' : AH) (hf : fX9_row p0 p1 p2 h = some (rv, h')) : Con G 2 yX9_row cX9_row 4 (some .int) [.ref 0, .int p0, .int p1, .int p2] h (some (.int rv)) h' := con_of mwX9_row (Nat.le_of_ble_eq_true rfl) (fun E K Z => sX9_row K Z p0 p1 p2 h hf)
def fX9_shift (p0 : Int32) (p1 : Int32) (p2 : Int32) (p3 : Int32) (p4 : Int32) (h : AH) : Option (Int32 × AH) :=
  bind2 (fX9_isShelf p0 h) fun r1_ h2_ => if r1_ = 0 then some ((-1), h2_) else bind2 (fX9_isShelf p2 h2_) fun r5_ h6_ => if r5_ = 0 then some ((-1), h6_) else if inb p0 6 = true then letV ((rf 46 (ix p0))) fun o10_ => if inb p2 6 = true then letV ((rf 46 (ix p2))) fun o14_ => if (h6_.1 o10_ 0) = 0 then some ((-11), h6_) else if (h6_.1 o14_ 0) = 0 then some ((-11), h6_) else if (h6_.1 o10_ 0) = 2 then bind2 (fX5_isRowOf o14_ (h6_.1 o10_ 2) h6_) fun r20_ h21_ => if r20_ = 0 then some ((-12), h21_) else bind2 (fX5_hasPlaces o10_ p1 p4 h21_) fun r24_ h25_ => if r24_ = 0 then some ((-13), h25_) else bind2 (fX5_hasPlaces o14_ p3 p4 h25_) fun r28_ h29_ => if r28_ = 0 then some ((-13), h29_) else if cpOK p1 p3 p4 60 60 = true then letV (cpL h29_ (rf o10_ 4) (ix p1) (rf o14_ 4) (ix p3) (ix p4)) fun h33_ => some (p4, h33_) else none else some ((-12), h6_) else none else none
set_option maxRecDepth 10000 in
theorem sX9_shift {G : GG} {E : EE} {rv : Int32} {h' : AH} (K : OK G E 1 RX9 cX9_shift 8) (Z : RT G E (some .int) (some (.int rv)) h') (p0 : Int32) (p1 : Int32) (p2 : Int32) (p3 : Int32) (p4 : Int32) (h : AH) (hf : fX9_shift p0 p1 p2 p3 p4 h = some (rv, h')) : JJ G E 8 0 [(0, .ref 0), (1, .int p0), (2, .int p1), (3, .int p2), (4, .int p3), (5, .int p4)] [] h := by
  unfold fX9_shift at hf
  refine r_iload_n K dX9_shift_0 1 rfl rfl ?_
  obtain ⟨r1_, h2_, g3_, hf⟩ := e_2 hf
  refine r_callS (av := [.int p0]) (st := []) K lkX9_98 mwX9_isShelf (conX9_isShelf p0 h r1_ h2_ g3_) dX9_shift_1 (Nat.le_of_ble_eq_true rfl) rfl rfl (Nat.le_of_ble_eq_true rfl) ?_
  refine r_if_eq (tgt := 14) K dX9_shift_4 (by decide) (fun c4_ => ?_) (fun c4_ => ?_)
  · have hf := e_t hf c4_
    refine r_iconst (v := (-1)) K dX9_shift_14 rfl ?_
    exact r_iret K Z dX9_shift_15 hf
  · have hf := e_f hf c4_
    refine r_iload_n K dX9_shift_7 3 rfl rfl ?_
    obtain ⟨r5_, h6_, g7_, hf⟩ := e_2 hf
    refine r_callS (av := [.int p2]) (st := []) K lkX9_98 mwX9_isShelf (conX9_isShelf p2 h2_ r5_ h6_ g7_) dX9_shift_8 (Nat.le_of_ble_eq_true rfl) rfl rfl (Nat.le_of_ble_eq_true rfl) ?_
    refine r_if_ne (tgt := 16) K dX9_shift_11 (by decide) (fun c8_ => ?_) (fun c8_ => ?_)
    · have hf := e_f hf c8_
      refine r_aload_n K dX9_shift_16 0 rfl rfl ?_
      refine r_getR (o' := 46) K flX9_82 dX9_shift_17 rfl rfl rfl ?_
      refine r_iload_n K dX9_shift_20 1 rfl rfl ?_
      obtain ⟨g9_, hf⟩ := e_g hf
      refine r_aald K dX9_shift_21 rfl g9_ ?_
      obtain ⟨o10_, e11_, hf⟩ := e_l hf
      have hk12_ : KD o10_ = (5, 5) := e11_ ▸ (kshelf g9_)
      refine r_nmR e11_ ?_
      refine r_astore (lv' := [(6, .ref o10_), (0, .ref 0), (1, .int p0), (2, .int p1), (3, .int p2), (4, .int p3), (5, .int p4)]) K dX9_shift_22 (Nat.le_of_ble_eq_true rfl) rfl ?_
      refine r_aload_n K dX9_shift_24 1 rfl rfl ?_
      refine r_getR (o' := 46) K flX9_82 dX9_shift_25 rfl rfl rfl ?_
      refine r_iload_n K dX9_shift_28 4 rfl rfl ?_
      obtain ⟨g13_, hf⟩ := e_g hf
      refine r_aald K dX9_shift_29 rfl g13_ ?_
      obtain ⟨o14_, e15_, hf⟩ := e_l hf
      have hk16_ : KD o14_ = (5, 5) := e15_ ▸ (kshelf g13_)
      refine r_nmR e15_ ?_
      refine r_astore (lv' := [(7, .ref o14_), (6, .ref o10_), (0, .ref 0), (1, .int p0), (2, .int p1), (3, .int p2), (4, .int p3), (5, .int p4)]) K dX9_shift_30 (Nat.le_of_ble_eq_true rfl) rfl ?_
      refine r_aload K dX9_shift_32 1 rfl ?_
      refine r_getI K flX9_102 dX9_shift_34 hk12_ rfl ?_
      refine r_if_eq (tgt := 48) K dX9_shift_37 (by decide) (fun c17_ => ?_) (fun c17_ => ?_)
      · have hf := e_t hf c17_
        refine r_bipush (v := (-11)) K dX9_shift_48 rfl ?_
        exact r_iret K Z dX9_shift_50 hf
      · have hf := e_f hf c17_
        refine r_aload K dX9_shift_40 0 rfl ?_
        refine r_getI K flX9_102 dX9_shift_42 hk16_ rfl ?_
        refine r_if_ne (tgt := 51) K dX9_shift_45 (by decide) (fun c18_ => ?_) (fun c18_ => ?_)
        · have hf := e_f hf c18_
          refine r_aload K dX9_shift_51 1 rfl ?_
          refine r_getI K flX9_102 dX9_shift_53 hk12_ rfl ?_
          refine r_iconst (v := 2) K dX9_shift_56 rfl ?_
          refine r_icmp_ne (tgt := 73) K dX9_shift_57 (by decide) (fun c19_ => ?_) (fun c19_ => ?_)
          · have hf := e_f hf c19_
            refine r_bipush (v := (-12)) K dX9_shift_73 rfl ?_
            exact r_iret K Z dX9_shift_75 hf
          · have hf := e_t hf c19_
            refine r_aload K dX9_shift_60 0 rfl ?_
            refine r_aload K dX9_shift_62 1 rfl ?_
            refine r_getI K flX9_311 dX9_shift_64 hk12_ rfl ?_
            obtain ⟨r20_, h21_, g22_, hf⟩ := e_2 hf
            refine r_callV (av := [.int (h6_.1 o10_ 2)]) (st := []) K lkX9_105 mwX5_isRowOf (conX5_isRowOf o14_ (h6_.1 o10_ 2) hk16_ h6_ r20_ h21_ g22_) dX9_shift_67 hk16_ (Nat.le_of_ble_eq_true rfl) rfl rfl (Nat.le_of_ble_eq_true rfl) ?_
            refine r_if_ne (tgt := 76) K dX9_shift_70 (by decide) (fun c23_ => ?_) (fun c23_ => ?_)
            · have hf := e_f hf c23_
              refine r_aload K dX9_shift_76 1 rfl ?_
              refine r_iload_n K dX9_shift_78 4 rfl rfl ?_
              refine r_iload K dX9_shift_79 7 rfl ?_
              obtain ⟨r24_, h25_, g26_, hf⟩ := e_2 hf
              refine r_callV (av := [.int p1, .int p4]) (st := []) K lkX9_314 mwX5_hasPlaces (conX5_hasPlaces o10_ p1 p4 hk12_ h21_ r24_ h25_ g26_) dX9_shift_81 hk12_ (Nat.le_of_ble_eq_true rfl) rfl rfl (Nat.le_of_ble_eq_true rfl) ?_
              refine r_if_eq (tgt := 99) K dX9_shift_84 (by decide) (fun c27_ => ?_) (fun c27_ => ?_)
              · have hf := e_t hf c27_
                refine r_bipush (v := (-13)) K dX9_shift_99 rfl ?_
                exact r_iret K Z dX9_shift_101 hf
              · have hf := e_f hf c27_
                refine r_aload K dX9_shift_87 0 rfl ?_
                refine r_iload K dX9_shift_89 6 rfl ?_
                refine r_iload K dX9_shift_91 7 rfl ?_
                obtain ⟨r28_, h29_, g30_, hf⟩ := e_2 hf
                refine r_callV (av := [.int p3, .int p4]) (st := []) K lkX9_314 mwX5_hasPlaces (conX5_hasPlaces o14_ p3 p4 hk16_ h25_ r28_ h29_ g30_) dX9_shift_93 hk16_ (Nat.le_of_ble_eq_true rfl) rfl rfl (Nat.le_of_ble_eq_true rfl) ?_
                refine r_if_ne (tgt := 102) K dX9_shift_96 (by decide) (fun c31_ => ?_) (fun c31_ => ?_)
                · have hf := e_f hf c31_
                  refine r_aload K dX9_shift_102 1 rfl ?_
                  refine r_getR (o' := (rf o10_ 4)) K flX9_299 dX9_shift_104 hk12_ rfl rfl ?_
                  refine r_iload_n K dX9_shift_107 4 rfl rfl ?_
                  refine r_aload K dX9_shift_108 0 rfl ?_
                  refine r_getR (o' := (rf o14_ 4)) K flX9_299 dX9_shift_110 hk16_ rfl rfl ?_
                  refine r_iload K dX9_shift_113 6 rfl ?_
                  refine r_iload K dX9_shift_115 7 rfl ?_
                  obtain ⟨g32_, hf⟩ := e_g hf
                  obtain ⟨h33_, e34_, hf⟩ := e_l hf
                  refine r_acopyl K lmX9_317 dX9_shift_117 (kf5_4 hk12_) (kf5_4 hk16_) g32_ (Nat.le_of_ble_eq_true rfl) (Nat.le_of_ble_eq_true rfl) e34_ ?_
                  refine r_iload K dX9_shift_120 7 rfl ?_
                  exact r_iret K Z dX9_shift_122 hf
                · have hf := e_t hf c31_
                  refine r_bipush (v := (-13)) K dX9_shift_99 rfl ?_
                  exact r_iret K Z dX9_shift_101 hf
            · have hf := e_t hf c23_
              refine r_bipush (v := (-12)) K dX9_shift_73 rfl ?_
              exact r_iret K Z dX9_shift_75 hf
        · have hf := e_t hf c18_
          refine r_bipush (v := (-11)) K dX9_shift_48 rfl ?_
          exact r_iret K Z dX9_shift_50 hf
    · have hf := e_t hf c8_
      refine r_iconst (v := (-1)) K dX9_shift_14 rfl ?_
      exact r_iret K Z dX9_shift_15 hf
theorem conX9_shift {G : GG} (p0 : Int32) (p1 : Int32) (p2 : Int32) (p3 : Int32) (p4 : Int32) (h : AH) (rv : Int32) (h' : AH) (hf : fX9_shift p0 p1 p2 p3 p4 h = some (rv, h')) : Con G 1 yX9_shift cX9_shift 8 (some .int) [.ref 0, .int p0, .int p1, .int p2, .int p3, .int p4] h (some (.int rv)) h' := con_of mwX9_shift (Nat.le_of_ble_eq_true rfl) (fun E K Z => sX9_shift K Z p0 p1 p2 p3 p4 h hf)
def fX9_slip (p0 : Int32) (p1 : Int32) (p2 : Int32) (h : AH) : Option (Int32 × AH) :=
  bind2 (fX7_hasGuest 1 p0 h) fun r1_ h2_ => if r1_ = 0 then some ((-1), h2_) else bind2 (fX9_isWithin p1 6 h2_) fun r5_ h6_ => if r5_ = 0 then some ((-1), h6_) else bind2 (fX9_isWithin p2 7 h6_) fun r9_ h10_ => if r9_ = 0 then some ((-1), h10_) else if (h10_.1 1 10) < 12 then bind2 (fX7_addSlip 1 p0 p1 p2 h10_) fun r14_ h15_ => some (r14_, h15_) else some ((-3), h10_)
set_option maxRecDepth 10000 in
theorem sX9_slip {G : GG} {E : EE} {rv : Int32} {h' : AH} (K : OK G E 1 RX9 cX9_slip 4) (Z : RT G E (some .int) (some (.int rv)) h') (p0 : Int32) (p1 : Int32) (p2 : Int32) (h : AH) (hf : fX9_slip p0 p1 p2 h = some (rv, h')) : JJ G E 4 0 [(0, .ref 0), (1, .int p0), (2, .int p1), (3, .int p2)] [] h := by
  unfold fX9_slip at hf
  refine r_aload_n K dX9_slip_0 0 rfl rfl ?_
  refine r_getR (o' := 1) K flX9_10 dX9_slip_1 rfl rfl rfl ?_
  refine r_iload_n K dX9_slip_4 1 rfl rfl ?_
  obtain ⟨r1_, h2_, g3_, hf⟩ := e_2 hf
  refine r_callV (av := [.int p0]) (st := []) K lkX9_114 mwX7_hasGuest (conX7_hasGuest 1 p0 rfl h r1_ h2_ g3_) dX9_slip_5 rfl (Nat.le_of_ble_eq_true rfl) rfl rfl (Nat.le_of_ble_eq_true rfl) ?_
  refine r_if_eq (tgt := 29) K dX9_slip_8 (by decide) (fun c4_ => ?_) (fun c4_ => ?_)
  · have hf := e_t hf c4_
    refine r_iconst (v := (-1)) K dX9_slip_29 rfl ?_
    exact r_iret K Z dX9_slip_30 hf
  · have hf := e_f hf c4_
    refine r_iload_n K dX9_slip_11 2 rfl rfl ?_
    refine r_bipush (v := 6) K dX9_slip_12 rfl ?_
    obtain ⟨r5_, h6_, g7_, hf⟩ := e_2 hf
    refine r_callS (av := [.int p1, .int 6]) (st := []) K lkX9_87 mwX9_isWithin (conX9_isWithin p1 6 h2_ r5_ h6_ g7_) dX9_slip_14 (Nat.le_of_ble_eq_true rfl) rfl rfl (Nat.le_of_ble_eq_true rfl) ?_
    refine r_if_eq (tgt := 29) K dX9_slip_17 (by decide) (fun c8_ => ?_) (fun c8_ => ?_)
    · have hf := e_t hf c8_
      refine r_iconst (v := (-1)) K dX9_slip_29 rfl ?_
      exact r_iret K Z dX9_slip_30 hf
    · have hf := e_f hf c8_
      refine r_iload_n K dX9_slip_20 3 rfl rfl ?_
      refine r_bipush (v := 7) K dX9_slip_21 rfl ?_
      obtain ⟨r9_, h10_, g11_, hf⟩ := e_2 hf
      refine r_callS (av := [.int p2, .int 7]) (st := []) K lkX9_87 mwX9_isWithin (conX9_isWithin p2 7 h6_ r9_ h10_ g11_) dX9_slip_23 (Nat.le_of_ble_eq_true rfl) rfl rfl (Nat.le_of_ble_eq_true rfl) ?_
      refine r_if_ne (tgt := 31) K dX9_slip_26 (by decide) (fun c12_ => ?_) (fun c12_ => ?_)
      · have hf := e_f hf c12_
        refine r_aload_n K dX9_slip_31 0 rfl rfl ?_
        refine r_getR (o' := 1) K flX9_10 dX9_slip_32 rfl rfl rfl ?_
        refine r_getI K flX9_117 dX9_slip_35 rfl rfl ?_
        refine r_bipush (v := 12) K dX9_slip_38 rfl ?_
        refine r_icmp_lt (tgt := 46) K dX9_slip_40 (by decide) (fun c13_ => ?_) (fun c13_ => ?_)
        · have hf := e_t hf c13_
          refine r_aload_n K dX9_slip_46 0 rfl rfl ?_
          refine r_getR (o' := 1) K flX9_10 dX9_slip_47 rfl rfl rfl ?_
          refine r_iload_n K dX9_slip_50 1 rfl rfl ?_
          refine r_iload_n K dX9_slip_51 2 rfl rfl ?_
          refine r_iload_n K dX9_slip_52 3 rfl rfl ?_
          obtain ⟨r14_, h15_, g16_, hf⟩ := e_2 hf
          refine r_callV (av := [.int p0, .int p1, .int p2]) (st := []) K lkX9_120 mwX7_addSlip (conX7_addSlip 1 p0 p1 p2 rfl h10_ r14_ h15_ g16_) dX9_slip_53 rfl (Nat.le_of_ble_eq_true rfl) rfl rfl (Nat.le_of_ble_eq_true rfl) ?_
          exact r_iret K Z dX9_slip_56 hf
        · have hf := e_f hf c13_
          refine r_bipush (v := (-3)) K dX9_slip_43 rfl ?_
          exact r_iret K Z dX9_slip_45 hf
      · have hf := e_t hf c12_
        refine r_iconst (v := (-1)) K dX9_slip_29 rfl ?_
        exact r_iret K Z dX9_slip_30 hf
theorem conX9_slip {G : GG} (p0 : Int32) (p1 : Int32) (p2 : Int32) (h : AH) (rv : Int32) (h' : AH) (hf : fX9_slip p0 p1 p2 h = some (rv, h')) : Con G 1 yX9_slip cX9_slip 4 (some .int) [.ref 0, .int p0, .int p1, .int p2] h (some (.int rv)) h' := con_of mwX9_slip (Nat.le_of_ble_eq_true rfl) (fun E K Z => sX9_slip K Z p0 p1 p2 h hf)
def fX9_slipWhen_73_b (p0 : Int32) (p1 : Int32) (p2 : Int32) (Q73 : Int32 → Int32 → Int32 → Int32 → Int32 → Int32 → Int32 → AH → Option (Int32 × AH)) (x1 : Int32) (x3 : Int32) (x4 : Int32) (x5 : Int32) (x6 : Int32) (x7 : Int32) (x8 : Int32) (h : AH) : Option (Int32 × AH) :=
  if 30 < x8 then if x3 = 0 then some (x6, h) else some (x7, h) else bind2 (fX6_placeBySlip x1 x8 x4 x5 h) fun r24_ h25_ => if x7 ≤ r24_ then Q73 x1 x3 x4 x5 x6 x7 (x8 + 1) h25_ else Q73 x1 x3 x4 x5 x8 r24_ (x8 + 1) h25_
def fX9_slipWhen_73 (p0 : Int32) (p1 : Int32) (p2 : Int32) : Nat → Int32 → Int32 → Int32 → Int32 → Int32 → Int32 → Int32 → AH → Option (Int32 × AH)
  | 0 => fun _ _ _ _ _ _ _ _ => none
  | n + 1 => fX9_slipWhen_73_b p0 p1 p2 (fX9_slipWhen_73 p0 p1 p2 n)
set_option maxRecDepth 10000 in
theorem sX9_slipWhen_73_b {G : GG} {E : EE} {rv : Int32} {h' : AH} (K : OK G E 6 RX9 cX9_slipWhen 10) (Z : RT G E (some .int) (some (.int rv)) h') (p0 : Int32) (p1 : Int32) (p2 : Int32) (Q73 : Int32 → Int32 → Int32 → Int32 → Int32 → Int32 → Int32 → AH → Option (Int32 × AH)) (hQ73 : ∀ (x1 : Int32) (x3 : Int32) (x4 : Int32) (x5 : Int32) (x6 : Int32) (x7 : Int32) (x8 : Int32) (h : AH), Q73 x1 x3 x4 x5 x6 x7 x8 h = some (rv, h') → JJ G E 10 73 [(0, .ref 0), (1, .int x1), (3, .int x3), (4, .int x4), (5, .int x5), (6, .int x6), (7, .int x7), (8, .int x8)] [] h) (x1 : Int32) (x3 : Int32) (x4 : Int32) (x5 : Int32) (x6 : Int32) (x7 : Int32) (x8 : Int32) (h : AH) (hf : fX9_slipWhen_73_b p0 p1 p2 Q73 x1 x3 x4 x5 x6 x7 x8 h = some (rv, h')) : JJ G E 10 73 [(0, .ref 0), (1, .int x1), (3, .int x3), (4, .int x4), (5, .int x5), (6, .int x6), (7, .int x7), (8, .int x8)] [] h := by
  unfold fX9_slipWhen_73_b at hf
  refine r_iload K dX9_slipWhen_73 7 rfl ?_
  refine r_bipush (v := 30) K dX9_slipWhen_75 rfl ?_
  refine r_icmp_gt (tgt := 117) K dX9_slipWhen_77 (by decide) (fun c22_ => ?_) (fun c22_ => ?_)
  · have hf := e_t hf c22_
    refine r_iload_n K dX9_slipWhen_117 2 rfl rfl ?_
    refine r_if_ne (tgt := 126) K dX9_slipWhen_118 (by decide) (fun c23_ => ?_) (fun c23_ => ?_)
    · have hf := e_f hf c23_
      refine r_iload K dX9_slipWhen_126 6 rfl ?_
      exact r_iret K Z dX9_slipWhen_128 hf
    · have hf := e_t hf c23_
      refine r_iload K dX9_slipWhen_121 5 rfl ?_
      refine r_goto (tgt := 128) K dX9_slipWhen_123 (by decide) ?_
      exact r_iret K Z dX9_slipWhen_128 hf
  · have hf := e_f hf c22_
    refine r_aload_n K dX9_slipWhen_80 0 rfl rfl ?_
    refine r_getR (o' := 18) K flX9_43 dX9_slipWhen_81 rfl rfl rfl ?_
    refine r_iload_n K dX9_slipWhen_84 1 rfl rfl ?_
    refine r_iload K dX9_slipWhen_85 7 rfl ?_
    refine r_iload K dX9_slipWhen_87 3 rfl ?_
    refine r_iload K dX9_slipWhen_89 4 rfl ?_
    obtain ⟨r24_, h25_, g26_, hf⟩ := e_2 hf
    refine r_callV (av := [.int x1, .int x8, .int x4, .int x5]) (st := []) K lkX9_196 mwX6_placeBySlip (conX6_placeBySlip x1 x8 x4 x5 h r24_ h25_ g26_) dX9_slipWhen_91 rfl (Nat.le_of_ble_eq_true rfl) rfl rfl (Nat.le_of_ble_eq_true rfl) ?_
    refine r_istore (lv' := [(9, .int r24_), (0, .ref 0), (1, .int x1), (3, .int x3), (4, .int x4), (5, .int x5), (6, .int x6), (7, .int x7), (8, .int x8)]) K dX9_slipWhen_94 (Nat.le_of_ble_eq_true rfl) rfl ?_
    refine r_iload K dX9_slipWhen_96 0 rfl ?_
    refine r_iload K dX9_slipWhen_98 7 rfl ?_
    refine r_icmp_ge (tgt := 111) K dX9_slipWhen_100 (by decide) (fun c27_ => ?_) (fun c27_ => ?_)
    · have hf := e_t hf c27_
      refine r_iinc (y := 1) (lv' := [(8, .int (x8 + 1)), (9, .int r24_), (0, .ref 0), (1, .int x1), (3, .int x3), (4, .int x4), (5, .int x5), (6, .int x6), (7, .int x7)]) K dX9_slipWhen_111 8 rfl rfl (Nat.le_of_ble_eq_true rfl) rfl ?_
      refine r_goto (tgt := 73) K dX9_slipWhen_114 (by decide) ?_
      refine r_lv [2, 3, 4, 5, 6, 7, 8, 0] rfl ?_
      exact hQ73 x1 x3 x4 x5 x6 x7 (x8 + 1) h25_ hf
    · have hf := e_f hf c27_
      refine r_iload K dX9_slipWhen_103 0 rfl ?_
      refine r_istore (lv' := [(7, .int r24_), (9, .int r24_), (0, .ref 0), (1, .int x1), (3, .int x3), (4, .int x4), (5, .int x5), (6, .int x6), (8, .int x8)]) K dX9_slipWhen_105 (Nat.le_of_ble_eq_true rfl) rfl ?_
      refine r_iload K dX9_slipWhen_107 8 rfl ?_
      refine r_istore (lv' := [(6, .int x8), (7, .int r24_), (9, .int r24_), (0, .ref 0), (1, .int x1), (3, .int x3), (4, .int x4), (5, .int x5), (8, .int x8)]) K dX9_slipWhen_109 (Nat.le_of_ble_eq_true rfl) rfl ?_
      refine r_iinc (y := 1) (lv' := [(8, .int (x8 + 1)), (6, .int x8), (7, .int r24_), (9, .int r24_), (0, .ref 0), (1, .int x1), (3, .int x3), (4, .int x4), (5, .int x5)]) K dX9_slipWhen_111 8 rfl rfl (Nat.le_of_ble_eq_true rfl) rfl ?_
      refine r_goto (tgt := 73) K dX9_slipWhen_114 (by decide) ?_
      refine r_lv [4, 5, 6, 7, 8, 1, 2, 0] rfl ?_
      exact hQ73 x1 x3 x4 x5 x8 r24_ (x8 + 1) h25_ hf
theorem sX9_slipWhen_73 {G : GG} {E : EE} {rv : Int32} {h' : AH} (K : OK G E 6 RX9 cX9_slipWhen 10) (Z : RT G E (some .int) (some (.int rv)) h') (p0 : Int32) (p1 : Int32) (p2 : Int32) : ∀ (n : Nat) (x1 : Int32) (x3 : Int32) (x4 : Int32) (x5 : Int32) (x6 : Int32) (x7 : Int32) (x8 : Int32) (h : AH), fX9_slipWhen_73 p0 p1 p2 n x1 x3 x4 x5 x6 x7 x8 h = some (rv, h') → JJ G E 10 73 [(0, .ref 0), (1, .int x1), (3, .int x3), (4, .int x4), (5, .int x5), (6, .int x6), (7, .int x7), (8, .int x8)] [] h := by
  intro n
  induction n with
  | zero => intro x1 x3 x4 x5 x6 x7 x8 h hf; cases hf
  | succ n ih => intro x1 x3 x4 x5 x6 x7 x8 h hf; exact sX9_slipWhen_73_b K Z p0 p1 p2 _ (fun x1 x3 x4 x5 x6 x7 x8 h hf => ih x1 x3 x4 x5 x6 x7 x8 h hf) x1 x3 x4 x5 x6 x7 x8 h hf
def fX9_slipWhen (p0 : Int32) (p1 : Int32) (p2 : Int32) (h : AH) : Option (Int32 × AH) :=
  letV ((p1 / 100)) fun x1_ => letV ((jrem p1 100)) fun x3_ => bind2 (fX7_hasGuest 1 p0 h) fun r5_ h6_ => if r5_ = 0 then some ((-1), h6_) else bind2 (fX9_isWithin x1_ 7 h6_) fun r9_ h10_ => if r9_ = 0 then some ((-1), h10_) else if 30 < x3_ then some ((-1), h10_) else bind2 (fX9_isChoiceOfTwo p2 h10_) fun r14_ h15_ => if r14_ = 0 then some ((-1), h15_) else bind2 (fX7_isLeft 1 p0 h15_) fun r18_ h19_ => if r18_ = 0 then some ((-5), h19_) else fX9_slipWhen_73 p0 p1 p2 FU p0 p2 x1_ x3_ 0 9 0 h19_
set_option maxRecDepth 10000 in
theorem sX9_slipWhen {G : GG} {E : EE} {rv : Int32} {h' : AH} (K : OK G E 6 RX9 cX9_slipWhen 10) (Z : RT G E (some .int) (some (.int rv)) h') (p0 : Int32) (p1 : Int32) (p2 : Int32) (h : AH) (hf : fX9_slipWhen p0 p1 p2 h = some (rv, h')) : JJ G E 10 0 [(0, .ref 0), (1, .int p0), (2, .int p1), (3, .int p2)] [] h := by
  unfold fX9_slipWhen at hf
  refine r_iload_n K dX9_slipWhen_0 2 rfl rfl ?_
  refine r_bipush (v := 100) K dX9_slipWhen_1 rfl ?_
  refine r_idiv K dX9_slipWhen_3 (by decide) ?_
  obtain ⟨x1_, e2_, hf⟩ := e_l hf
  refine r_nmI e2_ ?_
  refine r_istore (lv' := [(4, .int x1_), (0, .ref 0), (1, .int p0), (2, .int p1), (3, .int p2)]) K dX9_slipWhen_4 (Nat.le_of_ble_eq_true rfl) rfl ?_
  refine r_iload_n K dX9_slipWhen_6 3 rfl rfl ?_
  refine r_bipush (v := 100) K dX9_slipWhen_7 rfl ?_
  refine r_irem K dX9_slipWhen_9 (by decide) ?_
  obtain ⟨x3_, e4_, hf⟩ := e_l hf
  refine r_nmI e4_ ?_
  refine r_istore (lv' := [(5, .int x3_), (4, .int x1_), (0, .ref 0), (1, .int p0), (2, .int p1), (3, .int p2)]) K dX9_slipWhen_10 (Nat.le_of_ble_eq_true rfl) rfl ?_
  refine r_aload_n K dX9_slipWhen_12 2 rfl rfl ?_
  refine r_getR (o' := 1) K flX9_10 dX9_slipWhen_13 rfl rfl rfl ?_
  refine r_iload_n K dX9_slipWhen_16 3 rfl rfl ?_
  obtain ⟨r5_, h6_, g7_, hf⟩ := e_2 hf
  refine r_callV (av := [.int p0]) (st := []) K lkX9_114 mwX7_hasGuest (conX7_hasGuest 1 p0 rfl h r5_ h6_ g7_) dX9_slipWhen_17 rfl (Nat.le_of_ble_eq_true rfl) rfl rfl (Nat.le_of_ble_eq_true rfl) ?_
  refine r_if_eq (tgt := 47) K dX9_slipWhen_20 (by decide) (fun c8_ => ?_) (fun c8_ => ?_)
  · have hf := e_t hf c8_
    refine r_iconst (v := (-1)) K dX9_slipWhen_47 rfl ?_
    exact r_iret K Z dX9_slipWhen_48 hf
  · have hf := e_f hf c8_
    refine r_iload K dX9_slipWhen_23 1 rfl ?_
    refine r_bipush (v := 7) K dX9_slipWhen_25 rfl ?_
    obtain ⟨r9_, h10_, g11_, hf⟩ := e_2 hf
    refine r_callS (av := [.int x1_, .int 7]) (st := []) K lkX9_87 mwX9_isWithin (conX9_isWithin x1_ 7 h6_ r9_ h10_ g11_) dX9_slipWhen_27 (Nat.le_of_ble_eq_true rfl) rfl rfl (Nat.le_of_ble_eq_true rfl) ?_
    refine r_if_eq (tgt := 47) K dX9_slipWhen_30 (by decide) (fun c12_ => ?_) (fun c12_ => ?_)
    · have hf := e_t hf c12_
      refine r_iconst (v := (-1)) K dX9_slipWhen_47 rfl ?_
      exact r_iret K Z dX9_slipWhen_48 hf
    · have hf := e_f hf c12_
      refine r_iload K dX9_slipWhen_33 0 rfl ?_
      refine r_bipush (v := 30) K dX9_slipWhen_35 rfl ?_
      refine r_icmp_gt (tgt := 47) K dX9_slipWhen_37 (by decide) (fun c13_ => ?_) (fun c13_ => ?_)
      · have hf := e_t hf c13_
        refine r_iconst (v := (-1)) K dX9_slipWhen_47 rfl ?_
        exact r_iret K Z dX9_slipWhen_48 hf
      · have hf := e_f hf c13_
        refine r_iload_n K dX9_slipWhen_40 5 rfl rfl ?_
        obtain ⟨r14_, h15_, g16_, hf⟩ := e_2 hf
        refine r_callS (av := [.int p2]) (st := []) K lkX9_167 mwX9_isChoiceOfTwo (conX9_isChoiceOfTwo p2 h10_ r14_ h15_ g16_) dX9_slipWhen_41 (Nat.le_of_ble_eq_true rfl) rfl rfl (Nat.le_of_ble_eq_true rfl) ?_
        refine r_if_ne (tgt := 49) K dX9_slipWhen_44 (by decide) (fun c17_ => ?_) (fun c17_ => ?_)
        · have hf := e_f hf c17_
          refine r_aload_n K dX9_slipWhen_49 2 rfl rfl ?_
          refine r_getR (o' := 1) K flX9_10 dX9_slipWhen_50 rfl rfl rfl ?_
          refine r_iload_n K dX9_slipWhen_53 3 rfl rfl ?_
          obtain ⟨r18_, h19_, g20_, hf⟩ := e_2 hf
          refine r_callV (av := [.int p0]) (st := []) K lkX9_182 mwX7_isLeft (conX7_isLeft 1 p0 rfl h15_ r18_ h19_ g20_) dX9_slipWhen_54 rfl (Nat.le_of_ble_eq_true rfl) rfl rfl (Nat.le_of_ble_eq_true rfl) ?_
          refine r_if_ne (tgt := 63) K dX9_slipWhen_57 (by decide) (fun c21_ => ?_) (fun c21_ => ?_)
          · have hf := e_f hf c21_
            refine r_iconst (v := 0) K dX9_slipWhen_63 rfl ?_
            refine r_istore (lv' := [(6, .int 0), (5, .int x3_), (4, .int x1_), (0, .ref 0), (1, .int p0), (2, .int p1), (3, .int p2)]) K dX9_slipWhen_64 (Nat.le_of_ble_eq_true rfl) rfl ?_
            refine r_bipush (v := 9) K dX9_slipWhen_66 rfl ?_
            refine r_istore (lv' := [(7, .int 9), (6, .int 0), (5, .int x3_), (4, .int x1_), (0, .ref 0), (1, .int p0), (2, .int p1), (3, .int p2)]) K dX9_slipWhen_68 (Nat.le_of_ble_eq_true rfl) rfl ?_
            refine r_iconst (v := 0) K dX9_slipWhen_70 rfl ?_
            refine r_istore (lv' := [(8, .int 0), (7, .int 9), (6, .int 0), (5, .int x3_), (4, .int x1_), (0, .ref 0), (1, .int p0), (2, .int p1), (3, .int p2)]) K dX9_slipWhen_71 (Nat.le_of_ble_eq_true rfl) rfl ?_
            refine r_lv [5, 6, 8, 4, 3, 2, 1, 0] rfl ?_
            exact sX9_slipWhen_73 K Z p0 p1 p2 FU p0 p2 x1_ x3_ 0 9 0 h19_ hf
          · have hf := e_t hf c21_
            refine r_bipush (v := (-5)) K dX9_slipWhen_60 rfl ?_
            exact r_iret K Z dX9_slipWhen_62 hf
        · have hf := e_t hf c17_
          refine r_iconst (v := (-1)) K dX9_slipWhen_47 rfl ?_
          exact r_iret K Z dX9_slipWhen_48 hf
theorem conX9_slipWhen {G : GG} (p0 : Int32) (p1 : Int32) (p2 : Int32) (h : AH) (rv : Int32) (h' : AH) (hf : fX9_slipWhen p0 p1 p2 h = some (rv, h')) : Con G 6 yX9_slipWhen cX9_slipWhen 10 (some .int) [.ref 0, .int p0, .int p1, .int p2] h (some (.int rv)) h' := con_of mwX9_slipWhen (Nat.le_of_ble_eq_true rfl) (fun E K Z => sX9_slipWhen K Z p0 p1 p2 h hf)
def fX9_slips (p0 : Int32) (p1 : Int32) (h : AH) : Option (Int32 × AH) :=
  bind2 (fX7_hasGuest 1 p0 h) fun r1_ h2_ => if r1_ = 0 then some ((-1), h2_) else bind2 (fX9_isWithin p1 7 h2_) fun r5_ h6_ => if r5_ = 0 then some ((-1), h6_) else if (h6_.1 1 10) < 12 then bind2 (fX7_isLeft 1 p0 h6_) fun r10_ h11_ => if r10_ = 0 then some ((-5), h11_) else letV (wI h11_ 32 (ix 0) ((h11_.1 32 (ix 0)) + 1)) fun h16_ => bind2 (fX7_addSlip 1 p0 (h16_.1 1 11) p1 h16_) fun r18_ h19_ => some (r18_, h19_) else some ((-3), h6_)
set_option maxRecDepth 10000 in
theorem sX9_slips {G : GG} {E : EE} {rv : Int32} {h' : AH} (K : OK G E 2 RX9 cX9_slips 3) (Z : RT G E (some .int) (some (.int rv)) h') (p0 : Int32) (p1 : Int32) (h : AH) (hf : fX9_slips p0 p1 h = some (rv, h')) : JJ G E 3 0 [(0, .ref 0), (1, .int p0), (2, .int p1)] [] h := by
  unfold fX9_slips at hf
  refine r_aload_n K dX9_slips_0 0 rfl rfl ?_
  refine r_getR (o' := 1) K flX9_10 dX9_slips_1 rfl rfl rfl ?_
  refine r_iload_n K dX9_slips_4 1 rfl rfl ?_
  obtain ⟨r1_, h2_, g3_, hf⟩ := e_2 hf
  refine r_callV (av := [.int p0]) (st := []) K lkX9_114 mwX7_hasGuest (conX7_hasGuest 1 p0 rfl h r1_ h2_ g3_) dX9_slips_5 rfl (Nat.le_of_ble_eq_true rfl) rfl rfl (Nat.le_of_ble_eq_true rfl) ?_
  refine r_if_eq (tgt := 20) K dX9_slips_8 (by decide) (fun c4_ => ?_) (fun c4_ => ?_)
  · have hf := e_t hf c4_
    refine r_iconst (v := (-1)) K dX9_slips_20 rfl ?_
    exact r_iret K Z dX9_slips_21 hf
  · have hf := e_f hf c4_
    refine r_iload_n K dX9_slips_11 2 rfl rfl ?_
    refine r_bipush (v := 7) K dX9_slips_12 rfl ?_
    obtain ⟨r5_, h6_, g7_, hf⟩ := e_2 hf
    refine r_callS (av := [.int p1, .int 7]) (st := []) K lkX9_87 mwX9_isWithin (conX9_isWithin p1 7 h2_ r5_ h6_ g7_) dX9_slips_14 (Nat.le_of_ble_eq_true rfl) rfl rfl (Nat.le_of_ble_eq_true rfl) ?_
    refine r_if_ne (tgt := 22) K dX9_slips_17 (by decide) (fun c8_ => ?_) (fun c8_ => ?_)
    · have hf := e_f hf c8_
      refine r_aload_n K dX9_slips_22 0 rfl rfl ?_
      refine r_getR (o' := 1) K flX9_10 dX9_slips_23 rfl rfl rfl ?_
      refine r_getI K flX9_117 dX9_slips_26 rfl rfl ?_
      refine r_bipush (v := 12) K dX9_slips_29 rfl ?_
      refine r_icmp_lt (tgt := 37) K dX9_slips_31 (by decide) (fun c9_ => ?_) (fun c9_ => ?_)
      · have hf := e_t hf c9_
        refine r_aload_n K dX9_slips_37 0 rfl rfl ?_
        refine r_getR (o' := 1) K flX9_10 dX9_slips_38 rfl rfl rfl ?_
        refine r_iload_n K dX9_slips_41 1 rfl rfl ?_
        obtain ⟨r10_, h11_, g12_, hf⟩ := e_2 hf
        refine r_callV (av := [.int p0]) (st := []) K lkX9_182 mwX7_isLeft (conX7_isLeft 1 p0 rfl h6_ r10_ h11_ g12_) dX9_slips_42 rfl (Nat.le_of_ble_eq_true rfl) rfl rfl (Nat.le_of_ble_eq_true rfl) ?_
        refine r_if_ne (tgt := 51) K dX9_slips_45 (by decide) (fun c13_ => ?_) (fun c13_ => ?_)
        · have hf := e_f hf c13_
          refine r_aload_n K dX9_slips_51 0 rfl rfl ?_
          refine r_getR (o' := 32) K flX9_56 dX9_slips_52 rfl rfl rfl ?_
          refine r_iconst (v := 0) K dX9_slips_55 rfl ?_
          refine r_dup2 K dX9_slips_56 rfl rfl ?_
          refine r_iald K dX9_slips_57 rfl (by decide +kernel) ?_
          refine r_iconst (v := 1) K dX9_slips_58 rfl ?_
          refine r_iadd K dX9_slips_59 ?_
          obtain ⟨h16_, e17_, hf⟩ := e_l hf
          refine r_iast K dX9_slips_60 rfl (by decide +kernel) e17_ ?_
          refine r_aload_n K dX9_slips_61 0 rfl rfl ?_
          refine r_getR (o' := 1) K flX9_10 dX9_slips_62 rfl rfl rfl ?_
          refine r_iload_n K dX9_slips_65 1 rfl rfl ?_
          refine r_aload_n K dX9_slips_66 0 rfl rfl ?_
          refine r_getR (o' := 1) K flX9_10 dX9_slips_67 rfl rfl rfl ?_
          refine r_getI K flX9_245 dX9_slips_70 rfl rfl ?_
          refine r_iload_n K dX9_slips_73 2 rfl rfl ?_
          obtain ⟨r18_, h19_, g20_, hf⟩ := e_2 hf
          refine r_callV (av := [.int p0, .int (h16_.1 1 11), .int p1]) (st := []) K lkX9_120 mwX7_addSlip (conX7_addSlip 1 p0 (h16_.1 1 11) p1 rfl h16_ r18_ h19_ g20_) dX9_slips_74 rfl (Nat.le_of_ble_eq_true rfl) rfl rfl (Nat.le_of_ble_eq_true rfl) ?_
          exact r_iret K Z dX9_slips_77 hf
        · have hf := e_t hf c13_
          refine r_bipush (v := (-5)) K dX9_slips_48 rfl ?_
          exact r_iret K Z dX9_slips_50 hf
      · have hf := e_f hf c9_
        refine r_bipush (v := (-3)) K dX9_slips_34 rfl ?_
        exact r_iret K Z dX9_slips_36 hf
    · have hf := e_t hf c8_
      refine r_iconst (v := (-1)) K dX9_slips_20 rfl ?_
      exact r_iret K Z dX9_slips_21 hf
theorem conX9_slips {G : GG} (p0 : Int32) (p1 : Int32) (h : AH) (rv : Int32) (h' : AH) (hf : fX9_slips p0 p1 h = some (rv, h')) : Con G 2 yX9_slips cX9_slips 3 (some .int) [.ref 0, .int p0, .int p1] h (some (.int rv)) h' := con_of mwX9_slips (Nat.le_of_ble_eq_true rfl) (fun E K Z => sX9_slips K Z p0 p1 h hf)
def fX9_sorry_39_b (p0 : Int32) (p1 : Int32) (Q39 : Int32 → Int32 → Int32 → AH → Option (Int32 × AH)) (x1 : Int32) (x2 : Int32) (x3 : Int32) (h : AH) : Option (Int32 × AH) :=
  if 9 < x3 then some ((-2), h) else bindV (fX6_startBehind 0 h) fun h13_ => if inb x1 9 = true then letV (wI h13_ 22 (ix x1) x3) fun h16_ => bindV (fX6_allGo 9 h16_) fun h19_ => bind2 (fX6_placeOfGoer x1 h19_) fun r21_ h22_ => if x2 < r21_ then Q39 x1 x2 (x3 + 1) h22_ else some (x3, h22_) else none
def fX9_sorry_39 (p0 : Int32) (p1 : Int32) : Nat → Int32 → Int32 → Int32 → AH → Option (Int32 × AH)
  | 0 => fun _ _ _ _ => none
  | n + 1 => fX9_sorry_39_b p0 p1 (fX9_sorry_39 p0 p1 n)
set_option maxRecDepth 10000 in
theorem sX9_sorry_39_b {G : GG} {E : EE} {rv : Int32} {h' : AH} (K : OK G E 5 RX9 cX9_sorry 4) (Z : RT G E (some .int) (some (.int rv)) h') (p0 : Int32) (p1 : Int32) (Q39 : Int32 → Int32 → Int32 → AH → Option (Int32 × AH)) (hQ39 : ∀ (x1 : Int32) (x2 : Int32) (x3 : Int32) (h : AH), Q39 x1 x2 x3 h = some (rv, h') → JJ G E 4 39 [(0, .ref 0), (1, .int x1), (2, .int x2), (3, .int x3)] [] h) (x1 : Int32) (x2 : Int32) (x3 : Int32) (h : AH) (hf : fX9_sorry_39_b p0 p1 Q39 x1 x2 x3 h = some (rv, h')) : JJ G E 4 39 [(0, .ref 0), (1, .int x1), (2, .int x2), (3, .int x3)] [] h := by
  unfold fX9_sorry_39_b at hf
  refine r_iload_n K dX9_sorry_39 3 rfl rfl ?_
  refine r_bipush (v := 9) K dX9_sorry_40 rfl ?_
  refine r_icmp_gt (tgt := 95) K dX9_sorry_42 (by decide) (fun c11_ => ?_) (fun c11_ => ?_)
  · have hf := e_t hf c11_
    refine r_bipush (v := (-2)) K dX9_sorry_95 rfl ?_
    exact r_iret K Z dX9_sorry_97 hf
  · have hf := e_f hf c11_
    refine r_aload_n K dX9_sorry_45 0 rfl rfl ?_
    refine r_getR (o' := 18) K flX9_43 dX9_sorry_46 rfl rfl rfl ?_
    refine r_iconst (v := 0) K dX9_sorry_49 rfl ?_
    obtain ⟨h13_, g14_, hf⟩ := e_v hf
    refine r_callV (av := [.int 0]) (st := []) K lkX9_149 mwX6_startBehind (conX6_startBehind 0 h h13_ g14_) dX9_sorry_50 rfl (Nat.le_of_ble_eq_true rfl) rfl rfl (Nat.le_of_ble_eq_true rfl) ?_
    refine r_aload_n K dX9_sorry_53 0 rfl rfl ?_
    refine r_getR (o' := 18) K flX9_43 dX9_sorry_54 rfl rfl rfl ?_
    refine r_getR (o' := 19) K flX9_153 dX9_sorry_57 rfl rfl rfl ?_
    refine r_getR (o' := 22) K flX9_193 dX9_sorry_60 rfl rfl rfl ?_
    refine r_iload_n K dX9_sorry_63 1 rfl rfl ?_
    refine r_iload_n K dX9_sorry_64 3 rfl rfl ?_
    obtain ⟨g15_, hf⟩ := e_g hf
    obtain ⟨h16_, e17_, hf⟩ := e_l hf
    refine r_iast K dX9_sorry_65 rfl g15_ e17_ ?_
    refine r_aload_n K dX9_sorry_66 0 rfl rfl ?_
    refine r_getR (o' := 18) K flX9_43 dX9_sorry_67 rfl rfl rfl ?_
    refine r_bipush (v := 9) K dX9_sorry_70 rfl ?_
    obtain ⟨h19_, g20_, hf⟩ := e_v hf
    refine r_callV (av := [.int 9]) (st := []) K lkX9_173 mwX6_allGo (conX6_allGo 9 h16_ h19_ g20_) dX9_sorry_72 rfl (Nat.le_of_ble_eq_true rfl) rfl rfl (Nat.le_of_ble_eq_true rfl) ?_
    refine r_aload_n K dX9_sorry_75 0 rfl rfl ?_
    refine r_getR (o' := 18) K flX9_43 dX9_sorry_76 rfl rfl rfl ?_
    refine r_iload_n K dX9_sorry_79 1 rfl rfl ?_
    obtain ⟨r21_, h22_, g23_, hf⟩ := e_2 hf
    refine r_callV (av := [.int x1]) (st := []) K lkX9_185 mwX6_placeOfGoer (conX6_placeOfGoer x1 h19_ r21_ h22_ g23_) dX9_sorry_80 rfl (Nat.le_of_ble_eq_true rfl) rfl rfl (Nat.le_of_ble_eq_true rfl) ?_
    refine r_iload_n K dX9_sorry_83 2 rfl rfl ?_
    refine r_icmp_gt (tgt := 89) K dX9_sorry_84 (by decide) (fun c24_ => ?_) (fun c24_ => ?_)
    · have hf := e_t hf c24_
      refine r_iinc (y := 1) (lv' := [(3, .int (x3 + 1)), (0, .ref 0), (1, .int x1), (2, .int x2)]) K dX9_sorry_89 3 rfl rfl (Nat.le_of_ble_eq_true rfl) rfl ?_
      refine r_goto (tgt := 39) K dX9_sorry_92 (by decide) ?_
      refine r_lv [1, 2, 3, 0] rfl ?_
      exact hQ39 x1 x2 (x3 + 1) h22_ hf
    · have hf := e_f hf c24_
      refine r_iload_n K dX9_sorry_87 3 rfl rfl ?_
      exact r_iret K Z dX9_sorry_88 hf
theorem sX9_sorry_39 {G : GG} {E : EE} {rv : Int32} {h' : AH} (K : OK G E 5 RX9 cX9_sorry 4) (Z : RT G E (some .int) (some (.int rv)) h') (p0 : Int32) (p1 : Int32) : ∀ (n : Nat) (x1 : Int32) (x2 : Int32) (x3 : Int32) (h : AH), fX9_sorry_39 p0 p1 n x1 x2 x3 h = some (rv, h') → JJ G E 4 39 [(0, .ref 0), (1, .int x1), (2, .int x2), (3, .int x3)] [] h := by
  intro n
  induction n with
  | zero => intro x1 x2 x3 h hf; cases hf
  | succ n ih => intro x1 x2 x3 h hf; exact sX9_sorry_39_b K Z p0 p1 _ (fun x1 x2 x3 h hf => ih x1 x2 x3 h hf) x1 x2 x3 h hf
def fX9_sorry (p0 : Int32) (p1 : Int32) (h : AH) : Option (Int32 × AH) :=
  bind2 (fX7_hasGuest 1 p0 h) fun r1_ h2_ => if r1_ = 0 then some ((-1), h2_) else if p1 < 0 then some ((-1), h2_) else if p1 < 9 then bind2 (fX7_isLeft 1 p0 h2_) fun r7_ h8_ => if r7_ = 0 then some ((-2), h8_) else fX9_sorry_39 p0 p1 FU p0 p1 0 h8_ else some ((-1), h2_)
set_option maxRecDepth 10000 in
theorem sX9_sorry {G : GG} {E : EE} {rv : Int32} {h' : AH} (K : OK G E 5 RX9 cX9_sorry 4) (Z : RT G E (some .int) (some (.int rv)) h') (p0 : Int32) (p1 : Int32) (h : AH) (hf : fX9_sorry p0 p1 h = some (rv, h')) : JJ G E 4 0 [(0, .ref 0), (1, .int p0), (2, .int p1)] [] h := by
  unfold fX9_sorry at hf
  refine r_aload_n K dX9_sorry_0 0 rfl rfl ?_
  refine r_getR (o' := 1) K flX9_10 dX9_sorry_1 rfl rfl rfl ?_
  refine r_iload_n K dX9_sorry_4 1 rfl rfl ?_
  obtain ⟨r1_, h2_, g3_, hf⟩ := e_2 hf
  refine r_callV (av := [.int p0]) (st := []) K lkX9_114 mwX7_hasGuest (conX7_hasGuest 1 p0 rfl h r1_ h2_ g3_) dX9_sorry_5 rfl (Nat.le_of_ble_eq_true rfl) rfl rfl (Nat.le_of_ble_eq_true rfl) ?_
  refine r_if_eq (tgt := 21) K dX9_sorry_8 (by decide) (fun c4_ => ?_) (fun c4_ => ?_)
  · have hf := e_t hf c4_
    refine r_iconst (v := (-1)) K dX9_sorry_21 rfl ?_
    exact r_iret K Z dX9_sorry_22 hf
  · have hf := e_f hf c4_
    refine r_iload_n K dX9_sorry_11 2 rfl rfl ?_
    refine r_if_lt (tgt := 21) K dX9_sorry_12 (by decide) (fun c5_ => ?_) (fun c5_ => ?_)
    · have hf := e_t hf c5_
      refine r_iconst (v := (-1)) K dX9_sorry_21 rfl ?_
      exact r_iret K Z dX9_sorry_22 hf
    · have hf := e_f hf c5_
      refine r_iload_n K dX9_sorry_15 2 rfl rfl ?_
      refine r_bipush (v := 9) K dX9_sorry_16 rfl ?_
      refine r_icmp_lt (tgt := 23) K dX9_sorry_18 (by decide) (fun c6_ => ?_) (fun c6_ => ?_)
      · have hf := e_t hf c6_
        refine r_aload_n K dX9_sorry_23 0 rfl rfl ?_
        refine r_getR (o' := 1) K flX9_10 dX9_sorry_24 rfl rfl rfl ?_
        refine r_iload_n K dX9_sorry_27 1 rfl rfl ?_
        obtain ⟨r7_, h8_, g9_, hf⟩ := e_2 hf
        refine r_callV (av := [.int p0]) (st := []) K lkX9_182 mwX7_isLeft (conX7_isLeft 1 p0 rfl h2_ r7_ h8_ g9_) dX9_sorry_28 rfl (Nat.le_of_ble_eq_true rfl) rfl rfl (Nat.le_of_ble_eq_true rfl) ?_
        refine r_if_ne (tgt := 37) K dX9_sorry_31 (by decide) (fun c10_ => ?_) (fun c10_ => ?_)
        · have hf := e_f hf c10_
          refine r_iconst (v := 0) K dX9_sorry_37 rfl ?_
          refine r_istore_n (lv' := [(3, .int 0), (0, .ref 0), (1, .int p0), (2, .int p1)]) K dX9_sorry_38 rfl (Nat.le_of_ble_eq_true rfl) rfl ?_
          refine r_lv [1, 2, 3, 0] rfl ?_
          exact sX9_sorry_39 K Z p0 p1 FU p0 p1 0 h8_ hf
        · have hf := e_t hf c10_
          refine r_bipush (v := (-2)) K dX9_sorry_34 rfl ?_
          exact r_iret K Z dX9_sorry_36 hf
      · have hf := e_f hf c6_
        refine r_iconst (v := (-1)) K dX9_sorry_21 rfl ?_
        exact r_iret K Z dX9_sorry_22 hf
theorem conX9_sorry {G : GG} (p0 : Int32) (p1 : Int32) (h : AH) (rv : Int32) (h' : AH) (hf : fX9_sorry p0 p1 h = some (rv, h')) : Con G 5 yX9_sorry cX9_sorry 4 (some .int) [.ref 0, .int p0, .int p1] h (some (.int rv)) h' := con_of mwX9_sorry (Nat.le_of_ble_eq_true rfl) (fun E K Z => sX9_sorry K Z p0 p1 h hf)
def fX9_taken (p0 : Int32) (p1 : Int32) (h : AH) : Option (Int32 × AH) :=
  bind2 (fX9_isShelf p0 h) fun r1_ h2_ => if r1_ = 0 then some ((-1), h2_) else bind2 (fX1_isKind p1 h2_) fun r5_ h6_ => if r5_ = 0 then some ((-1), h6_) else if inb p0 6 = true then letV ((rf 46 (ix p0))) fun o10_ => if (h6_.1 o10_ 0) = 0 then some ((-11), h6_) else if (h6_.1 o10_ 0) = 1 then bind2 (fX1_isOfKind (h6_.1 o10_ 1) p1 h6_) fun r15_ h16_ => if r15_ = 0 then some ((-12), h16_) else if inb (h16_.1 o10_ 1) 50 = true then some ((h16_.1 44 (ix (h16_.1 o10_ 1))), h16_) else none else some ((-12), h6_) else none
set_option maxRecDepth 10000 in
theorem sX9_taken {G : GG} {E : EE} {rv : Int32} {h' : AH} (K : OK G E 2 RX9 cX9_taken 4) (Z : RT G E (some .int) (some (.int rv)) h') (p0 : Int32) (p1 : Int32) (h : AH) (hf : fX9_taken p0 p1 h = some (rv, h')) : JJ G E 4 0 [(0, .ref 0), (1, .int p0), (2, .int p1)] [] h := by
  unfold fX9_taken at hf
  refine r_iload_n K dX9_taken_0 1 rfl rfl ?_
  obtain ⟨r1_, h2_, g3_, hf⟩ := e_2 hf
  refine r_callS (av := [.int p0]) (st := []) K lkX9_98 mwX9_isShelf (conX9_isShelf p0 h r1_ h2_ g3_) dX9_taken_1 (Nat.le_of_ble_eq_true rfl) rfl rfl (Nat.le_of_ble_eq_true rfl) ?_
  refine r_if_eq (tgt := 14) K dX9_taken_4 (by decide) (fun c4_ => ?_) (fun c4_ => ?_)
  · have hf := e_t hf c4_
    refine r_iconst (v := (-1)) K dX9_taken_14 rfl ?_
    exact r_iret K Z dX9_taken_15 hf
  · have hf := e_f hf c4_
    refine r_iload_n K dX9_taken_7 2 rfl rfl ?_
    obtain ⟨r5_, h6_, g7_, hf⟩ := e_2 hf
    refine r_callS (av := [.int p1]) (st := []) K lkX9_269 mwX1_isKind (conX1_isKind p1 h2_ r5_ h6_ g7_) dX9_taken_8 (Nat.le_of_ble_eq_true rfl) rfl rfl (Nat.le_of_ble_eq_true rfl) ?_
    refine r_if_ne (tgt := 16) K dX9_taken_11 (by decide) (fun c8_ => ?_) (fun c8_ => ?_)
    · have hf := e_f hf c8_
      refine r_aload_n K dX9_taken_16 0 rfl rfl ?_
      refine r_getR (o' := 46) K flX9_82 dX9_taken_17 rfl rfl rfl ?_
      refine r_iload_n K dX9_taken_20 1 rfl rfl ?_
      obtain ⟨g9_, hf⟩ := e_g hf
      refine r_aald K dX9_taken_21 rfl g9_ ?_
      obtain ⟨o10_, e11_, hf⟩ := e_l hf
      have hk12_ : KD o10_ = (5, 5) := e11_ ▸ (kshelf g9_)
      refine r_nmR e11_ ?_
      refine r_astore_n (lv' := [(3, .ref o10_), (0, .ref 0), (1, .int p0), (2, .int p1)]) K dX9_taken_22 rfl (Nat.le_of_ble_eq_true rfl) rfl ?_
      refine r_aload_n K dX9_taken_23 0 rfl rfl ?_
      refine r_getI K flX9_102 dX9_taken_24 hk12_ rfl ?_
      refine r_if_ne (tgt := 33) K dX9_taken_27 (by decide) (fun c13_ => ?_) (fun c13_ => ?_)
      · have hf := e_f hf c13_
        refine r_aload_n K dX9_taken_33 0 rfl rfl ?_
        refine r_getI K flX9_102 dX9_taken_34 hk12_ rfl ?_
        refine r_iconst (v := 1) K dX9_taken_37 rfl ?_
        refine r_icmp_ne (tgt := 56) K dX9_taken_38 (by decide) (fun c14_ => ?_) (fun c14_ => ?_)
        · have hf := e_f hf c14_
          refine r_bipush (v := (-12)) K dX9_taken_56 rfl ?_
          exact r_iret K Z dX9_taken_58 hf
        · have hf := e_t hf c14_
          refine r_aload_n K dX9_taken_41 1 rfl rfl ?_
          refine r_getR (o' := 43) K flX9_76 dX9_taken_42 rfl rfl rfl ?_
          refine r_aload_n K dX9_taken_45 0 rfl rfl ?_
          refine r_getI K flX9_289 dX9_taken_46 hk12_ rfl ?_
          refine r_iload_n K dX9_taken_49 3 rfl rfl ?_
          obtain ⟨r15_, h16_, g17_, hf⟩ := e_2 hf
          refine r_callV (av := [.int (h6_.1 o10_ 1), .int p1]) (st := []) K lkX9_323 mwX1_isOfKind (conX1_isOfKind (h6_.1 o10_ 1) p1 h6_ r15_ h16_ g17_) dX9_taken_50 rfl (Nat.le_of_ble_eq_true rfl) rfl rfl (Nat.le_of_ble_eq_true rfl) ?_
          refine r_if_ne (tgt := 59) K dX9_taken_53 (by decide) (fun c18_ => ?_) (fun c18_ => ?_)
          · have hf := e_f hf c18_
            refine r_aload_n K dX9_taken_59 1 rfl rfl ?_
            refine r_getR (o' := 43) K flX9_76 dX9_taken_60 rfl rfl rfl ?_
            refine r_getR (o' := 44) K flX9_326 dX9_taken_63 rfl rfl rfl ?_
            refine r_aload_n K dX9_taken_66 0 rfl rfl ?_
            refine r_getI K flX9_289 dX9_taken_67 hk12_ rfl ?_
            obtain ⟨g19_, hf⟩ := e_g hf
            refine r_iald K dX9_taken_70 rfl g19_ ?_
            exact r_iret K Z dX9_taken_71 hf
          · have hf := e_t hf c18_
            refine r_bipush (v := (-12)) K dX9_taken_56 rfl ?_
            exact r_iret K Z dX9_taken_58 hf
      · have hf := e_t hf c13_
        refine r_bipush (v := (-11)) K dX9_taken_30 rfl ?_
        exact r_iret K Z dX9_taken_32 hf
    · have hf := e_t hf c8_
      refine r_iconst (v := (-1)) K dX9_taken_14 rfl ?_
      exact r_iret K Z dX9_taken_15 hf
theorem conX9_taken {G : GG} (p0 : Int32) (p1 : Int32) (h : AH) (rv : Int32) (h' : AH) (hf : fX9_taken p0 p1 h = some (rv, h')) : Con G 2 yX9_taken cX9_taken 4 (some .int) [.ref 0, .int p0, .int p1] h (some (.int rv)) h' := con_of mwX9_taken (Nat.le_of_ble_eq_true rfl) (fun E K Z => sX9_taken K Z p0 p1 h hf)
def fX9_trace (p0 : Int32) (h : AH) : Option (Int32 × AH) :=
  if p0 < 0 then some ((-1), h) else if (h.1 43 3) ≤ p0 then some ((-1), h) else if 24 ≤ p0 then some ((-1), h) else if inb p0 24 = true then some ((h.1 45 (ix p0)), h) else none
set_option maxRecDepth 10000 in
theorem sX9_trace {G : GG} {E : EE} {rv : Int32} {h' : AH} (K : OK G E 0 RX9 cX9_trace 2) (Z : RT G E (some .int) (some (.int rv)) h') (p0 : Int32) (h : AH) (hf : fX9_trace p0 h = some (rv, h')) : JJ G E 2 0 [(0, .ref 0), (1, .int p0)] [] h := by
  unfold fX9_trace at hf
  refine r_iload_n K dX9_trace_0 1 rfl rfl ?_
  refine r_if_lt (tgt := 33) K dX9_trace_1 (by decide) (fun c1_ => ?_) (fun c1_ => ?_)
  · have hf := e_t hf c1_
    refine r_iconst (v := (-1)) K dX9_trace_33 rfl ?_
    exact r_iret K Z dX9_trace_34 hf
  · have hf := e_f hf c1_
    refine r_iload_n K dX9_trace_4 1 rfl rfl ?_
    refine r_aload_n K dX9_trace_5 0 rfl rfl ?_
    refine r_getR (o' := 43) K flX9_76 dX9_trace_6 rfl rfl rfl ?_
    refine r_getI K flX9_280 dX9_trace_9 rfl rfl ?_
    refine r_icmp_ge (tgt := 33) K dX9_trace_12 (by decide) (fun c2_ => ?_) (fun c2_ => ?_)
    · have hf := e_t hf c2_
      refine r_iconst (v := (-1)) K dX9_trace_33 rfl ?_
      exact r_iret K Z dX9_trace_34 hf
    · have hf := e_f hf c2_
      refine r_iload_n K dX9_trace_15 1 rfl rfl ?_
      refine r_bipush (v := 24) K dX9_trace_16 rfl ?_
      refine r_icmp_ge (tgt := 33) K dX9_trace_18 (by decide) (fun c3_ => ?_) (fun c3_ => ?_)
      · have hf := e_t hf c3_
        refine r_iconst (v := (-1)) K dX9_trace_33 rfl ?_
        exact r_iret K Z dX9_trace_34 hf
      · have hf := e_f hf c3_
        refine r_aload_n K dX9_trace_21 0 rfl rfl ?_
        refine r_getR (o' := 43) K flX9_76 dX9_trace_22 rfl rfl rfl ?_
        refine r_getR (o' := 45) K flX9_283 dX9_trace_25 rfl rfl rfl ?_
        refine r_iload_n K dX9_trace_28 1 rfl rfl ?_
        obtain ⟨g4_, hf⟩ := e_g hf
        refine r_iald K dX9_trace_29 rfl g4_ ?_
        refine r_goto (tgt := 34) K dX9_trace_30 (by decide) ?_
        exact r_iret K Z dX9_trace_34 hf
theorem conX9_trace {G : GG} (p0 : Int32) (h : AH) (rv : Int32) (h' : AH) (hf : fX9_trace p0 h = some (rv, h')) : Con G 0 yX9_trace cX9_trace 2 (some .int) [.ref 0, .int p0] h (some (.int rv)) h' := con_of mwX9_trace (Nat.le_of_ble_eq_true rfl) (fun E K Z => sX9_trace K Z p0 h hf)
def fX9_undo (h : AH) : Option (Int32 × AH) :=
  bind2 (fX0_stepBack 1 h) fun r1_ h2_ => some (r1_, h2_)
set_option maxRecDepth 10000 in
theorem sX9_undo {G : GG} {E : EE} {rv : Int32} {h' : AH} (K : OK G E 4 RX9 cX9_undo 1) (Z : RT G E (some .int) (some (.int rv)) h') (h : AH) (hf : fX9_undo h = some (rv, h')) : JJ G E 1 0 [(0, .ref 0)] [] h := by
  unfold fX9_undo at hf
  refine r_aload_n K dX9_undo_0 0 rfl rfl ?_
  refine r_getR (o' := 38) K flX9_69 dX9_undo_1 rfl rfl rfl ?_
  refine r_aload_n K dX9_undo_4 0 rfl rfl ?_
  refine r_getR (o' := 1) K flX9_10 dX9_undo_5 rfl rfl rfl ?_
  obtain ⟨r1_, h2_, g3_, hf⟩ := e_2 hf
  refine r_callV (av := [.ref 1]) (st := []) K lkX9_262 mwX0_stepBack (conX0_stepBack 1 rfl h r1_ h2_ g3_) dX9_undo_8 rfl (Nat.le_of_ble_eq_true rfl) rfl rfl (Nat.le_of_ble_eq_true rfl) ?_
  exact r_iret K Z dX9_undo_11 hf
theorem conX9_undo {G : GG} (h : AH) (rv : Int32) (h' : AH) (hf : fX9_undo h = some (rv, h')) : Con G 4 yX9_undo cX9_undo 1 (some .int) [.ref 0] h (some (.int rv)) h' := con_of mwX9_undo (Nat.le_of_ble_eq_true rfl) (fun E K Z => sX9_undo K Z h hf)
def fX9_upside_122 (p0 : Int32) (Q16 : Int32 → Int32 → Int32 → Int32 → AH → Option (Int32 × AH)) (Q34 : Int32 → Int32 → Int32 → Int32 → Int32 → AH → Option (Int32 × AH)) (x1 : Int32) (x2 : Int32) (x4 : Int32) (x5 : Int32) (x7 : Int32) (s0 : Int32) (s1 : Int32) (h : AH) : Option (Int32 × AH) :=
  letV ((s1 + s0)) fun x28_ => if inb x4 9 = true then if inb x5 9 = true then letV (((h.1 2 (ix x4)) - (h.1 2 (ix x5)))) fun x32_ => if x7 = 0 then if x32_ ≤ 0 then letV ((x2 + 0)) fun x36_ => Q34 x1 x36_ x28_ x4 (x5 + 1) h else letV ((x2 + 1)) fun x38_ => Q34 x1 x38_ x28_ x4 (x5 + 1) h else if 0 ≤ x32_ then letV ((x2 + 0)) fun x41_ => Q34 x1 x41_ x28_ x4 (x5 + 1) h else letV ((x2 + 1)) fun x43_ => Q34 x1 x43_ x28_ x4 (x5 + 1) h else none else none
set_option maxRecDepth 10000 in
theorem sX9_upside_122 {G : GG} {E : EE} {rv : Int32} {h' : AH} (K : OK G E 3 RX9 cX9_upside 9) (Z : RT G E (some .int) (some (.int rv)) h') (p0 : Int32) (Q16 : Int32 → Int32 → Int32 → Int32 → AH → Option (Int32 × AH)) (hQ16 : ∀ (x1 : Int32) (x2 : Int32) (x3 : Int32) (x4 : Int32) (h : AH), Q16 x1 x2 x3 x4 h = some (rv, h') → JJ G E 9 16 [(0, .ref 0), (1, .int x1), (2, .int x2), (3, .int x3), (4, .int x4)] [] h) (Q34 : Int32 → Int32 → Int32 → Int32 → Int32 → AH → Option (Int32 × AH)) (hQ34 : ∀ (x1 : Int32) (x2 : Int32) (x3 : Int32) (x4 : Int32) (x5 : Int32) (h : AH), Q34 x1 x2 x3 x4 x5 h = some (rv, h') → JJ G E 9 34 [(0, .ref 0), (1, .int x1), (2, .int x2), (3, .int x3), (4, .int x4), (5, .int x5)] [] h) (x1 : Int32) (x2 : Int32) (x4 : Int32) (x5 : Int32) (x7 : Int32) (s0 : Int32) (s1 : Int32) (h : AH) (hf : fX9_upside_122 p0 Q16 Q34 x1 x2 x4 x5 x7 s0 s1 h = some (rv, h')) : JJ G E 9 122 [(0, .ref 0), (1, .int x1), (2, .int x2), (4, .int x4), (5, .int x5), (7, .int x7)] [.int s0, .int s1] h := by
  unfold fX9_upside_122 at hf
  refine r_iadd K dX9_upside_122 ?_
  obtain ⟨x28_, e29_, hf⟩ := e_l hf
  refine r_nmI e29_ ?_
  refine r_istore_n (lv' := [(3, .int x28_), (0, .ref 0), (1, .int x1), (2, .int x2), (4, .int x4), (5, .int x5), (7, .int x7)]) K dX9_upside_123 rfl (Nat.le_of_ble_eq_true rfl) rfl ?_
  refine r_aload_n K dX9_upside_124 1 rfl rfl ?_
  refine r_getR (o' := 1) K flX9_10 dX9_upside_125 rfl rfl rfl ?_
  refine r_getR (o' := 2) K flX9_158 dX9_upside_128 rfl rfl rfl ?_
  refine r_iload K dX9_upside_131 4 rfl ?_
  obtain ⟨g30_, hf⟩ := e_g hf
  refine r_iald K dX9_upside_133 rfl g30_ ?_
  refine r_aload_n K dX9_upside_134 1 rfl rfl ?_
  refine r_getR (o' := 1) K flX9_10 dX9_upside_135 rfl rfl rfl ?_
  refine r_getR (o' := 2) K flX9_158 dX9_upside_138 rfl rfl rfl ?_
  refine r_iload K dX9_upside_141 5 rfl ?_
  obtain ⟨g31_, hf⟩ := e_g hf
  refine r_iald K dX9_upside_143 rfl g31_ ?_
  refine r_isub K dX9_upside_144 ?_
  obtain ⟨x32_, e33_, hf⟩ := e_l hf
  refine r_nmI e33_ ?_
  refine r_istore (lv' := [(8, .int x32_), (3, .int x28_), (0, .ref 0), (1, .int x1), (2, .int x2), (4, .int x4), (5, .int x5), (7, .int x7)]) K dX9_upside_145 (Nat.le_of_ble_eq_true rfl) rfl ?_
  refine r_iload_n K dX9_upside_147 4 rfl rfl ?_
  refine r_iload K dX9_upside_148 7 rfl ?_
  refine r_if_eq (tgt := 161) K dX9_upside_150 (by decide) (fun c34_ => ?_) (fun c34_ => ?_)
  · have hf := e_t hf c34_
    refine r_iload K dX9_upside_161 0 rfl ?_
    refine r_if_le (tgt := 170) K dX9_upside_163 (by decide) (fun c35_ => ?_) (fun c35_ => ?_)
    · have hf := e_t hf c35_
      refine r_iconst (v := 0) K dX9_upside_170 rfl ?_
      refine r_iadd K dX9_upside_171 ?_
      obtain ⟨x36_, e37_, hf⟩ := e_l hf
      refine r_nmI e37_ ?_
      refine r_istore_n (lv' := [(2, .int x36_), (8, .int x32_), (3, .int x28_), (0, .ref 0), (1, .int x1), (4, .int x4), (5, .int x5), (7, .int x7)]) K dX9_upside_172 rfl (Nat.le_of_ble_eq_true rfl) rfl ?_
      refine r_iinc (y := 1) (lv' := [(5, .int (x5 + 1)), (2, .int x36_), (8, .int x32_), (3, .int x28_), (0, .ref 0), (1, .int x1), (4, .int x4), (7, .int x7)]) K dX9_upside_173 6 rfl rfl (Nat.le_of_ble_eq_true rfl) rfl ?_
      refine r_goto (tgt := 34) K dX9_upside_176 (by decide) ?_
      refine r_lv [4, 5, 1, 3, 6, 0] rfl ?_
      exact hQ34 x1 x36_ x28_ x4 (x5 + 1) h hf
    · have hf := e_f hf c35_
      refine r_iconst (v := 1) K dX9_upside_166 rfl ?_
      refine r_goto (tgt := 171) K dX9_upside_167 (by decide) ?_
      refine r_iadd K dX9_upside_171 ?_
      obtain ⟨x38_, e39_, hf⟩ := e_l hf
      refine r_nmI e39_ ?_
      refine r_istore_n (lv' := [(2, .int x38_), (8, .int x32_), (3, .int x28_), (0, .ref 0), (1, .int x1), (4, .int x4), (5, .int x5), (7, .int x7)]) K dX9_upside_172 rfl (Nat.le_of_ble_eq_true rfl) rfl ?_
      refine r_iinc (y := 1) (lv' := [(5, .int (x5 + 1)), (2, .int x38_), (8, .int x32_), (3, .int x28_), (0, .ref 0), (1, .int x1), (4, .int x4), (7, .int x7)]) K dX9_upside_173 6 rfl rfl (Nat.le_of_ble_eq_true rfl) rfl ?_
      refine r_goto (tgt := 34) K dX9_upside_176 (by decide) ?_
      refine r_lv [4, 5, 1, 3, 6, 0] rfl ?_
      exact hQ34 x1 x38_ x28_ x4 (x5 + 1) h hf
  · have hf := e_f hf c34_
    refine r_iload K dX9_upside_153 0 rfl ?_
    refine r_if_ge (tgt := 170) K dX9_upside_155 (by decide) (fun c40_ => ?_) (fun c40_ => ?_)
    · have hf := e_t hf c40_
      refine r_iconst (v := 0) K dX9_upside_170 rfl ?_
      refine r_iadd K dX9_upside_171 ?_
      obtain ⟨x41_, e42_, hf⟩ := e_l hf
      refine r_nmI e42_ ?_
      refine r_istore_n (lv' := [(2, .int x41_), (8, .int x32_), (3, .int x28_), (0, .ref 0), (1, .int x1), (4, .int x4), (5, .int x5), (7, .int x7)]) K dX9_upside_172 rfl (Nat.le_of_ble_eq_true rfl) rfl ?_
      refine r_iinc (y := 1) (lv' := [(5, .int (x5 + 1)), (2, .int x41_), (8, .int x32_), (3, .int x28_), (0, .ref 0), (1, .int x1), (4, .int x4), (7, .int x7)]) K dX9_upside_173 6 rfl rfl (Nat.le_of_ble_eq_true rfl) rfl ?_
      refine r_goto (tgt := 34) K dX9_upside_176 (by decide) ?_
      refine r_lv [4, 5, 1, 3, 6, 0] rfl ?_
      exact hQ34 x1 x41_ x28_ x4 (x5 + 1) h hf
    · have hf := e_f hf c40_
      refine r_goto (tgt := 166) K dX9_upside_158 (by decide) ?_
      refine r_iconst (v := 1) K dX9_upside_166 rfl ?_
      refine r_goto (tgt := 171) K dX9_upside_167 (by decide) ?_
      refine r_iadd K dX9_upside_171 ?_
      obtain ⟨x43_, e44_, hf⟩ := e_l hf
      refine r_nmI e44_ ?_
      refine r_istore_n (lv' := [(2, .int x43_), (8, .int x32_), (3, .int x28_), (0, .ref 0), (1, .int x1), (4, .int x4), (5, .int x5), (7, .int x7)]) K dX9_upside_172 rfl (Nat.le_of_ble_eq_true rfl) rfl ?_
      refine r_iinc (y := 1) (lv' := [(5, .int (x5 + 1)), (2, .int x43_), (8, .int x32_), (3, .int x28_), (0, .ref 0), (1, .int x1), (4, .int x4), (7, .int x7)]) K dX9_upside_173 6 rfl rfl (Nat.le_of_ble_eq_true rfl) rfl ?_
      refine r_goto (tgt := 34) K dX9_upside_176 (by decide) ?_
      refine r_lv [4, 5, 1, 3, 6, 0] rfl ?_
      exact hQ34 x1 x43_ x28_ x4 (x5 + 1) h hf
def fX9_upside_109 (p0 : Int32) (Q16 : Int32 → Int32 → Int32 → Int32 → AH → Option (Int32 × AH)) (Q34 : Int32 → Int32 → Int32 → Int32 → Int32 → AH → Option (Int32 × AH)) (x1 : Int32) (x2 : Int32) (x3 : Int32) (x4 : Int32) (x5 : Int32) (x6 : Int32) (s0 : Int32) (h : AH) : Option (Int32 × AH) :=
  if x6 = 0 then fX9_upside_122 p0 Q16 Q34 x1 x2 x4 x5 s0 1 x3 h else fX9_upside_122 p0 Q16 Q34 x1 x2 x4 x5 s0 0 x3 h
set_option maxRecDepth 10000 in
theorem sX9_upside_109 {G : GG} {E : EE} {rv : Int32} {h' : AH} (K : OK G E 3 RX9 cX9_upside 9) (Z : RT G E (some .int) (some (.int rv)) h') (p0 : Int32) (Q16 : Int32 → Int32 → Int32 → Int32 → AH → Option (Int32 × AH)) (hQ16 : ∀ (x1 : Int32) (x2 : Int32) (x3 : Int32) (x4 : Int32) (h : AH), Q16 x1 x2 x3 x4 h = some (rv, h') → JJ G E 9 16 [(0, .ref 0), (1, .int x1), (2, .int x2), (3, .int x3), (4, .int x4)] [] h) (Q34 : Int32 → Int32 → Int32 → Int32 → Int32 → AH → Option (Int32 × AH)) (hQ34 : ∀ (x1 : Int32) (x2 : Int32) (x3 : Int32) (x4 : Int32) (x5 : Int32) (h : AH), Q34 x1 x2 x3 x4 x5 h = some (rv, h') → JJ G E 9 34 [(0, .ref 0), (1, .int x1), (2, .int x2), (3, .int x3), (4, .int x4), (5, .int x5)] [] h) (x1 : Int32) (x2 : Int32) (x3 : Int32) (x4 : Int32) (x5 : Int32) (x6 : Int32) (s0 : Int32) (h : AH) (hf : fX9_upside_109 p0 Q16 Q34 x1 x2 x3 x4 x5 x6 s0 h = some (rv, h')) : JJ G E 9 109 [(0, .ref 0), (1, .int x1), (2, .int x2), (3, .int x3), (4, .int x4), (5, .int x5), (6, .int x6)] [.int s0] h := by
  unfold fX9_upside_109 at hf
  refine r_istore (lv' := [(7, .int s0), (0, .ref 0), (1, .int x1), (2, .int x2), (3, .int x3), (4, .int x4), (5, .int x5), (6, .int x6)]) K dX9_upside_109 (Nat.le_of_ble_eq_true rfl) rfl ?_
  refine r_iload_n K dX9_upside_111 4 rfl rfl ?_
  refine r_iload K dX9_upside_112 7 rfl ?_
  refine r_if_ne (tgt := 121) K dX9_upside_114 (by decide) (fun c27_ => ?_) (fun c27_ => ?_)
  · have hf := e_f hf c27_
    refine r_iconst (v := 0) K dX9_upside_121 rfl ?_
    refine r_lv [1, 2, 3, 5, 6, 0] rfl ?_
    exact sX9_upside_122 K Z p0 Q16 hQ16 Q34 hQ34 x1 x2 x4 x5 s0 0 x3 h hf
  · have hf := e_t hf c27_
    refine r_iconst (v := 1) K dX9_upside_117 rfl ?_
    refine r_goto (tgt := 122) K dX9_upside_118 (by decide) ?_
    refine r_lv [1, 2, 3, 5, 6, 0] rfl ?_
    exact sX9_upside_122 K Z p0 Q16 hQ16 Q34 hQ34 x1 x2 x4 x5 s0 1 x3 h hf
def fX9_upside_34_b (p0 : Int32) (Q16 : Int32 → Int32 → Int32 → Int32 → AH → Option (Int32 × AH)) (Q34 : Int32 → Int32 → Int32 → Int32 → Int32 → AH → Option (Int32 × AH)) (x1 : Int32) (x2 : Int32) (x3 : Int32) (x4 : Int32) (x5 : Int32) (h : AH) : Option (Int32 × AH) :=
  if (h.1 1 9) ≤ x5 then Q16 x1 x2 x3 (x4 + 1) h else bind2 (fX7_isLeft 1 x4 h) fun r10_ h11_ => if r10_ = 0 then Q34 x1 x2 x3 x4 (x5 + 1) h11_ else bind2 (fX7_isLeft 1 x5 h11_) fun r14_ h15_ => if r14_ = 0 then Q34 x1 x2 x3 x4 (x5 + 1) h15_ else bind2 (fX3_readOf 1 x4 h15_) fun r18_ h19_ => bind2 (fX3_readOf 1 x5 h19_) fun r21_ h22_ => letV ((r18_ - r21_)) fun x24_ => if x24_ < 0 then fX9_upside_109 p0 Q16 Q34 x1 x2 x3 x4 x5 x24_ 0 h22_ else fX9_upside_109 p0 Q16 Q34 x1 x2 x3 x4 x5 x24_ 1 h22_
def fX9_upside_34 (p0 : Int32) (Q16 : Int32 → Int32 → Int32 → Int32 → AH → Option (Int32 × AH)) : Nat → Int32 → Int32 → Int32 → Int32 → Int32 → AH → Option (Int32 × AH)
  | 0 => fun _ _ _ _ _ _ => none
  | n + 1 => fX9_upside_34_b p0 Q16 (fX9_upside_34 p0 Q16 n)
set_option maxRecDepth 10000 in
theorem sX9_upside_34_b {G : GG} {E : EE} {rv : Int32} {h' : AH} (K : OK G E 3 RX9 cX9_upside 9) (Z : RT G E (some .int) (some (.int rv)) h') (p0 : Int32) (Q16 : Int32 → Int32 → Int32 → Int32 → AH → Option (Int32 × AH)) (hQ16 : ∀ (x1 : Int32) (x2 : Int32) (x3 : Int32) (x4 : Int32) (h : AH), Q16 x1 x2 x3 x4 h = some (rv, h') → JJ G E 9 16 [(0, .ref 0), (1, .int x1), (2, .int x2), (3, .int x3), (4, .int x4)] [] h) (Q34 : Int32 → Int32 → Int32 → Int32 → Int32 → AH → Option (Int32 × AH)) (hQ34 : ∀ (x1 : Int32) (x2 : Int32) (x3 : Int32) (x4 : Int32) (x5 : Int32) (h : AH), Q34 x1 x2 x3 x4 x5 h = some (rv, h') → JJ G E 9 34 [(0, .ref 0), (1, .int x1), (2, .int x2), (3, .int x3), (4, .int x4), (5, .int x5)] [] h) (x1 : Int32) (x2 : Int32) (x3 : Int32) (x4 : Int32) (x5 : Int32) (h : AH) (hf : fX9_upside_34_b p0 Q16 Q34 x1 x2 x3 x4 x5 h = some (rv, h')) : JJ G E 9 34 [(0, .ref 0), (1, .int x1), (2, .int x2), (3, .int x3), (4, .int x4), (5, .int x5)] [] h := by
  unfold fX9_upside_34_b at hf
  refine r_iload K dX9_upside_34 5 rfl ?_
  refine r_aload_n K dX9_upside_36 0 rfl rfl ?_
  refine r_getR (o' := 1) K flX9_10 dX9_upside_37 rfl rfl rfl ?_
  refine r_getI K flX9_91 dX9_upside_40 rfl rfl ?_
  refine r_icmp_ge (tgt := 179) K dX9_upside_43 (by decide) (fun c9_ => ?_) (fun c9_ => ?_)
  · have hf := e_t hf c9_
    refine r_iinc (y := 1) (lv' := [(4, .int (x4 + 1)), (0, .ref 0), (1, .int x1), (2, .int x2), (3, .int x3), (5, .int x5)]) K dX9_upside_179 4 rfl rfl (Nat.le_of_ble_eq_true rfl) rfl ?_
    refine r_goto (tgt := 16) K dX9_upside_182 (by decide) ?_
    refine r_lv [1, 2, 3, 4, 0] rfl ?_
    exact hQ16 x1 x2 x3 (x4 + 1) h hf
  · have hf := e_f hf c9_
    refine r_aload_n K dX9_upside_46 0 rfl rfl ?_
    refine r_getR (o' := 1) K flX9_10 dX9_upside_47 rfl rfl rfl ?_
    refine r_iload K dX9_upside_50 4 rfl ?_
    obtain ⟨r10_, h11_, g12_, hf⟩ := e_2 hf
    refine r_callV (av := [.int x4]) (st := []) K lkX9_182 mwX7_isLeft (conX7_isLeft 1 x4 rfl h r10_ h11_ g12_) dX9_upside_52 rfl (Nat.le_of_ble_eq_true rfl) rfl rfl (Nat.le_of_ble_eq_true rfl) ?_
    refine r_if_eq (tgt := 173) K dX9_upside_55 (by decide) (fun c13_ => ?_) (fun c13_ => ?_)
    · have hf := e_t hf c13_
      refine r_iinc (y := 1) (lv' := [(5, .int (x5 + 1)), (0, .ref 0), (1, .int x1), (2, .int x2), (3, .int x3), (4, .int x4)]) K dX9_upside_173 5 rfl rfl (Nat.le_of_ble_eq_true rfl) rfl ?_
      refine r_goto (tgt := 34) K dX9_upside_176 (by decide) ?_
      refine r_lv [1, 2, 3, 4, 5, 0] rfl ?_
      exact hQ34 x1 x2 x3 x4 (x5 + 1) h11_ hf
    · have hf := e_f hf c13_
      refine r_aload_n K dX9_upside_58 0 rfl rfl ?_
      refine r_getR (o' := 1) K flX9_10 dX9_upside_59 rfl rfl rfl ?_
      refine r_iload K dX9_upside_62 5 rfl ?_
      obtain ⟨r14_, h15_, g16_, hf⟩ := e_2 hf
      refine r_callV (av := [.int x5]) (st := []) K lkX9_182 mwX7_isLeft (conX7_isLeft 1 x5 rfl h11_ r14_ h15_ g16_) dX9_upside_64 rfl (Nat.le_of_ble_eq_true rfl) rfl rfl (Nat.le_of_ble_eq_true rfl) ?_
      refine r_if_eq (tgt := 173) K dX9_upside_67 (by decide) (fun c17_ => ?_) (fun c17_ => ?_)
      · have hf := e_t hf c17_
        refine r_iinc (y := 1) (lv' := [(5, .int (x5 + 1)), (0, .ref 0), (1, .int x1), (2, .int x2), (3, .int x3), (4, .int x4)]) K dX9_upside_173 5 rfl rfl (Nat.le_of_ble_eq_true rfl) rfl ?_
        refine r_goto (tgt := 34) K dX9_upside_176 (by decide) ?_
        refine r_lv [1, 2, 3, 4, 5, 0] rfl ?_
        exact hQ34 x1 x2 x3 x4 (x5 + 1) h15_ hf
      · have hf := e_f hf c17_
        refine r_aload_n K dX9_upside_70 0 rfl rfl ?_
        refine r_getR (o' := 15) K flX9_34 dX9_upside_71 rfl rfl rfl ?_
        refine r_aload_n K dX9_upside_74 0 rfl rfl ?_
        refine r_getR (o' := 1) K flX9_10 dX9_upside_75 rfl rfl rfl ?_
        refine r_iload K dX9_upside_78 4 rfl ?_
        obtain ⟨r18_, h19_, g20_, hf⟩ := e_2 hf
        refine r_callV (av := [.ref 1, .int x4]) (st := []) K lkX9_154 mwX3_readOf (conX3_readOf 1 x4 rfl h15_ r18_ h19_ g20_) dX9_upside_80 rfl (Nat.le_of_ble_eq_true rfl) rfl rfl (Nat.le_of_ble_eq_true rfl) ?_
        refine r_aload_n K dX9_upside_83 0 rfl rfl ?_
        refine r_getR (o' := 15) K flX9_34 dX9_upside_84 rfl rfl rfl ?_
        refine r_aload_n K dX9_upside_87 0 rfl rfl ?_
        refine r_getR (o' := 1) K flX9_10 dX9_upside_88 rfl rfl rfl ?_
        refine r_iload K dX9_upside_91 5 rfl ?_
        obtain ⟨r21_, h22_, g23_, hf⟩ := e_2 hf
        refine r_callV (av := [.ref 1, .int x5]) (st := [.int r18_]) K lkX9_154 mwX3_readOf (conX3_readOf 1 x5 rfl h19_ r21_ h22_ g23_) dX9_upside_93 rfl (Nat.le_of_ble_eq_true rfl) rfl rfl (Nat.le_of_ble_eq_true rfl) ?_
        refine r_isub K dX9_upside_96 ?_
        obtain ⟨x24_, e25_, hf⟩ := e_l hf
        refine r_nmI e25_ ?_
        refine r_istore (lv' := [(6, .int x24_), (0, .ref 0), (1, .int x1), (2, .int x2), (3, .int x3), (4, .int x4), (5, .int x5)]) K dX9_upside_97 (Nat.le_of_ble_eq_true rfl) rfl ?_
        refine r_iload K dX9_upside_99 0 rfl ?_
        refine r_if_lt (tgt := 108) K dX9_upside_101 (by decide) (fun c26_ => ?_) (fun c26_ => ?_)
        · have hf := e_t hf c26_
          refine r_iconst (v := 0) K dX9_upside_108 rfl ?_
          refine r_lv [1, 2, 3, 4, 5, 6, 0] rfl ?_
          exact sX9_upside_109 K Z p0 Q16 hQ16 Q34 hQ34 x1 x2 x3 x4 x5 x24_ 0 h22_ hf
        · have hf := e_f hf c26_
          refine r_iconst (v := 1) K dX9_upside_104 rfl ?_
          refine r_goto (tgt := 109) K dX9_upside_105 (by decide) ?_
          refine r_lv [1, 2, 3, 4, 5, 6, 0] rfl ?_
          exact sX9_upside_109 K Z p0 Q16 hQ16 Q34 hQ34 x1 x2 x3 x4 x5 x24_ 1 h22_ hf
theorem sX9_upside_34 {G : GG} {E : EE} {rv : Int32} {h' : AH} (K : OK G E 3 RX9 cX9_upside 9) (Z : RT G E (some .int) (some (.int rv)) h') (p0 : Int32) (Q16 : Int32 → Int32 → Int32 → Int32 → AH → Option (Int32 × AH)) (hQ16 : ∀ (x1 : Int32) (x2 : Int32) (x3 : Int32) (x4 : Int32) (h : AH), Q16 x1 x2 x3 x4 h = some (rv, h') → JJ G E 9 16 [(0, .ref 0), (1, .int x1), (2, .int x2), (3, .int x3), (4, .int x4)] [] h) : ∀ (n : Nat) (x1 : Int32) (x2 : Int32) (x3 : Int32) (x4 : Int32) (x5 : Int32) (h : AH), fX9_upside_34 p0 Q16 n x1 x2 x3 x4 x5 h = some (rv, h') → JJ G E 9 34 [(0, .ref 0), (1, .int x1), (2, .int x2), (3, .int x3), (4, .int x4), (5, .int x5)] [] h := by
  intro n
  induction n with
  | zero => intro x1 x2 x3 x4 x5 h hf; cases hf
  | succ n ih => intro x1 x2 x3 x4 x5 h hf; exact sX9_upside_34_b K Z p0 Q16 hQ16 _ (fun x1 x2 x3 x4 x5 h hf => ih x1 x2 x3 x4 x5 h hf) x1 x2 x3 x4 x5 h hf
def fX9_upside_16_b (p0 : Int32) (Q16 : Int32 → Int32 → Int32 → Int32 → AH → Option (Int32 × AH)) (x1 : Int32) (x2 : Int32) (x3 : Int32) (x4 : Int32) (h : AH) : Option (Int32 × AH) :=
  if (h.1 1 9) ≤ x4 then if x1 = 0 then some (x2, h) else some (x3, h) else letV ((x4 + 1)) fun x7_ => fX9_upside_34 p0 Q16 FU x1 x2 x3 x4 x7_ h
def fX9_upside_16 (p0 : Int32) : Nat → Int32 → Int32 → Int32 → Int32 → AH → Option (Int32 × AH)
  | 0 => fun _ _ _ _ _ => none
  | n + 1 => fX9_upside_16_b p0 (fX9_upside_16 p0 n)
set_option maxRecDepth 10000 in
theorem sX9_upside_16_b {G : GG} {E : EE} {rv : Int32} {h' : AH} (K : OK G E 3 RX9 cX9_upside 9) (Z : RT G E (some .int) (some (.int rv)) h') (p0 : Int32) (Q16 : Int32 → Int32 → Int32 → Int32 → AH → Option (Int32 × AH)) (hQ16 : ∀ (x1 : Int32) (x2 : Int32) (x3 : Int32) (x4 : Int32) (h : AH), Q16 x1 x2 x3 x4 h = some (rv, h') → JJ G E 9 16 [(0, .ref 0), (1, .int x1), (2, .int x2), (3, .int x3), (4, .int x4)] [] h) (x1 : Int32) (x2 : Int32) (x3 : Int32) (x4 : Int32) (h : AH) (hf : fX9_upside_16_b p0 Q16 x1 x2 x3 x4 h = some (rv, h')) : JJ G E 9 16 [(0, .ref 0), (1, .int x1), (2, .int x2), (3, .int x3), (4, .int x4)] [] h := by
  unfold fX9_upside_16_b at hf
  refine r_iload K dX9_upside_16 4 rfl ?_
  refine r_aload_n K dX9_upside_18 0 rfl rfl ?_
  refine r_getR (o' := 1) K flX9_10 dX9_upside_19 rfl rfl rfl ?_
  refine r_getI K flX9_91 dX9_upside_22 rfl rfl ?_
  refine r_icmp_ge (tgt := 185) K dX9_upside_25 (by decide) (fun c5_ => ?_) (fun c5_ => ?_)
  · have hf := e_t hf c5_
    refine r_iload_n K dX9_upside_185 1 rfl rfl ?_
    refine r_if_ne (tgt := 193) K dX9_upside_186 (by decide) (fun c6_ => ?_) (fun c6_ => ?_)
    · have hf := e_f hf c6_
      refine r_iload_n K dX9_upside_193 3 rfl rfl ?_
      exact r_iret K Z dX9_upside_194 hf
    · have hf := e_t hf c6_
      refine r_iload_n K dX9_upside_189 2 rfl rfl ?_
      refine r_goto (tgt := 194) K dX9_upside_190 (by decide) ?_
      exact r_iret K Z dX9_upside_194 hf
  · have hf := e_f hf c5_
    refine r_iload K dX9_upside_28 4 rfl ?_
    refine r_iconst (v := 1) K dX9_upside_30 rfl ?_
    refine r_iadd K dX9_upside_31 ?_
    obtain ⟨x7_, e8_, hf⟩ := e_l hf
    refine r_nmI e8_ ?_
    refine r_istore (lv' := [(5, .int x7_), (0, .ref 0), (1, .int x1), (2, .int x2), (3, .int x3), (4, .int x4)]) K dX9_upside_32 (Nat.le_of_ble_eq_true rfl) rfl ?_
    refine r_lv [1, 2, 3, 4, 5, 0] rfl ?_
    exact sX9_upside_34 K Z p0 Q16 hQ16 FU x1 x2 x3 x4 x7_ h hf
theorem sX9_upside_16 {G : GG} {E : EE} {rv : Int32} {h' : AH} (K : OK G E 3 RX9 cX9_upside 9) (Z : RT G E (some .int) (some (.int rv)) h') (p0 : Int32) : ∀ (n : Nat) (x1 : Int32) (x2 : Int32) (x3 : Int32) (x4 : Int32) (h : AH), fX9_upside_16 p0 n x1 x2 x3 x4 h = some (rv, h') → JJ G E 9 16 [(0, .ref 0), (1, .int x1), (2, .int x2), (3, .int x3), (4, .int x4)] [] h := by
  intro n
  induction n with
  | zero => intro x1 x2 x3 x4 h hf; cases hf
  | succ n ih => intro x1 x2 x3 x4 h hf; exact sX9_upside_16_b K Z p0 _ (fun x1 x2 x3 x4 h hf => ih x1 x2 x3 x4 h hf) x1 x2 x3 x4 h hf
def fX9_upside (p0 : Int32) (h : AH) : Option (Int32 × AH) :=
  bind2 (fX9_isChoiceOfTwo p0 h) fun r1_ h2_ => if r1_ = 0 then some ((-1), h2_) else fX9_upside_16 p0 FU p0 0 0 0 h2_
set_option maxRecDepth 10000 in
theorem sX9_upside {G : GG} {E : EE} {rv : Int32} {h' : AH} (K : OK G E 3 RX9 cX9_upside 9) (Z : RT G E (some .int) (some (.int rv)) h') (p0 : Int32) (h : AH) (hf : fX9_upside p0 h = some (rv, h')) : JJ G E 9 0 [(0, .ref 0), (1, .int p0)] [] h := by
  unfold fX9_upside at hf
  refine r_iload_n K dX9_upside_0 1 rfl rfl ?_
  obtain ⟨r1_, h2_, g3_, hf⟩ := e_2 hf
  refine r_callS (av := [.int p0]) (st := []) K lkX9_167 mwX9_isChoiceOfTwo (conX9_isChoiceOfTwo p0 h r1_ h2_ g3_) dX9_upside_1 (Nat.le_of_ble_eq_true rfl) rfl rfl (Nat.le_of_ble_eq_true rfl) ?_
  refine r_if_ne (tgt := 9) K dX9_upside_4 (by decide) (fun c4_ => ?_) (fun c4_ => ?_)
  · have hf := e_f hf c4_
    refine r_iconst (v := 0) K dX9_upside_9 rfl ?_
    refine r_istore_n (lv' := [(2, .int 0), (0, .ref 0), (1, .int p0)]) K dX9_upside_10 rfl (Nat.le_of_ble_eq_true rfl) rfl ?_
    refine r_iconst (v := 0) K dX9_upside_11 rfl ?_
    refine r_istore_n (lv' := [(3, .int 0), (2, .int 0), (0, .ref 0), (1, .int p0)]) K dX9_upside_12 rfl (Nat.le_of_ble_eq_true rfl) rfl ?_
    refine r_iconst (v := 0) K dX9_upside_13 rfl ?_
    refine r_istore (lv' := [(4, .int 0), (3, .int 0), (2, .int 0), (0, .ref 0), (1, .int p0)]) K dX9_upside_14 (Nat.le_of_ble_eq_true rfl) rfl ?_
    refine r_lv [3, 4, 2, 1, 0] rfl ?_
    exact sX9_upside_16 K Z p0 FU p0 0 0 0 h2_ hf
  · have hf := e_t hf c4_
    refine r_iconst (v := (-1)) K dX9_upside_7 rfl ?_
    exact r_iret K Z dX9_upside_8 hf
theorem conX9_upside {G : GG} (p0 : Int32) (h : AH) (rv : Int32) (h' : AH) (hf : fX9_upside p0 h = some (rv, h')) : Con G 3 yX9_upside cX9_upside 9 (some .int) [.ref 0, .int p0] h (some (.int rv)) h' := con_of mwX9_upside (Nat.le_of_ble_eq_true rfl) (fun E K Z => sX9_upside K Z p0 h hf)
def fX9_waits_22_b (p0 : Int32) (Q22 : Int32 → Int32 → Int32 → Int32 → AH → Option (Int32 × AH)) (x1 : Int32) (x2 : Int32) (x3 : Int32) (x4 : Int32) (h : AH) : Option (Int32 × AH) :=
  if x3 ≤ x4 then some (x2, h) else letV ((x2 + (x1 + x4))) fun x9_ => Q22 x1 x9_ x3 (x4 + 1) h
def fX9_waits_22 (p0 : Int32) : Nat → Int32 → Int32 → Int32 → Int32 → AH → Option (Int32 × AH)
  | 0 => fun _ _ _ _ _ => none
  | n + 1 => fX9_waits_22_b p0 (fX9_waits_22 p0 n)
set_option maxRecDepth 10000 in
theorem sX9_waits_22_b {G : GG} {E : EE} {rv : Int32} {h' : AH} (K : OK G E 1 RX9 cX9_waits 5) (Z : RT G E (some .int) (some (.int rv)) h') (p0 : Int32) (Q22 : Int32 → Int32 → Int32 → Int32 → AH → Option (Int32 × AH)) (hQ22 : ∀ (x1 : Int32) (x2 : Int32) (x3 : Int32) (x4 : Int32) (h : AH), Q22 x1 x2 x3 x4 h = some (rv, h') → JJ G E 5 22 [(1, .int x1), (2, .int x2), (3, .int x3), (4, .int x4)] [] h) (x1 : Int32) (x2 : Int32) (x3 : Int32) (x4 : Int32) (h : AH) (hf : fX9_waits_22_b p0 Q22 x1 x2 x3 x4 h = some (rv, h')) : JJ G E 5 22 [(1, .int x1), (2, .int x2), (3, .int x3), (4, .int x4)] [] h := by
  unfold fX9_waits_22_b at hf
  refine r_iload K dX9_waits_22 3 rfl ?_
  refine r_iload_n K dX9_waits_24 2 rfl rfl ?_
  refine r_icmp_ge (tgt := 41) K dX9_waits_25 (by decide) (fun c8_ => ?_) (fun c8_ => ?_)
  · have hf := e_t hf c8_
    refine r_iload_n K dX9_waits_41 1 rfl rfl ?_
    exact r_iret K Z dX9_waits_42 hf
  · have hf := e_f hf c8_
    refine r_iload_n K dX9_waits_28 1 rfl rfl ?_
    refine r_iload_n K dX9_waits_29 0 rfl rfl ?_
    refine r_iload K dX9_waits_30 3 rfl ?_
    refine r_iadd K dX9_waits_32 ?_
    refine r_iadd K dX9_waits_33 ?_
    obtain ⟨x9_, e10_, hf⟩ := e_l hf
    refine r_nmI e10_ ?_
    refine r_istore_n (lv' := [(2, .int x9_), (1, .int x1), (3, .int x3), (4, .int x4)]) K dX9_waits_34 rfl (Nat.le_of_ble_eq_true rfl) rfl ?_
    refine r_iinc (y := 1) (lv' := [(4, .int (x4 + 1)), (2, .int x9_), (1, .int x1), (3, .int x3)]) K dX9_waits_35 3 rfl rfl (Nat.le_of_ble_eq_true rfl) rfl ?_
    refine r_goto (tgt := 22) K dX9_waits_38 (by decide) ?_
    refine r_lv [2, 1, 3, 0] rfl ?_
    exact hQ22 x1 x9_ x3 (x4 + 1) h hf
theorem sX9_waits_22 {G : GG} {E : EE} {rv : Int32} {h' : AH} (K : OK G E 1 RX9 cX9_waits 5) (Z : RT G E (some .int) (some (.int rv)) h') (p0 : Int32) : ∀ (n : Nat) (x1 : Int32) (x2 : Int32) (x3 : Int32) (x4 : Int32) (h : AH), fX9_waits_22 p0 n x1 x2 x3 x4 h = some (rv, h') → JJ G E 5 22 [(1, .int x1), (2, .int x2), (3, .int x3), (4, .int x4)] [] h := by
  intro n
  induction n with
  | zero => intro x1 x2 x3 x4 h hf; cases hf
  | succ n ih => intro x1 x2 x3 x4 h hf; exact sX9_waits_22_b K Z p0 _ (fun x1 x2 x3 x4 h hf => ih x1 x2 x3 x4 h hf) x1 x2 x3 x4 h hf
def fX9_waits (p0 : Int32) (h : AH) : Option (Int32 × AH) :=
  bind2 (fX9_isThought p0 h) fun r1_ h2_ => if r1_ = 0 then some ((-1), h2_) else bind2 (fX7_howManyLeft 1 h2_) fun r5_ h6_ => fX9_waits_22 p0 FU p0 0 r5_ 0 h6_
set_option maxRecDepth 10000 in
theorem sX9_waits {G : GG} {E : EE} {rv : Int32} {h' : AH} (K : OK G E 1 RX9 cX9_waits 5) (Z : RT G E (some .int) (some (.int rv)) h') (p0 : Int32) (h : AH) (hf : fX9_waits p0 h = some (rv, h')) : JJ G E 5 0 [(0, .ref 0), (1, .int p0)] [] h := by
  unfold fX9_waits at hf
  refine r_iload_n K dX9_waits_0 1 rfl rfl ?_
  obtain ⟨r1_, h2_, g3_, hf⟩ := e_2 hf
  refine r_callS (av := [.int p0]) (st := []) K lkX9_146 mwX9_isThought (conX9_isThought p0 h r1_ h2_ g3_) dX9_waits_1 (Nat.le_of_ble_eq_true rfl) rfl rfl (Nat.le_of_ble_eq_true rfl) ?_
  refine r_if_ne (tgt := 9) K dX9_waits_4 (by decide) (fun c4_ => ?_) (fun c4_ => ?_)
  · have hf := e_f hf c4_
    refine r_iconst (v := 0) K dX9_waits_9 rfl ?_
    refine r_istore_n (lv' := [(2, .int 0), (0, .ref 0), (1, .int p0)]) K dX9_waits_10 rfl (Nat.le_of_ble_eq_true rfl) rfl ?_
    refine r_aload_n K dX9_waits_11 1 rfl rfl ?_
    refine r_getR (o' := 1) K flX9_10 dX9_waits_12 rfl rfl rfl ?_
    obtain ⟨r5_, h6_, g7_, hf⟩ := e_2 hf
    refine r_callV (av := []) (st := []) K lkX9_189 mwX7_howManyLeft (conX7_howManyLeft 1 rfl h2_ r5_ h6_ g7_) dX9_waits_15 rfl (Nat.le_of_ble_eq_true rfl) rfl rfl (Nat.le_of_ble_eq_true rfl) ?_
    refine r_istore_n (lv' := [(3, .int r5_), (2, .int 0), (0, .ref 0), (1, .int p0)]) K dX9_waits_18 rfl (Nat.le_of_ble_eq_true rfl) rfl ?_
    refine r_iconst (v := 0) K dX9_waits_19 rfl ?_
    refine r_istore (lv' := [(4, .int 0), (3, .int r5_), (2, .int 0), (0, .ref 0), (1, .int p0)]) K dX9_waits_20 (Nat.le_of_ble_eq_true rfl) rfl ?_
    refine r_lv [4, 2, 1, 0] rfl ?_
    exact sX9_waits_22 K Z p0 FU p0 0 r5_ 0 h6_ hf
  · have hf := e_t hf c4_
    refine r_iconst (v := (-1)) K dX9_waits_7 rfl ?_
    exact r_iret K Z dX9_waits_8 hf
theorem conX9_waits {G : GG} (p0 : Int32) (h : AH) (rv : Int32) (h' : AH) (hf : fX9_waits p0 h = some (rv, h')) : Con G 1 yX9_waits cX9_waits 5 (some .int) [.ref 0, .int p0] h (some (.int rv)) h' := con_of mwX9_waits (Nat.le_of_ble_eq_true rfl) (fun E K Z => sX9_waits K Z p0 h hf)
def fX10_byKind_71 (RR : Nat → List Int32 → AH → Option (Int32 × AH)) (p0 : Int32) (p1 : Int32) (p2 : Int32) (p3 : Int32) (x2 : Int32) (x4 : Int32) (x6 : Int32) (x7 : Int32) (h : AH) : Option (Int32 × AH) :=
  letV (wI h 59 45 ((h.1 59 45) + 1)) fun h10_ => if x7 = 1 then some ((x4 + x2), h10_) else if x7 = 2 then bind2 (RR 1 [x2, 1, x4] h10_) fun r14_ h15_ => bind2 (RR 1 [x2, 2, 1] h15_) fun r17_ h18_ => some ((r14_ - r17_), h18_) else if x7 = 10 then bind2 (RR 1 [x2, 0, x4] h10_) fun r21_ h22_ => some ((r21_ * 2), h22_) else if x7 = 11 then some ((x4 ^^^ x2), h10_) else if x7 = 20 then bind2 (RR 0 [x6, x2, 0, x4] h10_) fun r26_ h27_ => some ((r26_ + 3), h27_) else if x7 = 30 then bind2 (RR 0 [x6, x2, 1, x4] h10_) fun r30_ h31_ => some ((-r30_), h31_) else if x7 = 40 then bind2 (RR 0 [x6, x2, 2, x4] h10_) fun r34_ h35_ => some ((r34_ * 3), h35_) else if x7 = 41 then bind2 (RR 0 [x6, x2, 1, (x4 + 1)] h10_) fun r38_ h39_ => some (r38_, h39_) else if x7 = 50 then bind2 (RR 0 [x6, x2, 2, x4] h10_) fun r42_ h43_ => bind2 (RR 1 [x2, 0, 2] h43_) fun r45_ h46_ => some ((r42_ - r45_), h46_) else if x7 = 60 then bind2 (RR 0 [x6, x2, 3, x4] h10_) fun r49_ h50_ => some ((r49_ ^^^ 5), h50_) else if x7 = 70 then bind2 (RR 0 [x6, x2, 0, x4] h10_) fun r53_ h54_ => some ((r53_ * 2), h54_) else if x7 = 80 then bind2 (RR 0 [x6, x2, 1, x4] h10_) fun r57_ h58_ => bind2 (RR 1 [x2, 2, 2] h58_) fun r60_ h61_ => some ((r57_ + r60_), h61_) else bind2 (RR 0 [x6, x2, 3, x4] h10_) fun r63_ h64_ => some ((r63_ - 1), h64_)
set_option maxRecDepth 10000 in
theorem sX10_byKind_71 {G : GG} {E : EE} {rv : Int32} {h' : AH} {dd : Nat} (hdd : 0 ≤ dd) (K : OK G E (dd + 1) RX10 cX10_byKind 8) (Z : RT G E (some .int) (some (.int rv)) h') (RR : Nat → List Int32 → AH → Option (Int32 × AH)) (hRR : (∀ (z0 : Int32) (z1 : Int32) (z2 : Int32) (z3 : Int32) (h : AH) (r : Int32) (h1 : AH), RR 0 [z0, z1, z2, z3] h = some (r, h1) → Con G dd yX10_byKind cX10_byKind 8 (some .int) [.ref 59, .int z0, .int z1, .int z2, .int z3] h (some (.int r)) h1) ∧ (∀ (z0 : Int32) (z1 : Int32) (z2 : Int32) (h : AH) (r : Int32) (h1 : AH), RR 1 [z0, z1, z2] h = some (r, h1) → Con G dd yX10_does cX10_does 4 (some .int) [.ref 59, .int z0, .int z1, .int z2] h (some (.int r)) h1)) (p0 : Int32) (p1 : Int32) (p2 : Int32) (p3 : Int32) (x2 : Int32) (x4 : Int32) (x6 : Int32) (x7 : Int32) (h : AH) (hf : fX10_byKind_71 RR p0 p1 p2 p3 x2 x4 x6 x7 h = some (rv, h')) : JJ G E 8 71 [(0, .ref 59), (2, .int x2), (4, .int x4), (6, .int x6), (7, .int x7)] [] h := by
  unfold fX10_byKind_71 at hf
  refine r_aload_n K dX10_byKind_71 0 rfl rfl ?_
  refine r_dup K dX10_byKind_72 rfl ?_
  refine r_getI K flX10_294 dX10_byKind_73 rfl rfl ?_
  refine r_iconst (v := 1) K dX10_byKind_76 rfl ?_
  refine r_iadd K dX10_byKind_77 ?_
  obtain ⟨h10_, e11_, hf⟩ := e_l hf
  refine r_putI K fpX10_294 dX10_byKind_78 rfl rfl e11_ ?_
  refine r_iload K dX10_byKind_81 4 rfl ?_
  by_cases c12_ : x7 = 1
  · have hf := e_t hf c12_
    refine r_look (off := 105) (tgt := 188) K dX10_byKind_83 (by decide) (by rw [c12_]; decide) (by decide) ?_
    refine r_iload K dX10_byKind_188 2 rfl ?_
    refine r_iload_n K dX10_byKind_190 1 rfl rfl ?_
    refine r_iadd K dX10_byKind_191 ?_
    exact r_iret K Z dX10_byKind_192 hf
  have hf := e_f hf c12_
  by_cases c13_ : x7 = 2
  · have hf := e_t hf c13_
    refine r_look (off := 110) (tgt := 193) K dX10_byKind_83 (by decide) (by rw [c13_]; decide) (by decide) ?_
    refine r_aload_n K dX10_byKind_193 0 rfl rfl ?_
    refine r_iload_n K dX10_byKind_194 1 rfl rfl ?_
    refine r_iconst (v := 1) K dX10_byKind_195 rfl ?_
    refine r_iload K dX10_byKind_196 2 rfl ?_
    obtain ⟨r14_, h15_, g16_, hf⟩ := e_2 hf
    refine r_callV (av := [.int x2, .int 1, .int x4]) (st := []) K lkX10_297 mwX10_does (hRR.2 x2 1 x4 h10_ r14_ h15_ g16_) dX10_byKind_198 rfl (Nat.le_refl _) rfl rfl (Nat.le_of_ble_eq_true rfl) ?_
    refine r_aload_n K dX10_byKind_201 0 rfl rfl ?_
    refine r_iload_n K dX10_byKind_202 1 rfl rfl ?_
    refine r_iconst (v := 2) K dX10_byKind_203 rfl ?_
    refine r_iconst (v := 1) K dX10_byKind_204 rfl ?_
    obtain ⟨r17_, h18_, g19_, hf⟩ := e_2 hf
    refine r_callV (av := [.int x2, .int 2, .int 1]) (st := [.int r14_]) K lkX10_297 mwX10_does (hRR.2 x2 2 1 h15_ r17_ h18_ g19_) dX10_byKind_205 rfl (Nat.le_refl _) rfl rfl (Nat.le_of_ble_eq_true rfl) ?_
    refine r_isub K dX10_byKind_208 ?_
    exact r_iret K Z dX10_byKind_209 hf
  have hf := e_f hf c13_
  by_cases c20_ : x7 = 10
  · have hf := e_t hf c20_
    refine r_look (off := 127) (tgt := 210) K dX10_byKind_83 (by decide) (by rw [c20_]; decide) (by decide) ?_
    refine r_aload_n K dX10_byKind_210 0 rfl rfl ?_
    refine r_iload_n K dX10_byKind_211 1 rfl rfl ?_
    refine r_iconst (v := 0) K dX10_byKind_212 rfl ?_
    refine r_iload K dX10_byKind_213 2 rfl ?_
    obtain ⟨r21_, h22_, g23_, hf⟩ := e_2 hf
    refine r_callV (av := [.int x2, .int 0, .int x4]) (st := []) K lkX10_297 mwX10_does (hRR.2 x2 0 x4 h10_ r21_ h22_ g23_) dX10_byKind_215 rfl (Nat.le_refl _) rfl rfl (Nat.le_of_ble_eq_true rfl) ?_
    refine r_iconst (v := 2) K dX10_byKind_218 rfl ?_
    refine r_imul K dX10_byKind_219 ?_
    exact r_iret K Z dX10_byKind_220 hf
  have hf := e_f hf c20_
  by_cases c24_ : x7 = 11
  · have hf := e_t hf c24_
    refine r_look (off := 138) (tgt := 221) K dX10_byKind_83 (by decide) (by rw [c24_]; decide) (by decide) ?_
    refine r_iload K dX10_byKind_221 2 rfl ?_
    refine r_iload_n K dX10_byKind_223 1 rfl rfl ?_
    refine r_ixor K dX10_byKind_224 ?_
    exact r_iret K Z dX10_byKind_225 hf
  have hf := e_f hf c24_
  by_cases c25_ : x7 = 20
  · have hf := e_t hf c25_
    refine r_look (off := 143) (tgt := 226) K dX10_byKind_83 (by decide) (by rw [c25_]; decide) (by decide) ?_
    refine r_aload_n K dX10_byKind_226 0 rfl rfl ?_
    refine r_iload K dX10_byKind_227 3 rfl ?_
    refine r_iload_n K dX10_byKind_229 1 rfl rfl ?_
    refine r_iconst (v := 0) K dX10_byKind_230 rfl ?_
    refine r_iload K dX10_byKind_231 2 rfl ?_
    obtain ⟨r26_, h27_, g28_, hf⟩ := e_2 hf
    refine r_callV (av := [.int x6, .int x2, .int 0, .int x4]) (st := []) K lkX10_291 mwX10_byKind (hRR.1 x6 x2 0 x4 h10_ r26_ h27_ g28_) dX10_byKind_233 rfl (Nat.le_refl _) rfl rfl (Nat.le_of_ble_eq_true rfl) ?_
    refine r_iconst (v := 3) K dX10_byKind_236 rfl ?_
    refine r_iadd K dX10_byKind_237 ?_
    exact r_iret K Z dX10_byKind_238 hf
  have hf := e_f hf c25_
  by_cases c29_ : x7 = 30
  · have hf := e_t hf c29_
    refine r_look (off := 156) (tgt := 239) K dX10_byKind_83 (by decide) (by rw [c29_]; decide) (by decide) ?_
    refine r_aload_n K dX10_byKind_239 0 rfl rfl ?_
    refine r_iload K dX10_byKind_240 3 rfl ?_
    refine r_iload_n K dX10_byKind_242 1 rfl rfl ?_
    refine r_iconst (v := 1) K dX10_byKind_243 rfl ?_
    refine r_iload K dX10_byKind_244 2 rfl ?_
    obtain ⟨r30_, h31_, g32_, hf⟩ := e_2 hf
    refine r_callV (av := [.int x6, .int x2, .int 1, .int x4]) (st := []) K lkX10_291 mwX10_byKind (hRR.1 x6 x2 1 x4 h10_ r30_ h31_ g32_) dX10_byKind_246 rfl (Nat.le_refl _) rfl rfl (Nat.le_of_ble_eq_true rfl) ?_
    refine r_ineg K dX10_byKind_249 ?_
    exact r_iret K Z dX10_byKind_250 hf
  have hf := e_f hf c29_
  by_cases c33_ : x7 = 40
  · have hf := e_t hf c33_
    refine r_look (off := 168) (tgt := 251) K dX10_byKind_83 (by decide) (by rw [c33_]; decide) (by decide) ?_
    refine r_aload_n K dX10_byKind_251 0 rfl rfl ?_
    refine r_iload K dX10_byKind_252 3 rfl ?_
    refine r_iload_n K dX10_byKind_254 1 rfl rfl ?_
    refine r_iconst (v := 2) K dX10_byKind_255 rfl ?_
    refine r_iload K dX10_byKind_256 2 rfl ?_
    obtain ⟨r34_, h35_, g36_, hf⟩ := e_2 hf
    refine r_callV (av := [.int x6, .int x2, .int 2, .int x4]) (st := []) K lkX10_291 mwX10_byKind (hRR.1 x6 x2 2 x4 h10_ r34_ h35_ g36_) dX10_byKind_258 rfl (Nat.le_refl _) rfl rfl (Nat.le_of_ble_eq_true rfl) ?_
    refine r_iconst (v := 3) K dX10_byKind_261 rfl ?_
    refine r_imul K dX10_byKind_262 ?_
    exact r_iret K Z dX10_byKind_263 hf
  have hf := e_f hf c33_
  by_cases c37_ : x7 = 41
  · have hf := e_t hf c37_
    refine r_look (off := 181) (tgt := 264) K dX10_byKind_83 (by decide) (by rw [c37_]; decide) (by decide) ?_
    refine r_aload_n K dX10_byKind_264 0 rfl rfl ?_
    refine r_iload K dX10_byKind_265 3 rfl ?_
    refine r_iload_n K dX10_byKind_267 1 rfl rfl ?_
    refine r_iconst (v := 1) K dX10_byKind_268 rfl ?_
    refine r_iload K dX10_byKind_269 2 rfl ?_
    refine r_iconst (v := 1) K dX10_byKind_271 rfl ?_
    refine r_iadd K dX10_byKind_272 ?_
    obtain ⟨r38_, h39_, g40_, hf⟩ := e_2 hf
    refine r_callV (av := [.int x6, .int x2, .int 1, .int (x4 + 1)]) (st := []) K lkX10_291 mwX10_byKind (hRR.1 x6 x2 1 (x4 + 1) h10_ r38_ h39_ g40_) dX10_byKind_273 rfl (Nat.le_refl _) rfl rfl (Nat.le_of_ble_eq_true rfl) ?_
    exact r_iret K Z dX10_byKind_276 hf
  have hf := e_f hf c37_
  by_cases c41_ : x7 = 50
  · have hf := e_t hf c41_
    refine r_look (off := 194) (tgt := 277) K dX10_byKind_83 (by decide) (by rw [c41_]; decide) (by decide) ?_
    refine r_aload_n K dX10_byKind_277 0 rfl rfl ?_
    refine r_iload K dX10_byKind_278 3 rfl ?_
    refine r_iload_n K dX10_byKind_280 1 rfl rfl ?_
    refine r_iconst (v := 2) K dX10_byKind_281 rfl ?_
    refine r_iload K dX10_byKind_282 2 rfl ?_
    obtain ⟨r42_, h43_, g44_, hf⟩ := e_2 hf
    refine r_callV (av := [.int x6, .int x2, .int 2, .int x4]) (st := []) K lkX10_291 mwX10_byKind (hRR.1 x6 x2 2 x4 h10_ r42_ h43_ g44_) dX10_byKind_284 rfl (Nat.le_refl _) rfl rfl (Nat.le_of_ble_eq_true rfl) ?_
    refine r_aload_n K dX10_byKind_287 0 rfl rfl ?_
    refine r_iload_n K dX10_byKind_288 1 rfl rfl ?_
    refine r_iconst (v := 0) K dX10_byKind_289 rfl ?_
    refine r_iconst (v := 2) K dX10_byKind_290 rfl ?_
    obtain ⟨r45_, h46_, g47_, hf⟩ := e_2 hf
    refine r_callV (av := [.int x2, .int 0, .int 2]) (st := [.int r42_]) K lkX10_297 mwX10_does (hRR.2 x2 0 2 h43_ r45_ h46_ g47_) dX10_byKind_291 rfl (Nat.le_refl _) rfl rfl (Nat.le_of_ble_eq_true rfl) ?_
    refine r_isub K dX10_byKind_294 ?_
    exact r_iret K Z dX10_byKind_295 hf
  have hf := e_f hf c41_
  by_cases c48_ : x7 = 60
  · have hf := e_t hf c48_
    refine r_look (off := 213) (tgt := 296) K dX10_byKind_83 (by decide) (by rw [c48_]; decide) (by decide) ?_
    refine r_aload_n K dX10_byKind_296 0 rfl rfl ?_
    refine r_iload K dX10_byKind_297 3 rfl ?_
    refine r_iload_n K dX10_byKind_299 1 rfl rfl ?_
    refine r_iconst (v := 3) K dX10_byKind_300 rfl ?_
    refine r_iload K dX10_byKind_301 2 rfl ?_
    obtain ⟨r49_, h50_, g51_, hf⟩ := e_2 hf
    refine r_callV (av := [.int x6, .int x2, .int 3, .int x4]) (st := []) K lkX10_291 mwX10_byKind (hRR.1 x6 x2 3 x4 h10_ r49_ h50_ g51_) dX10_byKind_303 rfl (Nat.le_refl _) rfl rfl (Nat.le_of_ble_eq_true rfl) ?_
    refine r_iconst (v := 5) K dX10_byKind_306 rfl ?_
    refine r_ixor K dX10_byKind_307 ?_
    exact r_iret K Z dX10_byKind_308 hf
  have hf := e_f hf c48_
  by_cases c52_ : x7 = 70
  · have hf := e_t hf c52_
    refine r_look (off := 226) (tgt := 309) K dX10_byKind_83 (by decide) (by rw [c52_]; decide) (by decide) ?_
    refine r_aload_n K dX10_byKind_309 0 rfl rfl ?_
    refine r_iload K dX10_byKind_310 3 rfl ?_
    refine r_iload_n K dX10_byKind_312 1 rfl rfl ?_
    refine r_iconst (v := 0) K dX10_byKind_313 rfl ?_
    refine r_iload K dX10_byKind_314 2 rfl ?_
    obtain ⟨r53_, h54_, g55_, hf⟩ := e_2 hf
    refine r_callV (av := [.int x6, .int x2, .int 0, .int x4]) (st := []) K lkX10_291 mwX10_byKind (hRR.1 x6 x2 0 x4 h10_ r53_ h54_ g55_) dX10_byKind_316 rfl (Nat.le_refl _) rfl rfl (Nat.le_of_ble_eq_true rfl) ?_
    refine r_iconst (v := 2) K dX10_byKind_319 rfl ?_
    refine r_imul K dX10_byKind_320 ?_
    exact r_iret K Z dX10_byKind_321 hf
  have hf := e_f hf c52_
  by_cases c56_ : x7 = 80
  · have hf := e_t hf c56_
    refine r_look (off := 239) (tgt := 322) K dX10_byKind_83 (by decide) (by rw [c56_]; decide) (by decide) ?_
    refine r_aload_n K dX10_byKind_322 0 rfl rfl ?_
    refine r_iload K dX10_byKind_323 3 rfl ?_
    refine r_iload_n K dX10_byKind_325 1 rfl rfl ?_
    refine r_iconst (v := 1) K dX10_byKind_326 rfl ?_
    refine r_iload K dX10_byKind_327 2 rfl ?_
    obtain ⟨r57_, h58_, g59_, hf⟩ := e_2 hf
    refine r_callV (av := [.int x6, .int x2, .int 1, .int x4]) (st := []) K lkX10_291 mwX10_byKind (hRR.1 x6 x2 1 x4 h10_ r57_ h58_ g59_) dX10_byKind_329 rfl (Nat.le_refl _) rfl rfl (Nat.le_of_ble_eq_true rfl) ?_
    refine r_aload_n K dX10_byKind_332 0 rfl rfl ?_
    refine r_iload_n K dX10_byKind_333 1 rfl rfl ?_
    refine r_iconst (v := 2) K dX10_byKind_334 rfl ?_
    refine r_iconst (v := 2) K dX10_byKind_335 rfl ?_
    obtain ⟨r60_, h61_, g62_, hf⟩ := e_2 hf
    refine r_callV (av := [.int x2, .int 2, .int 2]) (st := [.int r57_]) K lkX10_297 mwX10_does (hRR.2 x2 2 2 h58_ r60_ h61_ g62_) dX10_byKind_336 rfl (Nat.le_refl _) rfl rfl (Nat.le_of_ble_eq_true rfl) ?_
    refine r_iadd K dX10_byKind_339 ?_
    exact r_iret K Z dX10_byKind_340 hf
  have hf := e_f hf c56_
  refine r_look (off := 258) (tgt := 341) K dX10_byKind_83 (by decide) ((lv_osw c12_ (by decide)).trans ((lv_osw c13_ (by decide)).trans ((lv_osw c20_ (by decide)).trans ((lv_osw c24_ (by decide)).trans ((lv_osw c25_ (by decide)).trans ((lv_osw c29_ (by decide)).trans ((lv_osw c33_ (by decide)).trans ((lv_osw c37_ (by decide)).trans ((lv_osw c41_ (by decide)).trans ((lv_osw c48_ (by decide)).trans ((lv_osw c52_ (by decide)).trans ((lv_osw c56_ (by decide)).trans (rfl))))))))))))) (by decide) ?_
  refine r_aload_n K dX10_byKind_341 0 rfl rfl ?_
  refine r_iload K dX10_byKind_342 3 rfl ?_
  refine r_iload_n K dX10_byKind_344 1 rfl rfl ?_
  refine r_iconst (v := 3) K dX10_byKind_345 rfl ?_
  refine r_iload K dX10_byKind_346 2 rfl ?_
  obtain ⟨r63_, h64_, g65_, hf⟩ := e_2 hf
  refine r_callV (av := [.int x6, .int x2, .int 3, .int x4]) (st := []) K lkX10_291 mwX10_byKind (hRR.1 x6 x2 3 x4 h10_ r63_ h64_ g65_) dX10_byKind_348 rfl (Nat.le_refl _) rfl rfl (Nat.le_of_ble_eq_true rfl) ?_
  refine r_iconst (v := 1) K dX10_byKind_351 rfl ?_
  refine r_isub K dX10_byKind_352 ?_
  exact r_iret K Z dX10_byKind_353 hf
def fX10_byKind_3_b (RR : Nat → List Int32 → AH → Option (Int32 × AH)) (p0 : Int32) (p1 : Int32) (p2 : Int32) (p3 : Int32) (Q3 : Int32 → Int32 → Int32 → Int32 → AH → Option (Int32 × AH)) (x2 : Int32) (x3 : Int32) (x4 : Int32) (x5 : Int32) (h : AH) : Option (Int32 × AH) :=
  if inb ((4 * x5) + x3) 32 = true then if (h.1 83 (ix ((4 * x5) + x3))) = 0 then if inb x5 8 = true then letV ((h.1 82 (ix x5))) fun x70_ => Q3 x2 x3 x4 x70_ h else none else if inb x5 8 = true then letV ((h.1 82 (ix x5))) fun x4_ => letV ((h.1 83 (ix ((4 * x5) + x3)))) fun x7_ => if 24 ≤ (h.1 59 45) then fX10_byKind_71 RR p0 p1 p2 p3 x2 x4 x4_ x7_ h else if inb (h.1 59 45) 24 = true then letV (wI h 85 (ix (h.1 59 45)) x7_) fun h67_ => fX10_byKind_71 RR p0 p1 p2 p3 x2 x4 x4_ x7_ h67_ else none else none else none
def fX10_byKind_3 (RR : Nat → List Int32 → AH → Option (Int32 × AH)) (p0 : Int32) (p1 : Int32) (p2 : Int32) (p3 : Int32) : Nat → Int32 → Int32 → Int32 → Int32 → AH → Option (Int32 × AH)
  | 0 => fun _ _ _ _ _ => none
  | n + 1 => fX10_byKind_3_b RR p0 p1 p2 p3 (fX10_byKind_3 RR p0 p1 p2 p3 n)
set_option maxRecDepth 10000 in
theorem sX10_byKind_3_b {G : GG} {E : EE} {rv : Int32} {h' : AH} {dd : Nat} (hdd : 0 ≤ dd) (K : OK G E (dd + 1) RX10 cX10_byKind 8) (Z : RT G E (some .int) (some (.int rv)) h') (RR : Nat → List Int32 → AH → Option (Int32 × AH)) (hRR : (∀ (z0 : Int32) (z1 : Int32) (z2 : Int32) (z3 : Int32) (h : AH) (r : Int32) (h1 : AH), RR 0 [z0, z1, z2, z3] h = some (r, h1) → Con G dd yX10_byKind cX10_byKind 8 (some .int) [.ref 59, .int z0, .int z1, .int z2, .int z3] h (some (.int r)) h1) ∧ (∀ (z0 : Int32) (z1 : Int32) (z2 : Int32) (h : AH) (r : Int32) (h1 : AH), RR 1 [z0, z1, z2] h = some (r, h1) → Con G dd yX10_does cX10_does 4 (some .int) [.ref 59, .int z0, .int z1, .int z2] h (some (.int r)) h1)) (p0 : Int32) (p1 : Int32) (p2 : Int32) (p3 : Int32) (Q3 : Int32 → Int32 → Int32 → Int32 → AH → Option (Int32 × AH)) (hQ3 : ∀ (x2 : Int32) (x3 : Int32) (x4 : Int32) (x5 : Int32) (h : AH), Q3 x2 x3 x4 x5 h = some (rv, h') → JJ G E 8 3 [(0, .ref 59), (2, .int x2), (3, .int x3), (4, .int x4), (5, .int x5)] [] h) (x2 : Int32) (x3 : Int32) (x4 : Int32) (x5 : Int32) (h : AH) (hf : fX10_byKind_3_b RR p0 p1 p2 p3 Q3 x2 x3 x4 x5 h = some (rv, h')) : JJ G E 8 3 [(0, .ref 59), (2, .int x2), (3, .int x3), (4, .int x4), (5, .int x5)] [] h := by
  unfold fX10_byKind_3_b at hf
  refine r_aload_n K dX10_byKind_3 0 rfl rfl ?_
  refine r_getR (o' := 83) K flX10_85 dX10_byKind_4 rfl rfl rfl ?_
  refine r_iconst (v := 4) K dX10_byKind_7 rfl ?_
  refine r_iload K dX10_byKind_8 4 rfl ?_
  refine r_imul K dX10_byKind_10 ?_
  refine r_iload_n K dX10_byKind_11 2 rfl rfl ?_
  refine r_iadd K dX10_byKind_12 ?_
  obtain ⟨g1_, hf⟩ := e_g hf
  refine r_iald K dX10_byKind_13 rfl g1_ ?_
  refine r_if_ne (tgt := 29) K dX10_byKind_14 (by decide) (fun c2_ => ?_) (fun c2_ => ?_)
  · have hf := e_f hf c2_
    refine r_aload_n K dX10_byKind_29 0 rfl rfl ?_
    refine r_getR (o' := 82) K flX10_82 dX10_byKind_30 rfl rfl rfl ?_
    refine r_iload K dX10_byKind_33 4 rfl ?_
    obtain ⟨g3_, hf⟩ := e_g hf
    refine r_iald K dX10_byKind_35 rfl g3_ ?_
    obtain ⟨x4_, e5_, hf⟩ := e_l hf
    refine r_nmI e5_ ?_
    refine r_istore (lv' := [(6, .int x4_), (0, .ref 59), (2, .int x2), (3, .int x3), (4, .int x4), (5, .int x5)]) K dX10_byKind_36 (Nat.le_of_ble_eq_true rfl) rfl ?_
    refine r_aload_n K dX10_byKind_38 1 rfl rfl ?_
    refine r_getR (o' := 83) K flX10_85 dX10_byKind_39 rfl rfl rfl ?_
    refine r_iconst (v := 4) K dX10_byKind_42 rfl ?_
    refine r_iload K dX10_byKind_43 5 rfl ?_
    refine r_imul K dX10_byKind_45 ?_
    refine r_iload_n K dX10_byKind_46 3 rfl rfl ?_
    refine r_iadd K dX10_byKind_47 ?_
    refine r_iald K dX10_byKind_48 rfl g1_ ?_
    obtain ⟨x7_, e8_, hf⟩ := e_l hf
    refine r_nmI e8_ ?_
    refine r_istore (lv' := [(7, .int x7_), (6, .int x4_), (0, .ref 59), (2, .int x2), (3, .int x3), (4, .int x4), (5, .int x5)]) K dX10_byKind_49 (Nat.le_of_ble_eq_true rfl) rfl ?_
    refine r_aload_n K dX10_byKind_51 2 rfl rfl ?_
    refine r_getI K flX10_294 dX10_byKind_52 rfl rfl ?_
    refine r_bipush (v := 24) K dX10_byKind_55 rfl ?_
    refine r_icmp_ge (tgt := 71) K dX10_byKind_57 (by decide) (fun c9_ => ?_) (fun c9_ => ?_)
    · have hf := e_t hf c9_
      refine r_lv [2, 3, 5, 1, 0] rfl ?_
      exact sX10_byKind_71 hdd K Z RR hRR p0 p1 p2 p3 x2 x4 x4_ x7_ h hf
    · have hf := e_f hf c9_
      refine r_aload_n K dX10_byKind_60 2 rfl rfl ?_
      refine r_getR (o' := 85) K flX10_91 dX10_byKind_61 rfl rfl rfl ?_
      refine r_aload_n K dX10_byKind_64 2 rfl rfl ?_
      refine r_getI K flX10_294 dX10_byKind_65 rfl rfl ?_
      refine r_iload K dX10_byKind_68 0 rfl ?_
      obtain ⟨g66_, hf⟩ := e_g hf
      obtain ⟨h67_, e68_, hf⟩ := e_l hf
      refine r_iast K dX10_byKind_70 rfl g66_ e68_ ?_
      refine r_lv [2, 3, 5, 1, 0] rfl ?_
      exact sX10_byKind_71 hdd K Z RR hRR p0 p1 p2 p3 x2 x4 x4_ x7_ h67_ hf
  · have hf := e_t hf c2_
    refine r_aload_n K dX10_byKind_17 0 rfl rfl ?_
    refine r_getR (o' := 82) K flX10_82 dX10_byKind_18 rfl rfl rfl ?_
    refine r_iload K dX10_byKind_21 4 rfl ?_
    obtain ⟨g69_, hf⟩ := e_g hf
    refine r_iald K dX10_byKind_23 rfl g69_ ?_
    obtain ⟨x70_, e71_, hf⟩ := e_l hf
    refine r_nmI e71_ ?_
    refine r_istore (lv' := [(5, .int x70_), (0, .ref 59), (2, .int x2), (3, .int x3), (4, .int x4)]) K dX10_byKind_24 (Nat.le_of_ble_eq_true rfl) rfl ?_
    refine r_goto (tgt := 3) K dX10_byKind_26 (by decide) ?_
    refine r_lv [1, 2, 3, 4, 0] rfl ?_
    exact hQ3 x2 x3 x4 x70_ h hf
theorem sX10_byKind_3 {G : GG} {E : EE} {rv : Int32} {h' : AH} {dd : Nat} (hdd : 0 ≤ dd) (K : OK G E (dd + 1) RX10 cX10_byKind 8) (Z : RT G E (some .int) (some (.int rv)) h') (RR : Nat → List Int32 → AH → Option (Int32 × AH)) (hRR : (∀ (z0 : Int32) (z1 : Int32) (z2 : Int32) (z3 : Int32) (h : AH) (r : Int32) (h1 : AH), RR 0 [z0, z1, z2, z3] h = some (r, h1) → Con G dd yX10_byKind cX10_byKind 8 (some .int) [.ref 59, .int z0, .int z1, .int z2, .int z3] h (some (.int r)) h1) ∧ (∀ (z0 : Int32) (z1 : Int32) (z2 : Int32) (h : AH) (r : Int32) (h1 : AH), RR 1 [z0, z1, z2] h = some (r, h1) → Con G dd yX10_does cX10_does 4 (some .int) [.ref 59, .int z0, .int z1, .int z2] h (some (.int r)) h1)) (p0 : Int32) (p1 : Int32) (p2 : Int32) (p3 : Int32) : ∀ (n : Nat) (x2 : Int32) (x3 : Int32) (x4 : Int32) (x5 : Int32) (h : AH), fX10_byKind_3 RR p0 p1 p2 p3 n x2 x3 x4 x5 h = some (rv, h') → JJ G E 8 3 [(0, .ref 59), (2, .int x2), (3, .int x3), (4, .int x4), (5, .int x5)] [] h := by
  intro n
  induction n with
  | zero => intro x2 x3 x4 x5 h hf; cases hf
  | succ n ih => intro x2 x3 x4 x5 h hf; exact sX10_byKind_3_b hdd K Z RR hRR p0 p1 p2 p3 _ (fun x2 x3 x4 x5 h hf => ih x2 x3 x4 x5 h hf) x2 x3 x4 x5 h hf
def fX10_byKind (RR : Nat → List Int32 → AH → Option (Int32 × AH)) (p0 : Int32) (p1 : Int32) (p2 : Int32) (p3 : Int32) (h : AH) : Option (Int32 × AH) :=
  fX10_byKind_3 RR p0 p1 p2 p3 FU p1 p2 p3 p0 h
set_option maxRecDepth 10000 in
theorem sX10_byKind {G : GG} {E : EE} {rv : Int32} {h' : AH} {dd : Nat} (hdd : 0 ≤ dd) (K : OK G E (dd + 1) RX10 cX10_byKind 8) (Z : RT G E (some .int) (some (.int rv)) h') (RR : Nat → List Int32 → AH → Option (Int32 × AH)) (hRR : (∀ (z0 : Int32) (z1 : Int32) (z2 : Int32) (z3 : Int32) (h : AH) (r : Int32) (h1 : AH), RR 0 [z0, z1, z2, z3] h = some (r, h1) → Con G dd yX10_byKind cX10_byKind 8 (some .int) [.ref 59, .int z0, .int z1, .int z2, .int z3] h (some (.int r)) h1) ∧ (∀ (z0 : Int32) (z1 : Int32) (z2 : Int32) (h : AH) (r : Int32) (h1 : AH), RR 1 [z0, z1, z2] h = some (r, h1) → Con G dd yX10_does cX10_does 4 (some .int) [.ref 59, .int z0, .int z1, .int z2] h (some (.int r)) h1)) (p0 : Int32) (p1 : Int32) (p2 : Int32) (p3 : Int32) (h : AH) (hf : fX10_byKind RR p0 p1 p2 p3 h = some (rv, h')) : JJ G E 8 0 [(0, .ref 59), (1, .int p0), (2, .int p1), (3, .int p2), (4, .int p3)] [] h := by
  unfold fX10_byKind at hf
  refine r_iload_n K dX10_byKind_0 1 rfl rfl ?_
  refine r_istore (lv' := [(5, .int p0), (0, .ref 59), (1, .int p0), (2, .int p1), (3, .int p2), (4, .int p3)]) K dX10_byKind_1 (Nat.le_of_ble_eq_true rfl) rfl ?_
  refine r_lv [1, 3, 4, 5, 0] rfl ?_
  exact sX10_byKind_3 hdd K Z RR hRR p0 p1 p2 p3 FU p1 p2 p3 p0 h hf
def fX10_does (RR : Nat → List Int32 → AH → Option (Int32 × AH)) (p0 : Int32) (p1 : Int32) (p2 : Int32) (h : AH) : Option (Int32 × AH) :=
  if inb p0 50 = true then bind2 (RR 0 [(h.1 84 (ix p0)), p0, p1, p2] h) fun r2_ h3_ => some (r2_, h3_) else none
set_option maxRecDepth 10000 in
theorem sX10_does {G : GG} {E : EE} {rv : Int32} {h' : AH} {dd : Nat} (hdd : 0 ≤ dd) (K : OK G E (dd + 1) RX10 cX10_does 4) (Z : RT G E (some .int) (some (.int rv)) h') (RR : Nat → List Int32 → AH → Option (Int32 × AH)) (hRR : (∀ (z0 : Int32) (z1 : Int32) (z2 : Int32) (z3 : Int32) (h : AH) (r : Int32) (h1 : AH), RR 0 [z0, z1, z2, z3] h = some (r, h1) → Con G dd yX10_byKind cX10_byKind 8 (some .int) [.ref 59, .int z0, .int z1, .int z2, .int z3] h (some (.int r)) h1) ∧ (∀ (z0 : Int32) (z1 : Int32) (z2 : Int32) (h : AH) (r : Int32) (h1 : AH), RR 1 [z0, z1, z2] h = some (r, h1) → Con G dd yX10_does cX10_does 4 (some .int) [.ref 59, .int z0, .int z1, .int z2] h (some (.int r)) h1)) (p0 : Int32) (p1 : Int32) (p2 : Int32) (h : AH) (hf : fX10_does RR p0 p1 p2 h = some (rv, h')) : JJ G E 4 0 [(0, .ref 59), (1, .int p0), (2, .int p1), (3, .int p2)] [] h := by
  unfold fX10_does at hf
  refine r_aload_n K dX10_does_0 0 rfl rfl ?_
  refine r_aload_n K dX10_does_1 0 rfl rfl ?_
  refine r_getR (o' := 84) K flX10_88 dX10_does_2 rfl rfl rfl ?_
  refine r_iload_n K dX10_does_5 1 rfl rfl ?_
  obtain ⟨g1_, hf⟩ := e_g hf
  refine r_iald K dX10_does_6 rfl g1_ ?_
  refine r_iload_n K dX10_does_7 1 rfl rfl ?_
  refine r_iload_n K dX10_does_8 2 rfl rfl ?_
  refine r_iload_n K dX10_does_9 3 rfl rfl ?_
  obtain ⟨r2_, h3_, g4_, hf⟩ := e_2 hf
  refine r_callV (av := [.int (h.1 84 (ix p0)), .int p0, .int p1, .int p2]) (st := []) K lkX10_291 mwX10_byKind (hRR.1 (h.1 84 (ix p0)) p0 p1 p2 h r2_ h3_ g4_) dX10_does_10 rfl (Nat.le_refl _) rfl rfl (Nat.le_of_ble_eq_true rfl) ?_
  exact r_iret K Z dX10_does_13 hf
def RGK : Nat → Nat → List Int32 → AH → Option (Int32 × AH)
  | 0 => fun _ _ _ => none
  | n + 1 => fun w a h => if w = 0 then fX10_byKind (RGK n) (a.getD 0 0) (a.getD 1 0) (a.getD 2 0) (a.getD 3 0) h else if w = 1 then fX10_does (RGK n) (a.getD 0 0) (a.getD 1 0) (a.getD 2 0) h else none
theorem conRGK {G : GG} : ∀ n : Nat, (∀ (z0 : Int32) (z1 : Int32) (z2 : Int32) (z3 : Int32) (h : AH) (r : Int32) (h1 : AH), RGK n 0 [z0, z1, z2, z3] h = some (r, h1) → Con G (0 + n) yX10_byKind cX10_byKind 8 (some .int) [.ref 59, .int z0, .int z1, .int z2, .int z3] h (some (.int r)) h1) ∧ (∀ (z0 : Int32) (z1 : Int32) (z2 : Int32) (h : AH) (r : Int32) (h1 : AH), RGK n 1 [z0, z1, z2] h = some (r, h1) → Con G (0 + n) yX10_does cX10_does 4 (some .int) [.ref 59, .int z0, .int z1, .int z2] h (some (.int r)) h1) := by
  intro n
  induction n with
  | zero => exact ⟨fun _ _ _ _ _ _ _ q => (by cases q), fun _ _ _ _ _ _ q => (by cases q)⟩
  | succ n ih => exact ⟨fun z0 z1 z2 z3 h r h1 q => con_of mwX10_byKind (Nat.le_of_ble_eq_true rfl) (fun E K Z => sX10_byKind (dd := 0 + n) (Nat.le_add_right _ _) K Z (RGK n) ih z0 z1 z2 z3 h q), fun z0 z1 z2 h r h1 q => con_of mwX10_does (Nat.le_of_ble_eq_true rfl) (fun E K Z => sX10_does (dd := 0 + n) (Nat.le_add_right _ _) K Z (RGK n) ih z0 z1 z2 h q)⟩
theorem conRGK_0 {G : GG} (n : Nat) (z0 : Int32) (z1 : Int32) (z2 : Int32) (z3 : Int32) (h : AH) (r : Int32) (h1 : AH) (q : RGK n 0 [z0, z1, z2, z3] h = some (r, h1)) : Con G (0 + n) yX10_byKind cX10_byKind 8 (some .int) [.ref 59, .int z0, .int z1, .int z2, .int z3] h (some (.int r)) h1 := (conRGK n).1 z0 z1 z2 z3 h r h1 q
theorem conRGK_1 {G : GG} (n : Nat) (z0 : Int32) (z1 : Int32) (z2 : Int32) (h : AH) (r : Int32) (h1 : AH) (q : RGK n 1 [z0, z1, z2] h = some (r, h1)) : Con G (0 + n) yX10_does cX10_does 4 (some .int) [.ref 59, .int z0, .int z1, .int z2] h (some (.int r)) h1 := (conRGK n).2 z0 z1 z2 h r h1 q
