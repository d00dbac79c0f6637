def fX10_gloves_5_b (p0 : Int32) (p1 : Int32) (Q5 : Int32 → Int32 → Int32 → Int32 → AH → Option (Int32 × AH)) (x1 : Int32) (x2 : Int32) (x3 : Int32) (x4 : Int32) (h : AH) : Option (Int32 × AH) :=
  if (h.1 59 2) ≤ x4 then some (x3, h) else bind2 (fX10_isHere x4 h) fun r2_ h3_ => if r2_ = 0 then letV ((x3 + 0)) fun x6_ => Q5 x1 x2 x6_ (x4 + 1) h3_ else bind2 (fX10_number x4 3 h3_) fun r8_ h9_ => if r8_ = x1 then bind2 (fX10_number x4 4 h9_) fun r14_ h15_ => if r14_ = x2 then letV ((x3 + 1)) fun x20_ => Q5 x1 x2 x20_ (x4 + 1) h15_ else letV ((x3 + 0)) fun x18_ => Q5 x1 x2 x18_ (x4 + 1) h15_ else letV ((x3 + 0)) fun x12_ => Q5 x1 x2 x12_ (x4 + 1) h9_
def fX10_gloves_5 (p0 : Int32) (p1 : Int32) : Nat → Int32 → Int32 → Int32 → Int32 → AH → Option (Int32 × AH)
  | 0 => fun _ _ _ _ _ => none
  | n + 1 => fX10_gloves_5_b p0 p1 (fX10_gloves_5 p0 p1 n)
set_option maxRecDepth 10000 in
theorem sX10_gloves_5_b {G : GG} {E : EE} {rv : Int32} {h' : AH} (K : OK G E 2 RX10 cX10_gloves 5) (Z : RT G E (some .int) (some (.int rv)) h') (p0 : Int32) (p1 : Int32) (Q5 : Int32 → Int32 → Int32 → Int32 → AH → Option (Int32 × AH)) (hQ5 : ∀ (x1 : Int32) (x2 : Int32) (x3 : Int32) (x4 : Int32) (h : AH), Q5 x1 x2 x3 x4 h = some (rv, h') → JJ G E 5 5 [(0, .ref 59), (1, .int x1), (2, .int x2), (3, .int x3), (4, .int x4)] [] h) (x1 : Int32) (x2 : Int32) (x3 : Int32) (x4 : Int32) (h : AH) (hf : fX10_gloves_5_b p0 p1 Q5 x1 x2 x3 x4 h = some (rv, h')) : JJ G E 5 5 [(0, .ref 59), (1, .int x1), (2, .int x2), (3, .int x3), (4, .int x4)] [] h := by
  unfold fX10_gloves_5_b at hf
  refine r_iload K dX10_gloves_5 4 rfl ?_
  refine r_aload_n K dX10_gloves_7 0 rfl rfl ?_
  refine r_getI K flX10_103 dX10_gloves_8 rfl rfl ?_
  refine r_icmp_ge (tgt := 59) K dX10_gloves_11 (by decide) (fun c1_ => ?_) (fun c1_ => ?_)
  · have hf := e_t hf c1_
    refine r_iload_n K dX10_gloves_59 3 rfl rfl ?_
    exact r_iret K Z dX10_gloves_60 hf
  · have hf := e_f hf c1_
    refine r_iload_n K dX10_gloves_14 3 rfl rfl ?_
    refine r_aload_n K dX10_gloves_15 0 rfl rfl ?_
    refine r_iload K dX10_gloves_16 4 rfl ?_
    obtain ⟨r2_, h3_, g4_, hf⟩ := e_2 hf
    refine r_callV (av := [.int x4]) (st := [.int x3]) K lkX10_197 mwX10_isHere (conX10_isHere x4 h r2_ h3_ g4_) dX10_gloves_18 rfl (Nat.le_of_ble_eq_true rfl) rfl rfl (Nat.le_of_ble_eq_true rfl) ?_
    refine r_if_eq (tgt := 50) K dX10_gloves_21 (by decide) (fun c5_ => ?_) (fun c5_ => ?_)
    · have hf := e_t hf c5_
      refine r_iconst (v := 0) K dX10_gloves_50 rfl ?_
      refine r_iadd K dX10_gloves_51 ?_
      obtain ⟨x6_, e7_, hf⟩ := e_l hf
      refine r_nmI e7_ ?_
      refine r_istore_n (lv' := [(3, .int x6_), (0, .ref 59), (1, .int x1), (2, .int x2), (4, .int x4)]) K dX10_gloves_52 rfl (Nat.le_of_ble_eq_true rfl) rfl ?_
      refine r_iinc (y := 1) (lv' := [(4, .int (x4 + 1)), (3, .int x6_), (0, .ref 59), (1, .int x1), (2, .int x2)]) K dX10_gloves_53 4 rfl rfl (Nat.le_of_ble_eq_true rfl) rfl ?_
      refine r_goto (tgt := 5) K dX10_gloves_56 (by decide) ?_
      refine r_lv [2, 3, 4, 1, 0] rfl ?_
      exact hQ5 x1 x2 x6_ (x4 + 1) h3_ hf
    · have hf := e_f hf c5_
      refine r_aload_n K dX10_gloves_24 0 rfl rfl ?_
      refine r_iload K dX10_gloves_25 4 rfl ?_
      refine r_iconst (v := 3) K dX10_gloves_27 rfl ?_
      obtain ⟨r8_, h9_, g10_, hf⟩ := e_2 hf
      refine r_callV (av := [.int x4, .int 3]) (st := [.int x3]) K lkX10_110 mwX10_number (conX10_number x4 3 h3_ r8_ h9_ g10_) dX10_gloves_28 rfl (Nat.le_of_ble_eq_true rfl) rfl rfl (Nat.le_of_ble_eq_true rfl) ?_
      refine r_iload_n K dX10_gloves_31 1 rfl rfl ?_
      refine r_icmp_ne (tgt := 50) K dX10_gloves_32 (by decide) (fun c11_ => ?_) (fun c11_ => ?_)
      · have hf := e_f hf c11_
        refine r_iconst (v := 0) K dX10_gloves_50 rfl ?_
        refine r_iadd K dX10_gloves_51 ?_
        obtain ⟨x12_, e13_, hf⟩ := e_l hf
        refine r_nmI e13_ ?_
        refine r_istore_n (lv' := [(3, .int x12_), (0, .ref 59), (1, .int x1), (2, .int x2), (4, .int x4)]) K dX10_gloves_52 rfl (Nat.le_of_ble_eq_true rfl) rfl ?_
        refine r_iinc (y := 1) (lv' := [(4, .int (x4 + 1)), (3, .int x12_), (0, .ref 59), (1, .int x1), (2, .int x2)]) K dX10_gloves_53 4 rfl rfl (Nat.le_of_ble_eq_true rfl) rfl ?_
        refine r_goto (tgt := 5) K dX10_gloves_56 (by decide) ?_
        refine r_lv [2, 3, 4, 1, 0] rfl ?_
        exact hQ5 x1 x2 x12_ (x4 + 1) h9_ hf
      · have hf := e_t hf c11_
        refine r_aload_n K dX10_gloves_35 0 rfl rfl ?_
        refine r_iload K dX10_gloves_36 4 rfl ?_
        refine r_iconst (v := 4) K dX10_gloves_38 rfl ?_
        obtain ⟨r14_, h15_, g16_, hf⟩ := e_2 hf
        refine r_callV (av := [.int x4, .int 4]) (st := [.int x3]) K lkX10_110 mwX10_number (conX10_number x4 4 h9_ r14_ h15_ g16_) dX10_gloves_39 rfl (Nat.le_of_ble_eq_true rfl) rfl rfl (Nat.le_of_ble_eq_true rfl) ?_
        refine r_iload_n K dX10_gloves_42 2 rfl rfl ?_
        refine r_icmp_ne (tgt := 50) K dX10_gloves_43 (by decide) (fun c17_ => ?_) (fun c17_ => ?_)
        · have hf := e_f hf c17_
          refine r_iconst (v := 0) K dX10_gloves_50 rfl ?_
          refine r_iadd K dX10_gloves_51 ?_
          obtain ⟨x18_, e19_, hf⟩ := e_l hf
          refine r_nmI e19_ ?_
          refine r_istore_n (lv' := [(3, .int x18_), (0, .ref 59), (1, .int x1), (2, .int x2), (4, .int x4)]) K dX10_gloves_52 rfl (Nat.le_of_ble_eq_true rfl) rfl ?_
          refine r_iinc (y := 1) (lv' := [(4, .int (x4 + 1)), (3, .int x18_), (0, .ref 59), (1, .int x1), (2, .int x2)]) K dX10_gloves_53 4 rfl rfl (Nat.le_of_ble_eq_true rfl) rfl ?_
          refine r_goto (tgt := 5) K dX10_gloves_56 (by decide) ?_
          refine r_lv [2, 3, 4, 1, 0] rfl ?_
          exact hQ5 x1 x2 x18_ (x4 + 1) h15_ hf
        · have hf := e_t hf c17_
          refine r_iconst (v := 1) K dX10_gloves_46 rfl ?_
          refine r_goto (tgt := 51) K dX10_gloves_47 (by decide) ?_
          refine r_iadd K dX10_gloves_51 ?_
          obtain ⟨x20_, e21_, hf⟩ := e_l hf
          refine r_nmI e21_ ?_
          refine r_istore_n (lv' := [(3, .int x20_), (0, .ref 59), (1, .int x1), (2, .int x2), (4, .int x4)]) K dX10_gloves_52 rfl (Nat.le_of_ble_eq_true rfl) rfl ?_
          refine r_iinc (y := 1) (lv' := [(4, .int (x4 + 1)), (3, .int x20_), (0, .ref 59), (1, .int x1), (2, .int x2)]) K dX10_gloves_53 4 rfl rfl (Nat.le_of_ble_eq_true rfl) rfl ?_
          refine r_goto (tgt := 5) K dX10_gloves_56 (by decide) ?_
          refine r_lv [2, 3, 4, 1, 0] rfl ?_
          exact hQ5 x1 x2 x20_ (x4 + 1) h15_ hf
theorem sX10_gloves_5 {G : GG} {E : EE} {rv : Int32} {h' : AH} (K : OK G E 2 RX10 cX10_gloves 5) (Z : RT G E (some .int) (some (.int rv)) h') (p0 : Int32) (p1 : Int32) : ∀ (n : Nat) (x1 : Int32) (x2 : Int32) (x3 : Int32) (x4 : Int32) (h : AH), fX10_gloves_5 p0 p1 n x1 x2 x3 x4 h = some (rv, h') → JJ G E 5 5 [(0, .ref 59), (1, .int x1), (2, .int x2), (3, .int x3), (4, .int x4)] [] h := by
  intro n
  induction n with
  | zero => intro x1 x2 x3 x4 h hf; cases hf
  | succ n ih => intro x1 x2 x3 x4 h hf; exact sX10_gloves_5_b K Z p0 p1 _ (fun x1 x2 x3 x4 h hf => ih x1 x2 x3 x4 h hf) x1 x2 x3 x4 h hf
def fX10_gloves (p0 : Int32) (p1 : Int32) (h : AH) : Option (Int32 × AH) :=
  fX10_gloves_5 p0 p1 FU p0 p1 0 0 h
set_option maxRecDepth 10000 in
theorem sX10_gloves {G : GG} {E : EE} {rv : Int32} {h' : AH} (K : OK G E 2 RX10 cX10_gloves 5) (Z : RT G E (some .int) (some (.int rv)) h') (p0 : Int32) (p1 : Int32) (h : AH) (hf : fX10_gloves p0 p1 h = some (rv, h')) : JJ G E 5 0 [(0, .ref 59), (1, .int p0), (2, .int p1)] [] h := by
  unfold fX10_gloves at hf
  refine r_iconst (v := 0) K dX10_gloves_0 rfl ?_
  refine r_istore_n (lv' := [(3, .int 0), (0, .ref 59), (1, .int p0), (2, .int p1)]) K dX10_gloves_1 rfl (Nat.le_of_ble_eq_true rfl) rfl ?_
  refine r_iconst (v := 0) K dX10_gloves_2 rfl ?_
  refine r_istore (lv' := [(4, .int 0), (3, .int 0), (0, .ref 59), (1, .int p0), (2, .int p1)]) K dX10_gloves_3 (Nat.le_of_ble_eq_true rfl) rfl ?_
  refine r_lv [2, 3, 4, 1, 0] rfl ?_
  exact sX10_gloves_5 K Z p0 p1 FU p0 p1 0 0 h hf
theorem conX10_gloves {G : GG} (p0 : Int32) (p1 : Int32) (h : AH) (rv : Int32) (h' : AH) (hf : fX10_gloves p0 p1 h = some (rv, h')) : Con G 2 yX10_gloves cX10_gloves 5 (some .int) [.ref 59, .int p0, .int p1] h (some (.int rv)) h' := con_of mwX10_gloves (Nat.le_of_ble_eq_true rfl) (fun E K Z => sX10_gloves K Z p0 p1 h hf)
def fX10_minute (h : AH) : Option (Int32 × AH) :=
  bindV (fX10_goMinute  h) fun h2_ => letV (wI h2_ 79 (ix 1) ((h2_.1 79 (ix 1)) + 1)) fun h6_ => some ((h6_.1 60 (ix 93)), h6_)
set_option maxRecDepth 10000 in
theorem sX10_minute {G : GG} {E : EE} {rv : Int32} {h' : AH} (K : OK G E 3 RX10 cX10_minute 1) (Z : RT G E (some .int) (some (.int rv)) h') (h : AH) (hf : fX10_minute h = some (rv, h')) : JJ G E 1 0 [(0, .ref 59)] [] h := by
  unfold fX10_minute at hf
  refine r_aload_n K dX10_minute_0 0 rfl rfl ?_
  obtain ⟨h2_, g3_, hf⟩ := e_v hf
  refine r_callV (av := []) (st := []) K lkX10_212 mwX10_goMinute (conX10_goMinute  h h2_ g3_) dX10_minute_1 rfl (Nat.le_of_ble_eq_true rfl) rfl rfl (Nat.le_of_ble_eq_true rfl) ?_
  refine r_aload_n K dX10_minute_4 0 rfl rfl ?_
  refine r_getR (o' := 79) K flX10_73 dX10_minute_5 rfl rfl rfl ?_
  refine r_iconst (v := 1) K dX10_minute_8 rfl ?_
  refine r_dup2 K dX10_minute_9 rfl rfl ?_
  refine r_iald K dX10_minute_10 rfl (by decide +kernel) ?_
  refine r_iconst (v := 1) K dX10_minute_11 rfl ?_
  refine r_iadd K dX10_minute_12 ?_
  obtain ⟨h6_, e7_, hf⟩ := e_l hf
  refine r_iast K dX10_minute_13 rfl (by decide +kernel) e7_ ?_
  refine r_aload_n K dX10_minute_14 0 rfl rfl ?_
  refine r_getR (o' := 60) K flX10_7 dX10_minute_15 rfl rfl rfl ?_
  refine r_bipush (v := 93) K dX10_minute_18 rfl ?_
  refine r_iald K dX10_minute_20 rfl (by decide +kernel) ?_
  exact r_iret K Z dX10_minute_21 hf
theorem conX10_minute {G : GG} (h : AH) (rv : Int32) (h' : AH) (hf : fX10_minute h = some (rv, h')) : Con G 3 yX10_minute cX10_minute 1 (some .int) [.ref 59] h (some (.int rv)) h' := con_of mwX10_minute (Nat.le_of_ble_eq_true rfl) (fun E K Z => sX10_minute K Z h hf)
def fX10_goes (h : AH) : Option (Int32 × AH) :=
  bind2 (fX10_firstNow  h) fun r1_ h2_ => if r1_ = (-2) then some (r1_, h2_) else letV (wI h2_ 79 (ix 2) ((h2_.1 79 (ix 2)) + 1)) fun h7_ => bind2 (fX10_number r1_ 0 h7_) fun r10_ h11_ => letV (wI h11_ 79 (ix 4) ((h7_.1 79 (ix 4)) + r10_)) fun h14_ => bindV (fX10_change r1_ 5 1 h14_) fun h17_ => bind2 (fX10_minute  h17_) fun r19_ h20_ => some (r1_, h20_)
set_option maxRecDepth 10000 in
theorem sX10_goes {G : GG} {E : EE} {rv : Int32} {h' : AH} (K : OK G E 67 RX10 cX10_goes 2) (Z : RT G E (some .int) (some (.int rv)) h') (h : AH) (hf : fX10_goes h = some (rv, h')) : JJ G E 2 0 [(0, .ref 59)] [] h := by
  unfold fX10_goes at hf
  refine r_aload_n K dX10_goes_0 0 rfl rfl ?_
  obtain ⟨r1_, h2_, g3_, hf⟩ := e_2 hf
  refine r_callV (av := []) (st := []) K lkX10_235 mwX10_firstNow (conX10_firstNow  h r1_ h2_ g3_) dX10_goes_1 rfl (Nat.le_of_ble_eq_true rfl) rfl rfl (Nat.le_of_ble_eq_true rfl) ?_
  refine r_istore_n (lv' := [(1, .int r1_), (0, .ref 59)]) K dX10_goes_4 rfl (Nat.le_of_ble_eq_true rfl) rfl ?_
  refine r_iload_n K dX10_goes_5 0 rfl rfl ?_
  refine r_bipush (v := (-2)) K dX10_goes_6 rfl ?_
  refine r_icmp_eq (tgt := 48) K dX10_goes_8 (by decide) (fun c4_ => ?_) (fun c4_ => ?_)
  · have hf := e_t hf c4_
    refine r_iload_n K dX10_goes_48 0 rfl rfl ?_
    exact r_iret K Z dX10_goes_49 hf
  · have hf := e_f hf c4_
    refine r_aload_n K dX10_goes_11 1 rfl rfl ?_
    refine r_getR (o' := 79) K flX10_73 dX10_goes_12 rfl rfl rfl ?_
    refine r_iconst (v := 2) K dX10_goes_15 rfl ?_
    refine r_dup2 K dX10_goes_16 rfl rfl ?_
    refine r_iald K dX10_goes_17 rfl (by decide +kernel) ?_
    refine r_iconst (v := 1) K dX10_goes_18 rfl ?_
    refine r_iadd K dX10_goes_19 ?_
    obtain ⟨h7_, e8_, hf⟩ := e_l hf
    refine r_iast K dX10_goes_20 rfl (by decide +kernel) e8_ ?_
    refine r_aload_n K dX10_goes_21 1 rfl rfl ?_
    refine r_getR (o' := 79) K flX10_73 dX10_goes_22 rfl rfl rfl ?_
    refine r_iconst (v := 4) K dX10_goes_25 rfl ?_
    refine r_dup2 K dX10_goes_26 rfl rfl ?_
    refine r_iald K dX10_goes_27 rfl (by decide +kernel) ?_
    refine r_aload_n K dX10_goes_28 1 rfl rfl ?_
    refine r_iload_n K dX10_goes_29 0 rfl rfl ?_
    refine r_iconst (v := 0) K dX10_goes_30 rfl ?_
    obtain ⟨r10_, h11_, g12_, hf⟩ := e_2 hf
    refine r_callV (av := [.int r1_, .int 0]) (st := [.int (h7_.1 79 (ix 4)), .int 4, .ref 79]) K lkX10_110 mwX10_number (conX10_number r1_ 0 h7_ r10_ h11_ g12_) dX10_goes_31 rfl (Nat.le_of_ble_eq_true rfl) rfl rfl (Nat.le_of_ble_eq_true rfl) ?_
    refine r_iadd K dX10_goes_34 ?_
    obtain ⟨h14_, e15_, hf⟩ := e_l hf
    refine r_iast K dX10_goes_35 rfl (by decide +kernel) e15_ ?_
    refine r_aload_n K dX10_goes_36 1 rfl rfl ?_
    refine r_iload_n K dX10_goes_37 0 rfl rfl ?_
    refine r_iconst (v := 5) K dX10_goes_38 rfl ?_
    refine r_iconst (v := 1) K dX10_goes_39 rfl ?_
    obtain ⟨h17_, g18_, hf⟩ := e_v hf
    refine r_callV (av := [.int r1_, .int 5, .int 1]) (st := []) K lkX10_113 mwX10_change (conX10_change r1_ 5 1 h14_ h17_ g18_) dX10_goes_40 rfl (Nat.le_of_ble_eq_true rfl) rfl rfl (Nat.le_of_ble_eq_true rfl) ?_
    refine r_aload_n K dX10_goes_43 1 rfl rfl ?_
    obtain ⟨r19_, h20_, g21_, hf⟩ := e_2 hf
    refine r_callV (av := []) (st := []) K lkX10_279 mwX10_minute (conX10_minute  h17_ r19_ h20_ g21_) dX10_goes_44 rfl (Nat.le_of_ble_eq_true rfl) rfl rfl (Nat.le_of_ble_eq_true rfl) ?_
    refine r_pop K dX10_goes_47 rfl ?_
    refine r_iload_n K dX10_goes_48 0 rfl rfl ?_
    exact r_iret K Z dX10_goes_49 hf
theorem conX10_goes {G : GG} (h : AH) (rv : Int32) (h' : AH) (hf : fX10_goes h = some (rv, h')) : Con G 67 yX10_goes cX10_goes 2 (some .int) [.ref 59] h (some (.int rv)) h' := con_of mwX10_goes (Nat.le_of_ble_eq_true rfl) (fun E K Z => sX10_goes K Z h hf)
def fX10_goesAs (p0 : Int32) (p1 : Int32) (h : AH) : Option (Int32 × AH) :=
  bind2 (fX10_isIn p0 0 60 h) fun r1_ h2_ => if r1_ = 0 then some ((-1), h2_) else if 0 ≤ p1 then bind2 (fX10_goAll p0 (-1) h2_) fun r6_ h7_ => if r6_ ≤ p1 then some ((-2), h7_) else if inb p1 9 = true then some ((h7_.1 74 (ix p1)), h7_) else none else some ((-1), h2_)
set_option maxRecDepth 10000 in
theorem sX10_goesAs {G : GG} {E : EE} {rv : Int32} {h' : AH} (K : OK G E 67 RX10 cX10_goesAs 3) (Z : RT G E (some .int) (some (.int rv)) h') (p0 : Int32) (p1 : Int32) (h : AH) (hf : fX10_goesAs p0 p1 h = some (rv, h')) : JJ G E 3 0 [(0, .ref 59), (1, .int p0), (2, .int p1)] [] h := by
  unfold fX10_goesAs at hf
  refine r_iload_n K dX10_goesAs_0 1 rfl rfl ?_
  refine r_iconst (v := 0) K dX10_goesAs_1 rfl ?_
  refine r_bipush (v := 60) K dX10_goesAs_2 rfl ?_
  obtain ⟨r1_, h2_, g3_, hf⟩ := e_2 hf
  refine r_callS (av := [.int p0, .int 0, .int 60]) (st := []) K lkX10_106 mwX10_isIn (conX10_isIn p0 0 60 h r1_ h2_ g3_) dX10_goesAs_4 (Nat.le_of_ble_eq_true rfl) rfl rfl (Nat.le_of_ble_eq_true rfl) ?_
  refine r_if_eq (tgt := 14) K dX10_goesAs_7 (by decide) (fun c4_ => ?_) (fun c4_ => ?_)
  · have hf := e_t hf c4_
    refine r_iconst (v := (-1)) K dX10_goesAs_14 rfl ?_
    exact r_iret K Z dX10_goesAs_15 hf
  · have hf := e_f hf c4_
    refine r_iload_n K dX10_goesAs_10 2 rfl rfl ?_
    refine r_if_ge (tgt := 16) K dX10_goesAs_11 (by decide) (fun c5_ => ?_) (fun c5_ => ?_)
    · have hf := e_t hf c5_
      refine r_iload_n K dX10_goesAs_16 2 rfl rfl ?_
      refine r_aload_n K dX10_goesAs_17 0 rfl rfl ?_
      refine r_iload_n K dX10_goesAs_18 1 rfl rfl ?_
      refine r_iconst (v := (-1)) K dX10_goesAs_19 rfl ?_
      obtain ⟨r6_, h7_, g8_, hf⟩ := e_2 hf
      refine r_callV (av := [.int p0, .int (-1)]) (st := [.int p1]) K lkX10_241 mwX10_goAll (conX10_goAll p0 (-1) h2_ r6_ h7_ g8_) dX10_goesAs_20 rfl (Nat.le_of_ble_eq_true rfl) rfl rfl (Nat.le_of_ble_eq_true rfl) ?_
      refine r_icmp_ge (tgt := 35) K dX10_goesAs_23 (by decide) (fun c9_ => ?_) (fun c9_ => ?_)
      · have hf := e_t hf c9_
        refine r_bipush (v := (-2)) K dX10_goesAs_35 rfl ?_
        exact r_iret K Z dX10_goesAs_37 hf
      · have hf := e_f hf c9_
        refine r_aload_n K dX10_goesAs_26 0 rfl rfl ?_
        refine r_getR (o' := 74) K flX10_57 dX10_goesAs_27 rfl rfl rfl ?_
        refine r_iload_n K dX10_goesAs_30 2 rfl rfl ?_
        obtain ⟨g10_, hf⟩ := e_g hf
        refine r_iald K dX10_goesAs_31 rfl g10_ ?_
        refine r_goto (tgt := 37) K dX10_goesAs_32 (by decide) ?_
        exact r_iret K Z dX10_goesAs_37 hf
    · have hf := e_f hf c5_
      refine r_iconst (v := (-1)) K dX10_goesAs_14 rfl ?_
      exact r_iret K Z dX10_goesAs_15 hf
theorem conX10_goesAs {G : GG} (p0 : Int32) (p1 : Int32) (h : AH) (rv : Int32) (h' : AH) (hf : fX10_goesAs p0 p1 h = some (rv, h')) : Con G 67 yX10_goesAs cX10_goesAs 3 (some .int) [.ref 59, .int p0, .int p1] h (some (.int rv)) h' := con_of mwX10_goesAs (Nat.le_of_ble_eq_true rfl) (fun E K Z => sX10_goesAs K Z p0 p1 h hf)
def fX10_goesWhen (p0 : Int32) (p1 : Int32) (h : AH) : Option (Int32 × AH) :=
  bind2 (fX10_isIn p0 0 60 h) fun r1_ h2_ => if r1_ = 0 then some ((-1), h2_) else bind2 (fX10_isGuest p1 h2_) fun r5_ h6_ => if r5_ = 0 then some ((-1), h6_) else bind2 (fX10_goAll p0 (-1) h6_) fun r9_ h10_ => bind2 (fX10_wentAs p1 r9_ h10_) fun r12_ h13_ => if r12_ = (-2) then some ((-2), h13_) else some ((p0 + r12_), h13_)
set_option maxRecDepth 10000 in
theorem sX10_goesWhen {G : GG} {E : EE} {rv : Int32} {h' : AH} (K : OK G E 67 RX10 cX10_goesWhen 4) (Z : RT G E (some .int) (some (.int rv)) h') (p0 : Int32) (p1 : Int32) (h : AH) (hf : fX10_goesWhen p0 p1 h = some (rv, h')) : JJ G E 4 0 [(0, .ref 59), (1, .int p0), (2, .int p1)] [] h := by
  unfold fX10_goesWhen at hf
  refine r_iload_n K dX10_goesWhen_0 1 rfl rfl ?_
  refine r_iconst (v := 0) K dX10_goesWhen_1 rfl ?_
  refine r_bipush (v := 60) K dX10_goesWhen_2 rfl ?_
  obtain ⟨r1_, h2_, g3_, hf⟩ := e_2 hf
  refine r_callS (av := [.int p0, .int 0, .int 60]) (st := []) K lkX10_106 mwX10_isIn (conX10_isIn p0 0 60 h r1_ h2_ g3_) dX10_goesWhen_4 (Nat.le_of_ble_eq_true rfl) rfl rfl (Nat.le_of_ble_eq_true rfl) ?_
  refine r_if_eq (tgt := 18) K dX10_goesWhen_7 (by decide) (fun c4_ => ?_) (fun c4_ => ?_)
  · have hf := e_t hf c4_
    refine r_iconst (v := (-1)) K dX10_goesWhen_18 rfl ?_
    exact r_iret K Z dX10_goesWhen_19 hf
  · have hf := e_f hf c4_
    refine r_aload_n K dX10_goesWhen_10 0 rfl rfl ?_
    refine r_iload_n K dX10_goesWhen_11 2 rfl rfl ?_
    obtain ⟨r5_, h6_, g7_, hf⟩ := e_2 hf
    refine r_callV (av := [.int p1]) (st := []) K lkX10_124 mwX10_isGuest (conX10_isGuest p1 h2_ r5_ h6_ g7_) dX10_goesWhen_12 rfl (Nat.le_of_ble_eq_true rfl) rfl rfl (Nat.le_of_ble_eq_true rfl) ?_
    refine r_if_ne (tgt := 20) K dX10_goesWhen_15 (by decide) (fun c8_ => ?_) (fun c8_ => ?_)
    · have hf := e_f hf c8_
      refine r_aload_n K dX10_goesWhen_20 0 rfl rfl ?_
      refine r_iload_n K dX10_goesWhen_21 2 rfl rfl ?_
      refine r_aload_n K dX10_goesWhen_22 0 rfl rfl ?_
      refine r_iload_n K dX10_goesWhen_23 1 rfl rfl ?_
      refine r_iconst (v := (-1)) K dX10_goesWhen_24 rfl ?_
      obtain ⟨r9_, h10_, g11_, hf⟩ := e_2 hf
      refine r_callV (av := [.int p0, .int (-1)]) (st := [.int p1, .ref 59]) K lkX10_241 mwX10_goAll (conX10_goAll p0 (-1) h6_ r9_ h10_ g11_) dX10_goesWhen_25 rfl (Nat.le_of_ble_eq_true rfl) rfl rfl (Nat.le_of_ble_eq_true rfl) ?_
      obtain ⟨r12_, h13_, g14_, hf⟩ := e_2 hf
      refine r_callV (av := [.int p1, .int r9_]) (st := []) K lkX10_244 mwX10_wentAs (conX10_wentAs p1 r9_ h10_ r12_ h13_ g14_) dX10_goesWhen_28 rfl (Nat.le_of_ble_eq_true rfl) rfl rfl (Nat.le_of_ble_eq_true rfl) ?_
      refine r_istore_n (lv' := [(3, .int r12_), (0, .ref 59), (1, .int p0), (2, .int p1)]) K dX10_goesWhen_31 rfl (Nat.le_of_ble_eq_true rfl) rfl ?_
      refine r_iload_n K dX10_goesWhen_32 0 rfl rfl ?_
      refine r_bipush (v := (-2)) K dX10_goesWhen_33 rfl ?_
      refine r_icmp_ne (tgt := 43) K dX10_goesWhen_35 (by decide) (fun c15_ => ?_) (fun c15_ => ?_)
      · have hf := e_f hf c15_
        refine r_iload_n K dX10_goesWhen_43 2 rfl rfl ?_
        refine r_iload_n K dX10_goesWhen_44 0 rfl rfl ?_
        refine r_iadd K dX10_goesWhen_45 ?_
        exact r_iret K Z dX10_goesWhen_46 hf
      · have hf := e_t hf c15_
        refine r_bipush (v := (-2)) K dX10_goesWhen_38 rfl ?_
        refine r_goto (tgt := 46) K dX10_goesWhen_40 (by decide) ?_
        exact r_iret K Z dX10_goesWhen_46 hf
    · have hf := e_t hf c8_
      refine r_iconst (v := (-1)) K dX10_goesWhen_18 rfl ?_
      exact r_iret K Z dX10_goesWhen_19 hf
theorem conX10_goesWhen {G : GG} (p0 : Int32) (p1 : Int32) (h : AH) (rv : Int32) (h' : AH) (hf : fX10_goesWhen p0 p1 h = some (rv, h')) : Con G 67 yX10_goesWhen cX10_goesWhen 4 (some .int) [.ref 59, .int p0, .int p1] h (some (.int rv)) h' := con_of mwX10_goesWhen (Nat.le_of_ble_eq_true rfl) (fun E K Z => sX10_goesWhen K Z p0 p1 h hf)
def fX10_guest (p0 : Int32) (p1 : Int32) (h : AH) : Option (Int32 × AH) :=
  bind2 (fX10_isIn p0 0 1 h) fun r1_ h2_ => if r1_ = 0 then some ((-1), h2_) else bind2 (fX10_isIn p1 5 9 h2_) fun r5_ h6_ => if r5_ = 0 then some ((-1), h6_) else if (h6_.1 59 2) = 9 then some ((-3), h6_) else bind2 (fX10_add 0 1 0 p0 p1 h6_) fun r10_ h11_ => some (r10_, h11_)
set_option maxRecDepth 10000 in
theorem sX10_guest {G : GG} {E : EE} {rv : Int32} {h' : AH} (K : OK G E 2 RX10 cX10_guest 3) (Z : RT G E (some .int) (some (.int rv)) h') (p0 : Int32) (p1 : Int32) (h : AH) (hf : fX10_guest p0 p1 h = some (rv, h')) : JJ G E 3 0 [(0, .ref 59), (1, .int p0), (2, .int p1)] [] h := by
  unfold fX10_guest at hf
  refine r_iload_n K dX10_guest_0 1 rfl rfl ?_
  refine r_iconst (v := 0) K dX10_guest_1 rfl ?_
  refine r_iconst (v := 1) K dX10_guest_2 rfl ?_
  obtain ⟨r1_, h2_, g3_, hf⟩ := e_2 hf
  refine r_callS (av := [.int p0, .int 0, .int 1]) (st := []) K lkX10_106 mwX10_isIn (conX10_isIn p0 0 1 h r1_ h2_ g3_) dX10_guest_3 (Nat.le_of_ble_eq_true rfl) rfl rfl (Nat.le_of_ble_eq_true rfl) ?_
  refine r_if_eq (tgt := 19) K dX10_guest_6 (by decide) (fun c4_ => ?_) (fun c4_ => ?_)
  · have hf := e_t hf c4_
    refine r_iconst (v := (-1)) K dX10_guest_19 rfl ?_
    exact r_iret K Z dX10_guest_20 hf
  · have hf := e_f hf c4_
    refine r_iload_n K dX10_guest_9 2 rfl rfl ?_
    refine r_iconst (v := 5) K dX10_guest_10 rfl ?_
    refine r_bipush (v := 9) K dX10_guest_11 rfl ?_
    obtain ⟨r5_, h6_, g7_, hf⟩ := e_2 hf
    refine r_callS (av := [.int p1, .int 5, .int 9]) (st := []) K lkX10_106 mwX10_isIn (conX10_isIn p1 5 9 h2_ r5_ h6_ g7_) dX10_guest_13 (Nat.le_of_ble_eq_true rfl) rfl rfl (Nat.le_of_ble_eq_true rfl) ?_
    refine r_if_ne (tgt := 21) K dX10_guest_16 (by decide) (fun c8_ => ?_) (fun c8_ => ?_)
    · have hf := e_f hf c8_
      refine r_aload_n K dX10_guest_21 0 rfl rfl ?_
      refine r_getI K flX10_103 dX10_guest_22 rfl rfl ?_
      refine r_bipush (v := 9) K dX10_guest_25 rfl ?_
      refine r_icmp_ne (tgt := 35) K dX10_guest_27 (by decide) (fun c9_ => ?_) (fun c9_ => ?_)
      · have hf := e_f hf c9_
        refine r_aload_n K dX10_guest_35 0 rfl rfl ?_
        refine r_iconst (v := 0) K dX10_guest_36 rfl ?_
        refine r_iconst (v := 1) K dX10_guest_37 rfl ?_
        refine r_iconst (v := 0) K dX10_guest_38 rfl ?_
        refine r_iload_n K dX10_guest_39 1 rfl rfl ?_
        refine r_iload_n K dX10_guest_40 2 rfl rfl ?_
        obtain ⟨r10_, h11_, g12_, hf⟩ := e_2 hf
        refine r_callV (av := [.int 0, .int 1, .int 0, .int p0, .int p1]) (st := []) K lkX10_117 mwX10_add (conX10_add 0 1 0 p0 p1 h6_ r10_ h11_ g12_) dX10_guest_41 rfl (Nat.le_of_ble_eq_true rfl) rfl rfl (Nat.le_of_ble_eq_true rfl) ?_
        exact r_iret K Z dX10_guest_44 hf
      · have hf := e_t hf c9_
        refine r_bipush (v := (-3)) K dX10_guest_30 rfl ?_
        refine r_goto (tgt := 44) K dX10_guest_32 (by decide) ?_
        exact r_iret K Z dX10_guest_44 hf
    · have hf := e_t hf c8_
      refine r_iconst (v := (-1)) K dX10_guest_19 rfl ?_
      exact r_iret K Z dX10_guest_20 hf
theorem conX10_guest {G : GG} (p0 : Int32) (p1 : Int32) (h : AH) (rv : Int32) (h' : AH) (hf : fX10_guest p0 p1 h = some (rv, h')) : Con G 2 yX10_guest cX10_guest 3 (some .int) [.ref 59, .int p0, .int p1] h (some (.int rv)) h' := con_of mwX10_guest (Nat.le_of_ble_eq_true rfl) (fun E K Z => sX10_guest K Z p0 p1 h hf)
def fX10_guests_37_b (p0 : Int32) (p1 : Int32) (p2 : Int32) (Q37 : Int32 → Int32 → Int32 → Int32 → Int32 → AH → Option (Int32 × AH)) (x1 : Int32) (x2 : Int32) (x3 : Int32) (x4 : Int32) (x5 : Int32) (h : AH) : Option (Int32 × AH) :=
  if x3 ≤ x5 then some (x4, h) else if x4 = x5 then if 9 ≤ (h.1 59 2) then some (x4, h) else letV ((((x2 : Int32).toInt64) + (4 * ((x5 : Int32).toInt64)))) fun x14_ => if inb x1 6 = true then if (h.1 75 (ix x1)) = 0 then if x2 < 0 then Q37 x1 x2 x3 x4 (x5 + 1) h else if 0 ≤ (lg_cmp (x14_ + 3) (((h.1 76 (ix x1)) : Int32).toInt64)) then Q37 x1 x2 x3 x4 (x5 + 1) h else letV (((x14_ : Int64).toInt32)) fun x21_ => bind2 (fX10_byteAt x1 x21_ h) fun r23_ h24_ => bind2 (fX10_byteAt x1 (x21_ + 1) h24_) fun r26_ h27_ => bind2 (fX10_byteAt x1 (x21_ + 2) h27_) fun r29_ h30_ => bind2 (fX10_byteAt x1 (x21_ + 3) h30_) fun r32_ h33_ => bind2 (fX10_isIn r23_ 0 99 h33_) fun r35_ h36_ => if r35_ = 0 then Q37 x1 x2 x3 x4 (x5 + 1) h36_ else bind2 (fX10_isIn r26_ 0 9 h36_) fun r39_ h40_ => if r39_ = 0 then Q37 x1 x2 x3 x4 (x5 + 1) h40_ else bind2 (fX10_isIn r29_ 0 9 h40_) fun r43_ h44_ => if r43_ = 0 then Q37 x1 x2 x3 x4 (x5 + 1) h44_ else bind2 (fX10_isIn r32_ 0 1 h44_) fun r47_ h48_ => if r47_ = 0 then Q37 x1 x2 x3 x4 (x5 + 1) h48_ else bind2 (fX10_add r23_ r26_ r29_ r32_ 7 h48_) fun r51_ h52_ => Q37 x1 x2 x3 (x4 + 1) (x5 + 1) h52_ else Q37 x1 x2 x3 x4 (x5 + 1) h else none else some (x4, h)
def fX10_guests_37 (p0 : Int32) (p1 : Int32) (p2 : Int32) : Nat → Int32 → Int32 → Int32 → Int32 → Int32 → AH → Option (Int32 × AH)
  | 0 => fun _ _ _ _ _ _ => none
  | n + 1 => fX10_guests_37_b p0 p1 p2 (fX10_guests_37 p0 p1 p2 n)
set_option maxRecDepth 10000 in
theorem sX10_guests_37_b {G : GG} {E : EE} {rv : Int32} {h' : AH} (K : OK G E 2 RX10 cX10_guests 13) (Z : RT G E (some .int) (some (.int rv)) h') (p0 : Int32) (p1 : Int32) (p2 : Int32) (Q37 : Int32 → Int32 → Int32 → Int32 → Int32 → AH → Option (Int32 × AH)) (hQ37 : ∀ (x1 : Int32) (x2 : Int32) (x3 : Int32) (x4 : Int32) (x5 : Int32) (h : AH), Q37 x1 x2 x3 x4 x5 h = some (rv, h') → JJ G E 13 37 [(0, .ref 59), (1, .int x1), (2, .int x2), (3, .int x3), (4, .int x4), (5, .int x5)] [] h) (x1 : Int32) (x2 : Int32) (x3 : Int32) (x4 : Int32) (x5 : Int32) (h : AH) (hf : fX10_guests_37_b p0 p1 p2 Q37 x1 x2 x3 x4 x5 h = some (rv, h')) : JJ G E 13 37 [(0, .ref 59), (1, .int x1), (2, .int x2), (3, .int x3), (4, .int x4), (5, .int x5)] [] h := by
  unfold fX10_guests_37_b at hf
  refine r_iload K dX10_guests_37 5 rfl ?_
  refine r_iload_n K dX10_guests_39 3 rfl rfl ?_
  refine r_icmp_ge (tgt := 215) K dX10_guests_40 (by decide) (fun c11_ => ?_) (fun c11_ => ?_)
  · have hf := e_t hf c11_
    refine r_iload K dX10_guests_215 4 rfl ?_
    exact r_iret K Z dX10_guests_217 hf
  · have hf := e_f hf c11_
    refine r_iload K dX10_guests_43 4 rfl ?_
    refine r_iload K dX10_guests_45 5 rfl ?_
    refine r_icmp_ne (tgt := 215) K dX10_guests_47 (by decide) (fun c12_ => ?_) (fun c12_ => ?_)
    · have hf := e_f hf c12_
      refine r_iload K dX10_guests_215 4 rfl ?_
      exact r_iret K Z dX10_guests_217 hf
    · have hf := e_t hf c12_
      refine r_aload_n K dX10_guests_50 0 rfl rfl ?_
      refine r_getI K flX10_103 dX10_guests_51 rfl rfl ?_
      refine r_bipush (v := 9) K dX10_guests_54 rfl ?_
      refine r_icmp_ge (tgt := 215) K dX10_guests_56 (by decide) (fun c13_ => ?_) (fun c13_ => ?_)
      · have hf := e_t hf c13_
        refine r_iload K dX10_guests_215 4 rfl ?_
        exact r_iret K Z dX10_guests_217 hf
      · have hf := e_f hf c13_
        refine r_iload_n K dX10_guests_59 2 rfl rfl ?_
        refine r_i2l K dX10_guests_60 ?_
        refine r_ldc2 (v := 4) K dX10_guests_61 lcX10_253 ?_
        refine r_iload K dX10_guests_64 5 rfl ?_
        refine r_i2l K dX10_guests_66 ?_
        refine r_lmul K dX10_guests_67 ?_
        refine r_ladd K dX10_guests_68 ?_
        obtain ⟨x14_, e15_, hf⟩ := e_l hf
        refine r_nmL e15_ ?_
        refine r_lstore (lv' := [(6, .long x14_), (0, .ref 59), (1, .int x1), (2, .int x2), (3, .int x3), (4, .int x4), (5, .int x5)]) K dX10_guests_69 (Nat.le_of_ble_eq_true rfl) rfl ?_
        refine r_aload_n K dX10_guests_71 1 rfl rfl ?_
        refine r_getR (o' := 75) K flX10_60 dX10_guests_72 rfl rfl rfl ?_
        refine r_iload_n K dX10_guests_75 2 rfl rfl ?_
        obtain ⟨g16_, hf⟩ := e_g hf
        refine r_iald K dX10_guests_76 rfl g16_ ?_
        refine r_if_ne (tgt := 209) K dX10_guests_77 (by decide) (fun c17_ => ?_) (fun c17_ => ?_)
        · have hf := e_f hf c17_
          refine r_iinc (y := 1) (lv' := [(5, .int (x5 + 1)), (6, .long x14_), (0, .ref 59), (1, .int x1), (2, .int x2), (3, .int x3), (4, .int x4)]) K dX10_guests_209 6 rfl rfl (Nat.le_of_ble_eq_true rfl) rfl ?_
          refine r_goto (tgt := 37) K dX10_guests_212 (by decide) ?_
          refine r_lv [2, 3, 4, 5, 6, 0] rfl ?_
          exact hQ37 x1 x2 x3 x4 (x5 + 1) h hf
        · have hf := e_t hf c17_
          refine r_iload_n K dX10_guests_80 3 rfl rfl ?_
          refine r_if_lt (tgt := 209) K dX10_guests_81 (by decide) (fun c18_ => ?_) (fun c18_ => ?_)
          · have hf := e_t hf c18_
            refine r_iinc (y := 1) (lv' := [(5, .int (x5 + 1)), (6, .long x14_), (0, .ref 59), (1, .int x1), (2, .int x2), (3, .int x3), (4, .int x4)]) K dX10_guests_209 6 rfl rfl (Nat.le_of_ble_eq_true rfl) rfl ?_
            refine r_goto (tgt := 37) K dX10_guests_212 (by decide) ?_
            refine r_lv [2, 3, 4, 5, 6, 0] rfl ?_
            exact hQ37 x1 x2 x3 x4 (x5 + 1) h hf
          · have hf := e_f hf c18_
            refine r_lload K dX10_guests_84 0 rfl ?_
            refine r_ldc2 (v := 3) K dX10_guests_86 lcX10_255 ?_
            refine r_ladd K dX10_guests_89 ?_
            refine r_aload_n K dX10_guests_90 1 rfl rfl ?_
            refine r_getR (o' := 76) K flX10_63 dX10_guests_91 rfl rfl rfl ?_
            refine r_iload_n K dX10_guests_94 2 rfl rfl ?_
            refine r_iald K dX10_guests_95 rfl g16_ ?_
            refine r_i2l K dX10_guests_96 ?_
            refine r_lcmp K dX10_guests_97 ?_
            refine r_if_ge (tgt := 209) K dX10_guests_98 (by decide) (fun c20_ => ?_) (fun c20_ => ?_)
            · have hf := e_t hf c20_
              refine r_iinc (y := 1) (lv' := [(5, .int (x5 + 1)), (6, .long x14_), (0, .ref 59), (1, .int x1), (2, .int x2), (3, .int x3), (4, .int x4)]) K dX10_guests_209 6 rfl rfl (Nat.le_of_ble_eq_true rfl) rfl ?_
              refine r_goto (tgt := 37) K dX10_guests_212 (by decide) ?_
              refine r_lv [2, 3, 4, 5, 6, 0] rfl ?_
              exact hQ37 x1 x2 x3 x4 (x5 + 1) h hf
            · have hf := e_f hf c20_
              refine r_lload K dX10_guests_101 0 rfl ?_
              refine r_l2i K dX10_guests_103 ?_
              obtain ⟨x21_, e22_, hf⟩ := e_l hf
              refine r_nmI e22_ ?_
              refine r_istore (lv' := [(8, .int x21_), (6, .long x14_), (0, .ref 59), (1, .int x1), (2, .int x2), (3, .int x3), (4, .int x4), (5, .int x5)]) K dX10_guests_104 (Nat.le_of_ble_eq_true rfl) rfl ?_
              refine r_aload_n K dX10_guests_106 2 rfl rfl ?_
              refine r_iload_n K dX10_guests_107 3 rfl rfl ?_
              refine r_iload K dX10_guests_108 0 rfl ?_
              obtain ⟨r23_, h24_, g25_, hf⟩ := e_2 hf
              refine r_callV (av := [.int x1, .int x21_]) (st := []) K lkX10_257 mwX10_byteAt (conX10_byteAt x1 x21_ h r23_ h24_ g25_) dX10_guests_110 rfl (Nat.le_of_ble_eq_true rfl) rfl rfl (Nat.le_of_ble_eq_true rfl) ?_
              refine r_istore (lv' := [(9, .int r23_), (8, .int x21_), (6, .long x14_), (0, .ref 59), (1, .int x1), (2, .int x2), (3, .int x3), (4, .int x4), (5, .int x5)]) K dX10_guests_113 (Nat.le_of_ble_eq_true rfl) rfl ?_
              refine r_aload_n K dX10_guests_115 3 rfl rfl ?_
              refine r_iload_n K dX10_guests_116 4 rfl rfl ?_
              refine r_iload K dX10_guests_117 1 rfl ?_
              refine r_iconst (v := 1) K dX10_guests_119 rfl ?_
              refine r_iadd K dX10_guests_120 ?_
              obtain ⟨r26_, h27_, g28_, hf⟩ := e_2 hf
              refine r_callV (av := [.int x1, .int (x21_ + 1)]) (st := []) K lkX10_257 mwX10_byteAt (conX10_byteAt x1 (x21_ + 1) h24_ r26_ h27_ g28_) dX10_guests_121 rfl (Nat.le_of_ble_eq_true rfl) rfl rfl (Nat.le_of_ble_eq_true rfl) ?_
              refine r_istore (lv' := [(10, .int r26_), (9, .int r23_), (8, .int x21_), (6, .long x14_), (0, .ref 59), (1, .int x1), (2, .int x2), (3, .int x3), (4, .int x4), (5, .int x5)]) K dX10_guests_124 (Nat.le_of_ble_eq_true rfl) rfl ?_
              refine r_aload_n K dX10_guests_126 4 rfl rfl ?_
              refine r_iload_n K dX10_guests_127 5 rfl rfl ?_
              refine r_iload K dX10_guests_128 2 rfl ?_
              refine r_iconst (v := 2) K dX10_guests_130 rfl ?_
              refine r_iadd K dX10_guests_131 ?_
              obtain ⟨r29_, h30_, g31_, hf⟩ := e_2 hf
              refine r_callV (av := [.int x1, .int (x21_ + 2)]) (st := []) K lkX10_257 mwX10_byteAt (conX10_byteAt x1 (x21_ + 2) h27_ r29_ h30_ g31_) dX10_guests_132 rfl (Nat.le_of_ble_eq_true rfl) rfl rfl (Nat.le_of_ble_eq_true rfl) ?_
              refine r_istore (lv' := [(11, .int r29_), (10, .int r26_), (9, .int r23_), (8, .int x21_), (6, .long x14_), (0, .ref 59), (1, .int x1), (2, .int x2), (3, .int x3), (4, .int x4), (5, .int x5)]) K dX10_guests_135 (Nat.le_of_ble_eq_true rfl) rfl ?_
              refine r_aload_n K dX10_guests_137 5 rfl rfl ?_
              refine r_iload_n K dX10_guests_138 6 rfl rfl ?_
              refine r_iload K dX10_guests_139 3 rfl ?_
              refine r_iconst (v := 3) K dX10_guests_141 rfl ?_
              refine r_iadd K dX10_guests_142 ?_
              obtain ⟨r32_, h33_, g34_, hf⟩ := e_2 hf
              refine r_callV (av := [.int x1, .int (x21_ + 3)]) (st := []) K lkX10_257 mwX10_byteAt (conX10_byteAt x1 (x21_ + 3) h30_ r32_ h33_ g34_) dX10_guests_143 rfl (Nat.le_of_ble_eq_true rfl) rfl rfl (Nat.le_of_ble_eq_true rfl) ?_
              refine r_istore (lv' := [(12, .int r32_), (11, .int r29_), (10, .int r26_), (9, .int r23_), (8, .int x21_), (6, .long x14_), (0, .ref 59), (1, .int x1), (2, .int x2), (3, .int x3), (4, .int x4), (5, .int x5)]) K dX10_guests_146 (Nat.le_of_ble_eq_true rfl) rfl ?_
              refine r_iload K dX10_guests_148 3 rfl ?_
              refine r_iconst (v := 0) K dX10_guests_150 rfl ?_
              refine r_bipush (v := 99) K dX10_guests_151 rfl ?_
              obtain ⟨r35_, h36_, g37_, hf⟩ := e_2 hf
              refine r_callS (av := [.int r23_, .int 0, .int 99]) (st := []) K lkX10_106 mwX10_isIn (conX10_isIn r23_ 0 99 h33_ r35_ h36_ g37_) dX10_guests_153 (Nat.le_of_ble_eq_true rfl) rfl rfl (Nat.le_of_ble_eq_true rfl) ?_
              refine r_if_eq (tgt := 209) K dX10_guests_156 (by decide) (fun c38_ => ?_) (fun c38_ => ?_)
              · have hf := e_t hf c38_
                refine r_iinc (y := 1) (lv' := [(5, .int (x5 + 1)), (12, .int r32_), (11, .int r29_), (10, .int r26_), (9, .int r23_), (8, .int x21_), (6, .long x14_), (0, .ref 59), (1, .int x1), (2, .int x2), (3, .int x3), (4, .int x4)]) K dX10_guests_209 11 rfl rfl (Nat.le_of_ble_eq_true rfl) rfl ?_
                refine r_goto (tgt := 37) K dX10_guests_212 (by decide) ?_
                refine r_lv [7, 8, 9, 10, 11, 0] rfl ?_
                exact hQ37 x1 x2 x3 x4 (x5 + 1) h36_ hf
              · have hf := e_f hf c38_
                refine r_iload K dX10_guests_159 2 rfl ?_
                refine r_iconst (v := 0) K dX10_guests_161 rfl ?_
                refine r_bipush (v := 9) K dX10_guests_162 rfl ?_
                obtain ⟨r39_, h40_, g41_, hf⟩ := e_2 hf
                refine r_callS (av := [.int r26_, .int 0, .int 9]) (st := []) K lkX10_106 mwX10_isIn (conX10_isIn r26_ 0 9 h36_ r39_ h40_ g41_) dX10_guests_164 (Nat.le_of_ble_eq_true rfl) rfl rfl (Nat.le_of_ble_eq_true rfl) ?_
                refine r_if_eq (tgt := 209) K dX10_guests_167 (by decide) (fun c42_ => ?_) (fun c42_ => ?_)
                · have hf := e_t hf c42_
                  refine r_iinc (y := 1) (lv' := [(5, .int (x5 + 1)), (12, .int r32_), (11, .int r29_), (10, .int r26_), (9, .int r23_), (8, .int x21_), (6, .long x14_), (0, .ref 59), (1, .int x1), (2, .int x2), (3, .int x3), (4, .int x4)]) K dX10_guests_209 11 rfl rfl (Nat.le_of_ble_eq_true rfl) rfl ?_
                  refine r_goto (tgt := 37) K dX10_guests_212 (by decide) ?_
                  refine r_lv [7, 8, 9, 10, 11, 0] rfl ?_
                  exact hQ37 x1 x2 x3 x4 (x5 + 1) h40_ hf
                · have hf := e_f hf c42_
                  refine r_iload K dX10_guests_170 1 rfl ?_
                  refine r_iconst (v := 0) K dX10_guests_172 rfl ?_
                  refine r_bipush (v := 9) K dX10_guests_173 rfl ?_
                  obtain ⟨r43_, h44_, g45_, hf⟩ := e_2 hf
                  refine r_callS (av := [.int r29_, .int 0, .int 9]) (st := []) K lkX10_106 mwX10_isIn (conX10_isIn r29_ 0 9 h40_ r43_ h44_ g45_) dX10_guests_175 (Nat.le_of_ble_eq_true rfl) rfl rfl (Nat.le_of_ble_eq_true rfl) ?_
                  refine r_if_eq (tgt := 209) K dX10_guests_178 (by decide) (fun c46_ => ?_) (fun c46_ => ?_)
                  · have hf := e_t hf c46_
                    refine r_iinc (y := 1) (lv' := [(5, .int (x5 + 1)), (12, .int r32_), (11, .int r29_), (10, .int r26_), (9, .int r23_), (8, .int x21_), (6, .long x14_), (0, .ref 59), (1, .int x1), (2, .int x2), (3, .int x3), (4, .int x4)]) K dX10_guests_209 11 rfl rfl (Nat.le_of_ble_eq_true rfl) rfl ?_
                    refine r_goto (tgt := 37) K dX10_guests_212 (by decide) ?_
                    refine r_lv [7, 8, 9, 10, 11, 0] rfl ?_
                    exact hQ37 x1 x2 x3 x4 (x5 + 1) h44_ hf
                  · have hf := e_f hf c46_
                    refine r_iload K dX10_guests_181 0 rfl ?_
                    refine r_iconst (v := 0) K dX10_guests_183 rfl ?_
                    refine r_iconst (v := 1) K dX10_guests_184 rfl ?_
                    obtain ⟨r47_, h48_, g49_, hf⟩ := e_2 hf
                    refine r_callS (av := [.int r32_, .int 0, .int 1]) (st := []) K lkX10_106 mwX10_isIn (conX10_isIn r32_ 0 1 h44_ r47_ h48_ g49_) dX10_guests_185 (Nat.le_of_ble_eq_true rfl) rfl rfl (Nat.le_of_ble_eq_true rfl) ?_
                    refine r_if_eq (tgt := 209) K dX10_guests_188 (by decide) (fun c50_ => ?_) (fun c50_ => ?_)
                    · have hf := e_t hf c50_
                      refine r_iinc (y := 1) (lv' := [(5, .int (x5 + 1)), (12, .int r32_), (11, .int r29_), (10, .int r26_), (9, .int r23_), (8, .int x21_), (6, .long x14_), (0, .ref 59), (1, .int x1), (2, .int x2), (3, .int x3), (4, .int x4)]) K dX10_guests_209 11 rfl rfl (Nat.le_of_ble_eq_true rfl) rfl ?_
                      refine r_goto (tgt := 37) K dX10_guests_212 (by decide) ?_
                      refine r_lv [7, 8, 9, 10, 11, 0] rfl ?_
                      exact hQ37 x1 x2 x3 x4 (x5 + 1) h48_ hf
                    · have hf := e_f hf c50_
                      refine r_aload_n K dX10_guests_191 6 rfl rfl ?_
                      refine r_iload K dX10_guests_192 3 rfl ?_
                      refine r_iload K dX10_guests_194 2 rfl ?_
                      refine r_iload K dX10_guests_196 1 rfl ?_
                      refine r_iload K dX10_guests_198 0 rfl ?_
                      refine r_bipush (v := 7) K dX10_guests_200 rfl ?_
                      obtain ⟨r51_, h52_, g53_, hf⟩ := e_2 hf
                      refine r_callV (av := [.int r23_, .int r26_, .int r29_, .int r32_, .int 7]) (st := []) K lkX10_117 mwX10_add (conX10_add r23_ r26_ r29_ r32_ 7 h48_ r51_ h52_ g53_) dX10_guests_202 rfl (Nat.le_of_ble_eq_true rfl) rfl rfl (Nat.le_of_ble_eq_true rfl) ?_
                      refine r_pop K dX10_guests_205 rfl ?_
                      refine r_iinc (y := 1) (lv' := [(4, .int (x4 + 1)), (12, .int r32_), (11, .int r29_), (10, .int r26_), (9, .int r23_), (8, .int x21_), (6, .long x14_), (0, .ref 59), (1, .int x1), (2, .int x2), (3, .int x3), (5, .int x5)]) K dX10_guests_206 10 rfl rfl (Nat.le_of_ble_eq_true rfl) rfl ?_
                      refine r_iinc (y := 1) (lv' := [(5, .int (x5 + 1)), (4, .int (x4 + 1)), (12, .int r32_), (11, .int r29_), (10, .int r26_), (9, .int r23_), (8, .int x21_), (6, .long x14_), (0, .ref 59), (1, .int x1), (2, .int x2), (3, .int x3)]) K dX10_guests_209 11 rfl rfl (Nat.le_of_ble_eq_true rfl) rfl ?_
                      refine r_goto (tgt := 37) K dX10_guests_212 (by decide) ?_
                      refine r_lv [8, 9, 10, 11, 1, 0] rfl ?_
                      exact hQ37 x1 x2 x3 (x4 + 1) (x5 + 1) h52_ hf
theorem sX10_guests_37 {G : GG} {E : EE} {rv : Int32} {h' : AH} (K : OK G E 2 RX10 cX10_guests 13) (Z : RT G E (some .int) (some (.int rv)) h') (p0 : Int32) (p1 : Int32) (p2 : Int32) : ∀ (n : Nat) (x1 : Int32) (x2 : Int32) (x3 : Int32) (x4 : Int32) (x5 : Int32) (h : AH), fX10_guests_37 p0 p1 p2 n x1 x2 x3 x4 x5 h = some (rv, h') → JJ G E 13 37 [(0, .ref 59), (1, .int x1), (2, .int x2), (3, .int x3), (4, .int x4), (5, .int x5)] [] h := by
  intro n
  induction n with
  | zero => intro x1 x2 x3 x4 x5 h hf; cases hf
  | succ n ih => intro x1 x2 x3 x4 x5 h hf; exact sX10_guests_37_b K Z p0 p1 p2 _ (fun x1 x2 x3 x4 x5 h hf => ih x1 x2 x3 x4 x5 h hf) x1 x2 x3 x4 x5 h hf
def fX10_guests (p0 : Int32) (p1 : Int32) (p2 : Int32) (h : AH) : Option (Int32 × AH) :=
  bind2 (fX10_isShelf p0 h) fun r1_ h2_ => if r1_ = 0 then some ((-1), h2_) else bind2 (fX10_isIn p2 1 9 h2_) fun r5_ h6_ => if r5_ = 0 then some ((-1), h6_) else if inb p0 6 = true then if (h6_.1 75 (ix p0)) ≤ 0 then fX10_guests_37 p0 p1 p2 FU p0 p1 p2 0 0 h6_ else some ((-12), h6_) else none
set_option maxRecDepth 10000 in
theorem sX10_guests {G : GG} {E : EE} {rv : Int32} {h' : AH} (K : OK G E 2 RX10 cX10_guests 13) (Z : RT G E (some .int) (some (.int rv)) h') (p0 : Int32) (p1 : Int32) (p2 : Int32) (h : AH) (hf : fX10_guests p0 p1 p2 h = some (rv, h')) : JJ G E 13 0 [(0, .ref 59), (1, .int p0), (2, .int p1), (3, .int p2)] [] h := by
  unfold fX10_guests at hf
  refine r_iload_n K dX10_guests_0 1 rfl rfl ?_
  obtain ⟨r1_, h2_, g3_, hf⟩ := e_2 hf
  refine r_callS (av := [.int p0]) (st := []) K lkX10_250 mwX10_isShelf (conX10_isShelf p0 h r1_ h2_ g3_) dX10_guests_1 (Nat.le_of_ble_eq_true rfl) rfl rfl (Nat.le_of_ble_eq_true rfl) ?_
  refine r_if_eq (tgt := 17) K dX10_guests_4 (by decide) (fun c4_ => ?_) (fun c4_ => ?_)
  · have hf := e_t hf c4_
    refine r_iconst (v := (-1)) K dX10_guests_17 rfl ?_
    exact r_iret K Z dX10_guests_18 hf
  · have hf := e_f hf c4_
    refine r_iload_n K dX10_guests_7 3 rfl rfl ?_
    refine r_iconst (v := 1) K dX10_guests_8 rfl ?_
    refine r_bipush (v := 9) K dX10_guests_9 rfl ?_
    obtain ⟨r5_, h6_, g7_, hf⟩ := e_2 hf
    refine r_callS (av := [.int p2, .int 1, .int 9]) (st := []) K lkX10_106 mwX10_isIn (conX10_isIn p2 1 9 h2_ r5_ h6_ g7_) dX10_guests_11 (Nat.le_of_ble_eq_true rfl) rfl rfl (Nat.le_of_ble_eq_true rfl) ?_
    refine r_if_ne (tgt := 19) K dX10_guests_14 (by decide) (fun c8_ => ?_) (fun c8_ => ?_)
    · have hf := e_f hf c8_
      refine r_aload_n K dX10_guests_19 0 rfl rfl ?_
      refine r_getR (o' := 75) K flX10_60 dX10_guests_20 rfl rfl rfl ?_
      refine r_iload_n K dX10_guests_23 1 rfl rfl ?_
      obtain ⟨g9_, hf⟩ := e_g hf
      refine r_iald K dX10_guests_24 rfl g9_ ?_
      refine r_if_le (tgt := 31) K dX10_guests_25 (by decide) (fun c10_ => ?_) (fun c10_ => ?_)
      · have hf := e_t hf c10_
        refine r_iconst (v := 0) K dX10_guests_31 rfl ?_
        refine r_istore (lv' := [(4, .int 0), (0, .ref 59), (1, .int p0), (2, .int p1), (3, .int p2)]) K dX10_guests_32 (Nat.le_of_ble_eq_true rfl) rfl ?_
        refine r_iconst (v := 0) K dX10_guests_34 rfl ?_
        refine r_istore (lv' := [(5, .int 0), (4, .int 0), (0, .ref 59), (1, .int p0), (2, .int p1), (3, .int p2)]) K dX10_guests_35 (Nat.le_of_ble_eq_true rfl) rfl ?_
        refine r_lv [2, 3, 4, 5, 1, 0] rfl ?_
        exact sX10_guests_37 K Z p0 p1 p2 FU p0 p1 p2 0 0 h6_ hf
      · have hf := e_f hf c10_
        refine r_bipush (v := (-12)) K dX10_guests_28 rfl ?_
        exact r_iret K Z dX10_guests_30 hf
    · have hf := e_t hf c8_
      refine r_iconst (v := (-1)) K dX10_guests_17 rfl ?_
      exact r_iret K Z dX10_guests_18 hf
theorem conX10_guests {G : GG} (p0 : Int32) (p1 : Int32) (p2 : Int32) (h : AH) (rv : Int32) (h' : AH) (hf : fX10_guests p0 p1 p2 h = some (rv, h')) : Con G 2 yX10_guests cX10_guests 13 (some .int) [.ref 59, .int p0, .int p1, .int p2] h (some (.int rv)) h' := con_of mwX10_guests (Nat.le_of_ble_eq_true rfl) (fun E K Z => sX10_guests K Z p0 p1 p2 h hf)
def fX10_held_69 (p0 : Int32) (Q29 : Int32 → Int32 → Int32 → Int32 → AH → Option (Int32 × AH)) (x1 : Int32) (x3 : Int32) (x4 : Int32) (s0 : Int32) (h : AH) : Option (Int32 × AH) :=
  letV ((jmin (h.1 59 29) x3)) fun x20_ => Q29 x1 s0 x20_ (x4 + 1) h
set_option maxRecDepth 10000 in
theorem sX10_held_69 {G : GG} {E : EE} {rv : Int32} {h' : AH} (K : OK G E 67 RX10 cX10_held 5) (Z : RT G E (some .int) (some (.int rv)) h') (p0 : Int32) (Q29 : Int32 → Int32 → Int32 → Int32 → AH → Option (Int32 × AH)) (hQ29 : ∀ (x1 : Int32) (x2 : Int32) (x3 : Int32) (x4 : Int32) (h : AH), Q29 x1 x2 x3 x4 h = some (rv, h') → JJ G E 5 29 [(0, .ref 59), (1, .int x1), (2, .int x2), (3, .int x3), (4, .int x4)] [] h) (x1 : Int32) (x3 : Int32) (x4 : Int32) (s0 : Int32) (h : AH) (hf : fX10_held_69 p0 Q29 x1 x3 x4 s0 h = some (rv, h')) : JJ G E 5 69 [(0, .ref 59), (1, .int x1), (3, .int x3), (4, .int x4)] [.int s0] h := by
  unfold fX10_held_69 at hf
  refine r_istore_n (lv' := [(2, .int s0), (0, .ref 59), (1, .int x1), (3, .int x3), (4, .int x4)]) K dX10_held_69 rfl (Nat.le_of_ble_eq_true rfl) rfl ?_
  refine r_aload_n K dX10_held_70 1 rfl rfl ?_
  refine r_getI K flX10_238 dX10_held_71 rfl rfl ?_
  refine r_iload_n K dX10_held_74 3 rfl rfl ?_
  refine r_mmin K lmX10_94 dX10_held_75 (Nat.le_of_ble_eq_true rfl) (Nat.le_of_ble_eq_true rfl) ?_
  obtain ⟨x20_, e21_, hf⟩ := e_l hf
  refine r_nmI e21_ ?_
  refine r_istore_n (lv' := [(3, .int x20_), (2, .int s0), (0, .ref 59), (1, .int x1), (4, .int x4)]) K dX10_held_78 rfl (Nat.le_of_ble_eq_true rfl) rfl ?_
  refine r_iinc (y := 1) (lv' := [(4, .int (x4 + 1)), (3, .int x20_), (2, .int s0), (0, .ref 59), (1, .int x1)]) K dX10_held_79 4 rfl rfl (Nat.le_of_ble_eq_true rfl) rfl ?_
  refine r_goto (tgt := 29) K dX10_held_82 (by decide) ?_
  refine r_lv [3, 4, 2, 1, 0] rfl ?_
  exact hQ29 x1 s0 x20_ (x4 + 1) h hf
def fX10_held_29_b (p0 : Int32) (Q29 : Int32 → Int32 → Int32 → Int32 → AH → Option (Int32 × AH)) (x1 : Int32) (x2 : Int32) (x3 : Int32) (x4 : Int32) (h : AH) : Option (Int32 × AH) :=
  if (h.1 59 2) ≤ x4 then if x1 = 0 then some (x2, h) else some (x3, h) else bind2 (fX10_isHere x4 h) fun r12_ h13_ => if r12_ = 0 then Q29 x1 x2 x3 (x4 + 1) h13_ else bind2 (fX10_goAll 0 x4 h13_) fun r16_ h17_ => if x3 ≤ (h17_.1 59 29) then fX10_held_69 p0 Q29 x1 x3 x4 x2 h17_ else fX10_held_69 p0 Q29 x1 x3 x4 x4 h17_
def fX10_held_29 (p0 : Int32) : Nat → Int32 → Int32 → Int32 → Int32 → AH → Option (Int32 × AH)
  | 0 => fun _ _ _ _ _ => none
  | n + 1 => fX10_held_29_b p0 (fX10_held_29 p0 n)
set_option maxRecDepth 10000 in
theorem sX10_held_29_b {G : GG} {E : EE} {rv : Int32} {h' : AH} (K : OK G E 67 RX10 cX10_held 5) (Z : RT G E (some .int) (some (.int rv)) h') (p0 : Int32) (Q29 : Int32 → Int32 → Int32 → Int32 → AH → Option (Int32 × AH)) (hQ29 : ∀ (x1 : Int32) (x2 : Int32) (x3 : Int32) (x4 : Int32) (h : AH), Q29 x1 x2 x3 x4 h = some (rv, h') → JJ G E 5 29 [(0, .ref 59), (1, .int x1), (2, .int x2), (3, .int x3), (4, .int x4)] [] h) (x1 : Int32) (x2 : Int32) (x3 : Int32) (x4 : Int32) (h : AH) (hf : fX10_held_29_b p0 Q29 x1 x2 x3 x4 h = some (rv, h')) : JJ G E 5 29 [(0, .ref 59), (1, .int x1), (2, .int x2), (3, .int x3), (4, .int x4)] [] h := by
  unfold fX10_held_29_b at hf
  refine r_iload K dX10_held_29 4 rfl ?_
  refine r_aload_n K dX10_held_31 0 rfl rfl ?_
  refine r_getI K flX10_103 dX10_held_32 rfl rfl ?_
  refine r_icmp_ge (tgt := 85) K dX10_held_35 (by decide) (fun c10_ => ?_) (fun c10_ => ?_)
  · have hf := e_t hf c10_
    refine r_iload_n K dX10_held_85 1 rfl rfl ?_
    refine r_if_ne (tgt := 93) K dX10_held_86 (by decide) (fun c11_ => ?_) (fun c11_ => ?_)
    · have hf := e_f hf c11_
      refine r_iload_n K dX10_held_93 3 rfl rfl ?_
      exact r_iret K Z dX10_held_94 hf
    · have hf := e_t hf c11_
      refine r_iload_n K dX10_held_89 2 rfl rfl ?_
      refine r_goto (tgt := 94) K dX10_held_90 (by decide) ?_
      exact r_iret K Z dX10_held_94 hf
  · have hf := e_f hf c10_
    refine r_aload_n K dX10_held_38 0 rfl rfl ?_
    refine r_iload K dX10_held_39 4 rfl ?_
    obtain ⟨r12_, h13_, g14_, hf⟩ := e_2 hf
    refine r_callV (av := [.int x4]) (st := []) K lkX10_197 mwX10_isHere (conX10_isHere x4 h r12_ h13_ g14_) dX10_held_41 rfl (Nat.le_of_ble_eq_true rfl) rfl rfl (Nat.le_of_ble_eq_true rfl) ?_
    refine r_if_eq (tgt := 79) K dX10_held_44 (by decide) (fun c15_ => ?_) (fun c15_ => ?_)
    · have hf := e_t hf c15_
      refine r_iinc (y := 1) (lv' := [(4, .int (x4 + 1)), (0, .ref 59), (1, .int x1), (2, .int x2), (3, .int x3)]) K dX10_held_79 4 rfl rfl (Nat.le_of_ble_eq_true rfl) rfl ?_
      refine r_goto (tgt := 29) K dX10_held_82 (by decide) ?_
      refine r_lv [1, 2, 3, 4, 0] rfl ?_
      exact hQ29 x1 x2 x3 (x4 + 1) h13_ hf
    · have hf := e_f hf c15_
      refine r_aload_n K dX10_held_47 0 rfl rfl ?_
      refine r_iconst (v := 0) K dX10_held_48 rfl ?_
      refine r_iload K dX10_held_49 4 rfl ?_
      obtain ⟨r16_, h17_, g18_, hf⟩ := e_2 hf
      refine r_callV (av := [.int 0, .int x4]) (st := []) K lkX10_241 mwX10_goAll (conX10_goAll 0 x4 h13_ r16_ h17_ g18_) dX10_held_51 rfl (Nat.le_of_ble_eq_true rfl) rfl rfl (Nat.le_of_ble_eq_true rfl) ?_
      refine r_pop K dX10_held_54 rfl ?_
      refine r_aload_n K dX10_held_55 0 rfl rfl ?_
      refine r_getI K flX10_238 dX10_held_56 rfl rfl ?_
      refine r_iload_n K dX10_held_59 3 rfl rfl ?_
      refine r_icmp_ge (tgt := 68) K dX10_held_60 (by decide) (fun c19_ => ?_) (fun c19_ => ?_)
      · have hf := e_t hf c19_
        refine r_iload_n K dX10_held_68 2 rfl rfl ?_
        refine r_lv [0, 1, 3, 4] rfl ?_
        exact sX10_held_69 K Z p0 Q29 hQ29 x1 x3 x4 x2 h17_ hf
      · have hf := e_f hf c19_
        refine r_iload K dX10_held_63 4 rfl ?_
        refine r_goto (tgt := 69) K dX10_held_65 (by decide) ?_
        refine r_lv [0, 1, 3, 4] rfl ?_
        exact sX10_held_69 K Z p0 Q29 hQ29 x1 x3 x4 x4 h17_ hf
theorem sX10_held_29 {G : GG} {E : EE} {rv : Int32} {h' : AH} (K : OK G E 67 RX10 cX10_held 5) (Z : RT G E (some .int) (some (.int rv)) h') (p0 : Int32) : ∀ (n : Nat) (x1 : Int32) (x2 : Int32) (x3 : Int32) (x4 : Int32) (h : AH), fX10_held_29 p0 n x1 x2 x3 x4 h = some (rv, h') → JJ G E 5 29 [(0, .ref 59), (1, .int x1), (2, .int x2), (3, .int x3), (4, .int x4)] [] h := by
  intro n
  induction n with
  | zero => intro x1 x2 x3 x4 h hf; cases hf
  | succ n ih => intro x1 x2 x3 x4 h hf; exact sX10_held_29_b K Z p0 _ (fun x1 x2 x3 x4 h hf => ih x1 x2 x3 x4 h hf) x1 x2 x3 x4 h hf
def fX10_held (p0 : Int32) (h : AH) : Option (Int32 × AH) :=
  bind2 (fX10_isIn p0 0 1 h) fun r1_ h2_ => if r1_ = 0 then some ((-1), h2_) else bind2 (fX10_goAll 0 (-1) h2_) fun r5_ h6_ => letV ((h6_.1 59 29)) fun x8_ => fX10_held_29 p0 FU p0 9 x8_ 0 h6_
set_option maxRecDepth 10000 in
theorem sX10_held {G : GG} {E : EE} {rv : Int32} {h' : AH} (K : OK G E 67 RX10 cX10_held 5) (Z : RT G E (some .int) (some (.int rv)) h') (p0 : Int32) (h : AH) (hf : fX10_held p0 h = some (rv, h')) : JJ G E 5 0 [(0, .ref 59), (1, .int p0)] [] h := by
  unfold fX10_held at hf
  refine r_iload_n K dX10_held_0 1 rfl rfl ?_
  refine r_iconst (v := 0) K dX10_held_1 rfl ?_
  refine r_iconst (v := 1) K dX10_held_2 rfl ?_
  obtain ⟨r1_, h2_, g3_, hf⟩ := e_2 hf
  refine r_callS (av := [.int p0, .int 0, .int 1]) (st := []) K lkX10_106 mwX10_isIn (conX10_isIn p0 0 1 h r1_ h2_ g3_) dX10_held_3 (Nat.le_of_ble_eq_true rfl) rfl rfl (Nat.le_of_ble_eq_true rfl) ?_
  refine r_if_ne (tgt := 11) K dX10_held_6 (by decide) (fun c4_ => ?_) (fun c4_ => ?_)
  · have hf := e_f hf c4_
    refine r_aload_n K dX10_held_11 0 rfl rfl ?_
    refine r_iconst (v := 0) K dX10_held_12 rfl ?_
    refine r_iconst (v := (-1)) K dX10_held_13 rfl ?_
    obtain ⟨r5_, h6_, g7_, hf⟩ := e_2 hf
    refine r_callV (av := [.int 0, .int (-1)]) (st := []) K lkX10_241 mwX10_goAll (conX10_goAll 0 (-1) h2_ r5_ h6_ g7_) dX10_held_14 rfl (Nat.le_of_ble_eq_true rfl) rfl rfl (Nat.le_of_ble_eq_true rfl) ?_
    refine r_pop K dX10_held_17 rfl ?_
    refine r_bipush (v := 9) K dX10_held_18 rfl ?_
    refine r_istore_n (lv' := [(2, .int 9), (0, .ref 59), (1, .int p0)]) K dX10_held_20 rfl (Nat.le_of_ble_eq_true rfl) rfl ?_
    refine r_aload_n K dX10_held_21 1 rfl rfl ?_
    refine r_getI K flX10_238 dX10_held_22 rfl rfl ?_
    obtain ⟨x8_, e9_, hf⟩ := e_l hf
    refine r_nmI e9_ ?_
    refine r_istore_n (lv' := [(3, .int x8_), (2, .int 9), (0, .ref 59), (1, .int p0)]) K dX10_held_25 rfl (Nat.le_of_ble_eq_true rfl) rfl ?_
    refine r_iconst (v := 0) K dX10_held_26 rfl ?_
    refine r_istore (lv' := [(4, .int 0), (3, .int x8_), (2, .int 9), (0, .ref 59), (1, .int p0)]) K dX10_held_27 (Nat.le_of_ble_eq_true rfl) rfl ?_
    refine r_lv [3, 4, 2, 1, 0] rfl ?_
    exact sX10_held_29 K Z p0 FU p0 9 x8_ 0 h6_ hf
  · have hf := e_t hf c4_
    refine r_iconst (v := (-1)) K dX10_held_9 rfl ?_
    exact r_iret K Z dX10_held_10 hf
theorem conX10_held {G : GG} (p0 : Int32) (h : AH) (rv : Int32) (h' : AH) (hf : fX10_held p0 h = some (rv, h')) : Con G 67 yX10_held cX10_held 5 (some .int) [.ref 59, .int p0] h (some (.int rv)) h' := con_of mwX10_held (Nat.le_of_ble_eq_true rfl) (fun E K Z => sX10_held K Z p0 h hf)
def fX10_image_28_b (Q28 : Int32 → AH → Option (Int32 × AH)) (x1 : Int32) (h : AH) : Option (Int32 × AH) :=
  if 5 ≤ x1 then letV (wI h 59 38 (h.1 59 2)) fun h3_ => letV (wI h3_ 59 39 1) fun h5_ => some ((h5_.1 79 (ix 2)), h5_) else if inb x1 5 = true then letV (wI h 81 (ix x1) (h.1 79 (ix x1))) fun h10_ => Q28 (x1 + 1) h10_ else none
def fX10_image_28 : Nat → Int32 → AH → Option (Int32 × AH)
  | 0 => fun _ _ => none
  | n + 1 => fX10_image_28_b (fX10_image_28 n)
set_option maxRecDepth 10000 in
theorem sX10_image_28_b {G : GG} {E : EE} {rv : Int32} {h' : AH} (K : OK G E 0 RX10 cX10_image 2) (Z : RT G E (some .int) (some (.int rv)) h') (Q28 : Int32 → AH → Option (Int32 × AH)) (hQ28 : ∀ (x1 : Int32) (h : AH), Q28 x1 h = some (rv, h') → JJ G E 2 28 [(0, .ref 59), (1, .int x1)] [] h) (x1 : Int32) (h : AH) (hf : fX10_image_28_b Q28 x1 h = some (rv, h')) : JJ G E 2 28 [(0, .ref 59), (1, .int x1)] [] h := by
  unfold fX10_image_28_b at hf
  refine r_iload_n K dX10_image_28 1 rfl rfl ?_
  refine r_iconst (v := 5) K dX10_image_29 rfl ?_
  refine r_icmp_ge (tgt := 51) K dX10_image_30 (by decide) (fun c2_ => ?_) (fun c2_ => ?_)
  · have hf := e_t hf c2_
    refine r_aload_n K dX10_image_51 0 rfl rfl ?_
    refine r_aload_n K dX10_image_52 0 rfl rfl ?_
    refine r_getI K flX10_103 dX10_image_53 rfl rfl ?_
    obtain ⟨h3_, e4_, hf⟩ := e_l hf
    refine r_putI K fpX10_282 dX10_image_56 rfl rfl e4_ ?_
    refine r_aload_n K dX10_image_59 0 rfl rfl ?_
    refine r_iconst (v := 1) K dX10_image_60 rfl ?_
    obtain ⟨h5_, e6_, hf⟩ := e_l hf
    refine r_putZ K fpX10_285 dX10_image_61 rfl rfl rfl e6_ ?_
    refine r_aload_n K dX10_image_64 0 rfl rfl ?_
    refine r_getR (o' := 79) K flX10_73 dX10_image_65 rfl rfl rfl ?_
    refine r_iconst (v := 2) K dX10_image_68 rfl ?_
    refine r_iald K dX10_image_69 rfl (by decide +kernel) ?_
    exact r_iret K Z dX10_image_70 hf
  · have hf := e_f hf c2_
    refine r_aload_n K dX10_image_33 0 rfl rfl ?_
    refine r_getR (o' := 81) K flX10_79 dX10_image_34 rfl rfl rfl ?_
    refine r_iload_n K dX10_image_37 1 rfl rfl ?_
    refine r_aload_n K dX10_image_38 0 rfl rfl ?_
    refine r_getR (o' := 79) K flX10_73 dX10_image_39 rfl rfl rfl ?_
    refine r_iload_n K dX10_image_42 1 rfl rfl ?_
    obtain ⟨g8_, hf⟩ := e_g hf
    refine r_iald K dX10_image_43 rfl g8_ ?_
    obtain ⟨h10_, e11_, hf⟩ := e_l hf
    refine r_iast K dX10_image_44 rfl g8_ e11_ ?_
    refine r_iinc (y := 1) (lv' := [(1, .int (x1 + 1)), (0, .ref 59)]) K dX10_image_45 1 rfl rfl (Nat.le_of_ble_eq_true rfl) rfl ?_
    refine r_goto (tgt := 28) K dX10_image_48 (by decide) ?_
    refine r_lv [1, 0] rfl ?_
    exact hQ28 (x1 + 1) h10_ hf
theorem sX10_image_28 {G : GG} {E : EE} {rv : Int32} {h' : AH} (K : OK G E 0 RX10 cX10_image 2) (Z : RT G E (some .int) (some (.int rv)) h') : ∀ (n : Nat) (x1 : Int32) (h : AH), fX10_image_28 n x1 h = some (rv, h') → JJ G E 2 28 [(0, .ref 59), (1, .int x1)] [] h := by
  intro n
  induction n with
  | zero => intro x1 h hf; cases hf
  | succ n ih => intro x1 h hf; exact sX10_image_28_b K Z _ (fun x1 h hf => ih x1 h hf) x1 h hf
def fX10_image_2_b (Q2 : Int32 → AH → Option (Int32 × AH)) (x1 : Int32) (h : AH) : Option (Int32 × AH) :=
  if 94 ≤ x1 then fX10_image_28 FU 0 h else if inb x1 94 = true then letV (wI h 80 (ix x1) (h.1 60 (ix x1))) fun h14_ => Q2 (x1 + 1) h14_ else none
def fX10_image_2 : Nat → Int32 → AH → Option (Int32 × AH)
  | 0 => fun _ _ => none
  | n + 1 => fX10_image_2_b (fX10_image_2 n)
set_option maxRecDepth 10000 in
theorem sX10_image_2_b {G : GG} {E : EE} {rv : Int32} {h' : AH} (K : OK G E 0 RX10 cX10_image 2) (Z : RT G E (some .int) (some (.int rv)) h') (Q2 : Int32 → AH → Option (Int32 × AH)) (hQ2 : ∀ (x1 : Int32) (h : AH), Q2 x1 h = some (rv, h') → JJ G E 2 2 [(0, .ref 59), (1, .int x1)] [] h) (x1 : Int32) (h : AH) (hf : fX10_image_2_b Q2 x1 h = some (rv, h')) : JJ G E 2 2 [(0, .ref 59), (1, .int x1)] [] h := by
  unfold fX10_image_2_b at hf
  refine r_iload_n K dX10_image_2 1 rfl rfl ?_
  refine r_bipush (v := 94) K dX10_image_3 rfl ?_
  refine r_icmp_ge (tgt := 26) K dX10_image_5 (by decide) (fun c1_ => ?_) (fun c1_ => ?_)
  · have hf := e_t hf c1_
    refine r_iconst (v := 0) K dX10_image_26 rfl ?_
    refine r_istore_n (lv' := [(1, .int 0), (0, .ref 59)]) K dX10_image_27 rfl (Nat.le_of_ble_eq_true rfl) rfl ?_
    refine r_lv [1, 0] rfl ?_
    exact sX10_image_28 K Z FU 0 h hf
  · have hf := e_f hf c1_
    refine r_aload_n K dX10_image_8 0 rfl rfl ?_
    refine r_getR (o' := 80) K flX10_76 dX10_image_9 rfl rfl rfl ?_
    refine r_iload_n K dX10_image_12 1 rfl rfl ?_
    refine r_aload_n K dX10_image_13 0 rfl rfl ?_
    refine r_getR (o' := 60) K flX10_7 dX10_image_14 rfl rfl rfl ?_
    refine r_iload_n K dX10_image_17 1 rfl rfl ?_
    obtain ⟨g12_, hf⟩ := e_g hf
    refine r_iald K dX10_image_18 rfl g12_ ?_
    obtain ⟨h14_, e15_, hf⟩ := e_l hf
    refine r_iast K dX10_image_19 rfl g12_ e15_ ?_
    refine r_iinc (y := 1) (lv' := [(1, .int (x1 + 1)), (0, .ref 59)]) K dX10_image_20 1 rfl rfl (Nat.le_of_ble_eq_true rfl) rfl ?_
    refine r_goto (tgt := 2) K dX10_image_23 (by decide) ?_
    refine r_lv [1, 0] rfl ?_
    exact hQ2 (x1 + 1) h14_ hf
theorem sX10_image_2 {G : GG} {E : EE} {rv : Int32} {h' : AH} (K : OK G E 0 RX10 cX10_image 2) (Z : RT G E (some .int) (some (.int rv)) h') : ∀ (n : Nat) (x1 : Int32) (h : AH), fX10_image_2 n x1 h = some (rv, h') → JJ G E 2 2 [(0, .ref 59), (1, .int x1)] [] h := by
  intro n
  induction n with
  | zero => intro x1 h hf; cases hf
  | succ n ih => intro x1 h hf; exact sX10_image_2_b K Z _ (fun x1 h hf => ih x1 h hf) x1 h hf
def fX10_image (h : AH) : Option (Int32 × AH) :=
  fX10_image_2 FU 0 h
set_option maxRecDepth 10000 in
theorem sX10_image {G : GG} {E : EE} {rv : Int32} {h' : AH} (K : OK G E 0 RX10 cX10_image 2) (Z : RT G E (some .int) (some (.int rv)) h') (h : AH) (hf : fX10_image h = some (rv, h')) : JJ G E 2 0 [(0, .ref 59)] [] h := by
  unfold fX10_image at hf
  refine r_iconst (v := 0) K dX10_image_0 rfl ?_
  refine r_istore_n (lv' := [(1, .int 0), (0, .ref 59)]) K dX10_image_1 rfl (Nat.le_of_ble_eq_true rfl) rfl ?_
  refine r_lv [1, 0] rfl ?_
  exact sX10_image_2 K Z FU 0 h hf
theorem conX10_image {G : GG} (h : AH) (rv : Int32) (h' : AH) (hf : fX10_image h = some (rv, h')) : Con G 0 yX10_image cX10_image 2 (some .int) [.ref 59] h (some (.int rv)) h' := con_of mwX10_image (Nat.le_of_ble_eq_true rfl) (fun E K Z => sX10_image K Z h hf)
def fX10_judge (p0 : Int32) (h : AH) : Option (Int32 × AH) :=
  bind2 (fX10_isShelf p0 h) fun r1_ h2_ => if r1_ = 0 then some ((-1), h2_) else bind2 (fX10_bytesIn p0 h2_) fun r5_ h6_ => if 1 ≤ r5_ then bind2 (fX10_wrong p0 h6_) fun r9_ h10_ => some (r9_, h10_) else bind2 (fX10_bytesIn p0 h6_) fun r12_ h13_ => some (r12_, h13_)
set_option maxRecDepth 10000 in
theorem sX10_judge {G : GG} {E : EE} {rv : Int32} {h' : AH} (K : OK G E 68 RX10 cX10_judge 2) (Z : RT G E (some .int) (some (.int rv)) h') (p0 : Int32) (h : AH) (hf : fX10_judge p0 h = some (rv, h')) : JJ G E 2 0 [(0, .ref 59), (1, .int p0)] [] h := by
  unfold fX10_judge at hf
  refine r_iload_n K dX10_judge_0 1 rfl rfl ?_
  obtain ⟨r1_, h2_, g3_, hf⟩ := e_2 hf
  refine r_callS (av := [.int p0]) (st := []) K lkX10_250 mwX10_isShelf (conX10_isShelf p0 h r1_ h2_ g3_) dX10_judge_1 (Nat.le_of_ble_eq_true rfl) rfl rfl (Nat.le_of_ble_eq_true rfl) ?_
  refine r_if_ne (tgt := 9) K dX10_judge_4 (by decide) (fun c4_ => ?_) (fun c4_ => ?_)
  · have hf := e_f hf c4_
    refine r_aload_n K dX10_judge_9 0 rfl rfl ?_
    refine r_iload_n K dX10_judge_10 1 rfl rfl ?_
    obtain ⟨r5_, h6_, g7_, hf⟩ := e_2 hf
    refine r_callV (av := [.int p0]) (st := []) K lkX10_260 mwX10_bytesIn (conX10_bytesIn p0 h2_ r5_ h6_ g7_) dX10_judge_11 rfl (Nat.le_of_ble_eq_true rfl) rfl rfl (Nat.le_of_ble_eq_true rfl) ?_
    refine r_iconst (v := 1) K dX10_judge_14 rfl ?_
    refine r_icmp_ge (tgt := 26) K dX10_judge_15 (by decide) (fun c8_ => ?_) (fun c8_ => ?_)
    · have hf := e_t hf c8_
      refine r_aload_n K dX10_judge_26 0 rfl rfl ?_
      refine r_iload_n K dX10_judge_27 1 rfl rfl ?_
      obtain ⟨r9_, h10_, g11_, hf⟩ := e_2 hf
      refine r_callV (av := [.int p0]) (st := []) K lkX10_263 mwX10_wrong (conX10_wrong p0 h6_ r9_ h10_ g11_) dX10_judge_28 rfl (Nat.le_of_ble_eq_true rfl) rfl rfl (Nat.le_of_ble_eq_true rfl) ?_
      exact r_iret K Z dX10_judge_31 hf
    · have hf := e_f hf c8_
      refine r_aload_n K dX10_judge_18 0 rfl rfl ?_
      refine r_iload_n K dX10_judge_19 1 rfl rfl ?_
      obtain ⟨r12_, h13_, g14_, hf⟩ := e_2 hf
      refine r_callV (av := [.int p0]) (st := []) K lkX10_260 mwX10_bytesIn (conX10_bytesIn p0 h6_ r12_ h13_ g14_) dX10_judge_20 rfl (Nat.le_of_ble_eq_true rfl) rfl rfl (Nat.le_of_ble_eq_true rfl) ?_
      refine r_goto (tgt := 31) K dX10_judge_23 (by decide) ?_
      exact r_iret K Z dX10_judge_31 hf
  · have hf := e_t hf c4_
    refine r_iconst (v := (-1)) K dX10_judge_7 rfl ?_
    exact r_iret K Z dX10_judge_8 hf
theorem conX10_judge {G : GG} (p0 : Int32) (h : AH) (rv : Int32) (h' : AH) (hf : fX10_judge p0 h = some (rv, h')) : Con G 68 yX10_judge cX10_judge 2 (some .int) [.ref 59, .int p0] h (some (.int rv)) h' := con_of mwX10_judge (Nat.le_of_ble_eq_true rfl) (fun E K Z => sX10_judge K Z p0 h hf)
def fX10_keep_41 (p0 : Int32) (p1 : Int32) (s0 : Int32) (s1 : Int32) (h : AH) : Option (Int32 × AH) :=
  if inb s1 6 = true then letV (wI h 75 (ix s1) s0) fun h11_ => some (1, h11_) else none
set_option maxRecDepth 10000 in
theorem sX10_keep_41 {G : GG} {E : EE} {rv : Int32} {h' : AH} (K : OK G E 2 RX10 cX10_keep 3) (Z : RT G E (some .int) (some (.int rv)) h') (p0 : Int32) (p1 : Int32) (s0 : Int32) (s1 : Int32) (h : AH) (hf : fX10_keep_41 p0 p1 s0 s1 h = some (rv, h')) : JJ G E 3 41 [] [.int s0, .int s1, .ref 75] h := by
  unfold fX10_keep_41 at hf
  obtain ⟨g10_, hf⟩ := e_g hf
  obtain ⟨h11_, e12_, hf⟩ := e_l hf
  refine r_iast K dX10_keep_41 rfl g10_ e12_ ?_
  refine r_iconst (v := 1) K dX10_keep_42 rfl ?_
  exact r_iret K Z dX10_keep_43 hf
def fX10_keep (p0 : Int32) (p1 : Int32) (h : AH) : Option (Int32 × AH) :=
  bind2 (fX10_isShelf p0 h) fun r1_ h2_ => if r1_ = 0 then some ((-1), h2_) else bind2 (fX10_isIn p1 (-1) ((h2_.1 59 43) - 1) h2_) fun r5_ h6_ => if r5_ = 0 then some ((-1), h6_) else if p1 = (-1) then fX10_keep_41 p0 p1 (-1) p0 h6_ else fX10_keep_41 p0 p1 (10 + p1) p0 h6_
set_option maxRecDepth 10000 in
theorem sX10_keep {G : GG} {E : EE} {rv : Int32} {h' : AH} (K : OK G E 2 RX10 cX10_keep 3) (Z : RT G E (some .int) (some (.int rv)) h') (p0 : Int32) (p1 : Int32) (h : AH) (hf : fX10_keep p0 p1 h = some (rv, h')) : JJ G E 3 0 [(0, .ref 59), (1, .int p0), (2, .int p1)] [] h := by
  unfold fX10_keep at hf
  refine r_iload_n K dX10_keep_0 1 rfl rfl ?_
  obtain ⟨r1_, h2_, g3_, hf⟩ := e_2 hf
  refine r_callS (av := [.int p0]) (st := []) K lkX10_250 mwX10_isShelf (conX10_isShelf p0 h r1_ h2_ g3_) dX10_keep_1 (Nat.le_of_ble_eq_true rfl) rfl rfl (Nat.le_of_ble_eq_true rfl) ?_
  refine r_if_eq (tgt := 21) K dX10_keep_4 (by decide) (fun c4_ => ?_) (fun c4_ => ?_)
  · have hf := e_t hf c4_
    refine r_iconst (v := (-1)) K dX10_keep_21 rfl ?_
    exact r_iret K Z dX10_keep_22 hf
  · have hf := e_f hf c4_
    refine r_iload_n K dX10_keep_7 2 rfl rfl ?_
    refine r_iconst (v := (-1)) K dX10_keep_8 rfl ?_
    refine r_aload_n K dX10_keep_9 0 rfl rfl ?_
    refine r_getI K flX10_288 dX10_keep_10 rfl rfl ?_
    refine r_iconst (v := 1) K dX10_keep_13 rfl ?_
    refine r_isub K dX10_keep_14 ?_
    obtain ⟨r5_, h6_, g7_, hf⟩ := e_2 hf
    refine r_callS (av := [.int p1, .int (-1), .int ((h2_.1 59 43) - 1)]) (st := []) K lkX10_106 mwX10_isIn (conX10_isIn p1 (-1) ((h2_.1 59 43) - 1) h2_ r5_ h6_ g7_) dX10_keep_15 (Nat.le_of_ble_eq_true rfl) rfl rfl (Nat.le_of_ble_eq_true rfl) ?_
    refine r_if_ne (tgt := 23) K dX10_keep_18 (by decide) (fun c8_ => ?_) (fun c8_ => ?_)
    · have hf := e_f hf c8_
      refine r_aload_n K dX10_keep_23 0 rfl rfl ?_
      refine r_getR (o' := 75) K flX10_60 dX10_keep_24 rfl rfl rfl ?_
      refine r_iload_n K dX10_keep_27 1 rfl rfl ?_
      refine r_iload_n K dX10_keep_28 2 rfl rfl ?_
      refine r_iconst (v := (-1)) K dX10_keep_29 rfl ?_
      refine r_icmp_ne (tgt := 37) K dX10_keep_30 (by decide) (fun c9_ => ?_) (fun c9_ => ?_)
      · have hf := e_f hf c9_
        refine r_bipush (v := 10) K dX10_keep_37 rfl ?_
        refine r_iload_n K dX10_keep_39 2 rfl rfl ?_
        refine r_iadd K dX10_keep_40 ?_
        refine r_lv [] rfl ?_
        exact sX10_keep_41 K Z p0 p1 (10 + p1) p0 h6_ hf
      · have hf := e_t hf c9_
        refine r_iconst (v := (-1)) K dX10_keep_33 rfl ?_
        refine r_goto (tgt := 41) K dX10_keep_34 (by decide) ?_
        refine r_lv [] rfl ?_
        exact sX10_keep_41 K Z p0 p1 (-1) p0 h6_ hf
    · have hf := e_t hf c8_
      refine r_iconst (v := (-1)) K dX10_keep_21 rfl ?_
      exact r_iret K Z dX10_keep_22 hf
theorem conX10_keep {G : GG} (p0 : Int32) (p1 : Int32) (h : AH) (rv : Int32) (h' : AH) (hf : fX10_keep p0 p1 h = some (rv, h')) : Con G 2 yX10_keep cX10_keep 3 (some .int) [.ref 59, .int p0, .int p1] h (some (.int rv)) h' := con_of mwX10_keep (Nat.le_of_ble_eq_true rfl) (fun E K Z => sX10_keep K Z p0 p1 h hf)
def fX10_placeOf_7_b (p0 : Int32) (Q7 : Int32 → Int32 → Int32 → AH → Option (Int32 × AH)) (x1 : Int32) (x2 : Int32) (x3 : Int32) (h : AH) : Option (Int32 × AH) :=
  if x2 ≤ x3 then some ((-2), h) else if inb x3 9 = true then if (h.1 72 (ix x3)) = x1 then some (x3, h) else Q7 x1 x2 (x3 + 1) h else none
def fX10_placeOf_7 (p0 : Int32) : Nat → Int32 → Int32 → Int32 → AH → Option (Int32 × AH)
  | 0 => fun _ _ _ _ => none
  | n + 1 => fX10_placeOf_7_b p0 (fX10_placeOf_7 p0 n)
set_option maxRecDepth 10000 in
theorem sX10_placeOf_7_b {G : GG} {E : EE} {rv : Int32} {h' : AH} (K : OK G E 66 RX10 cX10_placeOf 4) (Z : RT G E (some .int) (some (.int rv)) h') (p0 : Int32) (Q7 : Int32 → Int32 → Int32 → AH → Option (Int32 × AH)) (hQ7 : ∀ (x1 : Int32) (x2 : Int32) (x3 : Int32) (h : AH), Q7 x1 x2 x3 h = some (rv, h') → JJ G E 4 7 [(0, .ref 59), (1, .int x1), (2, .int x2), (3, .int x3)] [] h) (x1 : Int32) (x2 : Int32) (x3 : Int32) (h : AH) (hf : fX10_placeOf_7_b p0 Q7 x1 x2 x3 h = some (rv, h')) : JJ G E 4 7 [(0, .ref 59), (1, .int x1), (2, .int x2), (3, .int x3)] [] h := by
  unfold fX10_placeOf_7_b at hf
  refine r_iload_n K dX10_placeOf_7 3 rfl rfl ?_
  refine r_iload_n K dX10_placeOf_8 2 rfl rfl ?_
  refine r_icmp_ge (tgt := 30) K dX10_placeOf_9 (by decide) (fun c4_ => ?_) (fun c4_ => ?_)
  · have hf := e_t hf c4_
    refine r_bipush (v := (-2)) K dX10_placeOf_30 rfl ?_
    exact r_iret K Z dX10_placeOf_32 hf
  · have hf := e_f hf c4_
    refine r_aload_n K dX10_placeOf_12 0 rfl rfl ?_
    refine r_getR (o' := 72) K flX10_51 dX10_placeOf_13 rfl rfl rfl ?_
    refine r_iload_n K dX10_placeOf_16 3 rfl rfl ?_
    obtain ⟨g5_, hf⟩ := e_g hf
    refine r_iald K dX10_placeOf_17 rfl g5_ ?_
    refine r_iload_n K dX10_placeOf_18 1 rfl rfl ?_
    refine r_icmp_ne (tgt := 24) K dX10_placeOf_19 (by decide) (fun c6_ => ?_) (fun c6_ => ?_)
    · have hf := e_f hf c6_
      refine r_iinc (y := 1) (lv' := [(3, .int (x3 + 1)), (0, .ref 59), (1, .int x1), (2, .int x2)]) K dX10_placeOf_24 3 rfl rfl (Nat.le_of_ble_eq_true rfl) rfl ?_
      refine r_goto (tgt := 7) K dX10_placeOf_27 (by decide) ?_
      refine r_lv [1, 2, 3, 0] rfl ?_
      exact hQ7 x1 x2 (x3 + 1) h hf
    · have hf := e_t hf c6_
      refine r_iload_n K dX10_placeOf_22 3 rfl rfl ?_
      exact r_iret K Z dX10_placeOf_23 hf
theorem sX10_placeOf_7 {G : GG} {E : EE} {rv : Int32} {h' : AH} (K : OK G E 66 RX10 cX10_placeOf 4) (Z : RT G E (some .int) (some (.int rv)) h') (p0 : Int32) : ∀ (n : Nat) (x1 : Int32) (x2 : Int32) (x3 : Int32) (h : AH), fX10_placeOf_7 p0 n x1 x2 x3 h = some (rv, h') → JJ G E 4 7 [(0, .ref 59), (1, .int x1), (2, .int x2), (3, .int x3)] [] h := by
  intro n
  induction n with
  | zero => intro x1 x2 x3 h hf; cases hf
  | succ n ih => intro x1 x2 x3 h hf; exact sX10_placeOf_7_b K Z p0 _ (fun x1 x2 x3 h hf => ih x1 x2 x3 h hf) x1 x2 x3 h hf
def fX10_placeOf (p0 : Int32) (h : AH) : Option (Int32 × AH) :=
  bind2 (fX10_lay  h) fun r1_ h2_ => fX10_placeOf_7 p0 FU p0 r1_ 0 h2_
set_option maxRecDepth 10000 in
theorem sX10_placeOf {G : GG} {E : EE} {rv : Int32} {h' : AH} (K : OK G E 66 RX10 cX10_placeOf 4) (Z : RT G E (some .int) (some (.int rv)) h') (p0 : Int32) (h : AH) (hf : fX10_placeOf p0 h = some (rv, h')) : JJ G E 4 0 [(0, .ref 59), (1, .int p0)] [] h := by
  unfold fX10_placeOf at hf
  refine r_aload_n K dX10_placeOf_0 0 rfl rfl ?_
  obtain ⟨r1_, h2_, g3_, hf⟩ := e_2 hf
  refine r_callV (av := []) (st := []) K lkX10_219 mwX10_lay (conX10_lay  h r1_ h2_ g3_) dX10_placeOf_1 rfl (Nat.le_of_ble_eq_true rfl) rfl rfl (Nat.le_of_ble_eq_true rfl) ?_
  refine r_istore_n (lv' := [(2, .int r1_), (0, .ref 59), (1, .int p0)]) K dX10_placeOf_4 rfl (Nat.le_of_ble_eq_true rfl) rfl ?_
  refine r_iconst (v := 0) K dX10_placeOf_5 rfl ?_
  refine r_istore_n (lv' := [(3, .int 0), (2, .int r1_), (0, .ref 59), (1, .int p0)]) K dX10_placeOf_6 rfl (Nat.le_of_ble_eq_true rfl) rfl ?_
  refine r_lv [2, 3, 1, 0] rfl ?_
  exact sX10_placeOf_7 K Z p0 FU p0 r1_ 0 h2_ hf
theorem conX10_placeOf {G : GG} (p0 : Int32) (h : AH) (rv : Int32) (h' : AH) (hf : fX10_placeOf p0 h = some (rv, h')) : Con G 66 yX10_placeOf cX10_placeOf 4 (some .int) [.ref 59, .int p0] h (some (.int rv)) h' := con_of mwX10_placeOf (Nat.le_of_ble_eq_true rfl) (fun E K Z => sX10_placeOf K Z p0 h hf)
def fX10_later_70 (p0 : Int32) (p1 : Int32) (p2 : Int32) (s0 : Int32) (h : AH) : Option (Int32 × AH) :=
  bindV (fX10_layAll 0 h) fun h25_ => some (s0, h25_)
set_option maxRecDepth 10000 in
theorem sX10_later_70 {G : GG} {E : EE} {rv : Int32} {h' : AH} (K : OK G E 67 RX10 cX10_later 5) (Z : RT G E (some .int) (some (.int rv)) h') (p0 : Int32) (p1 : Int32) (p2 : Int32) (s0 : Int32) (h : AH) (hf : fX10_later_70 p0 p1 p2 s0 h = some (rv, h')) : JJ G E 5 70 [(0, .ref 59)] [.int s0] h := by
  unfold fX10_later_70 at hf
  refine r_istore (lv' := [(4, .int s0), (0, .ref 59)]) K dX10_later_70 (Nat.le_of_ble_eq_true rfl) rfl ?_
  refine r_aload_n K dX10_later_72 1 rfl rfl ?_
  refine r_iconst (v := 0) K dX10_later_73 rfl ?_
  obtain ⟨h25_, g26_, hf⟩ := e_v hf
  refine r_callV (av := [.int 0]) (st := []) K lkX10_232 mwX10_layAll (conX10_layAll 0 h h25_ g26_) dX10_later_74 rfl (Nat.le_of_ble_eq_true rfl) rfl rfl (Nat.le_of_ble_eq_true rfl) ?_
  refine r_iload K dX10_later_77 0 rfl ?_
  exact r_iret K Z dX10_later_79 hf
def fX10_later (p0 : Int32) (p1 : Int32) (p2 : Int32) (h : AH) : Option (Int32 × AH) :=
  bind2 (fX10_isIn p0 0 60 h) fun r1_ h2_ => if r1_ = 0 then some ((-1), h2_) else bind2 (fX10_isGuest p1 h2_) fun r5_ h6_ => if r5_ = 0 then some ((-1), h6_) else bind2 (fX10_isIn p2 0 2 h6_) fun r9_ h10_ => if r9_ = 0 then some ((-1), h10_) else bindV (fX10_keepAll 0 h10_) fun h14_ => bindV (fX10_goMinutes p0 h14_) fun h17_ => if p2 = 0 then bind2 (fX10_sorryBy p1 h17_) fun r30_ h31_ => fX10_later_70 p0 p1 p2 r30_ h31_ else if p2 = 1 then bind2 (fX10_number p1 0 h17_) fun r27_ h28_ => fX10_later_70 p0 p1 p2 r27_ h28_ else bind2 (fX10_placeOf p1 h17_) fun r21_ h22_ => fX10_later_70 p0 p1 p2 r21_ h22_
set_option maxRecDepth 10000 in
theorem sX10_later {G : GG} {E : EE} {rv : Int32} {h' : AH} (K : OK G E 67 RX10 cX10_later 5) (Z : RT G E (some .int) (some (.int rv)) h') (p0 : Int32) (p1 : Int32) (p2 : Int32) (h : AH) (hf : fX10_later p0 p1 p2 h = some (rv, h')) : JJ G E 5 0 [(0, .ref 59), (1, .int p0), (2, .int p1), (3, .int p2)] [] h := by
  unfold fX10_later at hf
  refine r_iload_n K dX10_later_0 1 rfl rfl ?_
  refine r_iconst (v := 0) K dX10_later_1 rfl ?_
  refine r_bipush (v := 60) K dX10_later_2 rfl ?_
  obtain ⟨r1_, h2_, g3_, hf⟩ := e_2 hf
  refine r_callS (av := [.int p0, .int 0, .int 60]) (st := []) K lkX10_106 mwX10_isIn (conX10_isIn p0 0 60 h r1_ h2_ g3_) dX10_later_4 (Nat.le_of_ble_eq_true rfl) rfl rfl (Nat.le_of_ble_eq_true rfl) ?_
  refine r_if_eq (tgt := 27) K dX10_later_7 (by decide) (fun c4_ => ?_) (fun c4_ => ?_)
  · have hf := e_t hf c4_
    refine r_iconst (v := (-1)) K dX10_later_27 rfl ?_
    exact r_iret K Z dX10_later_28 hf
  · have hf := e_f hf c4_
    refine r_aload_n K dX10_later_10 0 rfl rfl ?_
    refine r_iload_n K dX10_later_11 2 rfl rfl ?_
    obtain ⟨r5_, h6_, g7_, hf⟩ := e_2 hf
    refine r_callV (av := [.int p1]) (st := []) K lkX10_124 mwX10_isGuest (conX10_isGuest p1 h2_ r5_ h6_ g7_) dX10_later_12 rfl (Nat.le_of_ble_eq_true rfl) rfl rfl (Nat.le_of_ble_eq_true rfl) ?_
    refine r_if_eq (tgt := 27) K dX10_later_15 (by decide) (fun c8_ => ?_) (fun c8_ => ?_)
    · have hf := e_t hf c8_
      refine r_iconst (v := (-1)) K dX10_later_27 rfl ?_
      exact r_iret K Z dX10_later_28 hf
    · have hf := e_f hf c8_
      refine r_iload_n K dX10_later_18 3 rfl rfl ?_
      refine r_iconst (v := 0) K dX10_later_19 rfl ?_
      refine r_iconst (v := 2) K dX10_later_20 rfl ?_
      obtain ⟨r9_, h10_, g11_, hf⟩ := e_2 hf
      refine r_callS (av := [.int p2, .int 0, .int 2]) (st := []) K lkX10_106 mwX10_isIn (conX10_isIn p2 0 2 h6_ r9_ h10_ g11_) dX10_later_21 (Nat.le_of_ble_eq_true rfl) rfl rfl (Nat.le_of_ble_eq_true rfl) ?_
      refine r_if_ne (tgt := 29) K dX10_later_24 (by decide) (fun c12_ => ?_) (fun c12_ => ?_)
      · have hf := e_f hf c12_
        refine r_aload_n K dX10_later_29 0 rfl rfl ?_
        refine r_iconst (v := 0) K dX10_later_30 rfl ?_
        obtain ⟨h14_, g15_, hf⟩ := e_v hf
        refine r_callV (av := [.int 0]) (st := []) K lkX10_222 mwX10_keepAll (conX10_keepAll 0 h10_ h14_ g15_) dX10_later_31 rfl (Nat.le_of_ble_eq_true rfl) rfl rfl (Nat.le_of_ble_eq_true rfl) ?_
        refine r_aload_n K dX10_later_34 0 rfl rfl ?_
        refine r_iload_n K dX10_later_35 1 rfl rfl ?_
        obtain ⟨h17_, g18_, hf⟩ := e_v hf
        refine r_callV (av := [.int p0]) (st := []) K lkX10_226 mwX10_goMinutes (conX10_goMinutes p0 h14_ h17_ g18_) dX10_later_36 rfl (Nat.le_of_ble_eq_true rfl) rfl rfl (Nat.le_of_ble_eq_true rfl) ?_
        refine r_iload_n K dX10_later_39 3 rfl rfl ?_
        refine r_if_ne (tgt := 51) K dX10_later_40 (by decide) (fun c19_ => ?_) (fun c19_ => ?_)
        · have hf := e_f hf c19_
          refine r_iload_n K dX10_later_51 3 rfl rfl ?_
          refine r_iconst (v := 1) K dX10_later_52 rfl ?_
          refine r_icmp_ne (tgt := 65) K dX10_later_53 (by decide) (fun c20_ => ?_) (fun c20_ => ?_)
          · have hf := e_f hf c20_
            refine r_aload_n K dX10_later_65 0 rfl rfl ?_
            refine r_iload_n K dX10_later_66 2 rfl rfl ?_
            obtain ⟨r21_, h22_, g23_, hf⟩ := e_2 hf
            refine r_callV (av := [.int p1]) (st := []) K lkX10_229 mwX10_placeOf (conX10_placeOf p1 h17_ r21_ h22_ g23_) dX10_later_67 rfl (Nat.le_of_ble_eq_true rfl) rfl rfl (Nat.le_of_ble_eq_true rfl) ?_
            refine r_lv [0] rfl ?_
            exact sX10_later_70 K Z p0 p1 p2 r21_ h22_ hf
          · have hf := e_t hf c20_
            refine r_aload_n K dX10_later_56 0 rfl rfl ?_
            refine r_iload_n K dX10_later_57 2 rfl rfl ?_
            refine r_iconst (v := 0) K dX10_later_58 rfl ?_
            obtain ⟨r27_, h28_, g29_, hf⟩ := e_2 hf
            refine r_callV (av := [.int p1, .int 0]) (st := []) K lkX10_110 mwX10_number (conX10_number p1 0 h17_ r27_ h28_ g29_) dX10_later_59 rfl (Nat.le_of_ble_eq_true rfl) rfl rfl (Nat.le_of_ble_eq_true rfl) ?_
            refine r_goto (tgt := 70) K dX10_later_62 (by decide) ?_
            refine r_lv [0] rfl ?_
            exact sX10_later_70 K Z p0 p1 p2 r27_ h28_ hf
        · have hf := e_t hf c19_
          refine r_aload_n K dX10_later_43 0 rfl rfl ?_
          refine r_iload_n K dX10_later_44 2 rfl rfl ?_
          obtain ⟨r30_, h31_, g32_, hf⟩ := e_2 hf
          refine r_callV (av := [.int p1]) (st := []) K lkX10_215 mwX10_sorryBy (conX10_sorryBy p1 h17_ r30_ h31_ g32_) dX10_later_45 rfl (Nat.le_of_ble_eq_true rfl) rfl rfl (Nat.le_of_ble_eq_true rfl) ?_
          refine r_goto (tgt := 70) K dX10_later_48 (by decide) ?_
          refine r_lv [0] rfl ?_
          exact sX10_later_70 K Z p0 p1 p2 r30_ h31_ hf
      · have hf := e_t hf c12_
        refine r_iconst (v := (-1)) K dX10_later_27 rfl ?_
        exact r_iret K Z dX10_later_28 hf
theorem conX10_later {G : GG} (p0 : Int32) (p1 : Int32) (p2 : Int32) (h : AH) (rv : Int32) (h' : AH) (hf : fX10_later p0 p1 p2 h = some (rv, h')) : Con G 67 yX10_later cX10_later 5 (some .int) [.ref 59, .int p0, .int p1, .int p2] h (some (.int rv)) h' := con_of mwX10_later (Nat.le_of_ble_eq_true rfl) (fun E K Z => sX10_later K Z p0 p1 p2 h hf)
def fX10_law_85 (h : AH) : Option (Int32 × AH) :=
  some (((-100) - (h.1 59 18)), h)
set_option maxRecDepth 10000 in
theorem sX10_law_85 {G : GG} {E : EE} {rv : Int32} {h' : AH} (K : OK G E 64 RX10 cX10_law 2) (Z : RT G E (some .int) (some (.int rv)) h') (h : AH) (hf : fX10_law_85 h = some (rv, h')) : JJ G E 2 85 [(0, .ref 59)] [] h := by
  unfold fX10_law_85 at hf
  refine r_bipush (v := (-100)) K dX10_law_85 rfl ?_
  refine r_aload_n K dX10_law_87 0 rfl rfl ?_
  refine r_getI K flX10_148 dX10_law_88 rfl rfl ?_
  refine r_isub K dX10_law_91 ?_
  exact r_iret K Z dX10_law_92 hf
def fX10_law_95_b (Q95 : Int32 → AH → Option (Int32 × AH)) (x1 : Int32) (h : AH) : Option (Int32 × AH) :=
  if (h.1 59 17) ≤ x1 then letV (wI h 59 14 (h.1 59 17)) fun h13_ => letV (wI h13_ 59 15 1) fun h15_ => some (1, h15_) else if inb x1 120 = true then letV (wI h 68 (ix x1) (h.1 69 (ix x1))) fun h19_ => Q95 (x1 + 1) h19_ else none
def fX10_law_95 : Nat → Int32 → AH → Option (Int32 × AH)
  | 0 => fun _ _ => none
  | n + 1 => fX10_law_95_b (fX10_law_95 n)
set_option maxRecDepth 10000 in
theorem sX10_law_95_b {G : GG} {E : EE} {rv : Int32} {h' : AH} (K : OK G E 64 RX10 cX10_law 2) (Z : RT G E (some .int) (some (.int rv)) h') (Q95 : Int32 → AH → Option (Int32 × AH)) (hQ95 : ∀ (x1 : Int32) (h : AH), Q95 x1 h = some (rv, h') → JJ G E 2 95 [(0, .ref 59), (1, .int x1)] [] h) (x1 : Int32) (h : AH) (hf : fX10_law_95_b Q95 x1 h = some (rv, h')) : JJ G E 2 95 [(0, .ref 59), (1, .int x1)] [] h := by
  unfold fX10_law_95_b at hf
  refine r_iload_n K dX10_law_95 1 rfl rfl ?_
  refine r_aload_n K dX10_law_96 0 rfl rfl ?_
  refine r_getI K flX10_151 dX10_law_97 rfl rfl ?_
  refine r_icmp_ge (tgt := 121) K dX10_law_100 (by decide) (fun c12_ => ?_) (fun c12_ => ?_)
  · have hf := e_t hf c12_
    refine r_aload_n K dX10_law_121 0 rfl rfl ?_
    refine r_aload_n K dX10_law_122 0 rfl rfl ?_
    refine r_getI K flX10_151 dX10_law_123 rfl rfl ?_
    obtain ⟨h13_, e14_, hf⟩ := e_l hf
    refine r_putI K fpX10_191 dX10_law_126 rfl rfl e14_ ?_
    refine r_aload_n K dX10_law_129 0 rfl rfl ?_
    refine r_iconst (v := 1) K dX10_law_130 rfl ?_
    obtain ⟨h15_, e16_, hf⟩ := e_l hf
    refine r_putZ K fpX10_194 dX10_law_131 rfl rfl rfl e16_ ?_
    refine r_iconst (v := 1) K dX10_law_134 rfl ?_
    exact r_iret K Z dX10_law_135 hf
  · have hf := e_f hf c12_
    refine r_aload_n K dX10_law_103 0 rfl rfl ?_
    refine r_getR (o' := 68) K flX10_34 dX10_law_104 rfl rfl rfl ?_
    refine r_iload_n K dX10_law_107 1 rfl rfl ?_
    refine r_aload_n K dX10_law_108 0 rfl rfl ?_
    refine r_getR (o' := 69) K flX10_37 dX10_law_109 rfl rfl rfl ?_
    refine r_iload_n K dX10_law_112 1 rfl rfl ?_
    obtain ⟨g17_, hf⟩ := e_g hf
    refine r_iald K dX10_law_113 rfl g17_ ?_
    obtain ⟨h19_, e20_, hf⟩ := e_l hf
    refine r_iast K dX10_law_114 rfl g17_ e20_ ?_
    refine r_iinc (y := 1) (lv' := [(1, .int (x1 + 1)), (0, .ref 59)]) K dX10_law_115 1 rfl rfl (Nat.le_of_ble_eq_true rfl) rfl ?_
    refine r_goto (tgt := 95) K dX10_law_118 (by decide) ?_
    refine r_lv [1, 0] rfl ?_
    exact hQ95 (x1 + 1) h19_ hf
theorem sX10_law_95 {G : GG} {E : EE} {rv : Int32} {h' : AH} (K : OK G E 64 RX10 cX10_law 2) (Z : RT G E (some .int) (some (.int rv)) h') : ∀ (n : Nat) (x1 : Int32) (h : AH), fX10_law_95 n x1 h = some (rv, h') → JJ G E 2 95 [(0, .ref 59), (1, .int x1)] [] h := by
  intro n
  induction n with
  | zero => intro x1 h hf; cases hf
  | succ n ih => intro x1 h hf; exact sX10_law_95_b K Z _ (fun x1 h hf => ih x1 h hf) x1 h hf
def fX10_law_43_b (Q43 : Int32 → AH → Option (Int32 × AH)) (x1 : Int32) (h : AH) : Option (Int32 × AH) :=
  if 6 ≤ x1 then bind2 (fX10_gives  h) fun r7_ h8_ => if (h8_.1 59 19) = 0 then fX10_law_85 h8_ else if (h8_.1 59 17) ≤ (h8_.1 59 18) then fX10_law_95 FU 0 h8_ else fX10_law_85 h8_ else if inb x1 6 = true then letV (wI h 70 (ix x1) 0) fun h22_ => Q43 (x1 + 1) h22_ else none
def fX10_law_43 : Nat → Int32 → AH → Option (Int32 × AH)
  | 0 => fun _ _ => none
  | n + 1 => fX10_law_43_b (fX10_law_43 n)
set_option maxRecDepth 10000 in
theorem sX10_law_43_b {G : GG} {E : EE} {rv : Int32} {h' : AH} (K : OK G E 64 RX10 cX10_law 2) (Z : RT G E (some .int) (some (.int rv)) h') (Q43 : Int32 → AH → Option (Int32 × AH)) (hQ43 : ∀ (x1 : Int32) (h : AH), Q43 x1 h = some (rv, h') → JJ G E 2 43 [(0, .ref 59), (1, .int x1)] [] h) (x1 : Int32) (h : AH) (hf : fX10_law_43_b Q43 x1 h = some (rv, h')) : JJ G E 2 43 [(0, .ref 59), (1, .int x1)] [] h := by
  unfold fX10_law_43_b at hf
  refine r_iload_n K dX10_law_43 1 rfl rfl ?_
  refine r_bipush (v := 6) K dX10_law_44 rfl ?_
  refine r_icmp_ge (tgt := 62) K dX10_law_46 (by decide) (fun c6_ => ?_) (fun c6_ => ?_)
  · have hf := e_t hf c6_
    refine r_aload_n K dX10_law_62 0 rfl rfl ?_
    obtain ⟨r7_, h8_, g9_, hf⟩ := e_2 hf
    refine r_callV (av := []) (st := []) K lkX10_188 mwX10_gives (conX10_gives  h r7_ h8_ g9_) dX10_law_63 rfl (Nat.le_of_ble_eq_true rfl) rfl rfl (Nat.le_of_ble_eq_true rfl) ?_
    refine r_pop K dX10_law_66 rfl ?_
    refine r_aload_n K dX10_law_67 0 rfl rfl ?_
    refine r_getI K flX10_144 dX10_law_68 rfl rfl ?_
    refine r_if_eq (tgt := 85) K dX10_law_71 (by decide) (fun c10_ => ?_) (fun c10_ => ?_)
    · have hf := e_t hf c10_
      refine r_lv [0] rfl ?_
      exact sX10_law_85 K Z h8_ hf
    · have hf := e_f hf c10_
      refine r_aload_n K dX10_law_74 0 rfl rfl ?_
      refine r_getI K flX10_148 dX10_law_75 rfl rfl ?_
      refine r_aload_n K dX10_law_78 0 rfl rfl ?_
      refine r_getI K flX10_151 dX10_law_79 rfl rfl ?_
      refine r_icmp_ge (tgt := 93) K dX10_law_82 (by decide) (fun c11_ => ?_) (fun c11_ => ?_)
      · have hf := e_t hf c11_
        refine r_iconst (v := 0) K dX10_law_93 rfl ?_
        refine r_istore_n (lv' := [(1, .int 0), (0, .ref 59)]) K dX10_law_94 rfl (Nat.le_of_ble_eq_true rfl) rfl ?_
        refine r_lv [1, 0] rfl ?_
        exact sX10_law_95 K Z FU 0 h8_ hf
      · have hf := e_f hf c11_
        refine r_lv [0] rfl ?_
        exact sX10_law_85 K Z h8_ hf
  · have hf := e_f hf c6_
    refine r_aload_n K dX10_law_49 0 rfl rfl ?_
    refine r_getR (o' := 70) K flX10_40 dX10_law_50 rfl rfl rfl ?_
    refine r_iload_n K dX10_law_53 1 rfl rfl ?_
    refine r_iconst (v := 0) K dX10_law_54 rfl ?_
    obtain ⟨g21_, hf⟩ := e_g hf
    obtain ⟨h22_, e23_, hf⟩ := e_l hf
    refine r_iast K dX10_law_55 rfl g21_ e23_ ?_
    refine r_iinc (y := 1) (lv' := [(1, .int (x1 + 1)), (0, .ref 59)]) K dX10_law_56 1 rfl rfl (Nat.le_of_ble_eq_true rfl) rfl ?_
    refine r_goto (tgt := 43) K dX10_law_59 (by decide) ?_
    refine r_lv [1, 0] rfl ?_
    exact hQ43 (x1 + 1) h22_ hf
theorem sX10_law_43 {G : GG} {E : EE} {rv : Int32} {h' : AH} (K : OK G E 64 RX10 cX10_law 2) (Z : RT G E (some .int) (some (.int rv)) h') : ∀ (n : Nat) (x1 : Int32) (h : AH), fX10_law_43 n x1 h = some (rv, h') → JJ G E 2 43 [(0, .ref 59), (1, .int x1)] [] h := by
  intro n
  induction n with
  | zero => intro x1 h hf; cases hf
  | succ n ih => intro x1 h hf; exact sX10_law_43_b K Z _ (fun x1 h hf => ih x1 h hf) x1 h hf
def fX10_law_10_b (Q10 : Int32 → AH → Option (Int32 × AH)) (x1 : Int32) (h : AH) : Option (Int32 × AH) :=
  if (h.1 59 17) ≤ x1 then letV (wI h 59 12 0) fun h4_ => fX10_law_43 FU 0 h4_ else if inb x1 120 = true then letV (wI h 69 (ix x1) (h.1 67 (ix x1))) fun h26_ => Q10 (x1 + 1) h26_ else none
def fX10_law_10 : Nat → Int32 → AH → Option (Int32 × AH)
  | 0 => fun _ _ => none
  | n + 1 => fX10_law_10_b (fX10_law_10 n)
set_option maxRecDepth 10000 in
theorem sX10_law_10_b {G : GG} {E : EE} {rv : Int32} {h' : AH} (K : OK G E 64 RX10 cX10_law 2) (Z : RT G E (some .int) (some (.int rv)) h') (Q10 : Int32 → AH → Option (Int32 × AH)) (hQ10 : ∀ (x1 : Int32) (h : AH), Q10 x1 h = some (rv, h') → JJ G E 2 10 [(0, .ref 59), (1, .int x1)] [] h) (x1 : Int32) (h : AH) (hf : fX10_law_10_b Q10 x1 h = some (rv, h')) : JJ G E 2 10 [(0, .ref 59), (1, .int x1)] [] h := by
  unfold fX10_law_10_b at hf
  refine r_iload_n K dX10_law_10 1 rfl rfl ?_
  refine r_aload_n K dX10_law_11 0 rfl rfl ?_
  refine r_getI K flX10_151 dX10_law_12 rfl rfl ?_
  refine r_icmp_ge (tgt := 36) K dX10_law_15 (by decide) (fun c3_ => ?_) (fun c3_ => ?_)
  · have hf := e_t hf c3_
    refine r_aload_n K dX10_law_36 0 rfl rfl ?_
    refine r_iconst (v := 0) K dX10_law_37 rfl ?_
    obtain ⟨h4_, e5_, hf⟩ := e_l hf
    refine r_putI K fpX10_141 dX10_law_38 rfl rfl e5_ ?_
    refine r_iconst (v := 0) K dX10_law_41 rfl ?_
    refine r_istore_n (lv' := [(1, .int 0), (0, .ref 59)]) K dX10_law_42 rfl (Nat.le_of_ble_eq_true rfl) rfl ?_
    refine r_lv [1, 0] rfl ?_
    exact sX10_law_43 K Z FU 0 h4_ hf
  · have hf := e_f hf c3_
    refine r_aload_n K dX10_law_18 0 rfl rfl ?_
    refine r_getR (o' := 69) K flX10_37 dX10_law_19 rfl rfl rfl ?_
    refine r_iload_n K dX10_law_22 1 rfl rfl ?_
    refine r_aload_n K dX10_law_23 0 rfl rfl ?_
    refine r_getR (o' := 67) K flX10_31 dX10_law_24 rfl rfl rfl ?_
    refine r_iload_n K dX10_law_27 1 rfl rfl ?_
    obtain ⟨g24_, hf⟩ := e_g hf
    refine r_iald K dX10_law_28 rfl g24_ ?_
    obtain ⟨h26_, e27_, hf⟩ := e_l hf
    refine r_iast K dX10_law_29 rfl g24_ e27_ ?_
    refine r_iinc (y := 1) (lv' := [(1, .int (x1 + 1)), (0, .ref 59)]) K dX10_law_30 1 rfl rfl (Nat.le_of_ble_eq_true rfl) rfl ?_
    refine r_goto (tgt := 10) K dX10_law_33 (by decide) ?_
    refine r_lv [1, 0] rfl ?_
    exact hQ10 (x1 + 1) h26_ hf
theorem sX10_law_10 {G : GG} {E : EE} {rv : Int32} {h' : AH} (K : OK G E 64 RX10 cX10_law 2) (Z : RT G E (some .int) (some (.int rv)) h') : ∀ (n : Nat) (x1 : Int32) (h : AH), fX10_law_10 n x1 h = some (rv, h') → JJ G E 2 10 [(0, .ref 59), (1, .int x1)] [] h := by
  intro n
  induction n with
  | zero => intro x1 h hf; cases hf
  | succ n ih => intro x1 h hf; exact sX10_law_10_b K Z _ (fun x1 h hf => ih x1 h hf) x1 h hf
def fX10_law (h : AH) : Option (Int32 × AH) :=
  letV (wI h 59 17 (h.1 59 12)) fun h1_ => fX10_law_10 FU 0 h1_
set_option maxRecDepth 10000 in
theorem sX10_law {G : GG} {E : EE} {rv : Int32} {h' : AH} (K : OK G E 64 RX10 cX10_law 2) (Z : RT G E (some .int) (some (.int rv)) h') (h : AH) (hf : fX10_law h = some (rv, h')) : JJ G E 2 0 [(0, .ref 59)] [] h := by
  unfold fX10_law at hf
  refine r_aload_n K dX10_law_0 0 rfl rfl ?_
  refine r_aload_n K dX10_law_1 0 rfl rfl ?_
  refine r_getI K flX10_141 dX10_law_2 rfl rfl ?_
  obtain ⟨h1_, e2_, hf⟩ := e_l hf
  refine r_putI K fpX10_151 dX10_law_5 rfl rfl e2_ ?_
  refine r_iconst (v := 0) K dX10_law_8 rfl ?_
  refine r_istore_n (lv' := [(1, .int 0), (0, .ref 59)]) K dX10_law_9 rfl (Nat.le_of_ble_eq_true rfl) rfl ?_
  refine r_lv [1, 0] rfl ?_
  exact sX10_law_10 K Z FU 0 h1_ hf
theorem conX10_law {G : GG} (h : AH) (rv : Int32) (h' : AH) (hf : fX10_law h = some (rv, h')) : Con G 64 yX10_law cX10_law 2 (some .int) [.ref 59] h (some (.int rv)) h' := con_of mwX10_law (Nat.le_of_ble_eq_true rfl) (fun E K Z => sX10_law K Z h hf)
def fX10_led (p0 : Int32) (h : AH) : Option (Int32 × AH) :=
  bind2 (fX10_isIn p0 0 4 h) fun r1_ h2_ => if r1_ = 0 then some ((-1), h2_) else if inb p0 5 = true then some ((h2_.1 79 (ix p0)), h2_) else none
set_option maxRecDepth 10000 in
theorem sX10_led {G : GG} {E : EE} {rv : Int32} {h' : AH} (K : OK G E 1 RX10 cX10_led 2) (Z : RT G E (some .int) (some (.int rv)) h') (p0 : Int32) (h : AH) (hf : fX10_led p0 h = some (rv, h')) : JJ G E 2 0 [(0, .ref 59), (1, .int p0)] [] h := by
  unfold fX10_led at hf
  refine r_iload_n K dX10_led_0 1 rfl rfl ?_
  refine r_iconst (v := 0) K dX10_led_1 rfl ?_
  refine r_iconst (v := 4) K dX10_led_2 rfl ?_
  obtain ⟨r1_, h2_, g3_, hf⟩ := e_2 hf
  refine r_callS (av := [.int p0, .int 0, .int 4]) (st := []) K lkX10_106 mwX10_isIn (conX10_isIn p0 0 4 h r1_ h2_ g3_) dX10_led_3 (Nat.le_of_ble_eq_true rfl) rfl rfl (Nat.le_of_ble_eq_true rfl) ?_
  refine r_if_eq (tgt := 18) K dX10_led_6 (by decide) (fun c4_ => ?_) (fun c4_ => ?_)
  · have hf := e_t hf c4_
    refine r_iconst (v := (-1)) K dX10_led_18 rfl ?_
    exact r_iret K Z dX10_led_19 hf
  · have hf := e_f hf c4_
    refine r_aload_n K dX10_led_9 0 rfl rfl ?_
    refine r_getR (o' := 79) K flX10_73 dX10_led_10 rfl rfl rfl ?_
    refine r_iload_n K dX10_led_13 1 rfl rfl ?_
    obtain ⟨g5_, hf⟩ := e_g hf
    refine r_iald K dX10_led_14 rfl g5_ ?_
    refine r_goto (tgt := 19) K dX10_led_15 (by decide) ?_
    exact r_iret K Z dX10_led_19 hf
theorem conX10_led {G : GG} (p0 : Int32) (h : AH) (rv : Int32) (h' : AH) (hf : fX10_led p0 h = some (rv, h')) : Con G 1 yX10_led cX10_led 2 (some .int) [.ref 59, .int p0] h (some (.int rv)) h' := con_of mwX10_led (Nat.le_of_ble_eq_true rfl) (fun E K Z => sX10_led K Z p0 h hf)
def fX10_looks (p0 : Int32) (p1 : Int32) (h : AH) : Option (Int32 × AH) :=
  bind2 (fX10_isGuest p0 h) fun r1_ h2_ => if r1_ = 0 then some ((-1), h2_) else bind2 (fX10_isIn p1 0 9 h2_) fun r5_ h6_ => if r5_ = 0 then some ((-1), h6_) else bind2 (fX10_isHere p0 h6_) fun r9_ h10_ => if r9_ = 0 then some ((-5), h10_) else bind2 (fX10_number p0 2 h10_) fun r13_ h14_ => bindV (fX10_change p0 2 p1 h14_) fun h17_ => letV (wI h17_ 79 (ix 3) ((h17_.1 79 (ix 3)) + 1)) fun h21_ => some (r13_, h21_)
set_option maxRecDepth 10000 in
theorem sX10_looks {G : GG} {E : EE} {rv : Int32} {h' : AH} (K : OK G E 2 RX10 cX10_looks 4) (Z : RT G E (some .int) (some (.int rv)) h') (p0 : Int32) (p1 : Int32) (h : AH) (hf : fX10_looks p0 p1 h = some (rv, h')) : JJ G E 4 0 [(0, .ref 59), (1, .int p0), (2, .int p1)] [] h := by
  unfold fX10_looks at hf
  refine r_aload_n K dX10_looks_0 0 rfl rfl ?_
  refine r_iload_n K dX10_looks_1 1 rfl rfl ?_
  obtain ⟨r1_, h2_, g3_, hf⟩ := e_2 hf
  refine r_callV (av := [.int p0]) (st := []) K lkX10_124 mwX10_isGuest (conX10_isGuest p0 h r1_ h2_ g3_) dX10_looks_2 rfl (Nat.le_of_ble_eq_true rfl) rfl rfl (Nat.le_of_ble_eq_true rfl) ?_
  refine r_if_eq (tgt := 18) K dX10_looks_5 (by decide) (fun c4_ => ?_) (fun c4_ => ?_)
  · have hf := e_t hf c4_
    refine r_iconst (v := (-1)) K dX10_looks_18 rfl ?_
    exact r_iret K Z dX10_looks_19 hf
  · have hf := e_f hf c4_
    refine r_iload_n K dX10_looks_8 2 rfl rfl ?_
    refine r_iconst (v := 0) K dX10_looks_9 rfl ?_
    refine r_bipush (v := 9) K dX10_looks_10 rfl ?_
    obtain ⟨r5_, h6_, g7_, hf⟩ := e_2 hf
    refine r_callS (av := [.int p1, .int 0, .int 9]) (st := []) K lkX10_106 mwX10_isIn (conX10_isIn p1 0 9 h2_ r5_ h6_ g7_) dX10_looks_12 (Nat.le_of_ble_eq_true rfl) rfl rfl (Nat.le_of_ble_eq_true rfl) ?_
    refine r_if_ne (tgt := 20) K dX10_looks_15 (by decide) (fun c8_ => ?_) (fun c8_ => ?_)
    · have hf := e_f hf c8_
      refine r_aload_n K dX10_looks_20 0 rfl rfl ?_
      refine r_iload_n K dX10_looks_21 1 rfl rfl ?_
      obtain ⟨r9_, h10_, g11_, hf⟩ := e_2 hf
      refine r_callV (av := [.int p0]) (st := []) K lkX10_197 mwX10_isHere (conX10_isHere p0 h6_ r9_ h10_ g11_) dX10_looks_22 rfl (Nat.le_of_ble_eq_true rfl) rfl rfl (Nat.le_of_ble_eq_true rfl) ?_
      refine r_if_ne (tgt := 31) K dX10_looks_25 (by decide) (fun c12_ => ?_) (fun c12_ => ?_)
      · have hf := e_f hf c12_
        refine r_aload_n K dX10_looks_31 0 rfl rfl ?_
        refine r_iload_n K dX10_looks_32 1 rfl rfl ?_
        refine r_iconst (v := 2) K dX10_looks_33 rfl ?_
        obtain ⟨r13_, h14_, g15_, hf⟩ := e_2 hf
        refine r_callV (av := [.int p0, .int 2]) (st := []) K lkX10_110 mwX10_number (conX10_number p0 2 h10_ r13_ h14_ g15_) dX10_looks_34 rfl (Nat.le_of_ble_eq_true rfl) rfl rfl (Nat.le_of_ble_eq_true rfl) ?_
        refine r_istore_n (lv' := [(3, .int r13_), (0, .ref 59), (1, .int p0), (2, .int p1)]) K dX10_looks_37 rfl (Nat.le_of_ble_eq_true rfl) rfl ?_
        refine r_aload_n K dX10_looks_38 1 rfl rfl ?_
        refine r_iload_n K dX10_looks_39 2 rfl rfl ?_
        refine r_iconst (v := 2) K dX10_looks_40 rfl ?_
        refine r_iload_n K dX10_looks_41 3 rfl rfl ?_
        obtain ⟨h17_, g18_, hf⟩ := e_v hf
        refine r_callV (av := [.int p0, .int 2, .int p1]) (st := []) K lkX10_113 mwX10_change (conX10_change p0 2 p1 h14_ h17_ g18_) dX10_looks_42 rfl (Nat.le_of_ble_eq_true rfl) rfl rfl (Nat.le_of_ble_eq_true rfl) ?_
        refine r_aload_n K dX10_looks_45 1 rfl rfl ?_
        refine r_getR (o' := 79) K flX10_73 dX10_looks_46 rfl rfl rfl ?_
        refine r_iconst (v := 3) K dX10_looks_49 rfl ?_
        refine r_dup2 K dX10_looks_50 rfl rfl ?_
        refine r_iald K dX10_looks_51 rfl (by decide +kernel) ?_
        refine r_iconst (v := 1) K dX10_looks_52 rfl ?_
        refine r_iadd K dX10_looks_53 ?_
        obtain ⟨h21_, e22_, hf⟩ := e_l hf
        refine r_iast K dX10_looks_54 rfl (by decide +kernel) e22_ ?_
        refine r_iload_n K dX10_looks_55 0 rfl rfl ?_
        exact r_iret K Z dX10_looks_56 hf
      · have hf := e_t hf c12_
        refine r_bipush (v := (-5)) K dX10_looks_28 rfl ?_
        exact r_iret K Z dX10_looks_30 hf
    · have hf := e_t hf c8_
      refine r_iconst (v := (-1)) K dX10_looks_18 rfl ?_
      exact r_iret K Z dX10_looks_19 hf
theorem conX10_looks {G : GG} (p0 : Int32) (p1 : Int32) (h : AH) (rv : Int32) (h' : AH) (hf : fX10_looks p0 p1 h = some (rv, h')) : Con G 2 yX10_looks cX10_looks 4 (some .int) [.ref 59, .int p0, .int p1] h (some (.int rv)) h' := con_of mwX10_looks (Nat.le_of_ble_eq_true rfl) (fun E K Z => sX10_looks K Z p0 p1 h hf)
def fX10_place_29 (p0 : Int32) (p1 : Int32) (x1 : Int32) (x2 : Int32) (h : AH) : Option (Int32 × AH) :=
  bind2 (fX10_isIn x1 0 ((h.1 59 3) - 1) h) fun r3_ h4_ => if r3_ = 0 then some ((-1), h4_) else some ((((54 + (3 * x1)) + x2) - 6), h4_)
set_option maxRecDepth 10000 in
theorem sX10_place_29 {G : GG} {E : EE} {rv : Int32} {h' : AH} (K : OK G E 2 RX10 cX10_place 3) (Z : RT G E (some .int) (some (.int rv)) h') (p0 : Int32) (p1 : Int32) (x1 : Int32) (x2 : Int32) (h : AH) (hf : fX10_place_29 p0 p1 x1 x2 h = some (rv, h')) : JJ G E 3 29 [(0, .ref 59), (1, .int x1), (2, .int x2)] [] h := by
  unfold fX10_place_29 at hf
  refine r_iload_n K dX10_place_29 1 rfl rfl ?_
  refine r_iconst (v := 0) K dX10_place_30 rfl ?_
  refine r_aload_n K dX10_place_31 0 rfl rfl ?_
  refine r_getI K flX10_121 dX10_place_32 rfl rfl ?_
  refine r_iconst (v := 1) K dX10_place_35 rfl ?_
  refine r_isub K dX10_place_36 ?_
  obtain ⟨r3_, h4_, g5_, hf⟩ := e_2 hf
  refine r_callS (av := [.int x1, .int 0, .int ((h.1 59 3) - 1)]) (st := []) K lkX10_106 mwX10_isIn (conX10_isIn x1 0 ((h.1 59 3) - 1) h r3_ h4_ g5_) dX10_place_37 (Nat.le_of_ble_eq_true rfl) rfl rfl (Nat.le_of_ble_eq_true rfl) ?_
  refine r_if_eq (tgt := 57) K dX10_place_40 (by decide) (fun c6_ => ?_) (fun c6_ => ?_)
  · have hf := e_t hf c6_
    refine r_iconst (v := (-1)) K dX10_place_57 rfl ?_
    exact r_iret K Z dX10_place_58 hf
  · have hf := e_f hf c6_
    refine r_bipush (v := 54) K dX10_place_43 rfl ?_
    refine r_iconst (v := 3) K dX10_place_45 rfl ?_
    refine r_iload_n K dX10_place_46 1 rfl rfl ?_
    refine r_imul K dX10_place_47 ?_
    refine r_iadd K dX10_place_48 ?_
    refine r_iload_n K dX10_place_49 2 rfl rfl ?_
    refine r_iadd K dX10_place_50 ?_
    refine r_bipush (v := 6) K dX10_place_51 rfl ?_
    refine r_isub K dX10_place_53 ?_
    refine r_goto (tgt := 58) K dX10_place_54 (by decide) ?_
    exact r_iret K Z dX10_place_58 hf
def fX10_place (p0 : Int32) (p1 : Int32) (h : AH) : Option (Int32 × AH) :=
  if p1 = 8 then if p0 = 0 then some (93, h) else some ((-1), h) else if p1 = 6 then fX10_place_29 p0 p1 p0 p1 h else if p1 = 7 then fX10_place_29 p0 p1 p0 p1 h else bind2 (fX10_isIn p1 0 5 h) fun r8_ h9_ => if r8_ = 0 then some ((-1), h9_) else bind2 (fX10_isGuest p0 h9_) fun r12_ h13_ => if r12_ = 0 then some ((-1), h13_) else some (((6 * p0) + p1), h13_)
set_option maxRecDepth 10000 in
theorem sX10_place {G : GG} {E : EE} {rv : Int32} {h' : AH} (K : OK G E 2 RX10 cX10_place 3) (Z : RT G E (some .int) (some (.int rv)) h') (p0 : Int32) (p1 : Int32) (h : AH) (hf : fX10_place p0 p1 h = some (rv, h')) : JJ G E 3 0 [(0, .ref 59), (1, .int p0), (2, .int p1)] [] h := by
  unfold fX10_place at hf
  refine r_iload_n K dX10_place_0 2 rfl rfl ?_
  refine r_bipush (v := 8) K dX10_place_1 rfl ?_
  refine r_icmp_ne (tgt := 17) K dX10_place_3 (by decide) (fun c1_ => ?_) (fun c1_ => ?_)
  · have hf := e_f hf c1_
    refine r_iload_n K dX10_place_17 2 rfl rfl ?_
    refine r_bipush (v := 6) K dX10_place_18 rfl ?_
    refine r_icmp_eq (tgt := 29) K dX10_place_20 (by decide) (fun c2_ => ?_) (fun c2_ => ?_)
    · have hf := e_t hf c2_
      refine r_lv [0, 1, 2] rfl ?_
      exact sX10_place_29 K Z p0 p1 p0 p1 h hf
    · have hf := e_f hf c2_
      refine r_iload_n K dX10_place_23 2 rfl rfl ?_
      refine r_bipush (v := 7) K dX10_place_24 rfl ?_
      refine r_icmp_ne (tgt := 59) K dX10_place_26 (by decide) (fun c7_ => ?_) (fun c7_ => ?_)
      · have hf := e_f hf c7_
        refine r_iload_n K dX10_place_59 2 rfl rfl ?_
        refine r_iconst (v := 0) K dX10_place_60 rfl ?_
        refine r_iconst (v := 5) K dX10_place_61 rfl ?_
        obtain ⟨r8_, h9_, g10_, hf⟩ := e_2 hf
        refine r_callS (av := [.int p1, .int 0, .int 5]) (st := []) K lkX10_106 mwX10_isIn (conX10_isIn p1 0 5 h r8_ h9_ g10_) dX10_place_62 (Nat.le_of_ble_eq_true rfl) rfl rfl (Nat.le_of_ble_eq_true rfl) ?_
        refine r_if_eq (tgt := 85) K dX10_place_65 (by decide) (fun c11_ => ?_) (fun c11_ => ?_)
        · have hf := e_t hf c11_
          refine r_iconst (v := (-1)) K dX10_place_85 rfl ?_
          exact r_iret K Z dX10_place_86 hf
        · have hf := e_f hf c11_
          refine r_aload_n K dX10_place_68 0 rfl rfl ?_
          refine r_iload_n K dX10_place_69 1 rfl rfl ?_
          obtain ⟨r12_, h13_, g14_, hf⟩ := e_2 hf
          refine r_callV (av := [.int p0]) (st := []) K lkX10_124 mwX10_isGuest (conX10_isGuest p0 h9_ r12_ h13_ g14_) dX10_place_70 rfl (Nat.le_of_ble_eq_true rfl) rfl rfl (Nat.le_of_ble_eq_true rfl) ?_
          refine r_if_eq (tgt := 85) K dX10_place_73 (by decide) (fun c15_ => ?_) (fun c15_ => ?_)
          · have hf := e_t hf c15_
            refine r_iconst (v := (-1)) K dX10_place_85 rfl ?_
            exact r_iret K Z dX10_place_86 hf
          · have hf := e_f hf c15_
            refine r_bipush (v := 6) K dX10_place_76 rfl ?_
            refine r_iload_n K dX10_place_78 1 rfl rfl ?_
            refine r_imul K dX10_place_79 ?_
            refine r_iload_n K dX10_place_80 2 rfl rfl ?_
            refine r_iadd K dX10_place_81 ?_
            refine r_goto (tgt := 86) K dX10_place_82 (by decide) ?_
            exact r_iret K Z dX10_place_86 hf
      · have hf := e_t hf c7_
        refine r_lv [0, 1, 2] rfl ?_
        exact sX10_place_29 K Z p0 p1 p0 p1 h hf
  · have hf := e_t hf c1_
    refine r_iload_n K dX10_place_6 1 rfl rfl ?_
    refine r_if_ne (tgt := 15) K dX10_place_7 (by decide) (fun c16_ => ?_) (fun c16_ => ?_)
    · have hf := e_f hf c16_
      refine r_iconst (v := (-1)) K dX10_place_15 rfl ?_
      exact r_iret K Z dX10_place_16 hf
    · have hf := e_t hf c16_
      refine r_bipush (v := 93) K dX10_place_10 rfl ?_
      refine r_goto (tgt := 16) K dX10_place_12 (by decide) ?_
      exact r_iret K Z dX10_place_16 hf
theorem conX10_place {G : GG} (p0 : Int32) (p1 : Int32) (h : AH) (rv : Int32) (h' : AH) (hf : fX10_place p0 p1 h = some (rv, h')) : Con G 2 yX10_place cX10_place 3 (some .int) [.ref 59, .int p0, .int p1] h (some (.int rv)) h' := con_of mwX10_place (Nat.le_of_ble_eq_true rfl) (fun E K Z => sX10_place K Z p0 p1 h hf)
def fX10_mend_141 (p0 : Int32) (p1 : Int32) (p2 : Int32) (x3 : Int32) (x4 : Int32) (x5 : Int32) (h : AH) : Option (Int32 × AH) :=
  if inb (h.1 59 7) 40 = true then letV (wI h 62 (ix (h.1 59 7)) x4) fun h20_ => if inb (h20_.1 59 7) 40 = true then letV (wI h20_ 63 (ix (h20_.1 59 7)) x5) fun h23_ => if inb (h23_.1 59 7) 40 = true then letV (wI h23_ 64 (ix (h23_.1 59 7)) x3) fun h26_ => letV (wI h26_ 59 7 ((h26_.1 59 7) + 1)) fun h28_ => letV (wI h28_ 59 8 (h28_.1 59 7)) fun h30_ => some (x5, h30_) else none else none else none
set_option maxRecDepth 10000 in
theorem sX10_mend_141 {G : GG} {E : EE} {rv : Int32} {h' : AH} (K : OK G E 3 RX10 cX10_mend 7) (Z : RT G E (some .int) (some (.int rv)) h') (p0 : Int32) (p1 : Int32) (p2 : Int32) (x3 : Int32) (x4 : Int32) (x5 : Int32) (h : AH) (hf : fX10_mend_141 p0 p1 p2 x3 x4 x5 h = some (rv, h')) : JJ G E 7 141 [(0, .ref 59), (3, .int x3), (4, .int x4), (5, .int x5)] [] h := by
  unfold fX10_mend_141 at hf
  refine r_aload_n K dX10_mend_141 0 rfl rfl ?_
  refine r_getR (o' := 62) K flX10_16 dX10_mend_142 rfl rfl rfl ?_
  refine r_aload_n K dX10_mend_145 0 rfl rfl ?_
  refine r_getI K flX10_135 dX10_mend_146 rfl rfl ?_
  refine r_iload K dX10_mend_149 2 rfl ?_
  obtain ⟨g19_, hf⟩ := e_g hf
  obtain ⟨h20_, e21_, hf⟩ := e_l hf
  refine r_iast K dX10_mend_151 rfl g19_ e21_ ?_
  refine r_aload_n K dX10_mend_152 0 rfl rfl ?_
  refine r_getR (o' := 63) K flX10_19 dX10_mend_153 rfl rfl rfl ?_
  refine r_aload_n K dX10_mend_156 0 rfl rfl ?_
  refine r_getI K flX10_135 dX10_mend_157 rfl rfl ?_
  refine r_iload K dX10_mend_160 3 rfl ?_
  obtain ⟨g22_, hf⟩ := e_g hf
  obtain ⟨h23_, e24_, hf⟩ := e_l hf
  refine r_iast K dX10_mend_162 rfl g22_ e24_ ?_
  refine r_aload_n K dX10_mend_163 0 rfl rfl ?_
  refine r_getR (o' := 64) K flX10_22 dX10_mend_164 rfl rfl rfl ?_
  refine r_aload_n K dX10_mend_167 0 rfl rfl ?_
  refine r_getI K flX10_135 dX10_mend_168 rfl rfl ?_
  refine r_iload_n K dX10_mend_171 1 rfl rfl ?_
  obtain ⟨g25_, hf⟩ := e_g hf
  obtain ⟨h26_, e27_, hf⟩ := e_l hf
  refine r_iast K dX10_mend_172 rfl g25_ e27_ ?_
  refine r_aload_n K dX10_mend_173 0 rfl rfl ?_
  refine r_dup K dX10_mend_174 rfl ?_
  refine r_getI K flX10_135 dX10_mend_175 rfl rfl ?_
  refine r_iconst (v := 1) K dX10_mend_178 rfl ?_
  refine r_iadd K dX10_mend_179 ?_
  obtain ⟨h28_, e29_, hf⟩ := e_l hf
  refine r_putI K fpX10_135 dX10_mend_180 rfl rfl e29_ ?_
  refine r_aload_n K dX10_mend_183 0 rfl rfl ?_
  refine r_aload_n K dX10_mend_184 0 rfl rfl ?_
  refine r_getI K flX10_135 dX10_mend_185 rfl rfl ?_
  obtain ⟨h30_, e31_, hf⟩ := e_l hf
  refine r_putI K fpX10_138 dX10_mend_188 rfl rfl e31_ ?_
  refine r_iload K dX10_mend_191 3 rfl ?_
  exact r_iret K Z dX10_mend_193 hf
def fX10_mend_70_b (p0 : Int32) (p1 : Int32) (p2 : Int32) (Q70 : Int32 → Int32 → Int32 → Int32 → AH → Option (Int32 × AH)) (x3 : Int32) (x4 : Int32) (x5 : Int32) (x6 : Int32) (h : AH) : Option (Int32 × AH) :=
  if 40 ≤ x6 then letV (wI h 59 7 ((h.1 59 7) - 1)) fun h33_ => fX10_mend_141 p0 p1 p2 x3 x4 x5 h33_ else if inb x6 40 = true then if inb (x6 - 1) 40 = true then letV (wI h 62 (ix (x6 - 1)) (h.1 62 (ix x6))) fun h37_ => letV (wI h37_ 63 (ix (x6 - 1)) (h37_.1 63 (ix x6))) fun h41_ => letV (wI h41_ 64 (ix (x6 - 1)) (h41_.1 64 (ix x6))) fun h45_ => Q70 x3 x4 x5 (x6 + 1) h45_ else none else none
def fX10_mend_70 (p0 : Int32) (p1 : Int32) (p2 : Int32) : Nat → Int32 → Int32 → Int32 → Int32 → AH → Option (Int32 × AH)
  | 0 => fun _ _ _ _ _ => none
  | n + 1 => fX10_mend_70_b p0 p1 p2 (fX10_mend_70 p0 p1 p2 n)
set_option maxRecDepth 10000 in
theorem sX10_mend_70_b {G : GG} {E : EE} {rv : Int32} {h' : AH} (K : OK G E 3 RX10 cX10_mend 7) (Z : RT G E (some .int) (some (.int rv)) h') (p0 : Int32) (p1 : Int32) (p2 : Int32) (Q70 : Int32 → Int32 → Int32 → Int32 → AH → Option (Int32 × AH)) (hQ70 : ∀ (x3 : Int32) (x4 : Int32) (x5 : Int32) (x6 : Int32) (h : AH), Q70 x3 x4 x5 x6 h = some (rv, h') → JJ G E 7 70 [(0, .ref 59), (3, .int x3), (4, .int x4), (5, .int x5), (6, .int x6)] [] h) (x3 : Int32) (x4 : Int32) (x5 : Int32) (x6 : Int32) (h : AH) (hf : fX10_mend_70_b p0 p1 p2 Q70 x3 x4 x5 x6 h = some (rv, h')) : JJ G E 7 70 [(0, .ref 59), (3, .int x3), (4, .int x4), (5, .int x5), (6, .int x6)] [] h := by
  unfold fX10_mend_70_b at hf
  refine r_iload K dX10_mend_70 4 rfl ?_
  refine r_bipush (v := 40) K dX10_mend_72 rfl ?_
  refine r_icmp_ge (tgt := 131) K dX10_mend_74 (by decide) (fun c32_ => ?_) (fun c32_ => ?_)
  · have hf := e_t hf c32_
    refine r_aload_n K dX10_mend_131 0 rfl rfl ?_
    refine r_dup K dX10_mend_132 rfl ?_
    refine r_getI K flX10_135 dX10_mend_133 rfl rfl ?_
    refine r_iconst (v := 1) K dX10_mend_136 rfl ?_
    refine r_isub K dX10_mend_137 ?_
    obtain ⟨h33_, e34_, hf⟩ := e_l hf
    refine r_putI K fpX10_135 dX10_mend_138 rfl rfl e34_ ?_
    refine r_lv [0, 1, 2, 3] rfl ?_
    exact sX10_mend_141 K Z p0 p1 p2 x3 x4 x5 h33_ hf
  · have hf := e_f hf c32_
    refine r_aload_n K dX10_mend_77 0 rfl rfl ?_
    refine r_getR (o' := 62) K flX10_16 dX10_mend_78 rfl rfl rfl ?_
    refine r_iload K dX10_mend_81 4 rfl ?_
    refine r_iconst (v := 1) K dX10_mend_83 rfl ?_
    refine r_isub K dX10_mend_84 ?_
    refine r_aload_n K dX10_mend_85 0 rfl rfl ?_
    refine r_getR (o' := 62) K flX10_16 dX10_mend_86 rfl rfl rfl ?_
    refine r_iload K dX10_mend_89 4 rfl ?_
    obtain ⟨g35_, hf⟩ := e_g hf
    refine r_iald K dX10_mend_91 rfl g35_ ?_
    obtain ⟨g36_, hf⟩ := e_g hf
    obtain ⟨h37_, e38_, hf⟩ := e_l hf
    refine r_iast K dX10_mend_92 rfl g36_ e38_ ?_
    refine r_aload_n K dX10_mend_93 0 rfl rfl ?_
    refine r_getR (o' := 63) K flX10_19 dX10_mend_94 rfl rfl rfl ?_
    refine r_iload K dX10_mend_97 4 rfl ?_
    refine r_iconst (v := 1) K dX10_mend_99 rfl ?_
    refine r_isub K dX10_mend_100 ?_
    refine r_aload_n K dX10_mend_101 0 rfl rfl ?_
    refine r_getR (o' := 63) K flX10_19 dX10_mend_102 rfl rfl rfl ?_
    refine r_iload K dX10_mend_105 4 rfl ?_
    refine r_iald K dX10_mend_107 rfl g35_ ?_
    obtain ⟨h41_, e42_, hf⟩ := e_l hf
    refine r_iast K dX10_mend_108 rfl g36_ e42_ ?_
    refine r_aload_n K dX10_mend_109 0 rfl rfl ?_
    refine r_getR (o' := 64) K flX10_22 dX10_mend_110 rfl rfl rfl ?_
    refine r_iload K dX10_mend_113 4 rfl ?_
    refine r_iconst (v := 1) K dX10_mend_115 rfl ?_
    refine r_isub K dX10_mend_116 ?_
    refine r_aload_n K dX10_mend_117 0 rfl rfl ?_
    refine r_getR (o' := 64) K flX10_22 dX10_mend_118 rfl rfl rfl ?_
    refine r_iload K dX10_mend_121 4 rfl ?_
    refine r_iald K dX10_mend_123 rfl g35_ ?_
    obtain ⟨h45_, e46_, hf⟩ := e_l hf
    refine r_iast K dX10_mend_124 rfl g36_ e46_ ?_
    refine r_iinc (y := 1) (lv' := [(6, .int (x6 + 1)), (0, .ref 59), (3, .int x3), (4, .int x4), (5, .int x5)]) K dX10_mend_125 4 rfl rfl (Nat.le_of_ble_eq_true rfl) rfl ?_
    refine r_goto (tgt := 70) K dX10_mend_128 (by decide) ?_
    refine r_lv [1, 2, 3, 4, 0] rfl ?_
    exact hQ70 x3 x4 x5 (x6 + 1) h45_ hf
theorem sX10_mend_70 {G : GG} {E : EE} {rv : Int32} {h' : AH} (K : OK G E 3 RX10 cX10_mend 7) (Z : RT G E (some .int) (some (.int rv)) h') (p0 : Int32) (p1 : Int32) (p2 : Int32) : ∀ (n : Nat) (x3 : Int32) (x4 : Int32) (x5 : Int32) (x6 : Int32) (h : AH), fX10_mend_70 p0 p1 p2 n x3 x4 x5 x6 h = some (rv, h') → JJ G E 7 70 [(0, .ref 59), (3, .int x3), (4, .int x4), (5, .int x5), (6, .int x6)] [] h := by
  intro n
  induction n with
  | zero => intro x3 x4 x5 x6 h hf; cases hf
  | succ n ih => intro x3 x4 x5 x6 h hf; exact sX10_mend_70_b K Z p0 p1 p2 _ (fun x3 x4 x5 x6 h hf => ih x3 x4 x5 x6 h hf) x3 x4 x5 x6 h hf
def fX10_mend (p0 : Int32) (p1 : Int32) (p2 : Int32) (h : AH) : Option (Int32 × AH) :=
  bind2 (fX10_place p0 p1 h) fun r1_ h2_ => if r1_ = (-1) then some ((-1), h2_) else if inb p1 9 = true then bind2 (fX10_isIn p2 (h2_.1 65 (ix p1)) (h2_.1 66 (ix p1)) h2_) fun r7_ h8_ => if r7_ = 0 then some ((-1), h8_) else if inb r1_ 94 = true then letV ((h8_.1 60 (ix r1_))) fun x12_ => if x12_ = p2 then some (x12_, h8_) else letV (wI h8_ 60 (ix r1_) p2) fun h16_ => if (h16_.1 59 7) = 40 then fX10_mend_70 p0 p1 p2 FU p2 r1_ x12_ 1 h16_ else fX10_mend_141 p0 p1 p2 p2 r1_ x12_ h16_ else none else none
set_option maxRecDepth 10000 in
theorem sX10_mend {G : GG} {E : EE} {rv : Int32} {h' : AH} (K : OK G E 3 RX10 cX10_mend 7) (Z : RT G E (some .int) (some (.int rv)) h') (p0 : Int32) (p1 : Int32) (p2 : Int32) (h : AH) (hf : fX10_mend p0 p1 p2 h = some (rv, h')) : JJ G E 7 0 [(0, .ref 59), (1, .int p0), (2, .int p1), (3, .int p2)] [] h := by
  unfold fX10_mend at hf
  refine r_aload_n K dX10_mend_0 0 rfl rfl ?_
  refine r_iload_n K dX10_mend_1 1 rfl rfl ?_
  refine r_iload_n K dX10_mend_2 2 rfl rfl ?_
  obtain ⟨r1_, h2_, g3_, hf⟩ := e_2 hf
  refine r_callV (av := [.int p0, .int p1]) (st := []) K lkX10_132 mwX10_place (conX10_place p0 p1 h r1_ h2_ g3_) dX10_mend_3 rfl (Nat.le_of_ble_eq_true rfl) rfl rfl (Nat.le_of_ble_eq_true rfl) ?_
  refine r_istore (lv' := [(4, .int r1_), (0, .ref 59), (1, .int p0), (2, .int p1), (3, .int p2)]) K dX10_mend_6 (Nat.le_of_ble_eq_true rfl) rfl ?_
  refine r_iload K dX10_mend_8 0 rfl ?_
  refine r_iconst (v := (-1)) K dX10_mend_10 rfl ?_
  refine r_icmp_eq (tgt := 33) K dX10_mend_11 (by decide) (fun c4_ => ?_) (fun c4_ => ?_)
  · have hf := e_t hf c4_
    refine r_iconst (v := (-1)) K dX10_mend_33 rfl ?_
    exact r_iret K Z dX10_mend_34 hf
  · have hf := e_f hf c4_
    refine r_iload_n K dX10_mend_14 4 rfl rfl ?_
    refine r_aload_n K dX10_mend_15 1 rfl rfl ?_
    refine r_getR (o' := 65) K flX10_25 dX10_mend_16 rfl rfl rfl ?_
    refine r_iload_n K dX10_mend_19 3 rfl rfl ?_
    obtain ⟨g5_, hf⟩ := e_g hf
    refine r_iald K dX10_mend_20 rfl g5_ ?_
    refine r_aload_n K dX10_mend_21 1 rfl rfl ?_
    refine r_getR (o' := 66) K flX10_28 dX10_mend_22 rfl rfl rfl ?_
    refine r_iload_n K dX10_mend_25 3 rfl rfl ?_
    refine r_iald K dX10_mend_26 rfl g5_ ?_
    obtain ⟨r7_, h8_, g9_, hf⟩ := e_2 hf
    refine r_callS (av := [.int p2, .int (h2_.1 65 (ix p1)), .int (h2_.1 66 (ix p1))]) (st := []) K lkX10_106 mwX10_isIn (conX10_isIn p2 (h2_.1 65 (ix p1)) (h2_.1 66 (ix p1)) h2_ r7_ h8_ g9_) dX10_mend_27 (Nat.le_of_ble_eq_true rfl) rfl rfl (Nat.le_of_ble_eq_true rfl) ?_
    refine r_if_ne (tgt := 35) K dX10_mend_30 (by decide) (fun c10_ => ?_) (fun c10_ => ?_)
    · have hf := e_f hf c10_
      refine r_aload_n K dX10_mend_35 1 rfl rfl ?_
      refine r_getR (o' := 60) K flX10_7 dX10_mend_36 rfl rfl rfl ?_
      refine r_iload K dX10_mend_39 0 rfl ?_
      obtain ⟨g11_, hf⟩ := e_g hf
      refine r_iald K dX10_mend_41 rfl g11_ ?_
      obtain ⟨x12_, e13_, hf⟩ := e_l hf
      refine r_nmI e13_ ?_
      refine r_istore (lv' := [(5, .int x12_), (4, .int r1_), (0, .ref 59), (1, .int p0), (2, .int p1), (3, .int p2)]) K dX10_mend_42 (Nat.le_of_ble_eq_true rfl) rfl ?_
      refine r_iload K dX10_mend_44 0 rfl ?_
      refine r_iload_n K dX10_mend_46 5 rfl rfl ?_
      refine r_icmp_eq (tgt := 191) K dX10_mend_47 (by decide) (fun c14_ => ?_) (fun c14_ => ?_)
      · have hf := e_t hf c14_
        refine r_iload K dX10_mend_191 0 rfl ?_
        exact r_iret K Z dX10_mend_193 hf
      · have hf := e_f hf c14_
        refine r_aload_n K dX10_mend_50 2 rfl rfl ?_
        refine r_getR (o' := 60) K flX10_7 dX10_mend_51 rfl rfl rfl ?_
        refine r_iload K dX10_mend_54 1 rfl ?_
        refine r_iload_n K dX10_mend_56 5 rfl rfl ?_
        obtain ⟨h16_, e17_, hf⟩ := e_l hf
        refine r_iast K dX10_mend_57 rfl g11_ e17_ ?_
        refine r_aload_n K dX10_mend_58 2 rfl rfl ?_
        refine r_getI K flX10_135 dX10_mend_59 rfl rfl ?_
        refine r_bipush (v := 40) K dX10_mend_62 rfl ?_
        refine r_icmp_ne (tgt := 141) K dX10_mend_64 (by decide) (fun c18_ => ?_) (fun c18_ => ?_)
        · have hf := e_f hf c18_
          refine r_lv [2, 5, 1, 0] rfl ?_
          exact sX10_mend_141 K Z p0 p1 p2 p2 r1_ x12_ h16_ hf
        · have hf := e_t hf c18_
          refine r_iconst (v := 1) K dX10_mend_67 rfl ?_
          refine r_istore (lv' := [(6, .int 1), (5, .int x12_), (4, .int r1_), (0, .ref 59), (1, .int p0), (2, .int p1), (3, .int p2)]) K dX10_mend_68 (Nat.le_of_ble_eq_true rfl) rfl ?_
          refine r_lv [3, 6, 2, 1, 0] rfl ?_
          exact sX10_mend_70 K Z p0 p1 p2 FU p2 r1_ x12_ 1 h16_ hf
    · have hf := e_t hf c10_
      refine r_iconst (v := (-1)) K dX10_mend_33 rfl ?_
      exact r_iret K Z dX10_mend_34 hf
theorem conX10_mend {G : GG} (p0 : Int32) (p1 : Int32) (p2 : Int32) (h : AH) (rv : Int32) (h' : AH) (hf : fX10_mend p0 p1 p2 h = some (rv, h')) : Con G 3 yX10_mend cX10_mend 7 (some .int) [.ref 59, .int p0, .int p1, .int p2] h (some (.int rv)) h' := con_of mwX10_mend (Nat.le_of_ble_eq_true rfl) (fun E K Z => sX10_mend K Z p0 p1 p2 h hf)
def fX10_of (p0 : Int32) (p1 : Int32) (h : AH) : Option (Int32 × AH) :=
  if p1 = 9 then bind2 (fX10_isIn p0 0 ((h.1 59 3) - 1) h) fun r7_ h8_ => if r7_ = 0 then some ((-1), h8_) else if inb ((54 + (3 * p0)) + 2) 94 = true then some ((h8_.1 60 (ix ((54 + (3 * p0)) + 2))), h8_) else none else bind2 (fX10_place p0 p1 h) fun r2_ h3_ => if r2_ = (-1) then some ((-1), h3_) else if inb r2_ 94 = true then some ((h3_.1 60 (ix r2_)), h3_) else none
set_option maxRecDepth 10000 in
theorem sX10_of {G : GG} {E : EE} {rv : Int32} {h' : AH} (K : OK G E 3 RX10 cX10_of 4) (Z : RT G E (some .int) (some (.int rv)) h') (p0 : Int32) (p1 : Int32) (h : AH) (hf : fX10_of p0 p1 h = some (rv, h')) : JJ G E 4 0 [(0, .ref 59), (1, .int p0), (2, .int p1)] [] h := by
  unfold fX10_of at hf
  refine r_iload_n K dX10_of_0 2 rfl rfl ?_
  refine r_bipush (v := 9) K dX10_of_1 rfl ?_
  refine r_icmp_ne (tgt := 38) K dX10_of_3 (by decide) (fun c1_ => ?_) (fun c1_ => ?_)
  · have hf := e_f hf c1_
    refine r_aload_n K dX10_of_38 0 rfl rfl ?_
    refine r_iload_n K dX10_of_39 1 rfl rfl ?_
    refine r_iload_n K dX10_of_40 2 rfl rfl ?_
    obtain ⟨r2_, h3_, g4_, hf⟩ := e_2 hf
    refine r_callV (av := [.int p0, .int p1]) (st := []) K lkX10_132 mwX10_place (conX10_place p0 p1 h r2_ h3_ g4_) dX10_of_41 rfl (Nat.le_of_ble_eq_true rfl) rfl rfl (Nat.le_of_ble_eq_true rfl) ?_
    refine r_istore_n (lv' := [(3, .int r2_), (0, .ref 59), (1, .int p0), (2, .int p1)]) K dX10_of_44 rfl (Nat.le_of_ble_eq_true rfl) rfl ?_
    refine r_iload_n K dX10_of_45 0 rfl rfl ?_
    refine r_iconst (v := (-1)) K dX10_of_46 rfl ?_
    refine r_icmp_ne (tgt := 54) K dX10_of_47 (by decide) (fun c5_ => ?_) (fun c5_ => ?_)
    · have hf := e_f hf c5_
      refine r_aload_n K dX10_of_54 1 rfl rfl ?_
      refine r_getR (o' := 60) K flX10_7 dX10_of_55 rfl rfl rfl ?_
      refine r_iload_n K dX10_of_58 0 rfl rfl ?_
      obtain ⟨g6_, hf⟩ := e_g hf
      refine r_iald K dX10_of_59 rfl g6_ ?_
      exact r_iret K Z dX10_of_60 hf
    · have hf := e_t hf c5_
      refine r_iconst (v := (-1)) K dX10_of_50 rfl ?_
      refine r_goto (tgt := 60) K dX10_of_51 (by decide) ?_
      exact r_iret K Z dX10_of_60 hf
  · have hf := e_t hf c1_
    refine r_iload_n K dX10_of_6 1 rfl rfl ?_
    refine r_iconst (v := 0) K dX10_of_7 rfl ?_
    refine r_aload_n K dX10_of_8 0 rfl rfl ?_
    refine r_getI K flX10_121 dX10_of_9 rfl rfl ?_
    refine r_iconst (v := 1) K dX10_of_12 rfl ?_
    refine r_isub K dX10_of_13 ?_
    obtain ⟨r7_, h8_, g9_, hf⟩ := e_2 hf
    refine r_callS (av := [.int p0, .int 0, .int ((h.1 59 3) - 1)]) (st := []) K lkX10_106 mwX10_isIn (conX10_isIn p0 0 ((h.1 59 3) - 1) h r7_ h8_ g9_) dX10_of_14 (Nat.le_of_ble_eq_true rfl) rfl rfl (Nat.le_of_ble_eq_true rfl) ?_
    refine r_if_eq (tgt := 36) K dX10_of_17 (by decide) (fun c10_ => ?_) (fun c10_ => ?_)
    · have hf := e_t hf c10_
      refine r_iconst (v := (-1)) K dX10_of_36 rfl ?_
      exact r_iret K Z dX10_of_37 hf
    · have hf := e_f hf c10_
      refine r_aload_n K dX10_of_20 0 rfl rfl ?_
      refine r_getR (o' := 60) K flX10_7 dX10_of_21 rfl rfl rfl ?_
      refine r_bipush (v := 54) K dX10_of_24 rfl ?_
      refine r_iconst (v := 3) K dX10_of_26 rfl ?_
      refine r_iload_n K dX10_of_27 1 rfl rfl ?_
      refine r_imul K dX10_of_28 ?_
      refine r_iadd K dX10_of_29 ?_
      refine r_iconst (v := 2) K dX10_of_30 rfl ?_
      refine r_iadd K dX10_of_31 ?_
      obtain ⟨g11_, hf⟩ := e_g hf
      refine r_iald K dX10_of_32 rfl g11_ ?_
      refine r_goto (tgt := 37) K dX10_of_33 (by decide) ?_
      exact r_iret K Z dX10_of_37 hf
theorem conX10_of {G : GG} (p0 : Int32) (p1 : Int32) (h : AH) (rv : Int32) (h' : AH) (hf : fX10_of p0 p1 h = some (rv, h')) : Con G 3 yX10_of cX10_of 4 (some .int) [.ref 59, .int p0, .int p1] h (some (.int rv)) h' := con_of mwX10_of (Nat.le_of_ble_eq_true rfl) (fun E K Z => sX10_of K Z p0 p1 h hf)
def fX10_pairs_20_b (p0 : Int32) (Q20 : Int32 → Int32 → Int32 → Int32 → AH → Option (Int32 × AH)) (x1 : Int32) (x2 : Int32) (x3 : Int32) (x4 : Int32) (h : AH) : Option (Int32 × AH) :=
  if x4 < 5 then if x1 = 0 then some (x2, h) else if x1 = 1 then bind2 (fX10_left  h) fun r8_ h9_ => some ((r8_ - (2 * x2)), h9_) else some (x3, h) else bind2 (fX10_gloves 0 x4 h) fun r11_ h12_ => bind2 (fX10_gloves 1 x4 h12_) fun r14_ h15_ => letV ((x2 + (jmin r11_ r14_))) fun x17_ => if r11_ = r14_ then Q20 x1 x17_ x3 (x4 + (-1)) h15_ else Q20 x1 x17_ x4 (x4 + (-1)) h15_
def fX10_pairs_20 (p0 : Int32) : Nat → Int32 → Int32 → Int32 → Int32 → AH → Option (Int32 × AH)
  | 0 => fun _ _ _ _ _ => none
  | n + 1 => fX10_pairs_20_b p0 (fX10_pairs_20 p0 n)
set_option maxRecDepth 10000 in
theorem sX10_pairs_20_b {G : GG} {E : EE} {rv : Int32} {h' : AH} (K : OK G E 3 RX10 cX10_pairs 7) (Z : RT G E (some .int) (some (.int rv)) h') (p0 : Int32) (Q20 : Int32 → Int32 → Int32 → Int32 → AH → Option (Int32 × AH)) (hQ20 : ∀ (x1 : Int32) (x2 : Int32) (x3 : Int32) (x4 : Int32) (h : AH), Q20 x1 x2 x3 x4 h = some (rv, h') → JJ G E 7 20 [(0, .ref 59), (1, .int x1), (2, .int x2), (3, .int x3), (4, .int x4)] [] h) (x1 : Int32) (x2 : Int32) (x3 : Int32) (x4 : Int32) (h : AH) (hf : fX10_pairs_20_b p0 Q20 x1 x2 x3 x4 h = some (rv, h')) : JJ G E 7 20 [(0, .ref 59), (1, .int x1), (2, .int x2), (3, .int x3), (4, .int x4)] [] h := by
  unfold fX10_pairs_20_b at hf
  refine r_iload K dX10_pairs_20 4 rfl ?_
  refine r_iconst (v := 5) K dX10_pairs_22 rfl ?_
  refine r_icmp_lt (tgt := 74) K dX10_pairs_23 (by decide) (fun c5_ => ?_) (fun c5_ => ?_)
  · have hf := e_t hf c5_
    refine r_iload_n K dX10_pairs_74 1 rfl rfl ?_
    refine r_if_ne (tgt := 82) K dX10_pairs_75 (by decide) (fun c6_ => ?_) (fun c6_ => ?_)
    · have hf := e_f hf c6_
      refine r_iload_n K dX10_pairs_82 1 rfl rfl ?_
      refine r_iconst (v := 1) K dX10_pairs_83 rfl ?_
      refine r_icmp_ne (tgt := 98) K dX10_pairs_84 (by decide) (fun c7_ => ?_) (fun c7_ => ?_)
      · have hf := e_f hf c7_
        refine r_iload_n K dX10_pairs_98 3 rfl rfl ?_
        exact r_iret K Z dX10_pairs_99 hf
      · have hf := e_t hf c7_
        refine r_aload_n K dX10_pairs_87 0 rfl rfl ?_
        obtain ⟨r8_, h9_, g10_, hf⟩ := e_2 hf
        refine r_callV (av := []) (st := []) K lkX10_203 mwX10_left (conX10_left  h r8_ h9_ g10_) dX10_pairs_88 rfl (Nat.le_of_ble_eq_true rfl) rfl rfl (Nat.le_of_ble_eq_true rfl) ?_
        refine r_iconst (v := 2) K dX10_pairs_91 rfl ?_
        refine r_iload_n K dX10_pairs_92 2 rfl rfl ?_
        refine r_imul K dX10_pairs_93 ?_
        refine r_isub K dX10_pairs_94 ?_
        refine r_goto (tgt := 99) K dX10_pairs_95 (by decide) ?_
        exact r_iret K Z dX10_pairs_99 hf
    · have hf := e_t hf c6_
      refine r_iload_n K dX10_pairs_78 2 rfl rfl ?_
      refine r_goto (tgt := 99) K dX10_pairs_79 (by decide) ?_
      exact r_iret K Z dX10_pairs_99 hf
  · have hf := e_f hf c5_
    refine r_aload_n K dX10_pairs_26 0 rfl rfl ?_
    refine r_iconst (v := 0) K dX10_pairs_27 rfl ?_
    refine r_iload K dX10_pairs_28 4 rfl ?_
    obtain ⟨r11_, h12_, g13_, hf⟩ := e_2 hf
    refine r_callV (av := [.int 0, .int x4]) (st := []) K lkX10_247 mwX10_gloves (conX10_gloves 0 x4 h r11_ h12_ g13_) dX10_pairs_30 rfl (Nat.le_of_ble_eq_true rfl) rfl rfl (Nat.le_of_ble_eq_true rfl) ?_
    refine r_istore (lv' := [(5, .int r11_), (0, .ref 59), (1, .int x1), (2, .int x2), (3, .int x3), (4, .int x4)]) K dX10_pairs_33 (Nat.le_of_ble_eq_true rfl) rfl ?_
    refine r_aload_n K dX10_pairs_35 1 rfl rfl ?_
    refine r_iconst (v := 1) K dX10_pairs_36 rfl ?_
    refine r_iload K dX10_pairs_37 5 rfl ?_
    obtain ⟨r14_, h15_, g16_, hf⟩ := e_2 hf
    refine r_callV (av := [.int 1, .int x4]) (st := []) K lkX10_247 mwX10_gloves (conX10_gloves 1 x4 h12_ r14_ h15_ g16_) dX10_pairs_39 rfl (Nat.le_of_ble_eq_true rfl) rfl rfl (Nat.le_of_ble_eq_true rfl) ?_
    refine r_istore (lv' := [(6, .int r14_), (5, .int r11_), (0, .ref 59), (1, .int x1), (2, .int x2), (3, .int x3), (4, .int x4)]) K dX10_pairs_42 (Nat.le_of_ble_eq_true rfl) rfl ?_
    refine r_iload_n K dX10_pairs_44 4 rfl rfl ?_
    refine r_iload K dX10_pairs_45 1 rfl ?_
    refine r_iload K dX10_pairs_47 0 rfl ?_
    refine r_mmin K lmX10_94 dX10_pairs_49 (Nat.le_of_ble_eq_true rfl) (Nat.le_of_ble_eq_true rfl) ?_
    refine r_iadd K dX10_pairs_52 ?_
    obtain ⟨x17_, e18_, hf⟩ := e_l hf
    refine r_nmI e18_ ?_
    refine r_istore_n (lv' := [(2, .int x17_), (6, .int r14_), (5, .int r11_), (0, .ref 59), (1, .int x1), (3, .int x3), (4, .int x4)]) K dX10_pairs_53 rfl (Nat.le_of_ble_eq_true rfl) rfl ?_
    refine r_iload K dX10_pairs_54 2 rfl ?_
    refine r_iload K dX10_pairs_56 1 rfl ?_
    refine r_icmp_eq (tgt := 66) K dX10_pairs_58 (by decide) (fun c19_ => ?_) (fun c19_ => ?_)
    · have hf := e_t hf c19_
      refine r_iload_n K dX10_pairs_66 5 rfl rfl ?_
      refine r_istore_n (lv' := [(3, .int x3), (2, .int x17_), (6, .int r14_), (5, .int r11_), (0, .ref 59), (1, .int x1), (4, .int x4)]) K dX10_pairs_67 rfl (Nat.le_of_ble_eq_true rfl) rfl ?_
      refine r_iinc (y := (-1)) (lv' := [(4, .int (x4 + (-1))), (3, .int x3), (2, .int x17_), (6, .int r14_), (5, .int r11_), (0, .ref 59), (1, .int x1)]) K dX10_pairs_68 6 rfl rfl (Nat.le_of_ble_eq_true rfl) rfl ?_
      refine r_goto (tgt := 20) K dX10_pairs_71 (by decide) ?_
      refine r_lv [5, 6, 2, 1, 0] rfl ?_
      exact hQ20 x1 x17_ x3 (x4 + (-1)) h15_ hf
    · have hf := e_f hf c19_
      refine r_iload K dX10_pairs_61 6 rfl ?_
      refine r_goto (tgt := 67) K dX10_pairs_63 (by decide) ?_
      refine r_istore_n (lv' := [(3, .int x4), (2, .int x17_), (6, .int r14_), (5, .int r11_), (0, .ref 59), (1, .int x1), (4, .int x4)]) K dX10_pairs_67 rfl (Nat.le_of_ble_eq_true rfl) rfl ?_
      refine r_iinc (y := (-1)) (lv' := [(4, .int (x4 + (-1))), (3, .int x4), (2, .int x17_), (6, .int r14_), (5, .int r11_), (0, .ref 59), (1, .int x1)]) K dX10_pairs_68 6 rfl rfl (Nat.le_of_ble_eq_true rfl) rfl ?_
      refine r_goto (tgt := 20) K dX10_pairs_71 (by decide) ?_
      refine r_lv [5, 6, 2, 1, 0] rfl ?_
      exact hQ20 x1 x17_ x4 (x4 + (-1)) h15_ hf
theorem sX10_pairs_20 {G : GG} {E : EE} {rv : Int32} {h' : AH} (K : OK G E 3 RX10 cX10_pairs 7) (Z : RT G E (some .int) (some (.int rv)) h') (p0 : Int32) : ∀ (n : Nat) (x1 : Int32) (x2 : Int32) (x3 : Int32) (x4 : Int32) (h : AH), fX10_pairs_20 p0 n x1 x2 x3 x4 h = some (rv, h') → JJ G E 7 20 [(0, .ref 59), (1, .int x1), (2, .int x2), (3, .int x3), (4, .int x4)] [] h := by
  intro n
  induction n with
  | zero => intro x1 x2 x3 x4 h hf; cases hf
  | succ n ih => intro x1 x2 x3 x4 h hf; exact sX10_pairs_20_b K Z p0 _ (fun x1 x2 x3 x4 h hf => ih x1 x2 x3 x4 h hf) x1 x2 x3 x4 h hf
def fX10_pairs (p0 : Int32) (h : AH) : Option (Int32 × AH) :=
  bind2 (fX10_isIn p0 0 2 h) fun r1_ h2_ => if r1_ = 0 then some ((-1), h2_) else fX10_pairs_20 p0 FU p0 0 (-2) 9 h2_
set_option maxRecDepth 10000 in
theorem sX10_pairs {G : GG} {E : EE} {rv : Int32} {h' : AH} (K : OK G E 3 RX10 cX10_pairs 7) (Z : RT G E (some .int) (some (.int rv)) h') (p0 : Int32) (h : AH) (hf : fX10_pairs p0 h = some (rv, h')) : JJ G E 7 0 [(0, .ref 59), (1, .int p0)] [] h := by
  unfold fX10_pairs at hf
  refine r_iload_n K dX10_pairs_0 1 rfl rfl ?_
  refine r_iconst (v := 0) K dX10_pairs_1 rfl ?_
  refine r_iconst (v := 2) K dX10_pairs_2 rfl ?_
  obtain ⟨r1_, h2_, g3_, hf⟩ := e_2 hf
  refine r_callS (av := [.int p0, .int 0, .int 2]) (st := []) K lkX10_106 mwX10_isIn (conX10_isIn p0 0 2 h r1_ h2_ g3_) dX10_pairs_3 (Nat.le_of_ble_eq_true rfl) rfl rfl (Nat.le_of_ble_eq_true rfl) ?_
  refine r_if_ne (tgt := 11) K dX10_pairs_6 (by decide) (fun c4_ => ?_) (fun c4_ => ?_)
  · have hf := e_f hf c4_
    refine r_iconst (v := 0) K dX10_pairs_11 rfl ?_
    refine r_istore_n (lv' := [(2, .int 0), (0, .ref 59), (1, .int p0)]) K dX10_pairs_12 rfl (Nat.le_of_ble_eq_true rfl) rfl ?_
    refine r_bipush (v := (-2)) K dX10_pairs_13 rfl ?_
    refine r_istore_n (lv' := [(3, .int (-2)), (2, .int 0), (0, .ref 59), (1, .int p0)]) K dX10_pairs_15 rfl (Nat.le_of_ble_eq_true rfl) rfl ?_
    refine r_bipush (v := 9) K dX10_pairs_16 rfl ?_
    refine r_istore (lv' := [(4, .int 9), (3, .int (-2)), (2, .int 0), (0, .ref 59), (1, .int p0)]) K dX10_pairs_18 (Nat.le_of_ble_eq_true rfl) rfl ?_
    refine r_lv [3, 4, 2, 1, 0] rfl ?_
    exact sX10_pairs_20 K Z p0 FU p0 0 (-2) 9 h2_ hf
  · have hf := e_t hf c4_
    refine r_iconst (v := (-1)) K dX10_pairs_9 rfl ?_
    exact r_iret K Z dX10_pairs_10 hf
theorem conX10_pairs {G : GG} (p0 : Int32) (h : AH) (rv : Int32) (h' : AH) (hf : fX10_pairs p0 h = some (rv, h')) : Con G 3 yX10_pairs cX10_pairs 7 (some .int) [.ref 59, .int p0] h (some (.int rv)) h' := con_of mwX10_pairs (Nat.le_of_ble_eq_true rfl) (fun E K Z => sX10_pairs K Z p0 h hf)
def fX10_peak_56 (p0 : Int32) (p1 : Int32) (Q32 : Int32 → Int32 → Int32 → Int32 → Int32 → AH → Option (Int32 × AH)) (x1 : Int32) (x2 : Int32) (x4 : Int32) (x5 : Int32) (s0 : Int32) (h : AH) : Option (Int32 × AH) :=
  bind2 (fX10_number x1 0 h) fun r21_ h22_ => letV ((jmax r21_ x4)) fun x24_ => bindV (fX10_goMinute  h22_) fun h27_ => Q32 x1 x2 s0 x24_ (x5 + 1) h27_
set_option maxRecDepth 10000 in
theorem sX10_peak_56 {G : GG} {E : EE} {rv : Int32} {h' : AH} (K : OK G E 3 RX10 cX10_peak 6) (Z : RT G E (some .int) (some (.int rv)) h') (p0 : Int32) (p1 : Int32) (Q32 : Int32 → Int32 → Int32 → Int32 → Int32 → AH → Option (Int32 × AH)) (hQ32 : ∀ (x1 : Int32) (x2 : Int32) (x3 : Int32) (x4 : Int32) (x5 : Int32) (h : AH), Q32 x1 x2 x3 x4 x5 h = some (rv, h') → JJ G E 6 32 [(0, .ref 59), (1, .int x1), (2, .int x2), (3, .int x3), (4, .int x4), (5, .int x5)] [] h) (x1 : Int32) (x2 : Int32) (x4 : Int32) (x5 : Int32) (s0 : Int32) (h : AH) (hf : fX10_peak_56 p0 p1 Q32 x1 x2 x4 x5 s0 h = some (rv, h')) : JJ G E 6 56 [(0, .ref 59), (1, .int x1), (2, .int x2), (4, .int x4), (5, .int x5)] [.int s0] h := by
  unfold fX10_peak_56 at hf
  refine r_istore_n (lv' := [(3, .int s0), (0, .ref 59), (1, .int x1), (2, .int x2), (4, .int x4), (5, .int x5)]) K dX10_peak_56 rfl (Nat.le_of_ble_eq_true rfl) rfl ?_
  refine r_aload_n K dX10_peak_57 1 rfl rfl ?_
  refine r_iload_n K dX10_peak_58 2 rfl rfl ?_
  refine r_iconst (v := 0) K dX10_peak_59 rfl ?_
  obtain ⟨r21_, h22_, g23_, hf⟩ := e_2 hf
  refine r_callV (av := [.int x1, .int 0]) (st := []) K lkX10_110 mwX10_number (conX10_number x1 0 h r21_ h22_ g23_) dX10_peak_60 rfl (Nat.le_of_ble_eq_true rfl) rfl rfl (Nat.le_of_ble_eq_true rfl) ?_
  refine r_iload K dX10_peak_63 4 rfl ?_
  refine r_mmax K lmX10_100 dX10_peak_65 (Nat.le_of_ble_eq_true rfl) (Nat.le_of_ble_eq_true rfl) ?_
  obtain ⟨x24_, e25_, hf⟩ := e_l hf
  refine r_nmI e25_ ?_
  refine r_istore (lv' := [(4, .int x24_), (3, .int s0), (0, .ref 59), (1, .int x1), (2, .int x2), (5, .int x5)]) K dX10_peak_68 (Nat.le_of_ble_eq_true rfl) rfl ?_
  refine r_aload_n K dX10_peak_70 2 rfl rfl ?_
  obtain ⟨h27_, g28_, hf⟩ := e_v hf
  refine r_callV (av := []) (st := []) K lkX10_212 mwX10_goMinute (conX10_goMinute  h22_ h27_ g28_) dX10_peak_71 rfl (Nat.le_of_ble_eq_true rfl) rfl rfl (Nat.le_of_ble_eq_true rfl) ?_
  refine r_iinc (y := 1) (lv' := [(5, .int (x5 + 1)), (4, .int x24_), (3, .int s0), (0, .ref 59), (1, .int x1), (2, .int x2)]) K dX10_peak_74 5 rfl rfl (Nat.le_of_ble_eq_true rfl) rfl ?_
  refine r_goto (tgt := 32) K dX10_peak_77 (by decide) ?_
  refine r_lv [3, 4, 5, 2, 1, 0] rfl ?_
  exact hQ32 x1 x2 s0 x24_ (x5 + 1) h27_ hf
def fX10_peak_32_b (p0 : Int32) (p1 : Int32) (Q32 : Int32 → Int32 → Int32 → Int32 → Int32 → AH → Option (Int32 × AH)) (x1 : Int32) (x2 : Int32) (x3 : Int32) (x4 : Int32) (x5 : Int32) (h : AH) : Option (Int32 × AH) :=
  if 60 < x5 then bindV (fX10_layAll 0 h) fun h14_ => if x2 = 0 then some (x3, h14_) else some (x4, h14_) else bind2 (fX10_number x1 0 h) fun r17_ h18_ => if r17_ ≤ x4 then fX10_peak_56 p0 p1 Q32 x1 x2 x4 x5 x3 h18_ else fX10_peak_56 p0 p1 Q32 x1 x2 x4 x5 x5 h18_
def fX10_peak_32 (p0 : Int32) (p1 : Int32) : Nat → Int32 → Int32 → Int32 → Int32 → Int32 → AH → Option (Int32 × AH)
  | 0 => fun _ _ _ _ _ _ => none
  | n + 1 => fX10_peak_32_b p0 p1 (fX10_peak_32 p0 p1 n)
set_option maxRecDepth 10000 in
theorem sX10_peak_32_b {G : GG} {E : EE} {rv : Int32} {h' : AH} (K : OK G E 3 RX10 cX10_peak 6) (Z : RT G E (some .int) (some (.int rv)) h') (p0 : Int32) (p1 : Int32) (Q32 : Int32 → Int32 → Int32 → Int32 → Int32 → AH → Option (Int32 × AH)) (hQ32 : ∀ (x1 : Int32) (x2 : Int32) (x3 : Int32) (x4 : Int32) (x5 : Int32) (h : AH), Q32 x1 x2 x3 x4 x5 h = some (rv, h') → JJ G E 6 32 [(0, .ref 59), (1, .int x1), (2, .int x2), (3, .int x3), (4, .int x4), (5, .int x5)] [] h) (x1 : Int32) (x2 : Int32) (x3 : Int32) (x4 : Int32) (x5 : Int32) (h : AH) (hf : fX10_peak_32_b p0 p1 Q32 x1 x2 x3 x4 x5 h = some (rv, h')) : JJ G E 6 32 [(0, .ref 59), (1, .int x1), (2, .int x2), (3, .int x3), (4, .int x4), (5, .int x5)] [] h := by
  unfold fX10_peak_32_b at hf
  refine r_iload K dX10_peak_32 5 rfl ?_
  refine r_bipush (v := 60) K dX10_peak_34 rfl ?_
  refine r_icmp_gt (tgt := 80) K dX10_peak_36 (by decide) (fun c12_ => ?_) (fun c12_ => ?_)
  · have hf := e_t hf c12_
    refine r_aload_n K dX10_peak_80 0 rfl rfl ?_
    refine r_iconst (v := 0) K dX10_peak_81 rfl ?_
    obtain ⟨h14_, g15_, hf⟩ := e_v hf
    refine r_callV (av := [.int 0]) (st := []) K lkX10_232 mwX10_layAll (conX10_layAll 0 h h14_ g15_) dX10_peak_82 rfl (Nat.le_of_ble_eq_true rfl) rfl rfl (Nat.le_of_ble_eq_true rfl) ?_
    refine r_iload_n K dX10_peak_85 2 rfl rfl ?_
    refine r_if_ne (tgt := 93) K dX10_peak_86 (by decide) (fun c16_ => ?_) (fun c16_ => ?_)
    · have hf := e_f hf c16_
      refine r_iload K dX10_peak_93 4 rfl ?_
      exact r_iret K Z dX10_peak_95 hf
    · have hf := e_t hf c16_
      refine r_iload_n K dX10_peak_89 3 rfl rfl ?_
      refine r_goto (tgt := 95) K dX10_peak_90 (by decide) ?_
      exact r_iret K Z dX10_peak_95 hf
  · have hf := e_f hf c12_
    refine r_aload_n K dX10_peak_39 0 rfl rfl ?_
    refine r_iload_n K dX10_peak_40 1 rfl rfl ?_
    refine r_iconst (v := 0) K dX10_peak_41 rfl ?_
    obtain ⟨r17_, h18_, g19_, hf⟩ := e_2 hf
    refine r_callV (av := [.int x1, .int 0]) (st := []) K lkX10_110 mwX10_number (conX10_number x1 0 h r17_ h18_ g19_) dX10_peak_42 rfl (Nat.le_of_ble_eq_true rfl) rfl rfl (Nat.le_of_ble_eq_true rfl) ?_
    refine r_iload K dX10_peak_45 4 rfl ?_
    refine r_icmp_le (tgt := 55) K dX10_peak_47 (by decide) (fun c20_ => ?_) (fun c20_ => ?_)
    · have hf := e_t hf c20_
      refine r_iload_n K dX10_peak_55 3 rfl rfl ?_
      refine r_lv [0, 1, 2, 4, 5] rfl ?_
      exact sX10_peak_56 K Z p0 p1 Q32 hQ32 x1 x2 x4 x5 x3 h18_ hf
    · have hf := e_f hf c20_
      refine r_iload K dX10_peak_50 5 rfl ?_
      refine r_goto (tgt := 56) K dX10_peak_52 (by decide) ?_
      refine r_lv [0, 1, 2, 4, 5] rfl ?_
      exact sX10_peak_56 K Z p0 p1 Q32 hQ32 x1 x2 x4 x5 x5 h18_ hf
theorem sX10_peak_32 {G : GG} {E : EE} {rv : Int32} {h' : AH} (K : OK G E 3 RX10 cX10_peak 6) (Z : RT G E (some .int) (some (.int rv)) h') (p0 : Int32) (p1 : Int32) : ∀ (n : Nat) (x1 : Int32) (x2 : Int32) (x3 : Int32) (x4 : Int32) (x5 : Int32) (h : AH), fX10_peak_32 p0 p1 n x1 x2 x3 x4 x5 h = some (rv, h') → JJ G E 6 32 [(0, .ref 59), (1, .int x1), (2, .int x2), (3, .int x3), (4, .int x4), (5, .int x5)] [] h := by
  intro n
  induction n with
  | zero => intro x1 x2 x3 x4 x5 h hf; cases hf
  | succ n ih => intro x1 x2 x3 x4 x5 h hf; exact sX10_peak_32_b K Z p0 p1 _ (fun x1 x2 x3 x4 x5 h hf => ih x1 x2 x3 x4 x5 h hf) x1 x2 x3 x4 x5 h hf
def fX10_peak (p0 : Int32) (p1 : Int32) (h : AH) : Option (Int32 × AH) :=
  bind2 (fX10_isGuest p0 h) fun r1_ h2_ => if r1_ = 0 then some ((-1), h2_) else bind2 (fX10_isIn p1 0 1 h2_) fun r5_ h6_ => if r5_ = 0 then some ((-1), h6_) else bindV (fX10_keepAll 0 h6_) fun h10_ => fX10_peak_32 p0 p1 FU p0 p1 0 (-1) 0 h10_
set_option maxRecDepth 10000 in
theorem sX10_peak {G : GG} {E : EE} {rv : Int32} {h' : AH} (K : OK G E 3 RX10 cX10_peak 6) (Z : RT G E (some .int) (some (.int rv)) h') (p0 : Int32) (p1 : Int32) (h : AH) (hf : fX10_peak p0 p1 h = some (rv, h')) : JJ G E 6 0 [(0, .ref 59), (1, .int p0), (2, .int p1)] [] h := by
  unfold fX10_peak at hf
  refine r_aload_n K dX10_peak_0 0 rfl rfl ?_
  refine r_iload_n K dX10_peak_1 1 rfl rfl ?_
  obtain ⟨r1_, h2_, g3_, hf⟩ := e_2 hf
  refine r_callV (av := [.int p0]) (st := []) K lkX10_124 mwX10_isGuest (conX10_isGuest p0 h r1_ h2_ g3_) dX10_peak_2 rfl (Nat.le_of_ble_eq_true rfl) rfl rfl (Nat.le_of_ble_eq_true rfl) ?_
  refine r_if_eq (tgt := 17) K dX10_peak_5 (by decide) (fun c4_ => ?_) (fun c4_ => ?_)
  · have hf := e_t hf c4_
    refine r_iconst (v := (-1)) K dX10_peak_17 rfl ?_
    exact r_iret K Z dX10_peak_18 hf
  · have hf := e_f hf c4_
    refine r_iload_n K dX10_peak_8 2 rfl rfl ?_
    refine r_iconst (v := 0) K dX10_peak_9 rfl ?_
    refine r_iconst (v := 1) K dX10_peak_10 rfl ?_
    obtain ⟨r5_, h6_, g7_, hf⟩ := e_2 hf
    refine r_callS (av := [.int p1, .int 0, .int 1]) (st := []) K lkX10_106 mwX10_isIn (conX10_isIn p1 0 1 h2_ r5_ h6_ g7_) dX10_peak_11 (Nat.le_of_ble_eq_true rfl) rfl rfl (Nat.le_of_ble_eq_true rfl) ?_
    refine r_if_ne (tgt := 19) K dX10_peak_14 (by decide) (fun c8_ => ?_) (fun c8_ => ?_)
    · have hf := e_f hf c8_
      refine r_aload_n K dX10_peak_19 0 rfl rfl ?_
      refine r_iconst (v := 0) K dX10_peak_20 rfl ?_
      obtain ⟨h10_, g11_, hf⟩ := e_v hf
      refine r_callV (av := [.int 0]) (st := []) K lkX10_222 mwX10_keepAll (conX10_keepAll 0 h6_ h10_ g11_) dX10_peak_21 rfl (Nat.le_of_ble_eq_true rfl) rfl rfl (Nat.le_of_ble_eq_true rfl) ?_
      refine r_iconst (v := 0) K dX10_peak_24 rfl ?_
      refine r_istore_n (lv' := [(3, .int 0), (0, .ref 59), (1, .int p0), (2, .int p1)]) K dX10_peak_25 rfl (Nat.le_of_ble_eq_true rfl) rfl ?_
      refine r_iconst (v := (-1)) K dX10_peak_26 rfl ?_
      refine r_istore (lv' := [(4, .int (-1)), (3, .int 0), (0, .ref 59), (1, .int p0), (2, .int p1)]) K dX10_peak_27 (Nat.le_of_ble_eq_true rfl) rfl ?_
      refine r_iconst (v := 0) K dX10_peak_29 rfl ?_
      refine r_istore (lv' := [(5, .int 0), (4, .int (-1)), (3, .int 0), (0, .ref 59), (1, .int p0), (2, .int p1)]) K dX10_peak_30 (Nat.le_of_ble_eq_true rfl) rfl ?_
      refine r_lv [3, 4, 5, 2, 1, 0] rfl ?_
      exact sX10_peak_32 K Z p0 p1 FU p0 p1 0 (-1) 0 h10_ hf
    · have hf := e_t hf c8_
      refine r_iconst (v := (-1)) K dX10_peak_17 rfl ?_
      exact r_iret K Z dX10_peak_18 hf
theorem conX10_peak {G : GG} (p0 : Int32) (p1 : Int32) (h : AH) (rv : Int32) (h' : AH) (hf : fX10_peak p0 p1 h = some (rv, h')) : Con G 3 yX10_peak cX10_peak 6 (some .int) [.ref 59, .int p0, .int p1] h (some (.int rv)) h' := con_of mwX10_peak (Nat.le_of_ble_eq_true rfl) (fun E K Z => sX10_peak K Z p0 p1 h hf)
def fX10_put_93 (p0 : Int32) (p1 : Int32) (p2 : Int64) (s0 : Int64) (s1 : Int32) (h : AH) : Option (Int32 × AH) :=
  if inb s1 360 = true then letV (wL h 77 (ix s1) s0) fun h14_ => some (1, h14_) else none
set_option maxRecDepth 10000 in
theorem sX10_put_93 {G : GG} {E : EE} {rv : Int32} {h' : AH} (K : OK G E 3 RX10 cX10_put 7) (Z : RT G E (some .int) (some (.int rv)) h') (p0 : Int32) (p1 : Int32) (p2 : Int64) (s0 : Int64) (s1 : Int32) (h : AH) (hf : fX10_put_93 p0 p1 p2 s0 s1 h = some (rv, h')) : JJ G E 7 93 [] [.long s0, .int s1, .ref 77] h := by
  unfold fX10_put_93 at hf
  obtain ⟨g13_, hf⟩ := e_g hf
  obtain ⟨h14_, e15_, hf⟩ := e_l hf
  refine r_last K dX10_put_93 rfl g13_ e15_ ?_
  refine r_iconst (v := 1) K dX10_put_94 rfl ?_
  exact r_iret K Z dX10_put_95 hf
def fX10_put (p0 : Int32) (p1 : Int32) (p2 : Int64) (h : AH) : Option (Int32 × AH) :=
  bind2 (fX10_rowAt p0 p1 h) fun r1_ h2_ => if 1 ≤ r1_ then if inb p0 6 = true then letV ((h2_.1 75 (ix p0))) fun x6_ => if x6_ = 0 then fX10_put_93 p0 p1 p2 ((((((p2 : Int64).toInt32) : Int32).toInt8.toInt32) : Int32).toInt64) ((60 * p0) + p1) h2_ else if x6_ = 1 then fX10_put_93 p0 p1 p2 ((((((p2 : Int64).toInt32) : Int32).toInt16.toInt32) : Int32).toInt64) ((60 * p0) + p1) h2_ else if x6_ = 2 then fX10_put_93 p0 p1 p2 ((((p2 : Int64).toInt32) : Int32).toInt64) ((60 * p0) + p1) h2_ else if x6_ = 3 then fX10_put_93 p0 p1 p2 p2 ((60 * p0) + p1) h2_ else if (lg_cmp p2 0) = 0 then fX10_put_93 p0 p1 p2 0 ((60 * p0) + p1) h2_ else fX10_put_93 p0 p1 p2 1 ((60 * p0) + p1) h2_ else none else some (r1_, h2_)
set_option maxRecDepth 10000 in
theorem sX10_put {G : GG} {E : EE} {rv : Int32} {h' : AH} (K : OK G E 3 RX10 cX10_put 7) (Z : RT G E (some .int) (some (.int rv)) h') (p0 : Int32) (p1 : Int32) (p2 : Int64) (h : AH) (hf : fX10_put p0 p1 p2 h = some (rv, h')) : JJ G E 7 0 [(0, .ref 59), (1, .int p0), (2, .int p1), (3, .long p2)] [] h := by
  unfold fX10_put at hf
  refine r_aload_n K dX10_put_0 0 rfl rfl ?_
  refine r_iload_n K dX10_put_1 1 rfl rfl ?_
  refine r_iload_n K dX10_put_2 2 rfl rfl ?_
  obtain ⟨r1_, h2_, g3_, hf⟩ := e_2 hf
  refine r_callV (av := [.int p0, .int p1]) (st := []) K lkX10_300 mwX10_rowAt (conX10_rowAt p0 p1 h r1_ h2_ g3_) dX10_put_3 rfl (Nat.le_of_ble_eq_true rfl) rfl rfl (Nat.le_of_ble_eq_true rfl) ?_
  refine r_istore (lv' := [(5, .int r1_), (0, .ref 59), (1, .int p0), (2, .int p1), (3, .long p2)]) K dX10_put_6 (Nat.le_of_ble_eq_true rfl) rfl ?_
  refine r_iload K dX10_put_8 0 rfl ?_
  refine r_iconst (v := 1) K dX10_put_10 rfl ?_
  refine r_icmp_ge (tgt := 17) K dX10_put_11 (by decide) (fun c4_ => ?_) (fun c4_ => ?_)
  · have hf := e_t hf c4_
    refine r_aload_n K dX10_put_17 1 rfl rfl ?_
    refine r_getR (o' := 75) K flX10_60 dX10_put_18 rfl rfl rfl ?_
    refine r_iload_n K dX10_put_21 2 rfl rfl ?_
    obtain ⟨g5_, hf⟩ := e_g hf
    refine r_iald K dX10_put_22 rfl g5_ ?_
    obtain ⟨x6_, e7_, hf⟩ := e_l hf
    refine r_nmI e7_ ?_
    refine r_istore (lv' := [(6, .int x6_), (5, .int r1_), (0, .ref 59), (1, .int p0), (2, .int p1), (3, .long p2)]) K dX10_put_23 (Nat.le_of_ble_eq_true rfl) rfl ?_
    refine r_aload_n K dX10_put_25 2 rfl rfl ?_
    refine r_getR (o' := 77) K flX10_66 dX10_put_26 rfl rfl rfl ?_
    refine r_bipush (v := 60) K dX10_put_29 rfl ?_
    refine r_iload_n K dX10_put_31 3 rfl rfl ?_
    refine r_imul K dX10_put_32 ?_
    refine r_iload_n K dX10_put_33 4 rfl rfl ?_
    refine r_iadd K dX10_put_34 ?_
    refine r_iload K dX10_put_35 0 rfl ?_
    refine r_if_ne (tgt := 47) K dX10_put_37 (by decide) (fun c8_ => ?_) (fun c8_ => ?_)
    · have hf := e_f hf c8_
      refine r_iload K dX10_put_47 0 rfl ?_
      refine r_iconst (v := 1) K dX10_put_49 rfl ?_
      refine r_icmp_ne (tgt := 60) K dX10_put_50 (by decide) (fun c9_ => ?_) (fun c9_ => ?_)
      · have hf := e_f hf c9_
        refine r_iload K dX10_put_60 0 rfl ?_
        refine r_iconst (v := 2) K dX10_put_62 rfl ?_
        refine r_icmp_ne (tgt := 72) K dX10_put_63 (by decide) (fun c10_ => ?_) (fun c10_ => ?_)
        · have hf := e_f hf c10_
          refine r_iload K dX10_put_72 0 rfl ?_
          refine r_iconst (v := 3) K dX10_put_74 rfl ?_
          refine r_icmp_ne (tgt := 82) K dX10_put_75 (by decide) (fun c11_ => ?_) (fun c11_ => ?_)
          · have hf := e_f hf c11_
            refine r_lload_n K dX10_put_82 5 rfl rfl ?_
            refine r_lconst (v := 0) K dX10_put_83 rfl ?_
            refine r_lcmp K dX10_put_84 ?_
            refine r_if_eq (tgt := 92) K dX10_put_85 (by decide) (fun c12_ => ?_) (fun c12_ => ?_)
            · have hf := e_t hf c12_
              refine r_lconst (v := 0) K dX10_put_92 rfl ?_
              refine r_lv [] rfl ?_
              exact sX10_put_93 K Z p0 p1 p2 0 ((60 * p0) + p1) h2_ hf
            · have hf := e_f hf c12_
              refine r_lconst (v := 1) K dX10_put_88 rfl ?_
              refine r_goto (tgt := 93) K dX10_put_89 (by decide) ?_
              refine r_lv [] rfl ?_
              exact sX10_put_93 K Z p0 p1 p2 1 ((60 * p0) + p1) h2_ hf
          · have hf := e_t hf c11_
            refine r_lload_n K dX10_put_78 5 rfl rfl ?_
            refine r_goto (tgt := 93) K dX10_put_79 (by decide) ?_
            refine r_lv [] rfl ?_
            exact sX10_put_93 K Z p0 p1 p2 p2 ((60 * p0) + p1) h2_ hf
        · have hf := e_t hf c10_
          refine r_lload_n K dX10_put_66 5 rfl rfl ?_
          refine r_l2i K dX10_put_67 ?_
          refine r_i2l K dX10_put_68 ?_
          refine r_goto (tgt := 93) K dX10_put_69 (by decide) ?_
          refine r_lv [] rfl ?_
          exact sX10_put_93 K Z p0 p1 p2 ((((p2 : Int64).toInt32) : Int32).toInt64) ((60 * p0) + p1) h2_ hf
      · have hf := e_t hf c9_
        refine r_lload_n K dX10_put_53 5 rfl rfl ?_
        refine r_l2i K dX10_put_54 ?_
        refine r_i2s K dX10_put_55 ?_
        refine r_i2l K dX10_put_56 ?_
        refine r_goto (tgt := 93) K dX10_put_57 (by decide) ?_
        refine r_lv [] rfl ?_
        exact sX10_put_93 K Z p0 p1 p2 ((((((p2 : Int64).toInt32) : Int32).toInt16.toInt32) : Int32).toInt64) ((60 * p0) + p1) h2_ hf
    · have hf := e_t hf c8_
      refine r_lload_n K dX10_put_40 5 rfl rfl ?_
      refine r_l2i K dX10_put_41 ?_
      refine r_i2b K dX10_put_42 ?_
      refine r_i2l K dX10_put_43 ?_
      refine r_goto (tgt := 93) K dX10_put_44 (by decide) ?_
      refine r_lv [] rfl ?_
      exact sX10_put_93 K Z p0 p1 p2 ((((((p2 : Int64).toInt32) : Int32).toInt8.toInt32) : Int32).toInt64) ((60 * p0) + p1) h2_ hf
  · have hf := e_f hf c4_
    refine r_iload K dX10_put_14 0 rfl ?_
    exact r_iret K Z dX10_put_16 hf
theorem conX10_put {G : GG} (p0 : Int32) (p1 : Int32) (p2 : Int64) (h : AH) (rv : Int32) (h' : AH) (hf : fX10_put p0 p1 p2 h = some (rv, h')) : Con G 3 yX10_put cX10_put 7 (some .int) [.ref 59, .int p0, .int p1, .long p2] h (some (.int rv)) h' := con_of mwX10_put (Nat.le_of_ble_eq_true rfl) (fun E K Z => sX10_put K Z p0 p1 p2 h hf)
def fX10_redo (h : AH) : Option (Int32 × AH) :=
  if (h.1 59 7) = (h.1 59 8) then some ((-5), h) else if inb (h.1 59 7) 40 = true then if inb (h.1 62 (ix (h.1 59 7))) 94 = true then letV (wI h 60 (ix (h.1 62 (ix (h.1 59 7)))) (h.1 64 (ix (h.1 59 7)))) fun h5_ => letV (wI h5_ 59 7 ((h5_.1 59 7) + 1)) fun h7_ => some (((h7_.1 59 8) - (h7_.1 59 7)), h7_) else none else none
set_option maxRecDepth 10000 in
theorem sX10_redo {G : GG} {E : EE} {rv : Int32} {h' : AH} (K : OK G E 0 RX10 cX10_redo 1) (Z : RT G E (some .int) (some (.int rv)) h') (h : AH) (hf : fX10_redo h = some (rv, h')) : JJ G E 1 0 [(0, .ref 59)] [] h := by
  unfold fX10_redo at hf
  refine r_aload_n K dX10_redo_0 0 rfl rfl ?_
  refine r_getI K flX10_135 dX10_redo_1 rfl rfl ?_
  refine r_aload_n K dX10_redo_4 0 rfl rfl ?_
  refine r_getI K flX10_138 dX10_redo_5 rfl rfl ?_
  refine r_icmp_ne (tgt := 14) K dX10_redo_8 (by decide) (fun c1_ => ?_) (fun c1_ => ?_)
  · have hf := e_f hf c1_
    refine r_aload_n K dX10_redo_14 0 rfl rfl ?_
    refine r_getR (o' := 60) K flX10_7 dX10_redo_15 rfl rfl rfl ?_
    refine r_aload_n K dX10_redo_18 0 rfl rfl ?_
    refine r_getR (o' := 62) K flX10_16 dX10_redo_19 rfl rfl rfl ?_
    refine r_aload_n K dX10_redo_22 0 rfl rfl ?_
    refine r_getI K flX10_135 dX10_redo_23 rfl rfl ?_
    obtain ⟨g2_, hf⟩ := e_g hf
    refine r_iald K dX10_redo_26 rfl g2_ ?_
    refine r_aload_n K dX10_redo_27 0 rfl rfl ?_
    refine r_getR (o' := 64) K flX10_22 dX10_redo_28 rfl rfl rfl ?_
    refine r_aload_n K dX10_redo_31 0 rfl rfl ?_
    refine r_getI K flX10_135 dX10_redo_32 rfl rfl ?_
    refine r_iald K dX10_redo_35 rfl g2_ ?_
    obtain ⟨g4_, hf⟩ := e_g hf
    obtain ⟨h5_, e6_, hf⟩ := e_l hf
    refine r_iast K dX10_redo_36 rfl g4_ e6_ ?_
    refine r_aload_n K dX10_redo_37 0 rfl rfl ?_
    refine r_dup K dX10_redo_38 rfl ?_
    refine r_getI K flX10_135 dX10_redo_39 rfl rfl ?_
    refine r_iconst (v := 1) K dX10_redo_42 rfl ?_
    refine r_iadd K dX10_redo_43 ?_
    obtain ⟨h7_, e8_, hf⟩ := e_l hf
    refine r_putI K fpX10_135 dX10_redo_44 rfl rfl e8_ ?_
    refine r_aload_n K dX10_redo_47 0 rfl rfl ?_
    refine r_getI K flX10_138 dX10_redo_48 rfl rfl ?_
    refine r_aload_n K dX10_redo_51 0 rfl rfl ?_
    refine r_getI K flX10_135 dX10_redo_52 rfl rfl ?_
    refine r_isub K dX10_redo_55 ?_
    exact r_iret K Z dX10_redo_56 hf
  · have hf := e_t hf c1_
    refine r_bipush (v := (-5)) K dX10_redo_11 rfl ?_
    exact r_iret K Z dX10_redo_13 hf
theorem conX10_redo {G : GG} (h : AH) (rv : Int32) (h' : AH) (hf : fX10_redo h = some (rv, h')) : Con G 0 yX10_redo cX10_redo 1 (some .int) [.ref 59] h (some (.int rv)) h' := con_of mwX10_redo (Nat.le_of_ble_eq_true rfl) (fun E K Z => sX10_redo K Z h hf)
def fX10_row_48_b (p0 : Int32) (p1 : Int32) (p2 : Int32) (Q48 : Int32 → Int32 → AH → Option (Int32 × AH)) (x1 : Int32) (x4 : Int32) (h : AH) : Option (Int32 × AH) :=
  if 60 ≤ x4 then some (1, h) else if inb ((60 * x1) + x4) 360 = true then letV (wL h 77 (ix ((60 * x1) + x4)) 0) fun h19_ => Q48 x1 (x4 + 1) h19_ else none
def fX10_row_48 (p0 : Int32) (p1 : Int32) (p2 : Int32) : Nat → Int32 → Int32 → AH → Option (Int32 × AH)
  | 0 => fun _ _ _ => none
  | n + 1 => fX10_row_48_b p0 p1 p2 (fX10_row_48 p0 p1 p2 n)
set_option maxRecDepth 10000 in
theorem sX10_row_48_b {G : GG} {E : EE} {rv : Int32} {h' : AH} (K : OK G E 2 RX10 cX10_row 5) (Z : RT G E (some .int) (some (.int rv)) h') (p0 : Int32) (p1 : Int32) (p2 : Int32) (Q48 : Int32 → Int32 → AH → Option (Int32 × AH)) (hQ48 : ∀ (x1 : Int32) (x4 : Int32) (h : AH), Q48 x1 x4 h = some (rv, h') → JJ G E 5 48 [(0, .ref 59), (1, .int x1), (4, .int x4)] [] h) (x1 : Int32) (x4 : Int32) (h : AH) (hf : fX10_row_48_b p0 p1 p2 Q48 x1 x4 h = some (rv, h')) : JJ G E 5 48 [(0, .ref 59), (1, .int x1), (4, .int x4)] [] h := by
  unfold fX10_row_48_b at hf
  refine r_iload K dX10_row_48 2 rfl ?_
  refine r_bipush (v := 60) K dX10_row_50 rfl ?_
  refine r_icmp_ge (tgt := 74) K dX10_row_52 (by decide) (fun c17_ => ?_) (fun c17_ => ?_)
  · have hf := e_t hf c17_
    refine r_iconst (v := 1) K dX10_row_74 rfl ?_
    exact r_iret K Z dX10_row_75 hf
  · have hf := e_f hf c17_
    refine r_aload_n K dX10_row_55 0 rfl rfl ?_
    refine r_getR (o' := 77) K flX10_66 dX10_row_56 rfl rfl rfl ?_
    refine r_bipush (v := 60) K dX10_row_59 rfl ?_
    refine r_iload_n K dX10_row_61 1 rfl rfl ?_
    refine r_imul K dX10_row_62 ?_
    refine r_iload K dX10_row_63 2 rfl ?_
    refine r_iadd K dX10_row_65 ?_
    refine r_lconst (v := 0) K dX10_row_66 rfl ?_
    obtain ⟨g18_, hf⟩ := e_g hf
    obtain ⟨h19_, e20_, hf⟩ := e_l hf
    refine r_last K dX10_row_67 rfl g18_ e20_ ?_
    refine r_iinc (y := 1) (lv' := [(4, .int (x4 + 1)), (0, .ref 59), (1, .int x1)]) K dX10_row_68 2 rfl rfl (Nat.le_of_ble_eq_true rfl) rfl ?_
    refine r_goto (tgt := 48) K dX10_row_71 (by decide) ?_
    refine r_lv [1, 2, 0] rfl ?_
    exact hQ48 x1 (x4 + 1) h19_ hf
theorem sX10_row_48 {G : GG} {E : EE} {rv : Int32} {h' : AH} (K : OK G E 2 RX10 cX10_row 5) (Z : RT G E (some .int) (some (.int rv)) h') (p0 : Int32) (p1 : Int32) (p2 : Int32) : ∀ (n : Nat) (x1 : Int32) (x4 : Int32) (h : AH), fX10_row_48 p0 p1 p2 n x1 x4 h = some (rv, h') → JJ G E 5 48 [(0, .ref 59), (1, .int x1), (4, .int x4)] [] h := by
  intro n
  induction n with
  | zero => intro x1 x4 h hf; cases hf
  | succ n ih => intro x1 x4 h hf; exact sX10_row_48_b K Z p0 p1 p2 _ (fun x1 x4 h hf => ih x1 x4 h hf) x1 x4 h hf
def fX10_row (p0 : Int32) (p1 : Int32) (p2 : Int32) (h : AH) : Option (Int32 × AH) :=
  bind2 (fX10_isShelf p0 h) fun r1_ h2_ => if r1_ = 0 then some ((-1), h2_) else bind2 (fX10_isIn p1 0 4 h2_) fun r5_ h6_ => if r5_ = 0 then some ((-1), h6_) else if p2 ≤ 60 then if 0 ≤ p2 then if inb p0 6 = true then letV (wI h6_ 75 (ix p0) p1) fun h12_ => letV (wI h12_ 76 (ix p0) p2) fun h15_ => fX10_row_48 p0 p1 p2 FU p0 0 h15_ else none else some ((-14), h6_) else some ((-1), h6_)
set_option maxRecDepth 10000 in
theorem sX10_row {G : GG} {E : EE} {rv : Int32} {h' : AH} (K : OK G E 2 RX10 cX10_row 5) (Z : RT G E (some .int) (some (.int rv)) h') (p0 : Int32) (p1 : Int32) (p2 : Int32) (h : AH) (hf : fX10_row p0 p1 p2 h = some (rv, h')) : JJ G E 5 0 [(0, .ref 59), (1, .int p0), (2, .int p1), (3, .int p2)] [] h := by
  unfold fX10_row at hf
  refine r_iload_n K dX10_row_0 1 rfl rfl ?_
  obtain ⟨r1_, h2_, g3_, hf⟩ := e_2 hf
  refine r_callS (av := [.int p0]) (st := []) K lkX10_250 mwX10_isShelf (conX10_isShelf p0 h r1_ h2_ g3_) dX10_row_1 (Nat.le_of_ble_eq_true rfl) rfl rfl (Nat.le_of_ble_eq_true rfl) ?_
  refine r_if_eq (tgt := 22) K dX10_row_4 (by decide) (fun c4_ => ?_) (fun c4_ => ?_)
  · have hf := e_t hf c4_
    refine r_iconst (v := (-1)) K dX10_row_22 rfl ?_
    exact r_iret K Z dX10_row_23 hf
  · have hf := e_f hf c4_
    refine r_iload_n K dX10_row_7 2 rfl rfl ?_
    refine r_iconst (v := 0) K dX10_row_8 rfl ?_
    refine r_iconst (v := 4) K dX10_row_9 rfl ?_
    obtain ⟨r5_, h6_, g7_, hf⟩ := e_2 hf
    refine r_callS (av := [.int p1, .int 0, .int 4]) (st := []) K lkX10_106 mwX10_isIn (conX10_isIn p1 0 4 h2_ r5_ h6_ g7_) dX10_row_10 (Nat.le_of_ble_eq_true rfl) rfl rfl (Nat.le_of_ble_eq_true rfl) ?_
    refine r_if_eq (tgt := 22) K dX10_row_13 (by decide) (fun c8_ => ?_) (fun c8_ => ?_)
    · have hf := e_t hf c8_
      refine r_iconst (v := (-1)) K dX10_row_22 rfl ?_
      exact r_iret K Z dX10_row_23 hf
    · have hf := e_f hf c8_
      refine r_iload_n K dX10_row_16 3 rfl rfl ?_
      refine r_bipush (v := 60) K dX10_row_17 rfl ?_
      refine r_icmp_le (tgt := 24) K dX10_row_19 (by decide) (fun c9_ => ?_) (fun c9_ => ?_)
      · have hf := e_t hf c9_
        refine r_iload_n K dX10_row_24 3 rfl rfl ?_
        refine r_if_ge (tgt := 31) K dX10_row_25 (by decide) (fun c10_ => ?_) (fun c10_ => ?_)
        · have hf := e_t hf c10_
          refine r_aload_n K dX10_row_31 0 rfl rfl ?_
          refine r_getR (o' := 75) K flX10_60 dX10_row_32 rfl rfl rfl ?_
          refine r_iload_n K dX10_row_35 1 rfl rfl ?_
          refine r_iload_n K dX10_row_36 2 rfl rfl ?_
          obtain ⟨g11_, hf⟩ := e_g hf
          obtain ⟨h12_, e13_, hf⟩ := e_l hf
          refine r_iast K dX10_row_37 rfl g11_ e13_ ?_
          refine r_aload_n K dX10_row_38 0 rfl rfl ?_
          refine r_getR (o' := 76) K flX10_63 dX10_row_39 rfl rfl rfl ?_
          refine r_iload_n K dX10_row_42 1 rfl rfl ?_
          refine r_iload_n K dX10_row_43 3 rfl rfl ?_
          obtain ⟨h15_, e16_, hf⟩ := e_l hf
          refine r_iast K dX10_row_44 rfl g11_ e16_ ?_
          refine r_iconst (v := 0) K dX10_row_45 rfl ?_
          refine r_istore (lv' := [(4, .int 0), (0, .ref 59), (1, .int p0), (2, .int p1), (3, .int p2)]) K dX10_row_46 (Nat.le_of_ble_eq_true rfl) rfl ?_
          refine r_lv [1, 2, 0] rfl ?_
          exact sX10_row_48 K Z p0 p1 p2 FU p0 0 h15_ hf
        · have hf := e_f hf c10_
          refine r_bipush (v := (-14)) K dX10_row_28 rfl ?_
          exact r_iret K Z dX10_row_30 hf
      · have hf := e_f hf c9_
        refine r_iconst (v := (-1)) K dX10_row_22 rfl ?_
        exact r_iret K Z dX10_row_23 hf
theorem conX10_row {G : GG} (p0 : Int32) (p1 : Int32) (p2 : Int32) (h : AH) (rv : Int32) (h' : AH) (hf : fX10_row p0 p1 p2 h = some (rv, h')) : Con G 2 yX10_row cX10_row 5 (some .int) [.ref 59, .int p0, .int p1, .int p2] h (some (.int rv)) h' := con_of mwX10_row (Nat.le_of_ble_eq_true rfl) (fun E K Z => sX10_row K Z p0 p1 p2 h hf)
