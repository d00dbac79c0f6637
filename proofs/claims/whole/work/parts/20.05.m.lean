def fX10_left_4_b (Q4 : Int32 → Int32 → AH → Option (Int32 × AH)) (x1 : Int32) (x2 : Int32) (h : AH) : Option (Int32 × AH) :=
  if (h.1 59 2) ≤ x2 then some (x1, h) else bind2 (fX10_isHere x2 h) fun r2_ h3_ => if r2_ = 0 then letV ((x1 + 0)) fun x6_ => Q4 x6_ (x2 + 1) h3_ else letV ((x1 + 1)) fun x8_ => Q4 x8_ (x2 + 1) h3_
def fX10_left_4 : Nat → Int32 → Int32 → AH → Option (Int32 × AH)
  | 0 => fun _ _ _ => none
  | n + 1 => fX10_left_4_b (fX10_left_4 n)
set_option maxRecDepth 10000 in
theorem sX10_left_4_b {G : GG} {E : EE} {rv : Int32} {h' : AH} (K : OK G E 2 RX10 cX10_left 3) (Z : RT G E (some .int) (some (.int rv)) h') (Q4 : Int32 → Int32 → AH → Option (Int32 × AH)) (hQ4 : ∀ (x1 : Int32) (x2 : Int32) (h : AH), Q4 x1 x2 h = some (rv, h') → JJ G E 3 4 [(0, .ref 59), (1, .int x1), (2, .int x2)] [] h) (x1 : Int32) (x2 : Int32) (h : AH) (hf : fX10_left_4_b Q4 x1 x2 h = some (rv, h')) : JJ G E 3 4 [(0, .ref 59), (1, .int x1), (2, .int x2)] [] h := by
  unfold fX10_left_4_b at hf
  refine r_iload_n K dX10_left_4 2 rfl rfl ?_
  refine r_aload_n K dX10_left_5 0 rfl rfl ?_
  refine r_getI K flX10_103 dX10_left_6 rfl rfl ?_
  refine r_icmp_ge (tgt := 34) K dX10_left_9 (by decide) (fun c1_ => ?_) (fun c1_ => ?_)
  · have hf := e_t hf c1_
    refine r_iload_n K dX10_left_34 1 rfl rfl ?_
    exact r_iret K Z dX10_left_35 hf
  · have hf := e_f hf c1_
    refine r_iload_n K dX10_left_12 1 rfl rfl ?_
    refine r_aload_n K dX10_left_13 0 rfl rfl ?_
    refine r_iload_n K dX10_left_14 2 rfl rfl ?_
    obtain ⟨r2_, h3_, g4_, hf⟩ := e_2 hf
    refine r_callV (av := [.int x2]) (st := [.int x1]) K lkX10_197 mwX10_isHere (conX10_isHere x2 h r2_ h3_ g4_) dX10_left_15 rfl (Nat.le_of_ble_eq_true rfl) rfl rfl (Nat.le_of_ble_eq_true rfl) ?_
    refine r_if_eq (tgt := 25) K dX10_left_18 (by decide) (fun c5_ => ?_) (fun c5_ => ?_)
    · have hf := e_t hf c5_
      refine r_iconst (v := 0) K dX10_left_25 rfl ?_
      refine r_iadd K dX10_left_26 ?_
      obtain ⟨x6_, e7_, hf⟩ := e_l hf
      refine r_nmI e7_ ?_
      refine r_istore_n (lv' := [(1, .int x6_), (0, .ref 59), (2, .int x2)]) K dX10_left_27 rfl (Nat.le_of_ble_eq_true rfl) rfl ?_
      refine r_iinc (y := 1) (lv' := [(2, .int (x2 + 1)), (1, .int x6_), (0, .ref 59)]) K dX10_left_28 2 rfl rfl (Nat.le_of_ble_eq_true rfl) rfl ?_
      refine r_goto (tgt := 4) K dX10_left_31 (by decide) ?_
      refine r_lv [2, 1, 0] rfl ?_
      exact hQ4 x6_ (x2 + 1) h3_ hf
    · have hf := e_f hf c5_
      refine r_iconst (v := 1) K dX10_left_21 rfl ?_
      refine r_goto (tgt := 26) K dX10_left_22 (by decide) ?_
      refine r_iadd K dX10_left_26 ?_
      obtain ⟨x8_, e9_, hf⟩ := e_l hf
      refine r_nmI e9_ ?_
      refine r_istore_n (lv' := [(1, .int x8_), (0, .ref 59), (2, .int x2)]) K dX10_left_27 rfl (Nat.le_of_ble_eq_true rfl) rfl ?_
      refine r_iinc (y := 1) (lv' := [(2, .int (x2 + 1)), (1, .int x8_), (0, .ref 59)]) K dX10_left_28 2 rfl rfl (Nat.le_of_ble_eq_true rfl) rfl ?_
      refine r_goto (tgt := 4) K dX10_left_31 (by decide) ?_
      refine r_lv [2, 1, 0] rfl ?_
      exact hQ4 x8_ (x2 + 1) h3_ hf
theorem sX10_left_4 {G : GG} {E : EE} {rv : Int32} {h' : AH} (K : OK G E 2 RX10 cX10_left 3) (Z : RT G E (some .int) (some (.int rv)) h') : ∀ (n : Nat) (x1 : Int32) (x2 : Int32) (h : AH), fX10_left_4 n x1 x2 h = some (rv, h') → JJ G E 3 4 [(0, .ref 59), (1, .int x1), (2, .int x2)] [] h := by
  intro n
  induction n with
  | zero => intro x1 x2 h hf; cases hf
  | succ n ih => intro x1 x2 h hf; exact sX10_left_4_b K Z _ (fun x1 x2 h hf => ih x1 x2 h hf) x1 x2 h hf
def fX10_left (h : AH) : Option (Int32 × AH) :=
  fX10_left_4 FU 0 0 h
set_option maxRecDepth 10000 in
theorem sX10_left {G : GG} {E : EE} {rv : Int32} {h' : AH} (K : OK G E 2 RX10 cX10_left 3) (Z : RT G E (some .int) (some (.int rv)) h') (h : AH) (hf : fX10_left h = some (rv, h')) : JJ G E 3 0 [(0, .ref 59)] [] h := by
  unfold fX10_left at hf
  refine r_iconst (v := 0) K dX10_left_0 rfl ?_
  refine r_istore_n (lv' := [(1, .int 0), (0, .ref 59)]) K dX10_left_1 rfl (Nat.le_of_ble_eq_true rfl) rfl ?_
  refine r_iconst (v := 0) K dX10_left_2 rfl ?_
  refine r_istore_n (lv' := [(2, .int 0), (1, .int 0), (0, .ref 59)]) K dX10_left_3 rfl (Nat.le_of_ble_eq_true rfl) rfl ?_
  refine r_lv [2, 1, 0] rfl ?_
  exact sX10_left_4 K Z FU 0 0 h hf
theorem conX10_left {G : GG} (h : AH) (rv : Int32) (h' : AH) (hf : fX10_left h = some (rv, h')) : Con G 2 yX10_left cX10_left 3 (some .int) [.ref 59] h (some (.int rv)) h' := con_of mwX10_left (Nat.le_of_ble_eq_true rfl) (fun E K Z => sX10_left K Z h hf)
def fX10_sorryBy_120_b (p0 : Int32) (Q120 : Int32 → AH → Option (Int32 × AH)) (x2 : Int32) (h : AH) : Option (Int32 × AH) :=
  if (h.1 59 17) ≤ x2 then bind2 (fX10_gives  h) fun r36_ h37_ => bind2 (fX10_bound r36_ 0 99 h37_) fun r39_ h40_ => some (r39_, h40_) else if inb x2 120 = true then letV (wI h 69 (ix x2) (h.1 68 (ix x2))) fun h44_ => Q120 (x2 + 1) h44_ else none
def fX10_sorryBy_120 (p0 : Int32) : Nat → Int32 → AH → Option (Int32 × AH)
  | 0 => fun _ _ => none
  | n + 1 => fX10_sorryBy_120_b p0 (fX10_sorryBy_120 p0 n)
set_option maxRecDepth 10000 in
theorem sX10_sorryBy_120_b {G : GG} {E : EE} {rv : Int32} {h' : AH} (K : OK G E 64 RX10 cX10_sorryBy 3) (Z : RT G E (some .int) (some (.int rv)) h') (p0 : Int32) (Q120 : Int32 → AH → Option (Int32 × AH)) (hQ120 : ∀ (x2 : Int32) (h : AH), Q120 x2 h = some (rv, h') → JJ G E 3 120 [(0, .ref 59), (2, .int x2)] [] h) (x2 : Int32) (h : AH) (hf : fX10_sorryBy_120_b p0 Q120 x2 h = some (rv, h')) : JJ G E 3 120 [(0, .ref 59), (2, .int x2)] [] h := by
  unfold fX10_sorryBy_120_b at hf
  refine r_iload_n K dX10_sorryBy_120 1 rfl rfl ?_
  refine r_aload_n K dX10_sorryBy_121 0 rfl rfl ?_
  refine r_getI K flX10_151 dX10_sorryBy_122 rfl rfl ?_
  refine r_icmp_ge (tgt := 146) K dX10_sorryBy_125 (by decide) (fun c35_ => ?_) (fun c35_ => ?_)
  · have hf := e_t hf c35_
    refine r_aload_n K dX10_sorryBy_146 0 rfl rfl ?_
    obtain ⟨r36_, h37_, g38_, hf⟩ := e_2 hf
    refine r_callV (av := []) (st := []) K lkX10_188 mwX10_gives (conX10_gives  h r36_ h37_ g38_) dX10_sorryBy_147 rfl (Nat.le_of_ble_eq_true rfl) rfl rfl (Nat.le_of_ble_eq_true rfl) ?_
    refine r_iconst (v := 0) K dX10_sorryBy_150 rfl ?_
    refine r_bipush (v := 99) K dX10_sorryBy_151 rfl ?_
    obtain ⟨r39_, h40_, g41_, hf⟩ := e_2 hf
    refine r_callS (av := [.int r36_, .int 0, .int 99]) (st := []) K lkX10_200 mwX10_bound (conX10_bound r36_ 0 99 h37_ r39_ h40_ g41_) dX10_sorryBy_153 (Nat.le_of_ble_eq_true rfl) rfl rfl (Nat.le_of_ble_eq_true rfl) ?_
    exact r_iret K Z dX10_sorryBy_156 hf
  · have hf := e_f hf c35_
    refine r_aload_n K dX10_sorryBy_128 0 rfl rfl ?_
    refine r_getR (o' := 69) K flX10_37 dX10_sorryBy_129 rfl rfl rfl ?_
    refine r_iload_n K dX10_sorryBy_132 1 rfl rfl ?_
    refine r_aload_n K dX10_sorryBy_133 0 rfl rfl ?_
    refine r_getR (o' := 68) K flX10_34 dX10_sorryBy_134 rfl rfl rfl ?_
    refine r_iload_n K dX10_sorryBy_137 1 rfl rfl ?_
    obtain ⟨g42_, hf⟩ := e_g hf
    refine r_iald K dX10_sorryBy_138 rfl g42_ ?_
    obtain ⟨h44_, e45_, hf⟩ := e_l hf
    refine r_iast K dX10_sorryBy_139 rfl g42_ e45_ ?_
    refine r_iinc (y := 1) (lv' := [(2, .int (x2 + 1)), (0, .ref 59)]) K dX10_sorryBy_140 1 rfl rfl (Nat.le_of_ble_eq_true rfl) rfl ?_
    refine r_goto (tgt := 120) K dX10_sorryBy_143 (by decide) ?_
    refine r_lv [1, 0] rfl ?_
    exact hQ120 (x2 + 1) h44_ hf
theorem sX10_sorryBy_120 {G : GG} {E : EE} {rv : Int32} {h' : AH} (K : OK G E 64 RX10 cX10_sorryBy 3) (Z : RT G E (some .int) (some (.int rv)) h') (p0 : Int32) : ∀ (n : Nat) (x2 : Int32) (h : AH), fX10_sorryBy_120 p0 n x2 h = some (rv, h') → JJ G E 3 120 [(0, .ref 59), (2, .int x2)] [] h := by
  intro n
  induction n with
  | zero => intro x2 h hf; cases hf
  | succ n ih => intro x2 h hf; exact sX10_sorryBy_120_b K Z p0 _ (fun x2 h hf => ih x2 h hf) x2 h hf
def fX10_sorryBy_36 (p0 : Int32) (s0 : Int32) (s1 : Int32) (h : AH) : Option (Int32 × AH) :=
  bind2 (fX10_bound (s1 - s0) 0 99 h) fun r56_ h57_ => some (r56_, h57_)
set_option maxRecDepth 10000 in
theorem sX10_sorryBy_36 {G : GG} {E : EE} {rv : Int32} {h' : AH} (K : OK G E 64 RX10 cX10_sorryBy 3) (Z : RT G E (some .int) (some (.int rv)) h') (p0 : Int32) (s0 : Int32) (s1 : Int32) (h : AH) (hf : fX10_sorryBy_36 p0 s0 s1 h = some (rv, h')) : JJ G E 3 36 [] [.int s0, .int s1] h := by
  unfold fX10_sorryBy_36 at hf
  refine r_isub K dX10_sorryBy_36 ?_
  refine r_iconst (v := 0) K dX10_sorryBy_37 rfl ?_
  refine r_bipush (v := 99) K dX10_sorryBy_38 rfl ?_
  obtain ⟨r56_, h57_, g58_, hf⟩ := e_2 hf
  refine r_callS (av := [.int (s1 - s0), .int 0, .int 99]) (st := []) K lkX10_200 mwX10_bound (conX10_bound (s1 - s0) 0 99 h r56_ h57_ g58_) dX10_sorryBy_40 (Nat.le_of_ble_eq_true rfl) rfl rfl (Nat.le_of_ble_eq_true rfl) ?_
  exact r_iret K Z dX10_sorryBy_43 hf
def fX10_sorryBy (p0 : Int32) (h : AH) : Option (Int32 × AH) :=
  if (h.1 59 15) = 0 then bind2 (fX10_number p0 0 h) fun r46_ h47_ => bind2 (fX10_number p0 2 h47_) fun r49_ h50_ => bind2 (fX10_number p0 3 h50_) fun r52_ h53_ => if r52_ = 0 then fX10_sorryBy_36 p0 5 (r46_ + (2 * r49_)) h53_ else fX10_sorryBy_36 p0 0 (r46_ + (2 * r49_)) h53_ else bind2 (fX10_number p0 0 h) fun r2_ h3_ => letV (wI h3_ 70 (ix 0) r2_) fun h6_ => bind2 (fX10_number p0 2 h6_) fun r8_ h9_ => letV (wI h9_ 70 (ix 1) r8_) fun h12_ => bind2 (fX10_number p0 3 h12_) fun r14_ h15_ => letV (wI h15_ 70 (ix 2) r14_) fun h18_ => letV (wI h18_ 70 (ix 3) (h18_.1 60 (ix 93))) fun h22_ => bind2 (fX10_left  h22_) fun r24_ h25_ => letV (wI h25_ 70 (ix 4) r24_) fun h28_ => letV (wI h28_ 70 (ix 5) p0) fun h31_ => letV (wI h31_ 59 17 (h31_.1 59 14)) fun h33_ => fX10_sorryBy_120 p0 FU 0 h33_
set_option maxRecDepth 10000 in
theorem sX10_sorryBy {G : GG} {E : EE} {rv : Int32} {h' : AH} (K : OK G E 64 RX10 cX10_sorryBy 3) (Z : RT G E (some .int) (some (.int rv)) h') (p0 : Int32) (h : AH) (hf : fX10_sorryBy p0 h = some (rv, h')) : JJ G E 3 0 [(0, .ref 59), (1, .int p0)] [] h := by
  unfold fX10_sorryBy at hf
  refine r_aload_n K dX10_sorryBy_0 0 rfl rfl ?_
  refine r_getI K flX10_194 dX10_sorryBy_1 rfl rfl ?_
  refine r_if_ne (tgt := 44) K dX10_sorryBy_4 (by decide) (fun c1_ => ?_) (fun c1_ => ?_)
  · have hf := e_f hf c1_
    refine r_aload_n K dX10_sorryBy_44 0 rfl rfl ?_
    refine r_getR (o' := 70) K flX10_40 dX10_sorryBy_45 rfl rfl rfl ?_
    refine r_iconst (v := 0) K dX10_sorryBy_48 rfl ?_
    refine r_aload_n K dX10_sorryBy_49 0 rfl rfl ?_
    refine r_iload_n K dX10_sorryBy_50 1 rfl rfl ?_
    refine r_iconst (v := 0) K dX10_sorryBy_51 rfl ?_
    obtain ⟨r2_, h3_, g4_, hf⟩ := e_2 hf
    refine r_callV (av := [.int p0, .int 0]) (st := [.int 0, .ref 70]) K lkX10_110 mwX10_number (conX10_number p0 0 h r2_ h3_ g4_) dX10_sorryBy_52 rfl (Nat.le_of_ble_eq_true rfl) rfl rfl (Nat.le_of_ble_eq_true rfl) ?_
    obtain ⟨h6_, e7_, hf⟩ := e_l hf
    refine r_iast K dX10_sorryBy_55 rfl (by decide +kernel) e7_ ?_
    refine r_aload_n K dX10_sorryBy_56 0 rfl rfl ?_
    refine r_getR (o' := 70) K flX10_40 dX10_sorryBy_57 rfl rfl rfl ?_
    refine r_iconst (v := 1) K dX10_sorryBy_60 rfl ?_
    refine r_aload_n K dX10_sorryBy_61 0 rfl rfl ?_
    refine r_iload_n K dX10_sorryBy_62 1 rfl rfl ?_
    refine r_iconst (v := 2) K dX10_sorryBy_63 rfl ?_
    obtain ⟨r8_, h9_, g10_, hf⟩ := e_2 hf
    refine r_callV (av := [.int p0, .int 2]) (st := [.int 1, .ref 70]) K lkX10_110 mwX10_number (conX10_number p0 2 h6_ r8_ h9_ g10_) dX10_sorryBy_64 rfl (Nat.le_of_ble_eq_true rfl) rfl rfl (Nat.le_of_ble_eq_true rfl) ?_
    obtain ⟨h12_, e13_, hf⟩ := e_l hf
    refine r_iast K dX10_sorryBy_67 rfl (by decide +kernel) e13_ ?_
    refine r_aload_n K dX10_sorryBy_68 0 rfl rfl ?_
    refine r_getR (o' := 70) K flX10_40 dX10_sorryBy_69 rfl rfl rfl ?_
    refine r_iconst (v := 2) K dX10_sorryBy_72 rfl ?_
    refine r_aload_n K dX10_sorryBy_73 0 rfl rfl ?_
    refine r_iload_n K dX10_sorryBy_74 1 rfl rfl ?_
    refine r_iconst (v := 3) K dX10_sorryBy_75 rfl ?_
    obtain ⟨r14_, h15_, g16_, hf⟩ := e_2 hf
    refine r_callV (av := [.int p0, .int 3]) (st := [.int 2, .ref 70]) K lkX10_110 mwX10_number (conX10_number p0 3 h12_ r14_ h15_ g16_) dX10_sorryBy_76 rfl (Nat.le_of_ble_eq_true rfl) rfl rfl (Nat.le_of_ble_eq_true rfl) ?_
    obtain ⟨h18_, e19_, hf⟩ := e_l hf
    refine r_iast K dX10_sorryBy_79 rfl (by decide +kernel) e19_ ?_
    refine r_aload_n K dX10_sorryBy_80 0 rfl rfl ?_
    refine r_getR (o' := 70) K flX10_40 dX10_sorryBy_81 rfl rfl rfl ?_
    refine r_iconst (v := 3) K dX10_sorryBy_84 rfl ?_
    refine r_aload_n K dX10_sorryBy_85 0 rfl rfl ?_
    refine r_getR (o' := 60) K flX10_7 dX10_sorryBy_86 rfl rfl rfl ?_
    refine r_bipush (v := 93) K dX10_sorryBy_89 rfl ?_
    refine r_iald K dX10_sorryBy_91 rfl (by decide +kernel) ?_
    obtain ⟨h22_, e23_, hf⟩ := e_l hf
    refine r_iast K dX10_sorryBy_92 rfl (by decide +kernel) e23_ ?_
    refine r_aload_n K dX10_sorryBy_93 0 rfl rfl ?_
    refine r_getR (o' := 70) K flX10_40 dX10_sorryBy_94 rfl rfl rfl ?_
    refine r_iconst (v := 4) K dX10_sorryBy_97 rfl ?_
    refine r_aload_n K dX10_sorryBy_98 0 rfl rfl ?_
    obtain ⟨r24_, h25_, g26_, hf⟩ := e_2 hf
    refine r_callV (av := []) (st := [.int 4, .ref 70]) K lkX10_203 mwX10_left (conX10_left  h22_ r24_ h25_ g26_) dX10_sorryBy_99 rfl (Nat.le_of_ble_eq_true rfl) rfl rfl (Nat.le_of_ble_eq_true rfl) ?_
    obtain ⟨h28_, e29_, hf⟩ := e_l hf
    refine r_iast K dX10_sorryBy_102 rfl (by decide +kernel) e29_ ?_
    refine r_aload_n K dX10_sorryBy_103 0 rfl rfl ?_
    refine r_getR (o' := 70) K flX10_40 dX10_sorryBy_104 rfl rfl rfl ?_
    refine r_iconst (v := 5) K dX10_sorryBy_107 rfl ?_
    refine r_iload_n K dX10_sorryBy_108 1 rfl rfl ?_
    obtain ⟨h31_, e32_, hf⟩ := e_l hf
    refine r_iast K dX10_sorryBy_109 rfl (by decide +kernel) e32_ ?_
    refine r_aload_n K dX10_sorryBy_110 0 rfl rfl ?_
    refine r_aload_n K dX10_sorryBy_111 0 rfl rfl ?_
    refine r_getI K flX10_191 dX10_sorryBy_112 rfl rfl ?_
    obtain ⟨h33_, e34_, hf⟩ := e_l hf
    refine r_putI K fpX10_151 dX10_sorryBy_115 rfl rfl e34_ ?_
    refine r_iconst (v := 0) K dX10_sorryBy_118 rfl ?_
    refine r_istore_n (lv' := [(2, .int 0), (0, .ref 59), (1, .int p0)]) K dX10_sorryBy_119 rfl (Nat.le_of_ble_eq_true rfl) rfl ?_
    refine r_lv [1, 0] rfl ?_
    exact sX10_sorryBy_120 K Z p0 FU 0 h33_ hf
  · have hf := e_t hf c1_
    refine r_aload_n K dX10_sorryBy_7 0 rfl rfl ?_
    refine r_iload_n K dX10_sorryBy_8 1 rfl rfl ?_
    refine r_iconst (v := 0) K dX10_sorryBy_9 rfl ?_
    obtain ⟨r46_, h47_, g48_, hf⟩ := e_2 hf
    refine r_callV (av := [.int p0, .int 0]) (st := []) K lkX10_110 mwX10_number (conX10_number p0 0 h r46_ h47_ g48_) dX10_sorryBy_10 rfl (Nat.le_of_ble_eq_true rfl) rfl rfl (Nat.le_of_ble_eq_true rfl) ?_
    refine r_iconst (v := 2) K dX10_sorryBy_13 rfl ?_
    refine r_aload_n K dX10_sorryBy_14 0 rfl rfl ?_
    refine r_iload_n K dX10_sorryBy_15 1 rfl rfl ?_
    refine r_iconst (v := 2) K dX10_sorryBy_16 rfl ?_
    obtain ⟨r49_, h50_, g51_, hf⟩ := e_2 hf
    refine r_callV (av := [.int p0, .int 2]) (st := [.int 2, .int r46_]) K lkX10_110 mwX10_number (conX10_number p0 2 h47_ r49_ h50_ g51_) dX10_sorryBy_17 rfl (Nat.le_of_ble_eq_true rfl) rfl rfl (Nat.le_of_ble_eq_true rfl) ?_
    refine r_imul K dX10_sorryBy_20 ?_
    refine r_iadd K dX10_sorryBy_21 ?_
    refine r_aload_n K dX10_sorryBy_22 0 rfl rfl ?_
    refine r_iload_n K dX10_sorryBy_23 1 rfl rfl ?_
    refine r_iconst (v := 3) K dX10_sorryBy_24 rfl ?_
    obtain ⟨r52_, h53_, g54_, hf⟩ := e_2 hf
    refine r_callV (av := [.int p0, .int 3]) (st := [.int (r46_ + (2 * r49_))]) K lkX10_110 mwX10_number (conX10_number p0 3 h50_ r52_ h53_ g54_) dX10_sorryBy_25 rfl (Nat.le_of_ble_eq_true rfl) rfl rfl (Nat.le_of_ble_eq_true rfl) ?_
    refine r_if_ne (tgt := 35) K dX10_sorryBy_28 (by decide) (fun c55_ => ?_) (fun c55_ => ?_)
    · have hf := e_f hf c55_
      refine r_iconst (v := 0) K dX10_sorryBy_35 rfl ?_
      refine r_lv [] rfl ?_
      exact sX10_sorryBy_36 K Z p0 0 (r46_ + (2 * r49_)) h53_ hf
    · have hf := e_t hf c55_
      refine r_iconst (v := 5) K dX10_sorryBy_31 rfl ?_
      refine r_goto (tgt := 36) K dX10_sorryBy_32 (by decide) ?_
      refine r_lv [] rfl ?_
      exact sX10_sorryBy_36 K Z p0 5 (r46_ + (2 * r49_)) h53_ hf
theorem conX10_sorryBy {G : GG} (p0 : Int32) (h : AH) (rv : Int32) (h' : AH) (hf : fX10_sorryBy p0 h = some (rv, h')) : Con G 64 yX10_sorryBy cX10_sorryBy 3 (some .int) [.ref 59, .int p0] h (some (.int rv)) h' := con_of mwX10_sorryBy (Nat.le_of_ble_eq_true rfl) (fun E K Z => sX10_sorryBy K Z p0 h hf)
def fX10_lay_79 (Q4 : Int32 → Int32 → AH → Option (Int32 × AH)) (x1 : Int32) (x2 : Int32) (x3 : Int32) (h : AH) : Option (Int32 × AH) :=
  if inb x3 9 = true then letV (wI h 72 (ix x3) x2) fun h14_ => Q4 (x1 + 1) (x2 + 1) h14_ else none
set_option maxRecDepth 10000 in
theorem sX10_lay_79 {G : GG} {E : EE} {rv : Int32} {h' : AH} (K : OK G E 65 RX10 cX10_lay 4) (Z : RT G E (some .int) (some (.int rv)) h') (Q4 : Int32 → Int32 → AH → Option (Int32 × AH)) (hQ4 : ∀ (x1 : Int32) (x2 : Int32) (h : AH), Q4 x1 x2 h = some (rv, h') → JJ G E 4 4 [(0, .ref 59), (1, .int x1), (2, .int x2)] [] h) (x1 : Int32) (x2 : Int32) (x3 : Int32) (h : AH) (hf : fX10_lay_79 Q4 x1 x2 x3 h = some (rv, h')) : JJ G E 4 79 [(0, .ref 59), (1, .int x1), (2, .int x2), (3, .int x3)] [] h := by
  unfold fX10_lay_79 at hf
  refine r_aload_n K dX10_lay_79 0 rfl rfl ?_
  refine r_getR (o' := 72) K flX10_51 dX10_lay_80 rfl rfl rfl ?_
  refine r_iload_n K dX10_lay_83 3 rfl rfl ?_
  refine r_iload_n K dX10_lay_84 2 rfl rfl ?_
  obtain ⟨g13_, hf⟩ := e_g hf
  obtain ⟨h14_, e15_, hf⟩ := e_l hf
  refine r_iast K dX10_lay_85 rfl g13_ e15_ ?_
  refine r_iinc (y := 1) (lv' := [(1, .int (x1 + 1)), (0, .ref 59), (2, .int x2), (3, .int x3)]) K dX10_lay_86 1 rfl rfl (Nat.le_of_ble_eq_true rfl) rfl ?_
  refine r_iinc (y := 1) (lv' := [(2, .int (x2 + 1)), (1, .int (x1 + 1)), (0, .ref 59), (3, .int x3)]) K dX10_lay_89 2 rfl rfl (Nat.le_of_ble_eq_true rfl) rfl ?_
  refine r_goto (tgt := 4) K dX10_lay_92 (by decide) ?_
  refine r_lv [2, 1, 0] rfl ?_
  exact hQ4 (x1 + 1) (x2 + 1) h14_ hf
def fX10_lay_33_b (Q4 : Int32 → Int32 → AH → Option (Int32 × AH)) (Q33 : Int32 → Int32 → Int32 → AH → Option (Int32 × AH)) (x1 : Int32) (x2 : Int32) (x3 : Int32) (h : AH) : Option (Int32 × AH) :=
  if x3 ≤ 0 then fX10_lay_79 Q4 x1 x2 x3 h else if inb (x3 - 1) 9 = true then if inb (h.1 72 (ix (x3 - 1))) 9 = true then if inb x2 9 = true then if (h.1 73 (ix x2)) ≤ (h.1 73 (ix (h.1 72 (ix (x3 - 1))))) then fX10_lay_79 Q4 x1 x2 x3 h else if inb x3 9 = true then letV (wI h 72 (ix x3) (h.1 72 (ix (x3 - 1)))) fun h22_ => Q33 x1 x2 (x3 + (-1)) h22_ else none else none else none else none
def fX10_lay_33 (Q4 : Int32 → Int32 → AH → Option (Int32 × AH)) : Nat → Int32 → Int32 → Int32 → AH → Option (Int32 × AH)
  | 0 => fun _ _ _ _ => none
  | n + 1 => fX10_lay_33_b Q4 (fX10_lay_33 Q4 n)
set_option maxRecDepth 10000 in
theorem sX10_lay_33_b {G : GG} {E : EE} {rv : Int32} {h' : AH} (K : OK G E 65 RX10 cX10_lay 4) (Z : RT G E (some .int) (some (.int rv)) h') (Q4 : Int32 → Int32 → AH → Option (Int32 × AH)) (hQ4 : ∀ (x1 : Int32) (x2 : Int32) (h : AH), Q4 x1 x2 h = some (rv, h') → JJ G E 4 4 [(0, .ref 59), (1, .int x1), (2, .int x2)] [] h) (Q33 : Int32 → Int32 → Int32 → AH → Option (Int32 × AH)) (hQ33 : ∀ (x1 : Int32) (x2 : Int32) (x3 : Int32) (h : AH), Q33 x1 x2 x3 h = some (rv, h') → JJ G E 4 33 [(0, .ref 59), (1, .int x1), (2, .int x2), (3, .int x3)] [] h) (x1 : Int32) (x2 : Int32) (x3 : Int32) (h : AH) (hf : fX10_lay_33_b Q4 Q33 x1 x2 x3 h = some (rv, h')) : JJ G E 4 33 [(0, .ref 59), (1, .int x1), (2, .int x2), (3, .int x3)] [] h := by
  unfold fX10_lay_33_b at hf
  refine r_iload_n K dX10_lay_33 3 rfl rfl ?_
  refine r_if_le (tgt := 79) K dX10_lay_34 (by decide) (fun c12_ => ?_) (fun c12_ => ?_)
  · have hf := e_t hf c12_
    refine r_lv [0, 1, 2, 3] rfl ?_
    exact sX10_lay_79 K Z Q4 hQ4 x1 x2 x3 h hf
  · have hf := e_f hf c12_
    refine r_aload_n K dX10_lay_37 0 rfl rfl ?_
    refine r_getR (o' := 73) K flX10_54 dX10_lay_38 rfl rfl rfl ?_
    refine r_aload_n K dX10_lay_41 0 rfl rfl ?_
    refine r_getR (o' := 72) K flX10_51 dX10_lay_42 rfl rfl rfl ?_
    refine r_iload_n K dX10_lay_45 3 rfl rfl ?_
    refine r_iconst (v := 1) K dX10_lay_46 rfl ?_
    refine r_isub K dX10_lay_47 ?_
    obtain ⟨g16_, hf⟩ := e_g hf
    refine r_iald K dX10_lay_48 rfl g16_ ?_
    obtain ⟨g17_, hf⟩ := e_g hf
    refine r_iald K dX10_lay_49 rfl g17_ ?_
    refine r_aload_n K dX10_lay_50 0 rfl rfl ?_
    refine r_getR (o' := 73) K flX10_54 dX10_lay_51 rfl rfl rfl ?_
    refine r_iload_n K dX10_lay_54 2 rfl rfl ?_
    obtain ⟨g18_, hf⟩ := e_g hf
    refine r_iald K dX10_lay_55 rfl g18_ ?_
    refine r_icmp_ge (tgt := 79) K dX10_lay_56 (by decide) (fun c19_ => ?_) (fun c19_ => ?_)
    · have hf := e_t hf c19_
      refine r_lv [0, 1, 2, 3] rfl ?_
      exact sX10_lay_79 K Z Q4 hQ4 x1 x2 x3 h hf
    · have hf := e_f hf c19_
      refine r_aload_n K dX10_lay_59 0 rfl rfl ?_
      refine r_getR (o' := 72) K flX10_51 dX10_lay_60 rfl rfl rfl ?_
      refine r_iload_n K dX10_lay_63 3 rfl rfl ?_
      refine r_aload_n K dX10_lay_64 0 rfl rfl ?_
      refine r_getR (o' := 72) K flX10_51 dX10_lay_65 rfl rfl rfl ?_
      refine r_iload_n K dX10_lay_68 3 rfl rfl ?_
      refine r_iconst (v := 1) K dX10_lay_69 rfl ?_
      refine r_isub K dX10_lay_70 ?_
      refine r_iald K dX10_lay_71 rfl g16_ ?_
      obtain ⟨g21_, hf⟩ := e_g hf
      obtain ⟨h22_, e23_, hf⟩ := e_l hf
      refine r_iast K dX10_lay_72 rfl g21_ e23_ ?_
      refine r_iinc (y := (-1)) (lv' := [(3, .int (x3 + (-1))), (0, .ref 59), (1, .int x1), (2, .int x2)]) K dX10_lay_73 3 rfl rfl (Nat.le_of_ble_eq_true rfl) rfl ?_
      refine r_goto (tgt := 33) K dX10_lay_76 (by decide) ?_
      refine r_lv [1, 2, 3, 0] rfl ?_
      exact hQ33 x1 x2 (x3 + (-1)) h22_ hf
theorem sX10_lay_33 {G : GG} {E : EE} {rv : Int32} {h' : AH} (K : OK G E 65 RX10 cX10_lay 4) (Z : RT G E (some .int) (some (.int rv)) h') (Q4 : Int32 → Int32 → AH → Option (Int32 × AH)) (hQ4 : ∀ (x1 : Int32) (x2 : Int32) (h : AH), Q4 x1 x2 h = some (rv, h') → JJ G E 4 4 [(0, .ref 59), (1, .int x1), (2, .int x2)] [] h) : ∀ (n : Nat) (x1 : Int32) (x2 : Int32) (x3 : Int32) (h : AH), fX10_lay_33 Q4 n x1 x2 x3 h = some (rv, h') → JJ G E 4 33 [(0, .ref 59), (1, .int x1), (2, .int x2), (3, .int x3)] [] h := by
  intro n
  induction n with
  | zero => intro x1 x2 x3 h hf; cases hf
  | succ n ih => intro x1 x2 x3 h hf; exact sX10_lay_33_b K Z Q4 hQ4 _ (fun x1 x2 x3 h hf => ih x1 x2 x3 h hf) x1 x2 x3 h hf
def fX10_lay_4_b (Q4 : Int32 → Int32 → AH → Option (Int32 × AH)) (x1 : Int32) (x2 : Int32) (h : AH) : Option (Int32 × AH) :=
  if (h.1 59 2) ≤ x2 then some (x1, h) else bind2 (fX10_sorryBy x2 h) fun r2_ h3_ => if inb x2 9 = true then letV (wI h3_ 73 (ix x2) r2_) fun h6_ => bind2 (fX10_isHere x2 h6_) fun r8_ h9_ => if r8_ = 0 then Q4 x1 (x2 + 1) h9_ else fX10_lay_33 Q4 FU x1 x2 x1 h9_ else none
def fX10_lay_4 : Nat → Int32 → Int32 → AH → Option (Int32 × AH)
  | 0 => fun _ _ _ => none
  | n + 1 => fX10_lay_4_b (fX10_lay_4 n)
set_option maxRecDepth 10000 in
theorem sX10_lay_4_b {G : GG} {E : EE} {rv : Int32} {h' : AH} (K : OK G E 65 RX10 cX10_lay 4) (Z : RT G E (some .int) (some (.int rv)) h') (Q4 : Int32 → Int32 → AH → Option (Int32 × AH)) (hQ4 : ∀ (x1 : Int32) (x2 : Int32) (h : AH), Q4 x1 x2 h = some (rv, h') → JJ G E 4 4 [(0, .ref 59), (1, .int x1), (2, .int x2)] [] h) (x1 : Int32) (x2 : Int32) (h : AH) (hf : fX10_lay_4_b Q4 x1 x2 h = some (rv, h')) : JJ G E 4 4 [(0, .ref 59), (1, .int x1), (2, .int x2)] [] h := by
  unfold fX10_lay_4_b at hf
  refine r_iload_n K dX10_lay_4 2 rfl rfl ?_
  refine r_aload_n K dX10_lay_5 0 rfl rfl ?_
  refine r_getI K flX10_103 dX10_lay_6 rfl rfl ?_
  refine r_icmp_ge (tgt := 95) K dX10_lay_9 (by decide) (fun c1_ => ?_) (fun c1_ => ?_)
  · have hf := e_t hf c1_
    refine r_iload_n K dX10_lay_95 1 rfl rfl ?_
    exact r_iret K Z dX10_lay_96 hf
  · have hf := e_f hf c1_
    refine r_aload_n K dX10_lay_12 0 rfl rfl ?_
    refine r_getR (o' := 73) K flX10_54 dX10_lay_13 rfl rfl rfl ?_
    refine r_iload_n K dX10_lay_16 2 rfl rfl ?_
    refine r_aload_n K dX10_lay_17 0 rfl rfl ?_
    refine r_iload_n K dX10_lay_18 2 rfl rfl ?_
    obtain ⟨r2_, h3_, g4_, hf⟩ := e_2 hf
    refine r_callV (av := [.int x2]) (st := [.int x2, .ref 73]) K lkX10_215 mwX10_sorryBy (conX10_sorryBy x2 h r2_ h3_ g4_) dX10_lay_19 rfl (Nat.le_of_ble_eq_true rfl) rfl rfl (Nat.le_of_ble_eq_true rfl) ?_
    obtain ⟨g5_, hf⟩ := e_g hf
    obtain ⟨h6_, e7_, hf⟩ := e_l hf
    refine r_iast K dX10_lay_22 rfl g5_ e7_ ?_
    refine r_aload_n K dX10_lay_23 0 rfl rfl ?_
    refine r_iload_n K dX10_lay_24 2 rfl rfl ?_
    obtain ⟨r8_, h9_, g10_, hf⟩ := e_2 hf
    refine r_callV (av := [.int x2]) (st := []) K lkX10_197 mwX10_isHere (conX10_isHere x2 h6_ r8_ h9_ g10_) dX10_lay_25 rfl (Nat.le_of_ble_eq_true rfl) rfl rfl (Nat.le_of_ble_eq_true rfl) ?_
    refine r_if_eq (tgt := 89) K dX10_lay_28 (by decide) (fun c11_ => ?_) (fun c11_ => ?_)
    · have hf := e_t hf c11_
      refine r_iinc (y := 1) (lv' := [(2, .int (x2 + 1)), (0, .ref 59), (1, .int x1)]) K dX10_lay_89 2 rfl rfl (Nat.le_of_ble_eq_true rfl) rfl ?_
      refine r_goto (tgt := 4) K dX10_lay_92 (by decide) ?_
      refine r_lv [1, 2, 0] rfl ?_
      exact hQ4 x1 (x2 + 1) h9_ hf
    · have hf := e_f hf c11_
      refine r_iload_n K dX10_lay_31 1 rfl rfl ?_
      refine r_istore_n (lv' := [(3, .int x1), (0, .ref 59), (1, .int x1), (2, .int x2)]) K dX10_lay_32 rfl (Nat.le_of_ble_eq_true rfl) rfl ?_
      refine r_lv [1, 2, 3, 0] rfl ?_
      exact sX10_lay_33 K Z Q4 hQ4 FU x1 x2 x1 h9_ hf
theorem sX10_lay_4 {G : GG} {E : EE} {rv : Int32} {h' : AH} (K : OK G E 65 RX10 cX10_lay 4) (Z : RT G E (some .int) (some (.int rv)) h') : ∀ (n : Nat) (x1 : Int32) (x2 : Int32) (h : AH), fX10_lay_4 n x1 x2 h = some (rv, h') → JJ G E 4 4 [(0, .ref 59), (1, .int x1), (2, .int x2)] [] h := by
  intro n
  induction n with
  | zero => intro x1 x2 h hf; cases hf
  | succ n ih => intro x1 x2 h hf; exact sX10_lay_4_b K Z _ (fun x1 x2 h hf => ih x1 x2 h hf) x1 x2 h hf
def fX10_lay (h : AH) : Option (Int32 × AH) :=
  fX10_lay_4 FU 0 0 h
set_option maxRecDepth 10000 in
theorem sX10_lay {G : GG} {E : EE} {rv : Int32} {h' : AH} (K : OK G E 65 RX10 cX10_lay 4) (Z : RT G E (some .int) (some (.int rv)) h') (h : AH) (hf : fX10_lay h = some (rv, h')) : JJ G E 4 0 [(0, .ref 59)] [] h := by
  unfold fX10_lay at hf
  refine r_iconst (v := 0) K dX10_lay_0 rfl ?_
  refine r_istore_n (lv' := [(1, .int 0), (0, .ref 59)]) K dX10_lay_1 rfl (Nat.le_of_ble_eq_true rfl) rfl ?_
  refine r_iconst (v := 0) K dX10_lay_2 rfl ?_
  refine r_istore_n (lv' := [(2, .int 0), (1, .int 0), (0, .ref 59)]) K dX10_lay_3 rfl (Nat.le_of_ble_eq_true rfl) rfl ?_
  refine r_lv [2, 1, 0] rfl ?_
  exact sX10_lay_4 K Z FU 0 0 h hf
theorem conX10_lay {G : GG} (h : AH) (rv : Int32) (h' : AH) (hf : fX10_lay h = some (rv, h')) : Con G 65 yX10_lay cX10_lay 4 (some .int) [.ref 59] h (some (.int rv)) h' := con_of mwX10_lay (Nat.le_of_ble_eq_true rfl) (fun E K Z => sX10_lay K Z h hf)
def fX10_layAll_2_b (p0 : Int32) (Q2 : Int32 → Int32 → AH → Option AH) (x1 : Int32) (x2 : Int32) (h : AH) : Option AH :=
  if 94 ≤ x2 then some h else if inb ((94 * x1) + x2) 188 = true then if inb x2 94 = true then letV (wI h 60 (ix x2) (h.1 61 (ix ((94 * x1) + x2)))) fun h4_ => Q2 x1 (x2 + 1) h4_ else none else none
def fX10_layAll_2 (p0 : Int32) : Nat → Int32 → Int32 → AH → Option AH
  | 0 => fun _ _ _ => none
  | n + 1 => fX10_layAll_2_b p0 (fX10_layAll_2 p0 n)
set_option maxRecDepth 10000 in
theorem sX10_layAll_2_b {G : GG} {E : EE} {h' : AH} (K : OK G E 0 RX10 cX10_layAll 3) (Z : RT G E none (none) h') (p0 : Int32) (Q2 : Int32 → Int32 → AH → Option AH) (hQ2 : ∀ (x1 : Int32) (x2 : Int32) (h : AH), Q2 x1 x2 h = some h' → JJ G E 3 2 [(0, .ref 59), (1, .int x1), (2, .int x2)] [] h) (x1 : Int32) (x2 : Int32) (h : AH) (hf : fX10_layAll_2_b p0 Q2 x1 x2 h = some h') : JJ G E 3 2 [(0, .ref 59), (1, .int x1), (2, .int x2)] [] h := by
  unfold fX10_layAll_2_b at hf
  refine r_iload_n K dX10_layAll_2 2 rfl rfl ?_
  refine r_bipush (v := 94) K dX10_layAll_3 rfl ?_
  refine r_icmp_ge (tgt := 31) K dX10_layAll_5 (by decide) (fun c1_ => ?_) (fun c1_ => ?_)
  · have hf := e_t hf c1_
    exact r_vret K Z dX10_layAll_31 hf
  · have hf := e_f hf c1_
    refine r_aload_n K dX10_layAll_8 0 rfl rfl ?_
    refine r_getR (o' := 60) K flX10_7 dX10_layAll_9 rfl rfl rfl ?_
    refine r_iload_n K dX10_layAll_12 2 rfl rfl ?_
    refine r_aload_n K dX10_layAll_13 0 rfl rfl ?_
    refine r_getR (o' := 61) K flX10_13 dX10_layAll_14 rfl rfl rfl ?_
    refine r_bipush (v := 94) K dX10_layAll_17 rfl ?_
    refine r_iload_n K dX10_layAll_19 1 rfl rfl ?_
    refine r_imul K dX10_layAll_20 ?_
    refine r_iload_n K dX10_layAll_21 2 rfl rfl ?_
    refine r_iadd K dX10_layAll_22 ?_
    obtain ⟨g2_, hf⟩ := e_g hf
    refine r_iald K dX10_layAll_23 rfl g2_ ?_
    obtain ⟨g3_, hf⟩ := e_g hf
    obtain ⟨h4_, e5_, hf⟩ := e_l hf
    refine r_iast K dX10_layAll_24 rfl g3_ e5_ ?_
    refine r_iinc (y := 1) (lv' := [(2, .int (x2 + 1)), (0, .ref 59), (1, .int x1)]) K dX10_layAll_25 2 rfl rfl (Nat.le_of_ble_eq_true rfl) rfl ?_
    refine r_goto (tgt := 2) K dX10_layAll_28 (by decide) ?_
    refine r_lv [1, 2, 0] rfl ?_
    exact hQ2 x1 (x2 + 1) h4_ hf
theorem sX10_layAll_2 {G : GG} {E : EE} {h' : AH} (K : OK G E 0 RX10 cX10_layAll 3) (Z : RT G E none (none) h') (p0 : Int32) : ∀ (n : Nat) (x1 : Int32) (x2 : Int32) (h : AH), fX10_layAll_2 p0 n x1 x2 h = some h' → JJ G E 3 2 [(0, .ref 59), (1, .int x1), (2, .int x2)] [] h := by
  intro n
  induction n with
  | zero => intro x1 x2 h hf; cases hf
  | succ n ih => intro x1 x2 h hf; exact sX10_layAll_2_b K Z p0 _ (fun x1 x2 h hf => ih x1 x2 h hf) x1 x2 h hf
def fX10_layAll (p0 : Int32) (h : AH) : Option AH :=
  fX10_layAll_2 p0 FU p0 0 h
set_option maxRecDepth 10000 in
theorem sX10_layAll {G : GG} {E : EE} {h' : AH} (K : OK G E 0 RX10 cX10_layAll 3) (Z : RT G E none (none) h') (p0 : Int32) (h : AH) (hf : fX10_layAll p0 h = some h') : JJ G E 3 0 [(0, .ref 59), (1, .int p0)] [] h := by
  unfold fX10_layAll at hf
  refine r_iconst (v := 0) K dX10_layAll_0 rfl ?_
  refine r_istore_n (lv' := [(2, .int 0), (0, .ref 59), (1, .int p0)]) K dX10_layAll_1 rfl (Nat.le_of_ble_eq_true rfl) rfl ?_
  refine r_lv [1, 2, 0] rfl ?_
  exact sX10_layAll_2 K Z p0 FU p0 0 h hf
theorem conX10_layAll {G : GG} (p0 : Int32) (h : AH) (h' : AH) (hf : fX10_layAll p0 h = some h') : Con G 0 yX10_layAll cX10_layAll 3 none [.ref 59, .int p0] h (none) h' := con_of mwX10_layAll (Nat.le_of_ble_eq_true rfl) (fun E K Z => sX10_layAll K Z p0 h hf)
def fX10_goAll_59 (p0 : Int32) (p1 : Int32) (Q23 : Int32 → Int32 → Int32 → AH → Option (Int32 × AH)) (x2 : Int32) (x3 : Int32) (s0 : Int32) (h : AH) : Option (Int32 × AH) :=
  if inb x3 9 = true then letV (wI h 74 (ix x3) s0) fun h20_ => bind2 (fX10_number s0 0 h20_) fun r22_ h23_ => letV (wI h23_ 59 29 ((h20_.1 59 29) + r22_)) fun h25_ => bindV (fX10_change s0 5 1 h25_) fun h28_ => bindV (fX10_goMinute  h28_) fun h31_ => bind2 (fX10_lay  h31_) fun r33_ h34_ => Q23 x2 (x3 + 1) r33_ h34_ else none
set_option maxRecDepth 10000 in
theorem sX10_goAll_59 {G : GG} {E : EE} {rv : Int32} {h' : AH} (K : OK G E 66 RX10 cX10_goAll 6) (Z : RT G E (some .int) (some (.int rv)) h') (p0 : Int32) (p1 : Int32) (Q23 : Int32 → Int32 → Int32 → AH → Option (Int32 × AH)) (hQ23 : ∀ (x2 : Int32) (x3 : Int32) (x4 : Int32) (h : AH), Q23 x2 x3 x4 h = some (rv, h') → JJ G E 6 23 [(0, .ref 59), (2, .int x2), (3, .int x3), (4, .int x4)] [] h) (x2 : Int32) (x3 : Int32) (s0 : Int32) (h : AH) (hf : fX10_goAll_59 p0 p1 Q23 x2 x3 s0 h = some (rv, h')) : JJ G E 6 59 [(0, .ref 59), (2, .int x2), (3, .int x3)] [.int s0] h := by
  unfold fX10_goAll_59 at hf
  refine r_istore (lv' := [(5, .int s0), (0, .ref 59), (2, .int x2), (3, .int x3)]) K dX10_goAll_59 (Nat.le_of_ble_eq_true rfl) rfl ?_
  refine r_aload_n K dX10_goAll_61 1 rfl rfl ?_
  refine r_getR (o' := 74) K flX10_57 dX10_goAll_62 rfl rfl rfl ?_
  refine r_iload_n K dX10_goAll_65 3 rfl rfl ?_
  refine r_iload K dX10_goAll_66 0 rfl ?_
  obtain ⟨g19_, hf⟩ := e_g hf
  obtain ⟨h20_, e21_, hf⟩ := e_l hf
  refine r_iast K dX10_goAll_68 rfl g19_ e21_ ?_
  refine r_iinc (y := 1) (lv' := [(3, .int (x3 + 1)), (5, .int s0), (0, .ref 59), (2, .int x2)]) K dX10_goAll_69 3 rfl rfl (Nat.le_of_ble_eq_true rfl) rfl ?_
  refine r_aload_n K dX10_goAll_72 2 rfl rfl ?_
  refine r_dup K dX10_goAll_73 rfl ?_
  refine r_getI K flX10_238 dX10_goAll_74 rfl rfl ?_
  refine r_aload_n K dX10_goAll_77 2 rfl rfl ?_
  refine r_iload K dX10_goAll_78 1 rfl ?_
  refine r_iconst (v := 0) K dX10_goAll_80 rfl ?_
  obtain ⟨r22_, h23_, g24_, hf⟩ := e_2 hf
  refine r_callV (av := [.int s0, .int 0]) (st := [.int (h20_.1 59 29), .ref 59]) K lkX10_110 mwX10_number (conX10_number s0 0 h20_ r22_ h23_ g24_) dX10_goAll_81 rfl (Nat.le_of_ble_eq_true rfl) rfl rfl (Nat.le_of_ble_eq_true rfl) ?_
  refine r_iadd K dX10_goAll_84 ?_
  obtain ⟨h25_, e26_, hf⟩ := e_l hf
  refine r_putI K fpX10_238 dX10_goAll_85 rfl rfl e26_ ?_
  refine r_aload_n K dX10_goAll_88 2 rfl rfl ?_
  refine r_iload K dX10_goAll_89 1 rfl ?_
  refine r_iconst (v := 5) K dX10_goAll_91 rfl ?_
  refine r_iconst (v := 1) K dX10_goAll_92 rfl ?_
  obtain ⟨h28_, g29_, hf⟩ := e_v hf
  refine r_callV (av := [.int s0, .int 5, .int 1]) (st := []) K lkX10_113 mwX10_change (conX10_change s0 5 1 h25_ h28_ g29_) dX10_goAll_93 rfl (Nat.le_of_ble_eq_true rfl) rfl rfl (Nat.le_of_ble_eq_true rfl) ?_
  refine r_aload_n K dX10_goAll_96 2 rfl rfl ?_
  obtain ⟨h31_, g32_, hf⟩ := e_v hf
  refine r_callV (av := []) (st := []) K lkX10_212 mwX10_goMinute (conX10_goMinute  h28_ h31_ g32_) dX10_goAll_97 rfl (Nat.le_of_ble_eq_true rfl) rfl rfl (Nat.le_of_ble_eq_true rfl) ?_
  refine r_aload_n K dX10_goAll_100 2 rfl rfl ?_
  obtain ⟨r33_, h34_, g35_, hf⟩ := e_2 hf
  refine r_callV (av := []) (st := []) K lkX10_219 mwX10_lay (conX10_lay  h31_ r33_ h34_ g35_) dX10_goAll_101 rfl (Nat.le_of_ble_eq_true rfl) rfl rfl (Nat.le_of_ble_eq_true rfl) ?_
  refine r_istore (lv' := [(4, .int r33_), (3, .int (x3 + 1)), (5, .int s0), (0, .ref 59), (2, .int x2)]) K dX10_goAll_104 (Nat.le_of_ble_eq_true rfl) rfl ?_
  refine r_goto (tgt := 23) K dX10_goAll_106 (by decide) ?_
  refine r_lv [3, 4, 1, 0] rfl ?_
  exact hQ23 x2 (x3 + 1) r33_ h34_ hf
def fX10_goAll_53 (p0 : Int32) (p1 : Int32) (Q23 : Int32 → Int32 → Int32 → AH → Option (Int32 × AH)) (x2 : Int32) (x3 : Int32) (h : AH) : Option (Int32 × AH) :=
  fX10_goAll_59 p0 p1 Q23 x2 x3 (h.1 72 (ix 0)) h
set_option maxRecDepth 10000 in
theorem sX10_goAll_53 {G : GG} {E : EE} {rv : Int32} {h' : AH} (K : OK G E 66 RX10 cX10_goAll 6) (Z : RT G E (some .int) (some (.int rv)) h') (p0 : Int32) (p1 : Int32) (Q23 : Int32 → Int32 → Int32 → AH → Option (Int32 × AH)) (hQ23 : ∀ (x2 : Int32) (x3 : Int32) (x4 : Int32) (h : AH), Q23 x2 x3 x4 h = some (rv, h') → JJ G E 6 23 [(0, .ref 59), (2, .int x2), (3, .int x3), (4, .int x4)] [] h) (x2 : Int32) (x3 : Int32) (h : AH) (hf : fX10_goAll_53 p0 p1 Q23 x2 x3 h = some (rv, h')) : JJ G E 6 53 [(0, .ref 59), (2, .int x2), (3, .int x3)] [] h := by
  unfold fX10_goAll_53 at hf
  refine r_aload_n K dX10_goAll_53 0 rfl rfl ?_
  refine r_getR (o' := 72) K flX10_51 dX10_goAll_54 rfl rfl rfl ?_
  refine r_iconst (v := 0) K dX10_goAll_57 rfl ?_
  refine r_iald K dX10_goAll_58 rfl (by decide +kernel) ?_
  refine r_lv [0, 1, 2] rfl ?_
  exact sX10_goAll_59 K Z p0 p1 Q23 hQ23 x2 x3 (h.1 72 (ix 0)) h hf
def fX10_goAll_23_b (p0 : Int32) (p1 : Int32) (Q23 : Int32 → Int32 → Int32 → AH → Option (Int32 × AH)) (x2 : Int32) (x3 : Int32) (x4 : Int32) (h : AH) : Option (Int32 × AH) :=
  if x4 ≤ 0 then bindV (fX10_layAll 0 h) fun h14_ => some (x3, h14_) else if (h.1 72 (ix 0)) = x2 then if x4 ≤ 1 then fX10_goAll_53 p0 p1 Q23 x2 x3 h else fX10_goAll_59 p0 p1 Q23 x2 x3 (h.1 72 (ix 1)) h else fX10_goAll_53 p0 p1 Q23 x2 x3 h
def fX10_goAll_23 (p0 : Int32) (p1 : Int32) : Nat → Int32 → Int32 → Int32 → AH → Option (Int32 × AH)
  | 0 => fun _ _ _ _ => none
  | n + 1 => fX10_goAll_23_b p0 p1 (fX10_goAll_23 p0 p1 n)
set_option maxRecDepth 10000 in
theorem sX10_goAll_23_b {G : GG} {E : EE} {rv : Int32} {h' : AH} (K : OK G E 66 RX10 cX10_goAll 6) (Z : RT G E (some .int) (some (.int rv)) h') (p0 : Int32) (p1 : Int32) (Q23 : Int32 → Int32 → Int32 → AH → Option (Int32 × AH)) (hQ23 : ∀ (x2 : Int32) (x3 : Int32) (x4 : Int32) (h : AH), Q23 x2 x3 x4 h = some (rv, h') → JJ G E 6 23 [(0, .ref 59), (2, .int x2), (3, .int x3), (4, .int x4)] [] h) (x2 : Int32) (x3 : Int32) (x4 : Int32) (h : AH) (hf : fX10_goAll_23_b p0 p1 Q23 x2 x3 x4 h = some (rv, h')) : JJ G E 6 23 [(0, .ref 59), (2, .int x2), (3, .int x3), (4, .int x4)] [] h := by
  unfold fX10_goAll_23_b at hf
  refine r_iload K dX10_goAll_23 3 rfl ?_
  refine r_if_le (tgt := 109) K dX10_goAll_25 (by decide) (fun c12_ => ?_) (fun c12_ => ?_)
  · have hf := e_t hf c12_
    refine r_aload_n K dX10_goAll_109 0 rfl rfl ?_
    refine r_iconst (v := 0) K dX10_goAll_110 rfl ?_
    obtain ⟨h14_, g15_, hf⟩ := e_v hf
    refine r_callV (av := [.int 0]) (st := []) K lkX10_232 mwX10_layAll (conX10_layAll 0 h h14_ g15_) dX10_goAll_111 rfl (Nat.le_of_ble_eq_true rfl) rfl rfl (Nat.le_of_ble_eq_true rfl) ?_
    refine r_iload_n K dX10_goAll_114 2 rfl rfl ?_
    exact r_iret K Z dX10_goAll_115 hf
  · have hf := e_f hf c12_
    refine r_aload_n K dX10_goAll_28 0 rfl rfl ?_
    refine r_getR (o' := 72) K flX10_51 dX10_goAll_29 rfl rfl rfl ?_
    refine r_iconst (v := 0) K dX10_goAll_32 rfl ?_
    refine r_iald K dX10_goAll_33 rfl (by decide +kernel) ?_
    refine r_iload_n K dX10_goAll_34 1 rfl rfl ?_
    refine r_icmp_ne (tgt := 53) K dX10_goAll_35 (by decide) (fun c17_ => ?_) (fun c17_ => ?_)
    · have hf := e_f hf c17_
      refine r_lv [0, 1, 2] rfl ?_
      exact sX10_goAll_53 K Z p0 p1 Q23 hQ23 x2 x3 h hf
    · have hf := e_t hf c17_
      refine r_iload K dX10_goAll_38 3 rfl ?_
      refine r_iconst (v := 1) K dX10_goAll_40 rfl ?_
      refine r_icmp_le (tgt := 53) K dX10_goAll_41 (by decide) (fun c36_ => ?_) (fun c36_ => ?_)
      · have hf := e_t hf c36_
        refine r_lv [0, 1, 2] rfl ?_
        exact sX10_goAll_53 K Z p0 p1 Q23 hQ23 x2 x3 h hf
      · have hf := e_f hf c36_
        refine r_aload_n K dX10_goAll_44 0 rfl rfl ?_
        refine r_getR (o' := 72) K flX10_51 dX10_goAll_45 rfl rfl rfl ?_
        refine r_iconst (v := 1) K dX10_goAll_48 rfl ?_
        refine r_iald K dX10_goAll_49 rfl (by decide +kernel) ?_
        refine r_goto (tgt := 59) K dX10_goAll_50 (by decide) ?_
        refine r_lv [0, 1, 2] rfl ?_
        exact sX10_goAll_59 K Z p0 p1 Q23 hQ23 x2 x3 (h.1 72 (ix 1)) h hf
theorem sX10_goAll_23 {G : GG} {E : EE} {rv : Int32} {h' : AH} (K : OK G E 66 RX10 cX10_goAll 6) (Z : RT G E (some .int) (some (.int rv)) h') (p0 : Int32) (p1 : Int32) : ∀ (n : Nat) (x2 : Int32) (x3 : Int32) (x4 : Int32) (h : AH), fX10_goAll_23 p0 p1 n x2 x3 x4 h = some (rv, h') → JJ G E 6 23 [(0, .ref 59), (2, .int x2), (3, .int x3), (4, .int x4)] [] h := by
  intro n
  induction n with
  | zero => intro x2 x3 x4 h hf; cases hf
  | succ n ih => intro x2 x3 x4 h hf; exact sX10_goAll_23_b K Z p0 p1 _ (fun x2 x3 x4 h hf => ih x2 x3 x4 h hf) x2 x3 x4 h hf
def fX10_goAll (p0 : Int32) (p1 : Int32) (h : AH) : Option (Int32 × AH) :=
  bindV (fX10_keepAll 0 h) fun h2_ => bindV (fX10_goMinutes p0 h2_) fun h5_ => letV (wI h5_ 59 29 0) fun h7_ => bind2 (fX10_lay  h7_) fun r9_ h10_ => fX10_goAll_23 p0 p1 FU p1 0 r9_ h10_
set_option maxRecDepth 10000 in
theorem sX10_goAll {G : GG} {E : EE} {rv : Int32} {h' : AH} (K : OK G E 66 RX10 cX10_goAll 6) (Z : RT G E (some .int) (some (.int rv)) h') (p0 : Int32) (p1 : Int32) (h : AH) (hf : fX10_goAll p0 p1 h = some (rv, h')) : JJ G E 6 0 [(0, .ref 59), (1, .int p0), (2, .int p1)] [] h := by
  unfold fX10_goAll at hf
  refine r_aload_n K dX10_goAll_0 0 rfl rfl ?_
  refine r_iconst (v := 0) K dX10_goAll_1 rfl ?_
  obtain ⟨h2_, g3_, hf⟩ := e_v hf
  refine r_callV (av := [.int 0]) (st := []) K lkX10_222 mwX10_keepAll (conX10_keepAll 0 h h2_ g3_) dX10_goAll_2 rfl (Nat.le_of_ble_eq_true rfl) rfl rfl (Nat.le_of_ble_eq_true rfl) ?_
  refine r_aload_n K dX10_goAll_5 0 rfl rfl ?_
  refine r_iload_n K dX10_goAll_6 1 rfl rfl ?_
  obtain ⟨h5_, g6_, hf⟩ := e_v hf
  refine r_callV (av := [.int p0]) (st := []) K lkX10_226 mwX10_goMinutes (conX10_goMinutes p0 h2_ h5_ g6_) dX10_goAll_7 rfl (Nat.le_of_ble_eq_true rfl) rfl rfl (Nat.le_of_ble_eq_true rfl) ?_
  refine r_iconst (v := 0) K dX10_goAll_10 rfl ?_
  refine r_istore_n (lv' := [(3, .int 0), (0, .ref 59), (1, .int p0), (2, .int p1)]) K dX10_goAll_11 rfl (Nat.le_of_ble_eq_true rfl) rfl ?_
  refine r_aload_n K dX10_goAll_12 1 rfl rfl ?_
  refine r_iconst (v := 0) K dX10_goAll_13 rfl ?_
  obtain ⟨h7_, e8_, hf⟩ := e_l hf
  refine r_putI K fpX10_238 dX10_goAll_14 rfl rfl e8_ ?_
  refine r_aload_n K dX10_goAll_17 1 rfl rfl ?_
  obtain ⟨r9_, h10_, g11_, hf⟩ := e_2 hf
  refine r_callV (av := []) (st := []) K lkX10_219 mwX10_lay (conX10_lay  h7_ r9_ h10_ g11_) dX10_goAll_18 rfl (Nat.le_of_ble_eq_true rfl) rfl rfl (Nat.le_of_ble_eq_true rfl) ?_
  refine r_istore (lv' := [(4, .int r9_), (3, .int 0), (0, .ref 59), (1, .int p0), (2, .int p1)]) K dX10_goAll_21 (Nat.le_of_ble_eq_true rfl) rfl ?_
  refine r_lv [2, 4, 1, 0] rfl ?_
  exact sX10_goAll_23 K Z p0 p1 FU p1 0 r9_ h10_ hf
theorem conX10_goAll {G : GG} (p0 : Int32) (p1 : Int32) (h : AH) (rv : Int32) (h' : AH) (hf : fX10_goAll p0 p1 h = some (rv, h')) : Con G 66 yX10_goAll cX10_goAll 6 (some .int) [.ref 59, .int p0, .int p1] h (some (.int rv)) h' := con_of mwX10_goAll (Nat.le_of_ble_eq_true rfl) (fun E K Z => sX10_goAll K Z p0 p1 h hf)
def fX10_wentAs_2_b (p0 : Int32) (p1 : Int32) (Q2 : Int32 → Int32 → Int32 → AH → Option (Int32 × AH)) (x1 : Int32) (x2 : Int32) (x3 : Int32) (h : AH) : Option (Int32 × AH) :=
  if x2 ≤ x3 then some ((-2), h) else if inb x3 9 = true then if (h.1 74 (ix x3)) = x1 then some (x3, h) else Q2 x1 x2 (x3 + 1) h else none
def fX10_wentAs_2 (p0 : Int32) (p1 : Int32) : Nat → Int32 → Int32 → Int32 → AH → Option (Int32 × AH)
  | 0 => fun _ _ _ _ => none
  | n + 1 => fX10_wentAs_2_b p0 p1 (fX10_wentAs_2 p0 p1 n)
set_option maxRecDepth 10000 in
theorem sX10_wentAs_2_b {G : GG} {E : EE} {rv : Int32} {h' : AH} (K : OK G E 0 RX10 cX10_wentAs 4) (Z : RT G E (some .int) (some (.int rv)) h') (p0 : Int32) (p1 : Int32) (Q2 : Int32 → Int32 → Int32 → AH → Option (Int32 × AH)) (hQ2 : ∀ (x1 : Int32) (x2 : Int32) (x3 : Int32) (h : AH), Q2 x1 x2 x3 h = some (rv, h') → JJ G E 4 2 [(0, .ref 59), (1, .int x1), (2, .int x2), (3, .int x3)] [] h) (x1 : Int32) (x2 : Int32) (x3 : Int32) (h : AH) (hf : fX10_wentAs_2_b p0 p1 Q2 x1 x2 x3 h = some (rv, h')) : JJ G E 4 2 [(0, .ref 59), (1, .int x1), (2, .int x2), (3, .int x3)] [] h := by
  unfold fX10_wentAs_2_b at hf
  refine r_iload_n K dX10_wentAs_2 3 rfl rfl ?_
  refine r_iload_n K dX10_wentAs_3 2 rfl rfl ?_
  refine r_icmp_ge (tgt := 25) K dX10_wentAs_4 (by decide) (fun c1_ => ?_) (fun c1_ => ?_)
  · have hf := e_t hf c1_
    refine r_bipush (v := (-2)) K dX10_wentAs_25 rfl ?_
    exact r_iret K Z dX10_wentAs_27 hf
  · have hf := e_f hf c1_
    refine r_aload_n K dX10_wentAs_7 0 rfl rfl ?_
    refine r_getR (o' := 74) K flX10_57 dX10_wentAs_8 rfl rfl rfl ?_
    refine r_iload_n K dX10_wentAs_11 3 rfl rfl ?_
    obtain ⟨g2_, hf⟩ := e_g hf
    refine r_iald K dX10_wentAs_12 rfl g2_ ?_
    refine r_iload_n K dX10_wentAs_13 1 rfl rfl ?_
    refine r_icmp_ne (tgt := 19) K dX10_wentAs_14 (by decide) (fun c3_ => ?_) (fun c3_ => ?_)
    · have hf := e_f hf c3_
      refine r_iinc (y := 1) (lv' := [(3, .int (x3 + 1)), (0, .ref 59), (1, .int x1), (2, .int x2)]) K dX10_wentAs_19 3 rfl rfl (Nat.le_of_ble_eq_true rfl) rfl ?_
      refine r_goto (tgt := 2) K dX10_wentAs_22 (by decide) ?_
      refine r_lv [1, 2, 3, 0] rfl ?_
      exact hQ2 x1 x2 (x3 + 1) h hf
    · have hf := e_t hf c3_
      refine r_iload_n K dX10_wentAs_17 3 rfl rfl ?_
      exact r_iret K Z dX10_wentAs_18 hf
theorem sX10_wentAs_2 {G : GG} {E : EE} {rv : Int32} {h' : AH} (K : OK G E 0 RX10 cX10_wentAs 4) (Z : RT G E (some .int) (some (.int rv)) h') (p0 : Int32) (p1 : Int32) : ∀ (n : Nat) (x1 : Int32) (x2 : Int32) (x3 : Int32) (h : AH), fX10_wentAs_2 p0 p1 n x1 x2 x3 h = some (rv, h') → JJ G E 4 2 [(0, .ref 59), (1, .int x1), (2, .int x2), (3, .int x3)] [] h := by
  intro n
  induction n with
  | zero => intro x1 x2 x3 h hf; cases hf
  | succ n ih => intro x1 x2 x3 h hf; exact sX10_wentAs_2_b K Z p0 p1 _ (fun x1 x2 x3 h hf => ih x1 x2 x3 h hf) x1 x2 x3 h hf
def fX10_wentAs (p0 : Int32) (p1 : Int32) (h : AH) : Option (Int32 × AH) :=
  fX10_wentAs_2 p0 p1 FU p0 p1 0 h
set_option maxRecDepth 10000 in
theorem sX10_wentAs {G : GG} {E : EE} {rv : Int32} {h' : AH} (K : OK G E 0 RX10 cX10_wentAs 4) (Z : RT G E (some .int) (some (.int rv)) h') (p0 : Int32) (p1 : Int32) (h : AH) (hf : fX10_wentAs p0 p1 h = some (rv, h')) : JJ G E 4 0 [(0, .ref 59), (1, .int p0), (2, .int p1)] [] h := by
  unfold fX10_wentAs at hf
  refine r_iconst (v := 0) K dX10_wentAs_0 rfl ?_
  refine r_istore_n (lv' := [(3, .int 0), (0, .ref 59), (1, .int p0), (2, .int p1)]) K dX10_wentAs_1 rfl (Nat.le_of_ble_eq_true rfl) rfl ?_
  refine r_lv [1, 2, 3, 0] rfl ?_
  exact sX10_wentAs_2 K Z p0 p1 FU p0 p1 0 h hf
theorem conX10_wentAs {G : GG} (p0 : Int32) (p1 : Int32) (h : AH) (rv : Int32) (h' : AH) (hf : fX10_wentAs p0 p1 h = some (rv, h')) : Con G 0 yX10_wentAs cX10_wentAs 4 (some .int) [.ref 59, .int p0, .int p1] h (some (.int rv)) h' := con_of mwX10_wentAs (Nat.le_of_ble_eq_true rfl) (fun E K Z => sX10_wentAs K Z p0 p1 h hf)
def fX10_turns_209 (RR : Nat → List Int32 → AH → Option (Int32 × AH)) (p0 : Int32) (p1 : Int32) (p2 : Int32) (p3 : Int32) (Q86 : Int32 → Int32 → Int32 → Int32 → Int32 → Int32 → Int32 → Int32 → Int32 → Int32 → AH → Option (Int32 × AH)) (x1 : Int32) (x2 : Int32) (x3 : Int32) (x4 : Int32) (x5 : Int32) (x6 : Int32) (x7 : Int32) (x8 : Int32) (x10 : Int32) (x12 : Int32) (x13 : Int32) (s0 : Int32) (h : AH) : Option (Int32 × AH) :=
  if x13 = 0 then Q86 x1 x2 x3 x4 x5 x6 x7 x8 s0 (x10 + 1) h else Q86 x1 x2 x3 x4 x5 x6 x7 x12 s0 (x10 + 1) h
set_option maxRecDepth 10000 in
theorem sX10_turns_209 {G : GG} {E : EE} {rv : Int32} {h' : AH} {dd : Nat} (hdd : 66 ≤ dd) (K : OK G E (dd + 1) RX10 cX10_turns 14) (Z : RT G E (some .int) (some (.int rv)) h') (RR : Nat → List Int32 → AH → Option (Int32 × AH)) (hRR : (∀ (z0 : Int32) (z1 : Int32) (z2 : Int32) (z3 : Int32) (h : AH) (r : Int32) (h1 : AH), RR 0 [z0, z1, z2, z3] h = some (r, h1) → Con G dd yX10_turns cX10_turns 14 (some .int) [.ref 59, .int z0, .int z1, .int z2, .int z3] h (some (.int r)) h1)) (p0 : Int32) (p1 : Int32) (p2 : Int32) (p3 : Int32) (Q86 : Int32 → Int32 → Int32 → Int32 → Int32 → Int32 → Int32 → Int32 → Int32 → Int32 → AH → Option (Int32 × AH)) (hQ86 : ∀ (x1 : Int32) (x2 : Int32) (x3 : Int32) (x4 : Int32) (x5 : Int32) (x6 : Int32) (x7 : Int32) (x8 : Int32) (x9 : Int32) (x10 : Int32) (h : AH), Q86 x1 x2 x3 x4 x5 x6 x7 x8 x9 x10 h = some (rv, h') → JJ G E 14 86 [(0, .ref 59), (1, .int x1), (2, .int x2), (3, .int x3), (4, .int x4), (5, .int x5), (6, .int x6), (7, .int x7), (8, .int x8), (9, .int x9), (10, .int x10)] [] h) (x1 : Int32) (x2 : Int32) (x3 : Int32) (x4 : Int32) (x5 : Int32) (x6 : Int32) (x7 : Int32) (x8 : Int32) (x10 : Int32) (x12 : Int32) (x13 : Int32) (s0 : Int32) (h : AH) (hf : fX10_turns_209 RR p0 p1 p2 p3 Q86 x1 x2 x3 x4 x5 x6 x7 x8 x10 x12 x13 s0 h = some (rv, h')) : JJ G E 14 209 [(0, .ref 59), (1, .int x1), (2, .int x2), (3, .int x3), (4, .int x4), (5, .int x5), (6, .int x6), (7, .int x7), (8, .int x8), (10, .int x10), (12, .int x12), (13, .int x13)] [.int s0] h := by
  unfold fX10_turns_209 at hf
  refine r_istore (lv' := [(9, .int s0), (0, .ref 59), (1, .int x1), (2, .int x2), (3, .int x3), (4, .int x4), (5, .int x5), (6, .int x6), (7, .int x7), (8, .int x8), (10, .int x10), (12, .int x12), (13, .int x13)]) K dX10_turns_209 (Nat.le_of_ble_eq_true rfl) rfl ?_
  refine r_iload K dX10_turns_211 12 rfl ?_
  refine r_if_eq (tgt := 221) K dX10_turns_213 (by decide) (fun c26_ => ?_) (fun c26_ => ?_)
  · have hf := e_t hf c26_
    refine r_iload K dX10_turns_221 9 rfl ?_
    refine r_istore (lv' := [(8, .int x8), (9, .int s0), (0, .ref 59), (1, .int x1), (2, .int x2), (3, .int x3), (4, .int x4), (5, .int x5), (6, .int x6), (7, .int x7), (10, .int x10), (12, .int x12), (13, .int x13)]) K dX10_turns_223 (Nat.le_of_ble_eq_true rfl) rfl ?_
    refine r_iinc (y := 1) (lv' := [(10, .int (x10 + 1)), (8, .int x8), (9, .int s0), (0, .ref 59), (1, .int x1), (2, .int x2), (3, .int x3), (4, .int x4), (5, .int x5), (6, .int x6), (7, .int x7), (12, .int x12), (13, .int x13)]) K dX10_turns_225 10 rfl rfl (Nat.le_of_ble_eq_true rfl) rfl ?_
    refine r_goto (tgt := 86) K dX10_turns_228 (by decide) ?_
    refine r_lv [3, 4, 5, 6, 7, 8, 9, 10, 1, 2, 0] rfl ?_
    exact hQ86 x1 x2 x3 x4 x5 x6 x7 x8 s0 (x10 + 1) h hf
  · have hf := e_f hf c26_
    refine r_iload K dX10_turns_216 11 rfl ?_
    refine r_goto (tgt := 223) K dX10_turns_218 (by decide) ?_
    refine r_istore (lv' := [(8, .int x12), (9, .int s0), (0, .ref 59), (1, .int x1), (2, .int x2), (3, .int x3), (4, .int x4), (5, .int x5), (6, .int x6), (7, .int x7), (10, .int x10), (12, .int x12), (13, .int x13)]) K dX10_turns_223 (Nat.le_of_ble_eq_true rfl) rfl ?_
    refine r_iinc (y := 1) (lv' := [(10, .int (x10 + 1)), (8, .int x12), (9, .int s0), (0, .ref 59), (1, .int x1), (2, .int x2), (3, .int x3), (4, .int x4), (5, .int x5), (6, .int x6), (7, .int x7), (12, .int x12), (13, .int x13)]) K dX10_turns_225 10 rfl rfl (Nat.le_of_ble_eq_true rfl) rfl ?_
    refine r_goto (tgt := 86) K dX10_turns_228 (by decide) ?_
    refine r_lv [3, 4, 5, 6, 7, 8, 9, 10, 1, 2, 0] rfl ?_
    exact hQ86 x1 x2 x3 x4 x5 x6 x7 x12 s0 (x10 + 1) h hf
def fX10_turns_195 (RR : Nat → List Int32 → AH → Option (Int32 × AH)) (p0 : Int32) (p1 : Int32) (p2 : Int32) (p3 : Int32) (Q86 : Int32 → Int32 → Int32 → Int32 → Int32 → Int32 → Int32 → Int32 → Int32 → Int32 → AH → Option (Int32 × AH)) (x1 : Int32) (x2 : Int32) (x3 : Int32) (x4 : Int32) (x5 : Int32) (x6 : Int32) (x7 : Int32) (x8 : Int32) (x9 : Int32) (x10 : Int32) (x11 : Int32) (x12 : Int32) (s0 : Int32) (h : AH) : Option (Int32 × AH) :=
  if s0 = 0 then fX10_turns_209 RR p0 p1 p2 p3 Q86 x1 x2 x3 x4 x5 x6 x7 x8 x10 x12 s0 x9 h else fX10_turns_209 RR p0 p1 p2 p3 Q86 x1 x2 x3 x4 x5 x6 x7 x8 x10 x12 s0 x11 h
set_option maxRecDepth 10000 in
theorem sX10_turns_195 {G : GG} {E : EE} {rv : Int32} {h' : AH} {dd : Nat} (hdd : 66 ≤ dd) (K : OK G E (dd + 1) RX10 cX10_turns 14) (Z : RT G E (some .int) (some (.int rv)) h') (RR : Nat → List Int32 → AH → Option (Int32 × AH)) (hRR : (∀ (z0 : Int32) (z1 : Int32) (z2 : Int32) (z3 : Int32) (h : AH) (r : Int32) (h1 : AH), RR 0 [z0, z1, z2, z3] h = some (r, h1) → Con G dd yX10_turns cX10_turns 14 (some .int) [.ref 59, .int z0, .int z1, .int z2, .int z3] h (some (.int r)) h1)) (p0 : Int32) (p1 : Int32) (p2 : Int32) (p3 : Int32) (Q86 : Int32 → Int32 → Int32 → Int32 → Int32 → Int32 → Int32 → Int32 → Int32 → Int32 → AH → Option (Int32 × AH)) (hQ86 : ∀ (x1 : Int32) (x2 : Int32) (x3 : Int32) (x4 : Int32) (x5 : Int32) (x6 : Int32) (x7 : Int32) (x8 : Int32) (x9 : Int32) (x10 : Int32) (h : AH), Q86 x1 x2 x3 x4 x5 x6 x7 x8 x9 x10 h = some (rv, h') → JJ G E 14 86 [(0, .ref 59), (1, .int x1), (2, .int x2), (3, .int x3), (4, .int x4), (5, .int x5), (6, .int x6), (7, .int x7), (8, .int x8), (9, .int x9), (10, .int x10)] [] h) (x1 : Int32) (x2 : Int32) (x3 : Int32) (x4 : Int32) (x5 : Int32) (x6 : Int32) (x7 : Int32) (x8 : Int32) (x9 : Int32) (x10 : Int32) (x11 : Int32) (x12 : Int32) (s0 : Int32) (h : AH) (hf : fX10_turns_195 RR p0 p1 p2 p3 Q86 x1 x2 x3 x4 x5 x6 x7 x8 x9 x10 x11 x12 s0 h = some (rv, h')) : JJ G E 14 195 [(0, .ref 59), (1, .int x1), (2, .int x2), (3, .int x3), (4, .int x4), (5, .int x5), (6, .int x6), (7, .int x7), (8, .int x8), (9, .int x9), (10, .int x10), (11, .int x11), (12, .int x12)] [.int s0] h := by
  unfold fX10_turns_195 at hf
  refine r_istore (lv' := [(13, .int s0), (0, .ref 59), (1, .int x1), (2, .int x2), (3, .int x3), (4, .int x4), (5, .int x5), (6, .int x6), (7, .int x7), (8, .int x8), (9, .int x9), (10, .int x10), (11, .int x11), (12, .int x12)]) K dX10_turns_195 (Nat.le_of_ble_eq_true rfl) rfl ?_
  refine r_iload K dX10_turns_197 0 rfl ?_
  refine r_if_eq (tgt := 207) K dX10_turns_199 (by decide) (fun c25_ => ?_) (fun c25_ => ?_)
  · have hf := e_t hf c25_
    refine r_iload K dX10_turns_207 10 rfl ?_
    refine r_lv [1, 2, 3, 4, 5, 6, 7, 8, 9, 11, 13, 0] rfl ?_
    exact sX10_turns_209 hdd K Z RR hRR p0 p1 p2 p3 Q86 hQ86 x1 x2 x3 x4 x5 x6 x7 x8 x10 x12 s0 x9 h hf
  · have hf := e_f hf c25_
    refine r_iload K dX10_turns_202 12 rfl ?_
    refine r_goto (tgt := 209) K dX10_turns_204 (by decide) ?_
    refine r_lv [1, 2, 3, 4, 5, 6, 7, 8, 9, 11, 13, 0] rfl ?_
    exact sX10_turns_209 hdd K Z RR hRR p0 p1 p2 p3 Q86 hQ86 x1 x2 x3 x4 x5 x6 x7 x8 x10 x12 s0 x11 h hf
def fX10_turns_147 (RR : Nat → List Int32 → AH → Option (Int32 × AH)) (p0 : Int32) (p1 : Int32) (p2 : Int32) (p3 : Int32) (Q86 : Int32 → Int32 → Int32 → Int32 → Int32 → Int32 → Int32 → Int32 → Int32 → Int32 → AH → Option (Int32 × AH)) (x1 : Int32) (x2 : Int32) (x3 : Int32) (x4 : Int32) (x5 : Int32) (x6 : Int32) (x7 : Int32) (x8 : Int32) (x9 : Int32) (x10 : Int32) (x11 : Int32) (s0 : Int32) (s1 : Int32) (s2 : Int32) (h : AH) : Option (Int32 × AH) :=
  bindV (fX10_change s2 s1 s0 h) fun h18_ => bind2 (RR 0 [x1, x2, (x3 + 1), x4] h18_) fun r20_ h21_ => if x5 = 0 then if x8 ≤ r20_ then fX10_turns_195 RR p0 p1 p2 p3 Q86 x1 x2 x3 x4 x5 x6 x7 x8 x9 x10 x11 r20_ 0 h21_ else fX10_turns_195 RR p0 p1 p2 p3 Q86 x1 x2 x3 x4 x5 x6 x7 x8 x9 x10 x11 r20_ 1 h21_ else if r20_ ≤ x8 then fX10_turns_195 RR p0 p1 p2 p3 Q86 x1 x2 x3 x4 x5 x6 x7 x8 x9 x10 x11 r20_ 0 h21_ else fX10_turns_195 RR p0 p1 p2 p3 Q86 x1 x2 x3 x4 x5 x6 x7 x8 x9 x10 x11 r20_ 1 h21_
set_option maxRecDepth 10000 in
theorem sX10_turns_147 {G : GG} {E : EE} {rv : Int32} {h' : AH} {dd : Nat} (hdd : 66 ≤ dd) (K : OK G E (dd + 1) RX10 cX10_turns 14) (Z : RT G E (some .int) (some (.int rv)) h') (RR : Nat → List Int32 → AH → Option (Int32 × AH)) (hRR : (∀ (z0 : Int32) (z1 : Int32) (z2 : Int32) (z3 : Int32) (h : AH) (r : Int32) (h1 : AH), RR 0 [z0, z1, z2, z3] h = some (r, h1) → Con G dd yX10_turns cX10_turns 14 (some .int) [.ref 59, .int z0, .int z1, .int z2, .int z3] h (some (.int r)) h1)) (p0 : Int32) (p1 : Int32) (p2 : Int32) (p3 : Int32) (Q86 : Int32 → Int32 → Int32 → Int32 → Int32 → Int32 → Int32 → Int32 → Int32 → Int32 → AH → Option (Int32 × AH)) (hQ86 : ∀ (x1 : Int32) (x2 : Int32) (x3 : Int32) (x4 : Int32) (x5 : Int32) (x6 : Int32) (x7 : Int32) (x8 : Int32) (x9 : Int32) (x10 : Int32) (h : AH), Q86 x1 x2 x3 x4 x5 x6 x7 x8 x9 x10 h = some (rv, h') → JJ G E 14 86 [(0, .ref 59), (1, .int x1), (2, .int x2), (3, .int x3), (4, .int x4), (5, .int x5), (6, .int x6), (7, .int x7), (8, .int x8), (9, .int x9), (10, .int x10)] [] h) (x1 : Int32) (x2 : Int32) (x3 : Int32) (x4 : Int32) (x5 : Int32) (x6 : Int32) (x7 : Int32) (x8 : Int32) (x9 : Int32) (x10 : Int32) (x11 : Int32) (s0 : Int32) (s1 : Int32) (s2 : Int32) (h : AH) (hf : fX10_turns_147 RR p0 p1 p2 p3 Q86 x1 x2 x3 x4 x5 x6 x7 x8 x9 x10 x11 s0 s1 s2 h = some (rv, h')) : JJ G E 14 147 [(0, .ref 59), (1, .int x1), (2, .int x2), (3, .int x3), (4, .int x4), (5, .int x5), (6, .int x6), (7, .int x7), (8, .int x8), (9, .int x9), (10, .int x10), (11, .int x11)] [.int s0, .int s1, .int s2, .ref 59] h := by
  unfold fX10_turns_147 at hf
  obtain ⟨h18_, g19_, hf⟩ := e_v hf
  refine r_callV (av := [.int s2, .int s1, .int s0]) (st := []) K lkX10_113 mwX10_change (conX10_change s2 s1 s0 h h18_ g19_) dX10_turns_147 rfl (by omega) rfl rfl (Nat.le_of_ble_eq_true rfl) ?_
  refine r_aload_n K dX10_turns_150 0 rfl rfl ?_
  refine r_iload_n K dX10_turns_151 1 rfl rfl ?_
  refine r_iload_n K dX10_turns_152 2 rfl rfl ?_
  refine r_iload_n K dX10_turns_153 3 rfl rfl ?_
  refine r_iconst (v := 1) K dX10_turns_154 rfl ?_
  refine r_iadd K dX10_turns_155 ?_
  refine r_iload K dX10_turns_156 4 rfl ?_
  obtain ⟨r20_, h21_, g22_, hf⟩ := e_2 hf
  refine r_callV (av := [.int x1, .int x2, .int (x3 + 1), .int x4]) (st := []) K lkX10_270 mwX10_turns (hRR x1 x2 (x3 + 1) x4 h18_ r20_ h21_ g22_) dX10_turns_158 rfl (Nat.le_refl _) rfl rfl (Nat.le_of_ble_eq_true rfl) ?_
  refine r_istore (lv' := [(12, .int r20_), (0, .ref 59), (1, .int x1), (2, .int x2), (3, .int x3), (4, .int x4), (5, .int x5), (6, .int x6), (7, .int x7), (8, .int x8), (9, .int x9), (10, .int x10), (11, .int x11)]) K dX10_turns_161 (Nat.le_of_ble_eq_true rfl) rfl ?_
  refine r_iload K dX10_turns_163 6 rfl ?_
  refine r_if_eq (tgt := 183) K dX10_turns_165 (by decide) (fun c23_ => ?_) (fun c23_ => ?_)
  · have hf := e_t hf c23_
    refine r_iload K dX10_turns_183 0 rfl ?_
    refine r_iload K dX10_turns_185 9 rfl ?_
    refine r_icmp_ge (tgt := 194) K dX10_turns_187 (by decide) (fun c24_ => ?_) (fun c24_ => ?_)
    · have hf := e_t hf c24_
      refine r_iconst (v := 0) K dX10_turns_194 rfl ?_
      refine r_lv [1, 2, 3, 4, 5, 6, 7, 8, 9, 10, 11, 12, 0] rfl ?_
      exact sX10_turns_195 hdd K Z RR hRR p0 p1 p2 p3 Q86 hQ86 x1 x2 x3 x4 x5 x6 x7 x8 x9 x10 x11 r20_ 0 h21_ hf
    · have hf := e_f hf c24_
      refine r_iconst (v := 1) K dX10_turns_190 rfl ?_
      refine r_goto (tgt := 195) K dX10_turns_191 (by decide) ?_
      refine r_lv [1, 2, 3, 4, 5, 6, 7, 8, 9, 10, 11, 12, 0] rfl ?_
      exact sX10_turns_195 hdd K Z RR hRR p0 p1 p2 p3 Q86 hQ86 x1 x2 x3 x4 x5 x6 x7 x8 x9 x10 x11 r20_ 1 h21_ hf
  · have hf := e_f hf c23_
    refine r_iload K dX10_turns_168 0 rfl ?_
    refine r_iload K dX10_turns_170 9 rfl ?_
    refine r_icmp_le (tgt := 179) K dX10_turns_172 (by decide) (fun c27_ => ?_) (fun c27_ => ?_)
    · have hf := e_t hf c27_
      refine r_iconst (v := 0) K dX10_turns_179 rfl ?_
      refine r_goto (tgt := 195) K dX10_turns_180 (by decide) ?_
      refine r_lv [1, 2, 3, 4, 5, 6, 7, 8, 9, 10, 11, 12, 0] rfl ?_
      exact sX10_turns_195 hdd K Z RR hRR p0 p1 p2 p3 Q86 hQ86 x1 x2 x3 x4 x5 x6 x7 x8 x9 x10 x11 r20_ 0 h21_ hf
    · have hf := e_f hf c27_
      refine r_iconst (v := 1) K dX10_turns_175 rfl ?_
      refine r_goto (tgt := 195) K dX10_turns_176 (by decide) ?_
      refine r_lv [1, 2, 3, 4, 5, 6, 7, 8, 9, 10, 11, 12, 0] rfl ?_
      exact sX10_turns_195 hdd K Z RR hRR p0 p1 p2 p3 Q86 hQ86 x1 x2 x3 x4 x5 x6 x7 x8 x9 x10 x11 r20_ 1 h21_ hf
def fX10_turns_105 (RR : Nat → List Int32 → AH → Option (Int32 × AH)) (p0 : Int32) (p1 : Int32) (p2 : Int32) (p3 : Int32) (Q86 : Int32 → Int32 → Int32 → Int32 → Int32 → Int32 → Int32 → Int32 → Int32 → Int32 → AH → Option (Int32 × AH)) (x1 : Int32) (x2 : Int32) (x3 : Int32) (x4 : Int32) (x5 : Int32) (x6 : Int32) (x7 : Int32) (x8 : Int32) (x9 : Int32) (x10 : Int32) (s0 : Int32) (h : AH) : Option (Int32 × AH) :=
  if s0 = 2 then fX10_turns_147 RR p0 p1 p2 p3 Q86 x1 x2 x3 x4 x5 x6 x7 x8 x9 x10 s0 x7 2 x6 h else if s0 = 0 then fX10_turns_147 RR p0 p1 p2 p3 Q86 x1 x2 x3 x4 x5 x6 x7 x8 x9 x10 s0 (jmin 9 (x7 + 2)) 2 x6 h else fX10_turns_147 RR p0 p1 p2 p3 Q86 x1 x2 x3 x4 x5 x6 x7 x8 x9 x10 s0 (jmax 0 (x7 - 2)) 2 x6 h
set_option maxRecDepth 10000 in
theorem sX10_turns_105 {G : GG} {E : EE} {rv : Int32} {h' : AH} {dd : Nat} (hdd : 66 ≤ dd) (K : OK G E (dd + 1) RX10 cX10_turns 14) (Z : RT G E (some .int) (some (.int rv)) h') (RR : Nat → List Int32 → AH → Option (Int32 × AH)) (hRR : (∀ (z0 : Int32) (z1 : Int32) (z2 : Int32) (z3 : Int32) (h : AH) (r : Int32) (h1 : AH), RR 0 [z0, z1, z2, z3] h = some (r, h1) → Con G dd yX10_turns cX10_turns 14 (some .int) [.ref 59, .int z0, .int z1, .int z2, .int z3] h (some (.int r)) h1)) (p0 : Int32) (p1 : Int32) (p2 : Int32) (p3 : Int32) (Q86 : Int32 → Int32 → Int32 → Int32 → Int32 → Int32 → Int32 → Int32 → Int32 → Int32 → AH → Option (Int32 × AH)) (hQ86 : ∀ (x1 : Int32) (x2 : Int32) (x3 : Int32) (x4 : Int32) (x5 : Int32) (x6 : Int32) (x7 : Int32) (x8 : Int32) (x9 : Int32) (x10 : Int32) (h : AH), Q86 x1 x2 x3 x4 x5 x6 x7 x8 x9 x10 h = some (rv, h') → JJ G E 14 86 [(0, .ref 59), (1, .int x1), (2, .int x2), (3, .int x3), (4, .int x4), (5, .int x5), (6, .int x6), (7, .int x7), (8, .int x8), (9, .int x9), (10, .int x10)] [] h) (x1 : Int32) (x2 : Int32) (x3 : Int32) (x4 : Int32) (x5 : Int32) (x6 : Int32) (x7 : Int32) (x8 : Int32) (x9 : Int32) (x10 : Int32) (s0 : Int32) (h : AH) (hf : fX10_turns_105 RR p0 p1 p2 p3 Q86 x1 x2 x3 x4 x5 x6 x7 x8 x9 x10 s0 h = some (rv, h')) : JJ G E 14 105 [(0, .ref 59), (1, .int x1), (2, .int x2), (3, .int x3), (4, .int x4), (5, .int x5), (6, .int x6), (7, .int x7), (8, .int x8), (9, .int x9), (10, .int x10)] [.int s0] h := by
  unfold fX10_turns_105 at hf
  refine r_istore (lv' := [(11, .int s0), (0, .ref 59), (1, .int x1), (2, .int x2), (3, .int x3), (4, .int x4), (5, .int x5), (6, .int x6), (7, .int x7), (8, .int x8), (9, .int x9), (10, .int x10)]) K dX10_turns_105 (Nat.le_of_ble_eq_true rfl) rfl ?_
  refine r_aload_n K dX10_turns_107 1 rfl rfl ?_
  refine r_iload K dX10_turns_108 7 rfl ?_
  refine r_iconst (v := 2) K dX10_turns_110 rfl ?_
  refine r_iload K dX10_turns_111 0 rfl ?_
  refine r_iconst (v := 2) K dX10_turns_113 rfl ?_
  refine r_icmp_ne (tgt := 122) K dX10_turns_114 (by decide) (fun c15_ => ?_) (fun c15_ => ?_)
  · have hf := e_f hf c15_
    refine r_iload K dX10_turns_122 0 rfl ?_
    refine r_if_ne (tgt := 139) K dX10_turns_124 (by decide) (fun c16_ => ?_) (fun c16_ => ?_)
    · have hf := e_f hf c16_
      refine r_iconst (v := 0) K dX10_turns_139 rfl ?_
      refine r_iload K dX10_turns_140 8 rfl ?_
      refine r_iconst (v := 2) K dX10_turns_142 rfl ?_
      refine r_isub K dX10_turns_143 ?_
      refine r_mmax K lmX10_100 dX10_turns_144 (by omega) (Nat.le_of_ble_eq_true rfl) ?_
      refine r_lv [1, 2, 3, 4, 5, 6, 7, 8, 9, 10, 11, 0] rfl ?_
      exact sX10_turns_147 hdd K Z RR hRR p0 p1 p2 p3 Q86 hQ86 x1 x2 x3 x4 x5 x6 x7 x8 x9 x10 s0 (jmax 0 (x7 - 2)) 2 x6 h hf
    · have hf := e_t hf c16_
      refine r_bipush (v := 9) K dX10_turns_127 rfl ?_
      refine r_iload K dX10_turns_129 8 rfl ?_
      refine r_iconst (v := 2) K dX10_turns_131 rfl ?_
      refine r_iadd K dX10_turns_132 ?_
      refine r_mmin K lmX10_94 dX10_turns_133 (by omega) (Nat.le_of_ble_eq_true rfl) ?_
      refine r_goto (tgt := 147) K dX10_turns_136 (by decide) ?_
      refine r_lv [1, 2, 3, 4, 5, 6, 7, 8, 9, 10, 11, 0] rfl ?_
      exact sX10_turns_147 hdd K Z RR hRR p0 p1 p2 p3 Q86 hQ86 x1 x2 x3 x4 x5 x6 x7 x8 x9 x10 s0 (jmin 9 (x7 + 2)) 2 x6 h hf
  · have hf := e_t hf c15_
    refine r_iload K dX10_turns_117 8 rfl ?_
    refine r_goto (tgt := 147) K dX10_turns_119 (by decide) ?_
    refine r_lv [1, 2, 3, 4, 5, 6, 7, 8, 9, 10, 11, 0] rfl ?_
    exact sX10_turns_147 hdd K Z RR hRR p0 p1 p2 p3 Q86 hQ86 x1 x2 x3 x4 x5 x6 x7 x8 x9 x10 s0 x7 2 x6 h hf
def fX10_turns_86_b (RR : Nat → List Int32 → AH → Option (Int32 × AH)) (p0 : Int32) (p1 : Int32) (p2 : Int32) (p3 : Int32) (Q86 : Int32 → Int32 → Int32 → Int32 → Int32 → Int32 → Int32 → Int32 → Int32 → Int32 → AH → Option (Int32 × AH)) (x1 : Int32) (x2 : Int32) (x3 : Int32) (x4 : Int32) (x5 : Int32) (x6 : Int32) (x7 : Int32) (x8 : Int32) (x9 : Int32) (x10 : Int32) (h : AH) : Option (Int32 × AH) :=
  if 3 ≤ x10 then bindV (fX10_change x6 2 x7 h) fun h10_ => letV (wI h10_ 59 34 x9) fun h12_ => some (x8, h12_) else if x10 = 0 then fX10_turns_105 RR p0 p1 p2 p3 Q86 x1 x2 x3 x4 x5 x6 x7 x8 x9 x10 2 h else fX10_turns_105 RR p0 p1 p2 p3 Q86 x1 x2 x3 x4 x5 x6 x7 x8 x9 x10 (x10 - 1) h
def fX10_turns_86 (RR : Nat → List Int32 → AH → Option (Int32 × AH)) (p0 : Int32) (p1 : Int32) (p2 : Int32) (p3 : Int32) : Nat → Int32 → Int32 → Int32 → Int32 → Int32 → Int32 → Int32 → Int32 → Int32 → Int32 → AH → Option (Int32 × AH)
  | 0 => fun _ _ _ _ _ _ _ _ _ _ _ => none
  | n + 1 => fX10_turns_86_b RR p0 p1 p2 p3 (fX10_turns_86 RR p0 p1 p2 p3 n)
set_option maxRecDepth 10000 in
theorem sX10_turns_86_b {G : GG} {E : EE} {rv : Int32} {h' : AH} {dd : Nat} (hdd : 66 ≤ dd) (K : OK G E (dd + 1) RX10 cX10_turns 14) (Z : RT G E (some .int) (some (.int rv)) h') (RR : Nat → List Int32 → AH → Option (Int32 × AH)) (hRR : (∀ (z0 : Int32) (z1 : Int32) (z2 : Int32) (z3 : Int32) (h : AH) (r : Int32) (h1 : AH), RR 0 [z0, z1, z2, z3] h = some (r, h1) → Con G dd yX10_turns cX10_turns 14 (some .int) [.ref 59, .int z0, .int z1, .int z2, .int z3] h (some (.int r)) h1)) (p0 : Int32) (p1 : Int32) (p2 : Int32) (p3 : Int32) (Q86 : Int32 → Int32 → Int32 → Int32 → Int32 → Int32 → Int32 → Int32 → Int32 → Int32 → AH → Option (Int32 × AH)) (hQ86 : ∀ (x1 : Int32) (x2 : Int32) (x3 : Int32) (x4 : Int32) (x5 : Int32) (x6 : Int32) (x7 : Int32) (x8 : Int32) (x9 : Int32) (x10 : Int32) (h : AH), Q86 x1 x2 x3 x4 x5 x6 x7 x8 x9 x10 h = some (rv, h') → JJ G E 14 86 [(0, .ref 59), (1, .int x1), (2, .int x2), (3, .int x3), (4, .int x4), (5, .int x5), (6, .int x6), (7, .int x7), (8, .int x8), (9, .int x9), (10, .int x10)] [] h) (x1 : Int32) (x2 : Int32) (x3 : Int32) (x4 : Int32) (x5 : Int32) (x6 : Int32) (x7 : Int32) (x8 : Int32) (x9 : Int32) (x10 : Int32) (h : AH) (hf : fX10_turns_86_b RR p0 p1 p2 p3 Q86 x1 x2 x3 x4 x5 x6 x7 x8 x9 x10 h = some (rv, h')) : JJ G E 14 86 [(0, .ref 59), (1, .int x1), (2, .int x2), (3, .int x3), (4, .int x4), (5, .int x5), (6, .int x6), (7, .int x7), (8, .int x8), (9, .int x9), (10, .int x10)] [] h := by
  unfold fX10_turns_86_b at hf
  refine r_iload K dX10_turns_86 10 rfl ?_
  refine r_iconst (v := 3) K dX10_turns_88 rfl ?_
  refine r_icmp_ge (tgt := 231) K dX10_turns_89 (by decide) (fun c8_ => ?_) (fun c8_ => ?_)
  · have hf := e_t hf c8_
    refine r_aload_n K dX10_turns_231 0 rfl rfl ?_
    refine r_iload K dX10_turns_232 6 rfl ?_
    refine r_iconst (v := 2) K dX10_turns_234 rfl ?_
    refine r_iload K dX10_turns_235 7 rfl ?_
    obtain ⟨h10_, g11_, hf⟩ := e_v hf
    refine r_callV (av := [.int x6, .int 2, .int x7]) (st := []) K lkX10_113 mwX10_change (conX10_change x6 2 x7 h h10_ g11_) dX10_turns_237 rfl (by omega) rfl rfl (Nat.le_of_ble_eq_true rfl) ?_
    refine r_aload_n K dX10_turns_240 0 rfl rfl ?_
    refine r_iload K dX10_turns_241 9 rfl ?_
    obtain ⟨h12_, e13_, hf⟩ := e_l hf
    refine r_putI K fpX10_274 dX10_turns_243 rfl rfl e13_ ?_
    refine r_iload K dX10_turns_246 8 rfl ?_
    exact r_iret K Z dX10_turns_248 hf
  · have hf := e_f hf c8_
    refine r_iload K dX10_turns_92 10 rfl ?_
    refine r_if_ne (tgt := 101) K dX10_turns_94 (by decide) (fun c14_ => ?_) (fun c14_ => ?_)
    · have hf := e_f hf c14_
      refine r_iload K dX10_turns_101 10 rfl ?_
      refine r_iconst (v := 1) K dX10_turns_103 rfl ?_
      refine r_isub K dX10_turns_104 ?_
      refine r_lv [0, 1, 2, 3, 4, 5, 6, 7, 8, 9, 10] rfl ?_
      exact sX10_turns_105 hdd K Z RR hRR p0 p1 p2 p3 Q86 hQ86 x1 x2 x3 x4 x5 x6 x7 x8 x9 x10 (x10 - 1) h hf
    · have hf := e_t hf c14_
      refine r_iconst (v := 2) K dX10_turns_97 rfl ?_
      refine r_goto (tgt := 105) K dX10_turns_98 (by decide) ?_
      refine r_lv [0, 1, 2, 3, 4, 5, 6, 7, 8, 9, 10] rfl ?_
      exact sX10_turns_105 hdd K Z RR hRR p0 p1 p2 p3 Q86 hQ86 x1 x2 x3 x4 x5 x6 x7 x8 x9 x10 2 h hf
theorem sX10_turns_86 {G : GG} {E : EE} {rv : Int32} {h' : AH} {dd : Nat} (hdd : 66 ≤ dd) (K : OK G E (dd + 1) RX10 cX10_turns 14) (Z : RT G E (some .int) (some (.int rv)) h') (RR : Nat → List Int32 → AH → Option (Int32 × AH)) (hRR : (∀ (z0 : Int32) (z1 : Int32) (z2 : Int32) (z3 : Int32) (h : AH) (r : Int32) (h1 : AH), RR 0 [z0, z1, z2, z3] h = some (r, h1) → Con G dd yX10_turns cX10_turns 14 (some .int) [.ref 59, .int z0, .int z1, .int z2, .int z3] h (some (.int r)) h1)) (p0 : Int32) (p1 : Int32) (p2 : Int32) (p3 : Int32) : ∀ (n : Nat) (x1 : Int32) (x2 : Int32) (x3 : Int32) (x4 : Int32) (x5 : Int32) (x6 : Int32) (x7 : Int32) (x8 : Int32) (x9 : Int32) (x10 : Int32) (h : AH), fX10_turns_86 RR p0 p1 p2 p3 n x1 x2 x3 x4 x5 x6 x7 x8 x9 x10 h = some (rv, h') → JJ G E 14 86 [(0, .ref 59), (1, .int x1), (2, .int x2), (3, .int x3), (4, .int x4), (5, .int x5), (6, .int x6), (7, .int x7), (8, .int x8), (9, .int x9), (10, .int x10)] [] h := by
  intro n
  induction n with
  | zero => intro x1 x2 x3 x4 x5 x6 x7 x8 x9 x10 h hf; cases hf
  | succ n ih => intro x1 x2 x3 x4 x5 x6 x7 x8 x9 x10 h hf; exact sX10_turns_86_b hdd K Z RR hRR p0 p1 p2 p3 _ (fun x1 x2 x3 x4 x5 x6 x7 x8 x9 x10 h hf => ih x1 x2 x3 x4 x5 x6 x7 x8 x9 x10 h hf) x1 x2 x3 x4 x5 x6 x7 x8 x9 x10 h hf
def fX10_turns_53 (RR : Nat → List Int32 → AH → Option (Int32 × AH)) (p0 : Int32) (p1 : Int32) (p2 : Int32) (p3 : Int32) (x1 : Int32) (x2 : Int32) (x3 : Int32) (x4 : Int32) (x5 : Int32) (s0 : Int32) (h : AH) : Option (Int32 × AH) :=
  bind2 (fX10_number s0 2 h) fun r4_ h5_ => if x5 = 0 then fX10_turns_86 RR p0 p1 p2 p3 FU x1 x2 x3 x4 x5 s0 r4_ 2147483647 2 0 h5_ else fX10_turns_86 RR p0 p1 p2 p3 FU x1 x2 x3 x4 x5 s0 r4_ (-2147483648) 2 0 h5_
set_option maxRecDepth 10000 in
theorem sX10_turns_53 {G : GG} {E : EE} {rv : Int32} {h' : AH} {dd : Nat} (hdd : 66 ≤ dd) (K : OK G E (dd + 1) RX10 cX10_turns 14) (Z : RT G E (some .int) (some (.int rv)) h') (RR : Nat → List Int32 → AH → Option (Int32 × AH)) (hRR : (∀ (z0 : Int32) (z1 : Int32) (z2 : Int32) (z3 : Int32) (h : AH) (r : Int32) (h1 : AH), RR 0 [z0, z1, z2, z3] h = some (r, h1) → Con G dd yX10_turns cX10_turns 14 (some .int) [.ref 59, .int z0, .int z1, .int z2, .int z3] h (some (.int r)) h1)) (p0 : Int32) (p1 : Int32) (p2 : Int32) (p3 : Int32) (x1 : Int32) (x2 : Int32) (x3 : Int32) (x4 : Int32) (x5 : Int32) (s0 : Int32) (h : AH) (hf : fX10_turns_53 RR p0 p1 p2 p3 x1 x2 x3 x4 x5 s0 h = some (rv, h')) : JJ G E 14 53 [(0, .ref 59), (1, .int x1), (2, .int x2), (3, .int x3), (4, .int x4), (5, .int x5)] [.int s0] h := by
  unfold fX10_turns_53 at hf
  refine r_istore (lv' := [(6, .int s0), (0, .ref 59), (1, .int x1), (2, .int x2), (3, .int x3), (4, .int x4), (5, .int x5)]) K dX10_turns_53 (Nat.le_of_ble_eq_true rfl) rfl ?_
  refine r_aload_n K dX10_turns_55 1 rfl rfl ?_
  refine r_iload K dX10_turns_56 0 rfl ?_
  refine r_iconst (v := 2) K dX10_turns_58 rfl ?_
  obtain ⟨r4_, h5_, g6_, hf⟩ := e_2 hf
  refine r_callV (av := [.int s0, .int 2]) (st := []) K lkX10_110 mwX10_number (conX10_number s0 2 h r4_ h5_ g6_) dX10_turns_59 rfl (by omega) rfl rfl (Nat.le_of_ble_eq_true rfl) ?_
  refine r_istore (lv' := [(7, .int r4_), (6, .int s0), (0, .ref 59), (1, .int x1), (2, .int x2), (3, .int x3), (4, .int x4), (5, .int x5)]) K dX10_turns_62 (Nat.le_of_ble_eq_true rfl) rfl ?_
  refine r_iload K dX10_turns_64 7 rfl ?_
  refine r_if_eq (tgt := 75) K dX10_turns_66 (by decide) (fun c7_ => ?_) (fun c7_ => ?_)
  · have hf := e_t hf c7_
    refine r_ldcw (v := 2147483647) K dX10_turns_75 lcX10_269 ?_
    refine r_istore (lv' := [(8, .int 2147483647), (7, .int r4_), (6, .int s0), (0, .ref 59), (1, .int x1), (2, .int x2), (3, .int x3), (4, .int x4), (5, .int x5)]) K dX10_turns_78 (Nat.le_of_ble_eq_true rfl) rfl ?_
    refine r_iconst (v := 2) K dX10_turns_80 rfl ?_
    refine r_istore (lv' := [(9, .int 2), (8, .int 2147483647), (7, .int r4_), (6, .int s0), (0, .ref 59), (1, .int x1), (2, .int x2), (3, .int x3), (4, .int x4), (5, .int x5)]) K dX10_turns_81 (Nat.le_of_ble_eq_true rfl) rfl ?_
    refine r_iconst (v := 0) K dX10_turns_83 rfl ?_
    refine r_istore (lv' := [(10, .int 0), (9, .int 2), (8, .int 2147483647), (7, .int r4_), (6, .int s0), (0, .ref 59), (1, .int x1), (2, .int x2), (3, .int x3), (4, .int x4), (5, .int x5)]) K dX10_turns_84 (Nat.le_of_ble_eq_true rfl) rfl ?_
    refine r_lv [5, 6, 7, 8, 9, 10, 4, 3, 2, 1, 0] rfl ?_
    exact sX10_turns_86 hdd K Z RR hRR p0 p1 p2 p3 FU x1 x2 x3 x4 x5 s0 r4_ 2147483647 2 0 h5_ hf
  · have hf := e_f hf c7_
    refine r_ldcw (v := (-2147483648)) K dX10_turns_69 lcX10_268 ?_
    refine r_goto (tgt := 78) K dX10_turns_72 (by decide) ?_
    refine r_istore (lv' := [(8, .int (-2147483648)), (7, .int r4_), (6, .int s0), (0, .ref 59), (1, .int x1), (2, .int x2), (3, .int x3), (4, .int x4), (5, .int x5)]) K dX10_turns_78 (Nat.le_of_ble_eq_true rfl) rfl ?_
    refine r_iconst (v := 2) K dX10_turns_80 rfl ?_
    refine r_istore (lv' := [(9, .int 2), (8, .int (-2147483648)), (7, .int r4_), (6, .int s0), (0, .ref 59), (1, .int x1), (2, .int x2), (3, .int x3), (4, .int x4), (5, .int x5)]) K dX10_turns_81 (Nat.le_of_ble_eq_true rfl) rfl ?_
    refine r_iconst (v := 0) K dX10_turns_83 rfl ?_
    refine r_istore (lv' := [(10, .int 0), (9, .int 2), (8, .int (-2147483648)), (7, .int r4_), (6, .int s0), (0, .ref 59), (1, .int x1), (2, .int x2), (3, .int x3), (4, .int x4), (5, .int x5)]) K dX10_turns_84 (Nat.le_of_ble_eq_true rfl) rfl ?_
    refine r_lv [5, 6, 7, 8, 9, 10, 4, 3, 2, 1, 0] rfl ?_
    exact sX10_turns_86 hdd K Z RR hRR p0 p1 p2 p3 FU x1 x2 x3 x4 x5 s0 r4_ (-2147483648) 2 0 h5_ hf
def fX10_turns_41 (RR : Nat → List Int32 → AH → Option (Int32 × AH)) (p0 : Int32) (p1 : Int32) (p2 : Int32) (p3 : Int32) (x1 : Int32) (x2 : Int32) (x3 : Int32) (x4 : Int32) (s0 : Int32) (h : AH) : Option (Int32 × AH) :=
  if s0 = 0 then fX10_turns_53 RR p0 p1 p2 p3 x1 x2 x3 x4 s0 x2 h else fX10_turns_53 RR p0 p1 p2 p3 x1 x2 x3 x4 s0 x1 h
set_option maxRecDepth 10000 in
theorem sX10_turns_41 {G : GG} {E : EE} {rv : Int32} {h' : AH} {dd : Nat} (hdd : 66 ≤ dd) (K : OK G E (dd + 1) RX10 cX10_turns 14) (Z : RT G E (some .int) (some (.int rv)) h') (RR : Nat → List Int32 → AH → Option (Int32 × AH)) (hRR : (∀ (z0 : Int32) (z1 : Int32) (z2 : Int32) (z3 : Int32) (h : AH) (r : Int32) (h1 : AH), RR 0 [z0, z1, z2, z3] h = some (r, h1) → Con G dd yX10_turns cX10_turns 14 (some .int) [.ref 59, .int z0, .int z1, .int z2, .int z3] h (some (.int r)) h1)) (p0 : Int32) (p1 : Int32) (p2 : Int32) (p3 : Int32) (x1 : Int32) (x2 : Int32) (x3 : Int32) (x4 : Int32) (s0 : Int32) (h : AH) (hf : fX10_turns_41 RR p0 p1 p2 p3 x1 x2 x3 x4 s0 h = some (rv, h')) : JJ G E 14 41 [(0, .ref 59), (1, .int x1), (2, .int x2), (3, .int x3), (4, .int x4)] [.int s0] h := by
  unfold fX10_turns_41 at hf
  refine r_istore (lv' := [(5, .int s0), (0, .ref 59), (1, .int x1), (2, .int x2), (3, .int x3), (4, .int x4)]) K dX10_turns_41 (Nat.le_of_ble_eq_true rfl) rfl ?_
  refine r_iload K dX10_turns_43 0 rfl ?_
  refine r_if_eq (tgt := 52) K dX10_turns_45 (by decide) (fun c3_ => ?_) (fun c3_ => ?_)
  · have hf := e_t hf c3_
    refine r_iload_n K dX10_turns_52 3 rfl rfl ?_
    refine r_lv [1, 2, 3, 4, 5, 0] rfl ?_
    exact sX10_turns_53 hdd K Z RR hRR p0 p1 p2 p3 x1 x2 x3 x4 s0 x2 h hf
  · have hf := e_f hf c3_
    refine r_iload_n K dX10_turns_48 2 rfl rfl ?_
    refine r_goto (tgt := 53) K dX10_turns_49 (by decide) ?_
    refine r_lv [1, 2, 3, 4, 5, 0] rfl ?_
    exact sX10_turns_53 hdd K Z RR hRR p0 p1 p2 p3 x1 x2 x3 x4 s0 x1 h hf
def fX10_turns (RR : Nat → List Int32 → AH → Option (Int32 × AH)) (p0 : Int32) (p1 : Int32) (p2 : Int32) (p3 : Int32) (h : AH) : Option (Int32 × AH) :=
  if p2 = p3 then bind2 (fX10_goAll 0 (-1) h) fun r28_ h29_ => bind2 (fX10_wentAs p1 r28_ h29_) fun r31_ h32_ => bind2 (fX10_wentAs p0 r28_ h32_) fun r34_ h35_ => some ((r31_ - r34_), h35_) else if (jrem p2 2) = 0 then fX10_turns_41 RR p0 p1 p2 p3 p0 p1 p2 p3 1 h else fX10_turns_41 RR p0 p1 p2 p3 p0 p1 p2 p3 0 h
set_option maxRecDepth 10000 in
theorem sX10_turns {G : GG} {E : EE} {rv : Int32} {h' : AH} {dd : Nat} (hdd : 66 ≤ dd) (K : OK G E (dd + 1) RX10 cX10_turns 14) (Z : RT G E (some .int) (some (.int rv)) h') (RR : Nat → List Int32 → AH → Option (Int32 × AH)) (hRR : (∀ (z0 : Int32) (z1 : Int32) (z2 : Int32) (z3 : Int32) (h : AH) (r : Int32) (h1 : AH), RR 0 [z0, z1, z2, z3] h = some (r, h1) → Con G dd yX10_turns cX10_turns 14 (some .int) [.ref 59, .int z0, .int z1, .int z2, .int z3] h (some (.int r)) h1)) (p0 : Int32) (p1 : Int32) (p2 : Int32) (p3 : Int32) (h : AH) (hf : fX10_turns RR p0 p1 p2 p3 h = some (rv, h')) : JJ G E 14 0 [(0, .ref 59), (1, .int p0), (2, .int p1), (3, .int p2), (4, .int p3)] [] h := by
  unfold fX10_turns at hf
  refine r_iload_n K dX10_turns_0 3 rfl rfl ?_
  refine r_iload K dX10_turns_1 4 rfl ?_
  refine r_icmp_ne (tgt := 30) K dX10_turns_3 (by decide) (fun c1_ => ?_) (fun c1_ => ?_)
  · have hf := e_f hf c1_
    refine r_iload_n K dX10_turns_30 3 rfl rfl ?_
    refine r_iconst (v := 2) K dX10_turns_31 rfl ?_
    refine r_irem K dX10_turns_32 (by decide) ?_
    refine r_if_ne (tgt := 40) K dX10_turns_33 (by decide) (fun c2_ => ?_) (fun c2_ => ?_)
    · have hf := e_f hf c2_
      refine r_iconst (v := 0) K dX10_turns_40 rfl ?_
      refine r_lv [0, 1, 2, 3, 4] rfl ?_
      exact sX10_turns_41 hdd K Z RR hRR p0 p1 p2 p3 p0 p1 p2 p3 0 h hf
    · have hf := e_t hf c2_
      refine r_iconst (v := 1) K dX10_turns_36 rfl ?_
      refine r_goto (tgt := 41) K dX10_turns_37 (by decide) ?_
      refine r_lv [0, 1, 2, 3, 4] rfl ?_
      exact sX10_turns_41 hdd K Z RR hRR p0 p1 p2 p3 p0 p1 p2 p3 1 h hf
  · have hf := e_t hf c1_
    refine r_aload_n K dX10_turns_6 0 rfl rfl ?_
    refine r_iconst (v := 0) K dX10_turns_7 rfl ?_
    refine r_iconst (v := (-1)) K dX10_turns_8 rfl ?_
    obtain ⟨r28_, h29_, g30_, hf⟩ := e_2 hf
    refine r_callV (av := [.int 0, .int (-1)]) (st := []) K lkX10_241 mwX10_goAll (conX10_goAll 0 (-1) h r28_ h29_ g30_) dX10_turns_9 rfl (by omega) rfl rfl (Nat.le_of_ble_eq_true rfl) ?_
    refine r_istore (lv' := [(5, .int r28_), (0, .ref 59), (1, .int p0), (2, .int p1), (3, .int p2), (4, .int p3)]) K dX10_turns_12 (Nat.le_of_ble_eq_true rfl) rfl ?_
    refine r_aload_n K dX10_turns_14 1 rfl rfl ?_
    refine r_iload_n K dX10_turns_15 3 rfl rfl ?_
    refine r_iload K dX10_turns_16 0 rfl ?_
    obtain ⟨r31_, h32_, g33_, hf⟩ := e_2 hf
    refine r_callV (av := [.int p1, .int r28_]) (st := []) K lkX10_244 mwX10_wentAs (conX10_wentAs p1 r28_ h29_ r31_ h32_ g33_) dX10_turns_18 rfl (by omega) rfl rfl (Nat.le_of_ble_eq_true rfl) ?_
    refine r_aload_n K dX10_turns_21 1 rfl rfl ?_
    refine r_iload_n K dX10_turns_22 2 rfl rfl ?_
    refine r_iload K dX10_turns_23 0 rfl ?_
    obtain ⟨r34_, h35_, g36_, hf⟩ := e_2 hf
    refine r_callV (av := [.int p0, .int r28_]) (st := [.int r31_]) K lkX10_244 mwX10_wentAs (conX10_wentAs p0 r28_ h32_ r34_ h35_ g36_) dX10_turns_25 rfl (by omega) rfl rfl (Nat.le_of_ble_eq_true rfl) ?_
    refine r_isub K dX10_turns_28 ?_
    exact r_iret K Z dX10_turns_29 hf
def RGT : Nat → Nat → List Int32 → AH → Option (Int32 × AH)
  | 0 => fun _ _ _ => none
  | n + 1 => fun w a h => if w = 0 then fX10_turns (RGT n) (a.getD 0 0) (a.getD 1 0) (a.getD 2 0) (a.getD 3 0) h else none
theorem conRGT {G : GG} : ∀ n : Nat, (∀ (z0 : Int32) (z1 : Int32) (z2 : Int32) (z3 : Int32) (h : AH) (r : Int32) (h1 : AH), RGT n 0 [z0, z1, z2, z3] h = some (r, h1) → Con G (66 + n) yX10_turns cX10_turns 14 (some .int) [.ref 59, .int z0, .int z1, .int z2, .int z3] h (some (.int r)) h1) := by
  intro n
  induction n with
  | zero => exact fun _ _ _ _ _ _ _ q => (by cases q)
  | succ n ih => exact fun z0 z1 z2 z3 h r h1 q => con_of mwX10_turns (Nat.le_of_ble_eq_true rfl) (fun E K Z => sX10_turns (dd := 66 + n) (Nat.le_add_right _ _) K Z (RGT n) ih z0 z1 z2 z3 h q)
theorem conRGT_0 {G : GG} (n : Nat) (z0 : Int32) (z1 : Int32) (z2 : Int32) (z3 : Int32) (h : AH) (r : Int32) (h1 : AH) (q : RGT n 0 [z0, z1, z2, z3] h = some (r, h1)) : Con G (66 + n) yX10_turns cX10_turns 14 (some .int) [.ref 59, .int z0, .int z1, .int z2, .int z3] h (some (.int r)) h1 := (conRGT n) z0 z1 z2 z3 h r h1 q
def fX10_byTurns (p0 : Int32) (p1 : Int32) (p2 : Int32) (h : AH) : Option (Int32 × AH) :=
  if p0 < 0 then some ((-2000000000), h) else bind2 (fX10_isGuest (p0 / 10) h) fun r2_ h3_ => if r2_ = 0 then some ((-2000000000), h3_) else bind2 (fX10_isGuest (jrem p0 10) h3_) fun r6_ h7_ => if r6_ = 0 then some ((-2000000000), h7_) else if (p0 / 10) = (jrem p0 10) then some ((-2000000000), h7_) else bind2 (fX10_isHere (p0 / 10) h7_) fun r11_ h12_ => if r11_ = 0 then some ((-2000000000), h12_) else bind2 (fX10_isHere (jrem p0 10) h12_) fun r15_ h16_ => if r15_ = 0 then some ((-2000000000), h16_) else bind2 (fX10_isIn p1 1 5 h16_) fun r19_ h20_ => if r19_ = 0 then some ((-2000000000), h20_) else bind2 (fX10_isIn p2 0 1 h20_) fun r23_ h24_ => if r23_ = 0 then some ((-2000000000), h24_) else bind2 (RGT 8 0 [(p0 / 10), (jrem p0 10), 0, p1] h24_) fun r27_ h28_ => if p2 = 0 then some (r27_, h28_) else some ((h28_.1 59 34), h28_)
set_option maxRecDepth 10000 in
theorem sX10_byTurns {G : GG} {E : EE} {rv : Int32} {h' : AH} (K : OK G E 75 RX10 cX10_byTurns 5) (Z : RT G E (some .int) (some (.int rv)) h') (p0 : Int32) (p1 : Int32) (p2 : Int32) (h : AH) (hf : fX10_byTurns p0 p1 p2 h = some (rv, h')) : JJ G E 5 0 [(0, .ref 59), (1, .int p0), (2, .int p1), (3, .int p2)] [] h := by
  unfold fX10_byTurns at hf
  refine r_iload_n K dX10_byTurns_0 1 rfl rfl ?_
  refine r_if_lt (tgt := 77) K dX10_byTurns_1 (by decide) (fun c1_ => ?_) (fun c1_ => ?_)
  · have hf := e_t hf c1_
    refine r_ldcw (v := (-2000000000)) K dX10_byTurns_77 lcX10_277 ?_
    exact r_iret K Z dX10_byTurns_80 hf
  · have hf := e_f hf c1_
    refine r_aload_n K dX10_byTurns_4 0 rfl rfl ?_
    refine r_iload_n K dX10_byTurns_5 1 rfl rfl ?_
    refine r_bipush (v := 10) K dX10_byTurns_6 rfl ?_
    refine r_idiv K dX10_byTurns_8 (by decide) ?_
    obtain ⟨r2_, h3_, g4_, hf⟩ := e_2 hf
    refine r_callV (av := [.int (p0 / 10)]) (st := []) K lkX10_124 mwX10_isGuest (conX10_isGuest (p0 / 10) h r2_ h3_ g4_) dX10_byTurns_9 rfl (Nat.le_of_ble_eq_true rfl) rfl rfl (Nat.le_of_ble_eq_true rfl) ?_
    refine r_if_eq (tgt := 77) K dX10_byTurns_12 (by decide) (fun c5_ => ?_) (fun c5_ => ?_)
    · have hf := e_t hf c5_
      refine r_ldcw (v := (-2000000000)) K dX10_byTurns_77 lcX10_277 ?_
      exact r_iret K Z dX10_byTurns_80 hf
    · have hf := e_f hf c5_
      refine r_aload_n K dX10_byTurns_15 0 rfl rfl ?_
      refine r_iload_n K dX10_byTurns_16 1 rfl rfl ?_
      refine r_bipush (v := 10) K dX10_byTurns_17 rfl ?_
      refine r_irem K dX10_byTurns_19 (by decide) ?_
      obtain ⟨r6_, h7_, g8_, hf⟩ := e_2 hf
      refine r_callV (av := [.int (jrem p0 10)]) (st := []) K lkX10_124 mwX10_isGuest (conX10_isGuest (jrem p0 10) h3_ r6_ h7_ g8_) dX10_byTurns_20 rfl (Nat.le_of_ble_eq_true rfl) rfl rfl (Nat.le_of_ble_eq_true rfl) ?_
      refine r_if_eq (tgt := 77) K dX10_byTurns_23 (by decide) (fun c9_ => ?_) (fun c9_ => ?_)
      · have hf := e_t hf c9_
        refine r_ldcw (v := (-2000000000)) K dX10_byTurns_77 lcX10_277 ?_
        exact r_iret K Z dX10_byTurns_80 hf
      · have hf := e_f hf c9_
        refine r_iload_n K dX10_byTurns_26 1 rfl rfl ?_
        refine r_bipush (v := 10) K dX10_byTurns_27 rfl ?_
        refine r_idiv K dX10_byTurns_29 (by decide) ?_
        refine r_iload_n K dX10_byTurns_30 1 rfl rfl ?_
        refine r_bipush (v := 10) K dX10_byTurns_31 rfl ?_
        refine r_irem K dX10_byTurns_33 (by decide) ?_
        refine r_icmp_eq (tgt := 77) K dX10_byTurns_34 (by decide) (fun c10_ => ?_) (fun c10_ => ?_)
        · have hf := e_t hf c10_
          refine r_ldcw (v := (-2000000000)) K dX10_byTurns_77 lcX10_277 ?_
          exact r_iret K Z dX10_byTurns_80 hf
        · have hf := e_f hf c10_
          refine r_aload_n K dX10_byTurns_37 0 rfl rfl ?_
          refine r_iload_n K dX10_byTurns_38 1 rfl rfl ?_
          refine r_bipush (v := 10) K dX10_byTurns_39 rfl ?_
          refine r_idiv K dX10_byTurns_41 (by decide) ?_
          obtain ⟨r11_, h12_, g13_, hf⟩ := e_2 hf
          refine r_callV (av := [.int (p0 / 10)]) (st := []) K lkX10_197 mwX10_isHere (conX10_isHere (p0 / 10) h7_ r11_ h12_ g13_) dX10_byTurns_42 rfl (Nat.le_of_ble_eq_true rfl) rfl rfl (Nat.le_of_ble_eq_true rfl) ?_
          refine r_if_eq (tgt := 77) K dX10_byTurns_45 (by decide) (fun c14_ => ?_) (fun c14_ => ?_)
          · have hf := e_t hf c14_
            refine r_ldcw (v := (-2000000000)) K dX10_byTurns_77 lcX10_277 ?_
            exact r_iret K Z dX10_byTurns_80 hf
          · have hf := e_f hf c14_
            refine r_aload_n K dX10_byTurns_48 0 rfl rfl ?_
            refine r_iload_n K dX10_byTurns_49 1 rfl rfl ?_
            refine r_bipush (v := 10) K dX10_byTurns_50 rfl ?_
            refine r_irem K dX10_byTurns_52 (by decide) ?_
            obtain ⟨r15_, h16_, g17_, hf⟩ := e_2 hf
            refine r_callV (av := [.int (jrem p0 10)]) (st := []) K lkX10_197 mwX10_isHere (conX10_isHere (jrem p0 10) h12_ r15_ h16_ g17_) dX10_byTurns_53 rfl (Nat.le_of_ble_eq_true rfl) rfl rfl (Nat.le_of_ble_eq_true rfl) ?_
            refine r_if_eq (tgt := 77) K dX10_byTurns_56 (by decide) (fun c18_ => ?_) (fun c18_ => ?_)
            · have hf := e_t hf c18_
              refine r_ldcw (v := (-2000000000)) K dX10_byTurns_77 lcX10_277 ?_
              exact r_iret K Z dX10_byTurns_80 hf
            · have hf := e_f hf c18_
              refine r_iload_n K dX10_byTurns_59 2 rfl rfl ?_
              refine r_iconst (v := 1) K dX10_byTurns_60 rfl ?_
              refine r_iconst (v := 5) K dX10_byTurns_61 rfl ?_
              obtain ⟨r19_, h20_, g21_, hf⟩ := e_2 hf
              refine r_callS (av := [.int p1, .int 1, .int 5]) (st := []) K lkX10_106 mwX10_isIn (conX10_isIn p1 1 5 h16_ r19_ h20_ g21_) dX10_byTurns_62 (Nat.le_of_ble_eq_true rfl) rfl rfl (Nat.le_of_ble_eq_true rfl) ?_
              refine r_if_eq (tgt := 77) K dX10_byTurns_65 (by decide) (fun c22_ => ?_) (fun c22_ => ?_)
              · have hf := e_t hf c22_
                refine r_ldcw (v := (-2000000000)) K dX10_byTurns_77 lcX10_277 ?_
                exact r_iret K Z dX10_byTurns_80 hf
              · have hf := e_f hf c22_
                refine r_iload_n K dX10_byTurns_68 3 rfl rfl ?_
                refine r_iconst (v := 0) K dX10_byTurns_69 rfl ?_
                refine r_iconst (v := 1) K dX10_byTurns_70 rfl ?_
                obtain ⟨r23_, h24_, g25_, hf⟩ := e_2 hf
                refine r_callS (av := [.int p2, .int 0, .int 1]) (st := []) K lkX10_106 mwX10_isIn (conX10_isIn p2 0 1 h20_ r23_ h24_ g25_) dX10_byTurns_71 (Nat.le_of_ble_eq_true rfl) rfl rfl (Nat.le_of_ble_eq_true rfl) ?_
                refine r_if_ne (tgt := 81) K dX10_byTurns_74 (by decide) (fun c26_ => ?_) (fun c26_ => ?_)
                · have hf := e_f hf c26_
                  refine r_aload_n K dX10_byTurns_81 0 rfl rfl ?_
                  refine r_iload_n K dX10_byTurns_82 1 rfl rfl ?_
                  refine r_bipush (v := 10) K dX10_byTurns_83 rfl ?_
                  refine r_idiv K dX10_byTurns_85 (by decide) ?_
                  refine r_iload_n K dX10_byTurns_86 1 rfl rfl ?_
                  refine r_bipush (v := 10) K dX10_byTurns_87 rfl ?_
                  refine r_irem K dX10_byTurns_89 (by decide) ?_
                  refine r_iconst (v := 0) K dX10_byTurns_90 rfl ?_
                  refine r_iload_n K dX10_byTurns_91 2 rfl rfl ?_
                  obtain ⟨r27_, h28_, g29_, hf⟩ := e_2 hf
                  refine r_callV (av := [.int (p0 / 10), .int (jrem p0 10), .int 0, .int p1]) (st := []) K lkX10_270 mwX10_turns (conRGT_0 8 (p0 / 10) (jrem p0 10) 0 p1 h24_ r27_ h28_ g29_) dX10_byTurns_92 rfl (Nat.le_of_ble_eq_true rfl) rfl rfl (Nat.le_of_ble_eq_true rfl) ?_
                  refine r_istore (lv' := [(4, .int r27_), (0, .ref 59), (1, .int p0), (2, .int p1), (3, .int p2)]) K dX10_byTurns_95 (Nat.le_of_ble_eq_true rfl) rfl ?_
                  refine r_iload_n K dX10_byTurns_97 4 rfl rfl ?_
                  refine r_if_ne (tgt := 106) K dX10_byTurns_98 (by decide) (fun c30_ => ?_) (fun c30_ => ?_)
                  · have hf := e_f hf c30_
                    refine r_aload_n K dX10_byTurns_106 1 rfl rfl ?_
                    refine r_getI K flX10_274 dX10_byTurns_107 rfl rfl ?_
                    exact r_iret K Z dX10_byTurns_110 hf
                  · have hf := e_t hf c30_
                    refine r_iload K dX10_byTurns_101 0 rfl ?_
                    refine r_goto (tgt := 110) K dX10_byTurns_103 (by decide) ?_
                    exact r_iret K Z dX10_byTurns_110 hf
                · have hf := e_t hf c26_
                  refine r_ldcw (v := (-2000000000)) K dX10_byTurns_77 lcX10_277 ?_
                  exact r_iret K Z dX10_byTurns_80 hf
theorem conX10_byTurns {G : GG} (p0 : Int32) (p1 : Int32) (p2 : Int32) (h : AH) (rv : Int32) (h' : AH) (hf : fX10_byTurns p0 p1 p2 h = some (rv, h')) : Con G 75 yX10_byTurns cX10_byTurns 5 (some .int) [.ref 59, .int p0, .int p1, .int p2] h (some (.int rv)) h' := con_of mwX10_byTurns (Nat.le_of_ble_eq_true rfl) (fun E K Z => sX10_byTurns K Z p0 p1 p2 h hf)
def fX10_byteAt (p0 : Int32) (p1 : Int32) (h : AH) : Option (Int32 × AH) :=
  if inb p0 6 = true then if (h.1 76 (ix p0)) ≤ p1 then some ((-1), h) else if inb ((60 * p0) + p1) 360 = true then some ((((h.2 77 (ix ((60 * p0) + p1))) : Int64).toInt32), h) else none else none
set_option maxRecDepth 10000 in
theorem sX10_byteAt {G : GG} {E : EE} {rv : Int32} {h' : AH} (K : OK G E 0 RX10 cX10_byteAt 3) (Z : RT G E (some .int) (some (.int rv)) h') (p0 : Int32) (p1 : Int32) (h : AH) (hf : fX10_byteAt p0 p1 h = some (rv, h')) : JJ G E 3 0 [(0, .ref 59), (1, .int p0), (2, .int p1)] [] h := by
  unfold fX10_byteAt at hf
  refine r_iload_n K dX10_byteAt_0 2 rfl rfl ?_
  refine r_aload_n K dX10_byteAt_1 0 rfl rfl ?_
  refine r_getR (o' := 76) K flX10_63 dX10_byteAt_2 rfl rfl rfl ?_
  refine r_iload_n K dX10_byteAt_5 1 rfl rfl ?_
  obtain ⟨g1_, hf⟩ := e_g hf
  refine r_iald K dX10_byteAt_6 rfl g1_ ?_
  refine r_icmp_ge (tgt := 25) K dX10_byteAt_7 (by decide) (fun c2_ => ?_) (fun c2_ => ?_)
  · have hf := e_t hf c2_
    refine r_iconst (v := (-1)) K dX10_byteAt_25 rfl ?_
    exact r_iret K Z dX10_byteAt_26 hf
  · have hf := e_f hf c2_
    refine r_aload_n K dX10_byteAt_10 0 rfl rfl ?_
    refine r_getR (o' := 77) K flX10_66 dX10_byteAt_11 rfl rfl rfl ?_
    refine r_bipush (v := 60) K dX10_byteAt_14 rfl ?_
    refine r_iload_n K dX10_byteAt_16 1 rfl rfl ?_
    refine r_imul K dX10_byteAt_17 ?_
    refine r_iload_n K dX10_byteAt_18 2 rfl rfl ?_
    refine r_iadd K dX10_byteAt_19 ?_
    obtain ⟨g3_, hf⟩ := e_g hf
    refine r_lald K dX10_byteAt_20 rfl g3_ ?_
    refine r_l2i K dX10_byteAt_21 ?_
    refine r_goto (tgt := 26) K dX10_byteAt_22 (by decide) ?_
    exact r_iret K Z dX10_byteAt_26 hf
theorem conX10_byteAt {G : GG} (p0 : Int32) (p1 : Int32) (h : AH) (rv : Int32) (h' : AH) (hf : fX10_byteAt p0 p1 h = some (rv, h')) : Con G 0 yX10_byteAt cX10_byteAt 3 (some .int) [.ref 59, .int p0, .int p1] h (some (.int rv)) h' := con_of mwX10_byteAt (Nat.le_of_ble_eq_true rfl) (fun E K Z => sX10_byteAt K Z p0 p1 h hf)
def fX10_bytesIn (p0 : Int32) (h : AH) : Option (Int32 × AH) :=
  if inb p0 6 = true then if (h.1 75 (ix p0)) = (-1) then some ((-11), h) else if (h.1 75 (ix p0)) = 0 then some (1, h) else some ((-12), h) else none
set_option maxRecDepth 10000 in
theorem sX10_bytesIn {G : GG} {E : EE} {rv : Int32} {h' : AH} (K : OK G E 0 RX10 cX10_bytesIn 2) (Z : RT G E (some .int) (some (.int rv)) h') (p0 : Int32) (h : AH) (hf : fX10_bytesIn p0 h = some (rv, h')) : JJ G E 2 0 [(0, .ref 59), (1, .int p0)] [] h := by
  unfold fX10_bytesIn at hf
  refine r_aload_n K dX10_bytesIn_0 0 rfl rfl ?_
  refine r_getR (o' := 75) K flX10_60 dX10_bytesIn_1 rfl rfl rfl ?_
  refine r_iload_n K dX10_bytesIn_4 1 rfl rfl ?_
  obtain ⟨g1_, hf⟩ := e_g hf
  refine r_iald K dX10_bytesIn_5 rfl g1_ ?_
  refine r_iconst (v := (-1)) K dX10_bytesIn_6 rfl ?_
  refine r_icmp_ne (tgt := 15) K dX10_bytesIn_7 (by decide) (fun c2_ => ?_) (fun c2_ => ?_)
  · have hf := e_f hf c2_
    refine r_aload_n K dX10_bytesIn_15 0 rfl rfl ?_
    refine r_getR (o' := 75) K flX10_60 dX10_bytesIn_16 rfl rfl rfl ?_
    refine r_iload_n K dX10_bytesIn_19 1 rfl rfl ?_
    refine r_iald K dX10_bytesIn_20 rfl g1_ ?_
    refine r_if_eq (tgt := 29) K dX10_bytesIn_21 (by decide) (fun c4_ => ?_) (fun c4_ => ?_)
    · have hf := e_t hf c4_
      refine r_iconst (v := 1) K dX10_bytesIn_29 rfl ?_
      exact r_iret K Z dX10_bytesIn_30 hf
    · have hf := e_f hf c4_
      refine r_bipush (v := (-12)) K dX10_bytesIn_24 rfl ?_
      refine r_goto (tgt := 30) K dX10_bytesIn_26 (by decide) ?_
      exact r_iret K Z dX10_bytesIn_30 hf
  · have hf := e_t hf c2_
    refine r_bipush (v := (-11)) K dX10_bytesIn_10 rfl ?_
    refine r_goto (tgt := 30) K dX10_bytesIn_12 (by decide) ?_
    exact r_iret K Z dX10_bytesIn_30 hf
theorem conX10_bytesIn {G : GG} (p0 : Int32) (h : AH) (rv : Int32) (h' : AH) (hf : fX10_bytesIn p0 h = some (rv, h')) : Con G 0 yX10_bytesIn cX10_bytesIn 2 (some .int) [.ref 59, .int p0] h (some (.int rv)) h' := con_of mwX10_bytesIn (Nat.le_of_ble_eq_true rfl) (fun E K Z => sX10_bytesIn K Z p0 h hf)
def fX10_count (p0 : Int32) (h : AH) : Option (Int32 × AH) :=
  if p0 = 0 then some ((h.1 59 2), h) else if p0 = 1 then some ((h.1 59 3), h) else if p0 = 2 then some ((h.1 59 12), h) else if p0 = 3 then some ((h.1 59 7), h) else if p0 = 4 then some ((h.1 59 43), h) else if p0 = 5 then some ((h.1 59 45), h) else some ((-1), h)
set_option maxRecDepth 10000 in
theorem sX10_count {G : GG} {E : EE} {rv : Int32} {h' : AH} (K : OK G E 0 RX10 cX10_count 2) (Z : RT G E (some .int) (some (.int rv)) h') (p0 : Int32) (h : AH) (hf : fX10_count p0 h = some (rv, h')) : JJ G E 2 0 [(0, .ref 59), (1, .int p0)] [] h := by
  unfold fX10_count at hf
  refine r_iload_n K dX10_count_0 1 rfl rfl ?_
  by_cases c1_ : p0 = 0
  · have hf := e_t hf c1_
    refine r_tblIn (off := 39) (tgt := 40) K dX10_count_1 (by rw [c1_]; decide) (by rw [c1_]; decide) (by rw [c1_]; decide) (by decide) ?_
    refine r_aload_n K dX10_count_40 0 rfl rfl ?_
    refine r_getI K flX10_103 dX10_count_41 rfl rfl ?_
    exact r_iret K Z dX10_count_44 hf
  have hf := e_f hf c1_
  by_cases c2_ : p0 = 1
  · have hf := e_t hf c2_
    refine r_tblIn (off := 44) (tgt := 45) K dX10_count_1 (by rw [c2_]; decide) (by rw [c2_]; decide) (by rw [c2_]; decide) (by decide) ?_
    refine r_aload_n K dX10_count_45 0 rfl rfl ?_
    refine r_getI K flX10_121 dX10_count_46 rfl rfl ?_
    exact r_iret K Z dX10_count_49 hf
  have hf := e_f hf c2_
  by_cases c3_ : p0 = 2
  · have hf := e_t hf c3_
    refine r_tblIn (off := 49) (tgt := 50) K dX10_count_1 (by rw [c3_]; decide) (by rw [c3_]; decide) (by rw [c3_]; decide) (by decide) ?_
    refine r_aload_n K dX10_count_50 0 rfl rfl ?_
    refine r_getI K flX10_141 dX10_count_51 rfl rfl ?_
    exact r_iret K Z dX10_count_54 hf
  have hf := e_f hf c3_
  by_cases c4_ : p0 = 3
  · have hf := e_t hf c4_
    refine r_tblIn (off := 54) (tgt := 55) K dX10_count_1 (by rw [c4_]; decide) (by rw [c4_]; decide) (by rw [c4_]; decide) (by decide) ?_
    refine r_aload_n K dX10_count_55 0 rfl rfl ?_
    refine r_getI K flX10_135 dX10_count_56 rfl rfl ?_
    exact r_iret K Z dX10_count_59 hf
  have hf := e_f hf c4_
  by_cases c5_ : p0 = 4
  · have hf := e_t hf c5_
    refine r_tblIn (off := 59) (tgt := 60) K dX10_count_1 (by rw [c5_]; decide) (by rw [c5_]; decide) (by rw [c5_]; decide) (by decide) ?_
    refine r_aload_n K dX10_count_60 0 rfl rfl ?_
    refine r_getI K flX10_288 dX10_count_61 rfl rfl ?_
    exact r_iret K Z dX10_count_64 hf
  have hf := e_f hf c5_
  by_cases c6_ : p0 = 5
  · have hf := e_t hf c6_
    refine r_tblIn (off := 64) (tgt := 65) K dX10_count_1 (by rw [c6_]; decide) (by rw [c6_]; decide) (by rw [c6_]; decide) (by decide) ?_
    refine r_aload_n K dX10_count_65 0 rfl rfl ?_
    refine r_getI K flX10_294 dX10_count_66 rfl rfl ?_
    exact r_iret K Z dX10_count_69 hf
  have hf := e_f hf c6_
  have hout : p0.toInt < 0 ∨ 5 < p0.toInt := by
    have zc1_ := lv_neT (a := 0) c1_ (by decide)
    have zc2_ := lv_neT (a := 1) c2_ (by decide)
    have zc3_ := lv_neT (a := 2) c3_ (by decide)
    have zc4_ := lv_neT (a := 3) c4_ (by decide)
    have zc5_ := lv_neT (a := 4) c5_ (by decide)
    have zc6_ := lv_neT (a := 5) c6_ (by decide)
    omega
  refine r_tblOut (tgt := 70) K dX10_count_1 hout (by decide) ?_
  refine r_iconst (v := (-1)) K dX10_count_70 rfl ?_
  exact r_iret K Z dX10_count_71 hf
theorem conX10_count {G : GG} (p0 : Int32) (h : AH) (rv : Int32) (h' : AH) (hf : fX10_count p0 h = some (rv, h')) : Con G 0 yX10_count cX10_count 2 (some .int) [.ref 59, .int p0] h (some (.int rv)) h' := con_of mwX10_count (Nat.le_of_ble_eq_true rfl) (fun E K Z => sX10_count K Z p0 h hf)
def fX10_firstNow (h : AH) : Option (Int32 × AH) :=
  bind2 (fX10_lay  h) fun r1_ h2_ => if r1_ = 0 then some ((-2), h2_) else some ((h2_.1 72 (ix 0)), h2_)
set_option maxRecDepth 10000 in
theorem sX10_firstNow {G : GG} {E : EE} {rv : Int32} {h' : AH} (K : OK G E 66 RX10 cX10_firstNow 1) (Z : RT G E (some .int) (some (.int rv)) h') (h : AH) (hf : fX10_firstNow h = some (rv, h')) : JJ G E 1 0 [(0, .ref 59)] [] h := by
  unfold fX10_firstNow at hf
  refine r_aload_n K dX10_firstNow_0 0 rfl rfl ?_
  obtain ⟨r1_, h2_, g3_, hf⟩ := e_2 hf
  refine r_callV (av := []) (st := []) K lkX10_219 mwX10_lay (conX10_lay  h r1_ h2_ g3_) dX10_firstNow_1 rfl (Nat.le_of_ble_eq_true rfl) rfl rfl (Nat.le_of_ble_eq_true rfl) ?_
  refine r_if_ne (tgt := 12) K dX10_firstNow_4 (by decide) (fun c4_ => ?_) (fun c4_ => ?_)
  · have hf := e_f hf c4_
    refine r_aload_n K dX10_firstNow_12 0 rfl rfl ?_
    refine r_getR (o' := 72) K flX10_51 dX10_firstNow_13 rfl rfl rfl ?_
    refine r_iconst (v := 0) K dX10_firstNow_16 rfl ?_
    refine r_iald K dX10_firstNow_17 rfl (by decide +kernel) ?_
    exact r_iret K Z dX10_firstNow_18 hf
  · have hf := e_t hf c4_
    refine r_bipush (v := (-2)) K dX10_firstNow_7 rfl ?_
    refine r_goto (tgt := 18) K dX10_firstNow_9 (by decide) ?_
    exact r_iret K Z dX10_firstNow_18 hf
theorem conX10_firstNow {G : GG} (h : AH) (rv : Int32) (h' : AH) (hf : fX10_firstNow h = some (rv, h')) : Con G 66 yX10_firstNow cX10_firstNow 1 (some .int) [.ref 59] h (some (.int rv)) h' := con_of mwX10_firstNow (Nat.le_of_ble_eq_true rfl) (fun E K Z => sX10_firstNow K Z h hf)
def fX10_drawn_256 (p0 : Int32) (p1 : Int32) (p2 : Int32) (Q80 : Int32 → Int32 → Int32 → Int32 → Int32 → Int32 → Int32 → AH → Option (Int32 × AH)) (x2 : Int32) (x3 : Int32) (x4 : Int32) (x5 : Int32) (x6 : Int32) (x8 : Int32) (s0 : Int32) (s1 : Int32) (h : AH) : Option (Int32 × AH) :=
  letV ((s1 + s0)) fun x33_ => bindV (fX10_layAll 0 h) fun h36_ => Q80 x2 x3 x4 x5 x6 x33_ (x8 + 1) h36_
set_option maxRecDepth 10000 in
theorem sX10_drawn_256 {G : GG} {E : EE} {rv : Int32} {h' : AH} (K : OK G E 67 RX10 cX10_drawn 11) (Z : RT G E (some .int) (some (.int rv)) h') (p0 : Int32) (p1 : Int32) (p2 : Int32) (Q80 : Int32 → Int32 → Int32 → Int32 → Int32 → Int32 → Int32 → AH → Option (Int32 × AH)) (hQ80 : ∀ (x2 : Int32) (x3 : Int32) (x4 : Int32) (x5 : Int32) (x6 : Int32) (x7 : Int32) (x8 : Int32) (h : AH), Q80 x2 x3 x4 x5 x6 x7 x8 h = some (rv, h') → JJ G E 11 80 [(0, .ref 59), (2, .int x2), (3, .int x3), (4, .int x4), (5, .int x5), (6, .int x6), (7, .int x7), (8, .int x8)] [] h) (x2 : Int32) (x3 : Int32) (x4 : Int32) (x5 : Int32) (x6 : Int32) (x8 : Int32) (s0 : Int32) (s1 : Int32) (h : AH) (hf : fX10_drawn_256 p0 p1 p2 Q80 x2 x3 x4 x5 x6 x8 s0 s1 h = some (rv, h')) : JJ G E 11 256 [(0, .ref 59), (2, .int x2), (3, .int x3), (4, .int x4), (5, .int x5), (6, .int x6), (8, .int x8)] [.int s0, .int s1] h := by
  unfold fX10_drawn_256 at hf
  refine r_iadd K dX10_drawn_256 ?_
  obtain ⟨x33_, e34_, hf⟩ := e_l hf
  refine r_nmI e34_ ?_
  refine r_istore (lv' := [(7, .int x33_), (0, .ref 59), (2, .int x2), (3, .int x3), (4, .int x4), (5, .int x5), (6, .int x6), (8, .int x8)]) K dX10_drawn_257 (Nat.le_of_ble_eq_true rfl) rfl ?_
  refine r_aload_n K dX10_drawn_259 1 rfl rfl ?_
  refine r_iconst (v := 0) K dX10_drawn_260 rfl ?_
  obtain ⟨h36_, g37_, hf⟩ := e_v hf
  refine r_callV (av := [.int 0]) (st := []) K lkX10_232 mwX10_layAll (conX10_layAll 0 h h36_ g37_) dX10_drawn_261 rfl (Nat.le_of_ble_eq_true rfl) rfl rfl (Nat.le_of_ble_eq_true rfl) ?_
  refine r_iinc (y := 1) (lv' := [(8, .int (x8 + 1)), (7, .int x33_), (0, .ref 59), (2, .int x2), (3, .int x3), (4, .int x4), (5, .int x5), (6, .int x6)]) K dX10_drawn_264 7 rfl rfl (Nat.le_of_ble_eq_true rfl) rfl ?_
  refine r_goto (tgt := 80) K dX10_drawn_267 (by decide) ?_
  refine r_lv [2, 3, 4, 5, 6, 7, 1, 0] rfl ?_
  exact hQ80 x2 x3 x4 x5 x6 x33_ (x8 + 1) h36_ hf
def fX10_drawn_204_b (p0 : Int32) (p1 : Int32) (p2 : Int32) (Q80 : Int32 → Int32 → Int32 → Int32 → Int32 → Int32 → Int32 → AH → Option (Int32 × AH)) (Q204 : Int32 → Int32 → Int32 → Int32 → Int32 → Int32 → Int32 → Int32 → Int32 → AH → Option (Int32 × AH)) (x2 : Int32) (x3 : Int32) (x4 : Int32) (x5 : Int32) (x6 : Int32) (x7 : Int32) (x8 : Int32) (x9 : Int32) (x10 : Int32) (h : AH) : Option (Int32 × AH) :=
  if (h.1 59 2) ≤ x10 then if x3 = (-1) then fX10_drawn_256 p0 p1 p2 Q80 x2 x3 x4 x5 x6 x8 x9 x7 h else bind2 (fX10_firstNow  h) fun r29_ h30_ => if r29_ = x3 then fX10_drawn_256 p0 p1 p2 Q80 x2 x3 x4 x5 x6 x8 1 x7 h30_ else fX10_drawn_256 p0 p1 p2 Q80 x2 x3 x4 x5 x6 x8 0 x7 h30_ else bind2 (fX10_number x10 0 h) fun r38_ h39_ => letV ((x9 + r38_)) fun x41_ => Q204 x2 x3 x4 x5 x6 x7 x8 x41_ (x10 + 1) h39_
def fX10_drawn_204 (p0 : Int32) (p1 : Int32) (p2 : Int32) (Q80 : Int32 → Int32 → Int32 → Int32 → Int32 → Int32 → Int32 → AH → Option (Int32 × AH)) : Nat → Int32 → Int32 → Int32 → Int32 → Int32 → Int32 → Int32 → Int32 → Int32 → AH → Option (Int32 × AH)
  | 0 => fun _ _ _ _ _ _ _ _ _ _ => none
  | n + 1 => fX10_drawn_204_b p0 p1 p2 Q80 (fX10_drawn_204 p0 p1 p2 Q80 n)
set_option maxRecDepth 10000 in
theorem sX10_drawn_204_b {G : GG} {E : EE} {rv : Int32} {h' : AH} (K : OK G E 67 RX10 cX10_drawn 11) (Z : RT G E (some .int) (some (.int rv)) h') (p0 : Int32) (p1 : Int32) (p2 : Int32) (Q80 : Int32 → Int32 → Int32 → Int32 → Int32 → Int32 → Int32 → AH → Option (Int32 × AH)) (hQ80 : ∀ (x2 : Int32) (x3 : Int32) (x4 : Int32) (x5 : Int32) (x6 : Int32) (x7 : Int32) (x8 : Int32) (h : AH), Q80 x2 x3 x4 x5 x6 x7 x8 h = some (rv, h') → JJ G E 11 80 [(0, .ref 59), (2, .int x2), (3, .int x3), (4, .int x4), (5, .int x5), (6, .int x6), (7, .int x7), (8, .int x8)] [] h) (Q204 : Int32 → Int32 → Int32 → Int32 → Int32 → Int32 → Int32 → Int32 → Int32 → AH → Option (Int32 × AH)) (hQ204 : ∀ (x2 : Int32) (x3 : Int32) (x4 : Int32) (x5 : Int32) (x6 : Int32) (x7 : Int32) (x8 : Int32) (x9 : Int32) (x10 : Int32) (h : AH), Q204 x2 x3 x4 x5 x6 x7 x8 x9 x10 h = some (rv, h') → JJ G E 11 204 [(0, .ref 59), (2, .int x2), (3, .int x3), (4, .int x4), (5, .int x5), (6, .int x6), (7, .int x7), (8, .int x8), (9, .int x9), (10, .int x10)] [] h) (x2 : Int32) (x3 : Int32) (x4 : Int32) (x5 : Int32) (x6 : Int32) (x7 : Int32) (x8 : Int32) (x9 : Int32) (x10 : Int32) (h : AH) (hf : fX10_drawn_204_b p0 p1 p2 Q80 Q204 x2 x3 x4 x5 x6 x7 x8 x9 x10 h = some (rv, h')) : JJ G E 11 204 [(0, .ref 59), (2, .int x2), (3, .int x3), (4, .int x4), (5, .int x5), (6, .int x6), (7, .int x7), (8, .int x8), (9, .int x9), (10, .int x10)] [] h := by
  unfold fX10_drawn_204_b at hf
  refine r_iload K dX10_drawn_204 9 rfl ?_
  refine r_aload_n K dX10_drawn_206 0 rfl rfl ?_
  refine r_getI K flX10_103 dX10_drawn_207 rfl rfl ?_
  refine r_icmp_ge (tgt := 231) K dX10_drawn_210 (by decide) (fun c27_ => ?_) (fun c27_ => ?_)
  · have hf := e_t hf c27_
    refine r_iload K dX10_drawn_231 6 rfl ?_
    refine r_iload_n K dX10_drawn_233 2 rfl rfl ?_
    refine r_iconst (v := (-1)) K dX10_drawn_234 rfl ?_
    refine r_icmp_ne (tgt := 243) K dX10_drawn_235 (by decide) (fun c28_ => ?_) (fun c28_ => ?_)
    · have hf := e_f hf c28_
      refine r_aload_n K dX10_drawn_243 0 rfl rfl ?_
      obtain ⟨r29_, h30_, g31_, hf⟩ := e_2 hf
      refine r_callV (av := []) (st := [.int x7]) K lkX10_235 mwX10_firstNow (conX10_firstNow  h r29_ h30_ g31_) dX10_drawn_244 rfl (Nat.le_of_ble_eq_true rfl) rfl rfl (Nat.le_of_ble_eq_true rfl) ?_
      refine r_iload_n K dX10_drawn_247 2 rfl rfl ?_
      refine r_icmp_ne (tgt := 255) K dX10_drawn_248 (by decide) (fun c32_ => ?_) (fun c32_ => ?_)
      · have hf := e_f hf c32_
        refine r_iconst (v := 0) K dX10_drawn_255 rfl ?_
        refine r_lv [0, 1, 2, 3, 4, 5, 7] rfl ?_
        exact sX10_drawn_256 K Z p0 p1 p2 Q80 hQ80 x2 x3 x4 x5 x6 x8 0 x7 h30_ hf
      · have hf := e_t hf c32_
        refine r_iconst (v := 1) K dX10_drawn_251 rfl ?_
        refine r_goto (tgt := 256) K dX10_drawn_252 (by decide) ?_
        refine r_lv [0, 1, 2, 3, 4, 5, 7] rfl ?_
        exact sX10_drawn_256 K Z p0 p1 p2 Q80 hQ80 x2 x3 x4 x5 x6 x8 1 x7 h30_ hf
    · have hf := e_t hf c28_
      refine r_iload K dX10_drawn_238 8 rfl ?_
      refine r_goto (tgt := 256) K dX10_drawn_240 (by decide) ?_
      refine r_lv [0, 1, 2, 3, 4, 5, 7] rfl ?_
      exact sX10_drawn_256 K Z p0 p1 p2 Q80 hQ80 x2 x3 x4 x5 x6 x8 x9 x7 h hf
  · have hf := e_f hf c27_
    refine r_iload K dX10_drawn_213 8 rfl ?_
    refine r_aload_n K dX10_drawn_215 0 rfl rfl ?_
    refine r_iload K dX10_drawn_216 9 rfl ?_
    refine r_iconst (v := 0) K dX10_drawn_218 rfl ?_
    obtain ⟨r38_, h39_, g40_, hf⟩ := e_2 hf
    refine r_callV (av := [.int x10, .int 0]) (st := [.int x9]) K lkX10_110 mwX10_number (conX10_number x10 0 h r38_ h39_ g40_) dX10_drawn_219 rfl (Nat.le_of_ble_eq_true rfl) rfl rfl (Nat.le_of_ble_eq_true rfl) ?_
    refine r_iadd K dX10_drawn_222 ?_
    obtain ⟨x41_, e42_, hf⟩ := e_l hf
    refine r_nmI e42_ ?_
    refine r_istore (lv' := [(9, .int x41_), (0, .ref 59), (2, .int x2), (3, .int x3), (4, .int x4), (5, .int x5), (6, .int x6), (7, .int x7), (8, .int x8), (10, .int x10)]) K dX10_drawn_223 (Nat.le_of_ble_eq_true rfl) rfl ?_
    refine r_iinc (y := 1) (lv' := [(10, .int (x10 + 1)), (9, .int x41_), (0, .ref 59), (2, .int x2), (3, .int x3), (4, .int x4), (5, .int x5), (6, .int x6), (7, .int x7), (8, .int x8)]) K dX10_drawn_225 9 rfl rfl (Nat.le_of_ble_eq_true rfl) rfl ?_
    refine r_goto (tgt := 204) K dX10_drawn_228 (by decide) ?_
    refine r_lv [2, 3, 4, 5, 6, 7, 8, 9, 1, 0] rfl ?_
    exact hQ204 x2 x3 x4 x5 x6 x7 x8 x41_ (x10 + 1) h39_ hf
theorem sX10_drawn_204 {G : GG} {E : EE} {rv : Int32} {h' : AH} (K : OK G E 67 RX10 cX10_drawn 11) (Z : RT G E (some .int) (some (.int rv)) h') (p0 : Int32) (p1 : Int32) (p2 : Int32) (Q80 : Int32 → Int32 → Int32 → Int32 → Int32 → Int32 → Int32 → AH → Option (Int32 × AH)) (hQ80 : ∀ (x2 : Int32) (x3 : Int32) (x4 : Int32) (x5 : Int32) (x6 : Int32) (x7 : Int32) (x8 : Int32) (h : AH), Q80 x2 x3 x4 x5 x6 x7 x8 h = some (rv, h') → JJ G E 11 80 [(0, .ref 59), (2, .int x2), (3, .int x3), (4, .int x4), (5, .int x5), (6, .int x6), (7, .int x7), (8, .int x8)] [] h) : ∀ (n : Nat) (x2 : Int32) (x3 : Int32) (x4 : Int32) (x5 : Int32) (x6 : Int32) (x7 : Int32) (x8 : Int32) (x9 : Int32) (x10 : Int32) (h : AH), fX10_drawn_204 p0 p1 p2 Q80 n x2 x3 x4 x5 x6 x7 x8 x9 x10 h = some (rv, h') → JJ G E 11 204 [(0, .ref 59), (2, .int x2), (3, .int x3), (4, .int x4), (5, .int x5), (6, .int x6), (7, .int x7), (8, .int x8), (9, .int x9), (10, .int x10)] [] h := by
  intro n
  induction n with
  | zero => intro x2 x3 x4 x5 x6 x7 x8 x9 x10 h hf; cases hf
  | succ n ih => intro x2 x3 x4 x5 x6 x7 x8 x9 x10 h hf; exact sX10_drawn_204_b K Z p0 p1 p2 Q80 hQ80 _ (fun x2 x3 x4 x5 x6 x7 x8 x9 x10 h hf => ih x2 x3 x4 x5 x6 x7 x8 x9 x10 h hf) x2 x3 x4 x5 x6 x7 x8 x9 x10 h hf
def fX10_drawn_188 (p0 : Int32) (p1 : Int32) (p2 : Int32) (Q80 : Int32 → Int32 → Int32 → Int32 → Int32 → Int32 → Int32 → AH → Option (Int32 × AH)) (Q98 : Int32 → Int32 → Int32 → Int32 → Int32 → Int32 → Int32 → Int32 → AH → Option (Int32 × AH)) (x2 : Int32) (x3 : Int32) (x4 : Int32) (x5 : Int32) (x6 : Int32) (x7 : Int32) (x8 : Int32) (x9 : Int32) (h : AH) : Option (Int32 × AH) :=
  bindV (fX10_goMinute  h) fun h51_ => Q98 x2 x3 x4 x5 x6 x7 x8 (x9 + 1) h51_
set_option maxRecDepth 10000 in
theorem sX10_drawn_188 {G : GG} {E : EE} {rv : Int32} {h' : AH} (K : OK G E 67 RX10 cX10_drawn 11) (Z : RT G E (some .int) (some (.int rv)) h') (p0 : Int32) (p1 : Int32) (p2 : Int32) (Q80 : Int32 → Int32 → Int32 → Int32 → Int32 → Int32 → Int32 → AH → Option (Int32 × AH)) (hQ80 : ∀ (x2 : Int32) (x3 : Int32) (x4 : Int32) (x5 : Int32) (x6 : Int32) (x7 : Int32) (x8 : Int32) (h : AH), Q80 x2 x3 x4 x5 x6 x7 x8 h = some (rv, h') → JJ G E 11 80 [(0, .ref 59), (2, .int x2), (3, .int x3), (4, .int x4), (5, .int x5), (6, .int x6), (7, .int x7), (8, .int x8)] [] h) (Q98 : Int32 → Int32 → Int32 → Int32 → Int32 → Int32 → Int32 → Int32 → AH → Option (Int32 × AH)) (hQ98 : ∀ (x2 : Int32) (x3 : Int32) (x4 : Int32) (x5 : Int32) (x6 : Int32) (x7 : Int32) (x8 : Int32) (x9 : Int32) (h : AH), Q98 x2 x3 x4 x5 x6 x7 x8 x9 h = some (rv, h') → JJ G E 11 98 [(0, .ref 59), (2, .int x2), (3, .int x3), (4, .int x4), (5, .int x5), (6, .int x6), (7, .int x7), (8, .int x8), (9, .int x9)] [] h) (x2 : Int32) (x3 : Int32) (x4 : Int32) (x5 : Int32) (x6 : Int32) (x7 : Int32) (x8 : Int32) (x9 : Int32) (h : AH) (hf : fX10_drawn_188 p0 p1 p2 Q80 Q98 x2 x3 x4 x5 x6 x7 x8 x9 h = some (rv, h')) : JJ G E 11 188 [(0, .ref 59), (2, .int x2), (3, .int x3), (4, .int x4), (5, .int x5), (6, .int x6), (7, .int x7), (8, .int x8), (9, .int x9)] [] h := by
  unfold fX10_drawn_188 at hf
  refine r_aload_n K dX10_drawn_188 0 rfl rfl ?_
  obtain ⟨h51_, g52_, hf⟩ := e_v hf
  refine r_callV (av := []) (st := []) K lkX10_212 mwX10_goMinute (conX10_goMinute  h h51_ g52_) dX10_drawn_189 rfl (Nat.le_of_ble_eq_true rfl) rfl rfl (Nat.le_of_ble_eq_true rfl) ?_
  refine r_iinc (y := 1) (lv' := [(9, .int (x9 + 1)), (0, .ref 59), (2, .int x2), (3, .int x3), (4, .int x4), (5, .int x5), (6, .int x6), (7, .int x7), (8, .int x8)]) K dX10_drawn_192 8 rfl rfl (Nat.le_of_ble_eq_true rfl) rfl ?_
  refine r_goto (tgt := 98) K dX10_drawn_195 (by decide) ?_
  refine r_lv [1, 2, 3, 4, 5, 6, 7, 8, 0] rfl ?_
  exact hQ98 x2 x3 x4 x5 x6 x7 x8 (x9 + 1) h51_ hf
def fX10_drawn_98_b (p0 : Int32) (p1 : Int32) (p2 : Int32) (Q80 : Int32 → Int32 → Int32 → Int32 → Int32 → Int32 → Int32 → AH → Option (Int32 × AH)) (Q98 : Int32 → Int32 → Int32 → Int32 → Int32 → Int32 → Int32 → Int32 → AH → Option (Int32 × AH)) (x2 : Int32) (x3 : Int32) (x4 : Int32) (x5 : Int32) (x6 : Int32) (x7 : Int32) (x8 : Int32) (x9 : Int32) (h : AH) : Option (Int32 × AH) :=
  if x4 ≤ x9 then fX10_drawn_204 p0 p1 p2 Q80 FU x2 x3 x4 x5 x6 x7 x8 0 0 h else if (h.1 59 2) ≤ 0 then fX10_drawn_204 p0 p1 p2 Q80 FU x2 x3 x4 x5 x6 x7 x8 0 0 h else letV (((x6 * 1103515245) + 12345)) fun x44_ => if (h.1 59 2) = 0 then none else letV ((jrem (jushr x44_ 8) (h.1 59 2))) fun x47_ => if x5 ≤ (jrem (jushr x44_ 24) 12) then fX10_drawn_188 p0 p1 p2 Q80 Q98 x2 x3 x4 x5 x44_ x7 x8 x9 h else bind2 (fX10_isHere x47_ h) fun r53_ h54_ => if r53_ = 0 then fX10_drawn_188 p0 p1 p2 Q80 Q98 x2 x3 x4 x5 x44_ x7 x8 x9 h54_ else bind2 (fX10_number x47_ 0 h54_) fun r57_ h58_ => bindV (fX10_change x47_ 0 (jmin 99 ((r57_ + 1) + (jrem (jushr x44_ 16) 20))) h58_) fun h61_ => fX10_drawn_188 p0 p1 p2 Q80 Q98 x2 x3 x4 x5 x44_ x7 x8 x9 h61_
def fX10_drawn_98 (p0 : Int32) (p1 : Int32) (p2 : Int32) (Q80 : Int32 → Int32 → Int32 → Int32 → Int32 → Int32 → Int32 → AH → Option (Int32 × AH)) : Nat → Int32 → Int32 → Int32 → Int32 → Int32 → Int32 → Int32 → Int32 → AH → Option (Int32 × AH)
  | 0 => fun _ _ _ _ _ _ _ _ _ => none
  | n + 1 => fX10_drawn_98_b p0 p1 p2 Q80 (fX10_drawn_98 p0 p1 p2 Q80 n)
set_option maxRecDepth 10000 in
theorem sX10_drawn_98_b {G : GG} {E : EE} {rv : Int32} {h' : AH} (K : OK G E 67 RX10 cX10_drawn 11) (Z : RT G E (some .int) (some (.int rv)) h') (p0 : Int32) (p1 : Int32) (p2 : Int32) (Q80 : Int32 → Int32 → Int32 → Int32 → Int32 → Int32 → Int32 → AH → Option (Int32 × AH)) (hQ80 : ∀ (x2 : Int32) (x3 : Int32) (x4 : Int32) (x5 : Int32) (x6 : Int32) (x7 : Int32) (x8 : Int32) (h : AH), Q80 x2 x3 x4 x5 x6 x7 x8 h = some (rv, h') → JJ G E 11 80 [(0, .ref 59), (2, .int x2), (3, .int x3), (4, .int x4), (5, .int x5), (6, .int x6), (7, .int x7), (8, .int x8)] [] h) (Q98 : Int32 → Int32 → Int32 → Int32 → Int32 → Int32 → Int32 → Int32 → AH → Option (Int32 × AH)) (hQ98 : ∀ (x2 : Int32) (x3 : Int32) (x4 : Int32) (x5 : Int32) (x6 : Int32) (x7 : Int32) (x8 : Int32) (x9 : Int32) (h : AH), Q98 x2 x3 x4 x5 x6 x7 x8 x9 h = some (rv, h') → JJ G E 11 98 [(0, .ref 59), (2, .int x2), (3, .int x3), (4, .int x4), (5, .int x5), (6, .int x6), (7, .int x7), (8, .int x8), (9, .int x9)] [] h) (x2 : Int32) (x3 : Int32) (x4 : Int32) (x5 : Int32) (x6 : Int32) (x7 : Int32) (x8 : Int32) (x9 : Int32) (h : AH) (hf : fX10_drawn_98_b p0 p1 p2 Q80 Q98 x2 x3 x4 x5 x6 x7 x8 x9 h = some (rv, h')) : JJ G E 11 98 [(0, .ref 59), (2, .int x2), (3, .int x3), (4, .int x4), (5, .int x5), (6, .int x6), (7, .int x7), (8, .int x8), (9, .int x9)] [] h := by
  unfold fX10_drawn_98_b at hf
  refine r_iload K dX10_drawn_98 8 rfl ?_
  refine r_iload K dX10_drawn_100 3 rfl ?_
  refine r_icmp_ge (tgt := 198) K dX10_drawn_102 (by decide) (fun c26_ => ?_) (fun c26_ => ?_)
  · have hf := e_t hf c26_
    refine r_iconst (v := 0) K dX10_drawn_198 rfl ?_
    refine r_istore (lv' := [(9, .int 0), (0, .ref 59), (2, .int x2), (3, .int x3), (4, .int x4), (5, .int x5), (6, .int x6), (7, .int x7), (8, .int x8)]) K dX10_drawn_199 (Nat.le_of_ble_eq_true rfl) rfl ?_
    refine r_iconst (v := 0) K dX10_drawn_201 rfl ?_
    refine r_istore (lv' := [(10, .int 0), (9, .int 0), (0, .ref 59), (2, .int x2), (3, .int x3), (4, .int x4), (5, .int x5), (6, .int x6), (7, .int x7), (8, .int x8)]) K dX10_drawn_202 (Nat.le_of_ble_eq_true rfl) rfl ?_
    refine r_lv [2, 3, 4, 5, 6, 7, 8, 9, 1, 0] rfl ?_
    exact sX10_drawn_204 K Z p0 p1 p2 Q80 hQ80 FU x2 x3 x4 x5 x6 x7 x8 0 0 h hf
  · have hf := e_f hf c26_
    refine r_aload_n K dX10_drawn_105 0 rfl rfl ?_
    refine r_getI K flX10_103 dX10_drawn_106 rfl rfl ?_
    refine r_if_le (tgt := 198) K dX10_drawn_109 (by decide) (fun c43_ => ?_) (fun c43_ => ?_)
    · have hf := e_t hf c43_
      refine r_iconst (v := 0) K dX10_drawn_198 rfl ?_
      refine r_istore (lv' := [(9, .int 0), (0, .ref 59), (2, .int x2), (3, .int x3), (4, .int x4), (5, .int x5), (6, .int x6), (7, .int x7), (8, .int x8)]) K dX10_drawn_199 (Nat.le_of_ble_eq_true rfl) rfl ?_
      refine r_iconst (v := 0) K dX10_drawn_201 rfl ?_
      refine r_istore (lv' := [(10, .int 0), (9, .int 0), (0, .ref 59), (2, .int x2), (3, .int x3), (4, .int x4), (5, .int x5), (6, .int x6), (7, .int x7), (8, .int x8)]) K dX10_drawn_202 (Nat.le_of_ble_eq_true rfl) rfl ?_
      refine r_lv [2, 3, 4, 5, 6, 7, 8, 9, 1, 0] rfl ?_
      exact sX10_drawn_204 K Z p0 p1 p2 Q80 hQ80 FU x2 x3 x4 x5 x6 x7 x8 0 0 h hf
    · have hf := e_f hf c43_
      refine r_iload K dX10_drawn_112 5 rfl ?_
      refine r_ldcw (v := 1103515245) K dX10_drawn_114 lcX10_278 ?_
      refine r_imul K dX10_drawn_117 ?_
      refine r_sipush (v := 12345) K dX10_drawn_118 rfl ?_
      refine r_iadd K dX10_drawn_121 ?_
      obtain ⟨x44_, e45_, hf⟩ := e_l hf
      refine r_nmI e45_ ?_
      refine r_istore (lv' := [(6, .int x44_), (0, .ref 59), (2, .int x2), (3, .int x3), (4, .int x4), (5, .int x5), (7, .int x7), (8, .int x8), (9, .int x9)]) K dX10_drawn_122 (Nat.le_of_ble_eq_true rfl) rfl ?_
      refine r_iload K dX10_drawn_124 0 rfl ?_
      refine r_bipush (v := 8) K dX10_drawn_126 rfl ?_
      refine r_iushr K dX10_drawn_128 ?_
      refine r_aload_n K dX10_drawn_129 1 rfl rfl ?_
      refine r_getI K flX10_103 dX10_drawn_130 rfl rfl ?_
      obtain ⟨g46_, hf⟩ := e_n hf
      refine r_irem K dX10_drawn_133 g46_ ?_
      obtain ⟨x47_, e48_, hf⟩ := e_l hf
      refine r_nmI e48_ ?_
      refine r_istore (lv' := [(10, .int x47_), (6, .int x44_), (0, .ref 59), (2, .int x2), (3, .int x3), (4, .int x4), (5, .int x5), (7, .int x7), (8, .int x8), (9, .int x9)]) K dX10_drawn_134 (Nat.le_of_ble_eq_true rfl) rfl ?_
      refine r_iload K dX10_drawn_136 1 rfl ?_
      refine r_bipush (v := 24) K dX10_drawn_138 rfl ?_
      refine r_iushr K dX10_drawn_140 ?_
      refine r_bipush (v := 12) K dX10_drawn_141 rfl ?_
      refine r_irem K dX10_drawn_143 (by decide) ?_
      refine r_iload K dX10_drawn_144 6 rfl ?_
      refine r_icmp_ge (tgt := 188) K dX10_drawn_146 (by decide) (fun c49_ => ?_) (fun c49_ => ?_)
      · have hf := e_t hf c49_
        refine r_lv [2, 3, 4, 5, 6, 1, 7, 8, 9] rfl ?_
        exact sX10_drawn_188 K Z p0 p1 p2 Q80 hQ80 Q98 hQ98 x2 x3 x4 x5 x44_ x7 x8 x9 h hf
      · have hf := e_f hf c49_
        refine r_aload_n K dX10_drawn_149 2 rfl rfl ?_
        refine r_iload K dX10_drawn_150 0 rfl ?_
        obtain ⟨r53_, h54_, g55_, hf⟩ := e_2 hf
        refine r_callV (av := [.int x47_]) (st := []) K lkX10_197 mwX10_isHere (conX10_isHere x47_ h r53_ h54_ g55_) dX10_drawn_152 rfl (Nat.le_of_ble_eq_true rfl) rfl rfl (Nat.le_of_ble_eq_true rfl) ?_
        refine r_if_eq (tgt := 188) K dX10_drawn_155 (by decide) (fun c56_ => ?_) (fun c56_ => ?_)
        · have hf := e_t hf c56_
          refine r_lv [2, 3, 4, 5, 6, 1, 7, 8, 9] rfl ?_
          exact sX10_drawn_188 K Z p0 p1 p2 Q80 hQ80 Q98 hQ98 x2 x3 x4 x5 x44_ x7 x8 x9 h54_ hf
        · have hf := e_f hf c56_
          refine r_aload_n K dX10_drawn_158 2 rfl rfl ?_
          refine r_iload K dX10_drawn_159 0 rfl ?_
          refine r_iconst (v := 0) K dX10_drawn_161 rfl ?_
          refine r_bipush (v := 99) K dX10_drawn_162 rfl ?_
          refine r_aload_n K dX10_drawn_164 2 rfl rfl ?_
          refine r_iload K dX10_drawn_165 0 rfl ?_
          refine r_iconst (v := 0) K dX10_drawn_167 rfl ?_
          obtain ⟨r57_, h58_, g59_, hf⟩ := e_2 hf
          refine r_callV (av := [.int x47_, .int 0]) (st := [.int 99, .int 0, .int x47_, .ref 59]) K lkX10_110 mwX10_number (conX10_number x47_ 0 h54_ r57_ h58_ g59_) dX10_drawn_168 rfl (Nat.le_of_ble_eq_true rfl) rfl rfl (Nat.le_of_ble_eq_true rfl) ?_
          refine r_iconst (v := 1) K dX10_drawn_171 rfl ?_
          refine r_iadd K dX10_drawn_172 ?_
          refine r_iload K dX10_drawn_173 1 rfl ?_
          refine r_bipush (v := 16) K dX10_drawn_175 rfl ?_
          refine r_iushr K dX10_drawn_177 ?_
          refine r_bipush (v := 20) K dX10_drawn_178 rfl ?_
          refine r_irem K dX10_drawn_180 (by decide) ?_
          refine r_iadd K dX10_drawn_181 ?_
          refine r_mmin K lmX10_94 dX10_drawn_182 (Nat.le_of_ble_eq_true rfl) (Nat.le_of_ble_eq_true rfl) ?_
          obtain ⟨h61_, g62_, hf⟩ := e_v hf
          refine r_callV (av := [.int x47_, .int 0, .int (jmin 99 ((r57_ + 1) + (jrem (jushr x44_ 16) 20)))]) (st := []) K lkX10_113 mwX10_change (conX10_change x47_ 0 (jmin 99 ((r57_ + 1) + (jrem (jushr x44_ 16) 20))) h58_ h61_ g62_) dX10_drawn_185 rfl (Nat.le_of_ble_eq_true rfl) rfl rfl (Nat.le_of_ble_eq_true rfl) ?_
          refine r_lv [2, 3, 4, 5, 6, 1, 7, 8, 9] rfl ?_
          exact sX10_drawn_188 K Z p0 p1 p2 Q80 hQ80 Q98 hQ98 x2 x3 x4 x5 x44_ x7 x8 x9 h61_ hf
theorem sX10_drawn_98 {G : GG} {E : EE} {rv : Int32} {h' : AH} (K : OK G E 67 RX10 cX10_drawn 11) (Z : RT G E (some .int) (some (.int rv)) h') (p0 : Int32) (p1 : Int32) (p2 : Int32) (Q80 : Int32 → Int32 → Int32 → Int32 → Int32 → Int32 → Int32 → AH → Option (Int32 × AH)) (hQ80 : ∀ (x2 : Int32) (x3 : Int32) (x4 : Int32) (x5 : Int32) (x6 : Int32) (x7 : Int32) (x8 : Int32) (h : AH), Q80 x2 x3 x4 x5 x6 x7 x8 h = some (rv, h') → JJ G E 11 80 [(0, .ref 59), (2, .int x2), (3, .int x3), (4, .int x4), (5, .int x5), (6, .int x6), (7, .int x7), (8, .int x8)] [] h) : ∀ (n : Nat) (x2 : Int32) (x3 : Int32) (x4 : Int32) (x5 : Int32) (x6 : Int32) (x7 : Int32) (x8 : Int32) (x9 : Int32) (h : AH), fX10_drawn_98 p0 p1 p2 Q80 n x2 x3 x4 x5 x6 x7 x8 x9 h = some (rv, h') → JJ G E 11 98 [(0, .ref 59), (2, .int x2), (3, .int x3), (4, .int x4), (5, .int x5), (6, .int x6), (7, .int x7), (8, .int x8), (9, .int x9)] [] h := by
  intro n
  induction n with
  | zero => intro x2 x3 x4 x5 x6 x7 x8 x9 h hf; cases hf
  | succ n ih => intro x2 x3 x4 x5 x6 x7 x8 x9 h hf; exact sX10_drawn_98_b K Z p0 p1 p2 Q80 hQ80 _ (fun x2 x3 x4 x5 x6 x7 x8 x9 h hf => ih x2 x3 x4 x5 x6 x7 x8 x9 h hf) x2 x3 x4 x5 x6 x7 x8 x9 h hf
def fX10_drawn_80_b (p0 : Int32) (p1 : Int32) (p2 : Int32) (Q80 : Int32 → Int32 → Int32 → Int32 → Int32 → Int32 → Int32 → AH → Option (Int32 × AH)) (x2 : Int32) (x3 : Int32) (x4 : Int32) (x5 : Int32) (x6 : Int32) (x7 : Int32) (x8 : Int32) (h : AH) : Option (Int32 × AH) :=
  if (x2 / 10000) ≤ x8 then some (x7, h) else bindV (fX10_keepAll 0 h) fun h24_ => fX10_drawn_98 p0 p1 p2 Q80 FU x2 x3 x4 x5 x6 x7 x8 0 h24_
def fX10_drawn_80 (p0 : Int32) (p1 : Int32) (p2 : Int32) : Nat → Int32 → Int32 → Int32 → Int32 → Int32 → Int32 → Int32 → AH → Option (Int32 × AH)
  | 0 => fun _ _ _ _ _ _ _ _ => none
  | n + 1 => fX10_drawn_80_b p0 p1 p2 (fX10_drawn_80 p0 p1 p2 n)
set_option maxRecDepth 10000 in
theorem sX10_drawn_80_b {G : GG} {E : EE} {rv : Int32} {h' : AH} (K : OK G E 67 RX10 cX10_drawn 11) (Z : RT G E (some .int) (some (.int rv)) h') (p0 : Int32) (p1 : Int32) (p2 : Int32) (Q80 : Int32 → Int32 → Int32 → Int32 → Int32 → Int32 → Int32 → AH → Option (Int32 × AH)) (hQ80 : ∀ (x2 : Int32) (x3 : Int32) (x4 : Int32) (x5 : Int32) (x6 : Int32) (x7 : Int32) (x8 : Int32) (h : AH), Q80 x2 x3 x4 x5 x6 x7 x8 h = some (rv, h') → JJ G E 11 80 [(0, .ref 59), (2, .int x2), (3, .int x3), (4, .int x4), (5, .int x5), (6, .int x6), (7, .int x7), (8, .int x8)] [] h) (x2 : Int32) (x3 : Int32) (x4 : Int32) (x5 : Int32) (x6 : Int32) (x7 : Int32) (x8 : Int32) (h : AH) (hf : fX10_drawn_80_b p0 p1 p2 Q80 x2 x3 x4 x5 x6 x7 x8 h = some (rv, h')) : JJ G E 11 80 [(0, .ref 59), (2, .int x2), (3, .int x3), (4, .int x4), (5, .int x5), (6, .int x6), (7, .int x7), (8, .int x8)] [] h := by
  unfold fX10_drawn_80_b at hf
  refine r_iload K dX10_drawn_80 7 rfl ?_
  refine r_iload_n K dX10_drawn_82 1 rfl rfl ?_
  refine r_sipush (v := 10000) K dX10_drawn_83 rfl ?_
  refine r_idiv K dX10_drawn_86 (by decide) ?_
  refine r_icmp_ge (tgt := 270) K dX10_drawn_87 (by decide) (fun c22_ => ?_) (fun c22_ => ?_)
  · have hf := e_t hf c22_
    refine r_iload K dX10_drawn_270 6 rfl ?_
    exact r_iret K Z dX10_drawn_272 hf
  · have hf := e_f hf c22_
    refine r_aload_n K dX10_drawn_90 0 rfl rfl ?_
    refine r_iconst (v := 0) K dX10_drawn_91 rfl ?_
    obtain ⟨h24_, g25_, hf⟩ := e_v hf
    refine r_callV (av := [.int 0]) (st := []) K lkX10_222 mwX10_keepAll (conX10_keepAll 0 h h24_ g25_) dX10_drawn_92 rfl (Nat.le_of_ble_eq_true rfl) rfl rfl (Nat.le_of_ble_eq_true rfl) ?_
    refine r_iconst (v := 0) K dX10_drawn_95 rfl ?_
    refine r_istore (lv' := [(9, .int 0), (0, .ref 59), (2, .int x2), (3, .int x3), (4, .int x4), (5, .int x5), (6, .int x6), (7, .int x7), (8, .int x8)]) K dX10_drawn_96 (Nat.le_of_ble_eq_true rfl) rfl ?_
    refine r_lv [1, 2, 3, 4, 5, 6, 7, 8, 0] rfl ?_
    exact sX10_drawn_98 K Z p0 p1 p2 Q80 hQ80 FU x2 x3 x4 x5 x6 x7 x8 0 h24_ hf
theorem sX10_drawn_80 {G : GG} {E : EE} {rv : Int32} {h' : AH} (K : OK G E 67 RX10 cX10_drawn 11) (Z : RT G E (some .int) (some (.int rv)) h') (p0 : Int32) (p1 : Int32) (p2 : Int32) : ∀ (n : Nat) (x2 : Int32) (x3 : Int32) (x4 : Int32) (x5 : Int32) (x6 : Int32) (x7 : Int32) (x8 : Int32) (h : AH), fX10_drawn_80 p0 p1 p2 n x2 x3 x4 x5 x6 x7 x8 h = some (rv, h') → JJ G E 11 80 [(0, .ref 59), (2, .int x2), (3, .int x3), (4, .int x4), (5, .int x5), (6, .int x6), (7, .int x7), (8, .int x8)] [] h := by
  intro n
  induction n with
  | zero => intro x2 x3 x4 x5 x6 x7 x8 h hf; cases hf
  | succ n ih => intro x2 x3 x4 x5 x6 x7 x8 h hf; exact sX10_drawn_80_b K Z p0 p1 p2 _ (fun x2 x3 x4 x5 x6 x7 x8 h hf => ih x2 x3 x4 x5 x6 x7 x8 h hf) x2 x3 x4 x5 x6 x7 x8 h hf
def fX10_drawn (p0 : Int32) (p1 : Int32) (p2 : Int32) (h : AH) : Option (Int32 × AH) :=
  letV ((jrem (p1 / 100) 100)) fun x1_ => letV ((jrem p1 100)) fun x3_ => if p1 < 0 then some ((-1), h) else bind2 (fX10_isIn (p1 / 10000) 1 30 h) fun r6_ h7_ => if r6_ = 0 then some ((-1), h7_) else bind2 (fX10_isIn x1_ 1 60 h7_) fun r10_ h11_ => if r10_ = 0 then some ((-1), h11_) else bind2 (fX10_isIn x3_ 0 12 h11_) fun r14_ h15_ => if r14_ = 0 then some ((-1), h15_) else bind2 (fX10_isIn p2 (-1) ((h15_.1 59 2) - 1) h15_) fun r18_ h19_ => if r18_ = 0 then some ((-1), h19_) else fX10_drawn_80 p0 p1 p2 FU p1 p2 x1_ x3_ p0 0 0 h19_
set_option maxRecDepth 10000 in
theorem sX10_drawn {G : GG} {E : EE} {rv : Int32} {h' : AH} (K : OK G E 67 RX10 cX10_drawn 11) (Z : RT G E (some .int) (some (.int rv)) h') (p0 : Int32) (p1 : Int32) (p2 : Int32) (h : AH) (hf : fX10_drawn p0 p1 p2 h = some (rv, h')) : JJ G E 11 0 [(0, .ref 59), (1, .int p0), (2, .int p1), (3, .int p2)] [] h := by
  unfold fX10_drawn at hf
  refine r_iload_n K dX10_drawn_0 2 rfl rfl ?_
  refine r_bipush (v := 100) K dX10_drawn_1 rfl ?_
  refine r_idiv K dX10_drawn_3 (by decide) ?_
  refine r_bipush (v := 100) K dX10_drawn_4 rfl ?_
  refine r_irem K dX10_drawn_6 (by decide) ?_
  obtain ⟨x1_, e2_, hf⟩ := e_l hf
  refine r_nmI e2_ ?_
  refine r_istore (lv' := [(4, .int x1_), (0, .ref 59), (1, .int p0), (2, .int p1), (3, .int p2)]) K dX10_drawn_7 (Nat.le_of_ble_eq_true rfl) rfl ?_
  refine r_iload_n K dX10_drawn_9 3 rfl rfl ?_
  refine r_bipush (v := 100) K dX10_drawn_10 rfl ?_
  refine r_irem K dX10_drawn_12 (by decide) ?_
  obtain ⟨x3_, e4_, hf⟩ := e_l hf
  refine r_nmI e4_ ?_
  refine r_istore (lv' := [(5, .int x3_), (4, .int x1_), (0, .ref 59), (1, .int p0), (2, .int p1), (3, .int p2)]) K dX10_drawn_13 (Nat.le_of_ble_eq_true rfl) rfl ?_
  refine r_iload_n K dX10_drawn_15 4 rfl rfl ?_
  refine r_if_lt (tgt := 69) K dX10_drawn_16 (by decide) (fun c5_ => ?_) (fun c5_ => ?_)
  · have hf := e_t hf c5_
    refine r_iconst (v := (-1)) K dX10_drawn_69 rfl ?_
    exact r_iret K Z dX10_drawn_70 hf
  · have hf := e_f hf c5_
    refine r_iload_n K dX10_drawn_19 4 rfl rfl ?_
    refine r_sipush (v := 10000) K dX10_drawn_20 rfl ?_
    refine r_idiv K dX10_drawn_23 (by decide) ?_
    refine r_iconst (v := 1) K dX10_drawn_24 rfl ?_
    refine r_bipush (v := 30) K dX10_drawn_25 rfl ?_
    obtain ⟨r6_, h7_, g8_, hf⟩ := e_2 hf
    refine r_callS (av := [.int (p1 / 10000), .int 1, .int 30]) (st := []) K lkX10_106 mwX10_isIn (conX10_isIn (p1 / 10000) 1 30 h r6_ h7_ g8_) dX10_drawn_27 (Nat.le_of_ble_eq_true rfl) rfl rfl (Nat.le_of_ble_eq_true rfl) ?_
    refine r_if_eq (tgt := 69) K dX10_drawn_30 (by decide) (fun c9_ => ?_) (fun c9_ => ?_)
    · have hf := e_t hf c9_
      refine r_iconst (v := (-1)) K dX10_drawn_69 rfl ?_
      exact r_iret K Z dX10_drawn_70 hf
    · have hf := e_f hf c9_
      refine r_iload K dX10_drawn_33 1 rfl ?_
      refine r_iconst (v := 1) K dX10_drawn_35 rfl ?_
      refine r_bipush (v := 60) K dX10_drawn_36 rfl ?_
      obtain ⟨r10_, h11_, g12_, hf⟩ := e_2 hf
      refine r_callS (av := [.int x1_, .int 1, .int 60]) (st := []) K lkX10_106 mwX10_isIn (conX10_isIn x1_ 1 60 h7_ r10_ h11_ g12_) dX10_drawn_38 (Nat.le_of_ble_eq_true rfl) rfl rfl (Nat.le_of_ble_eq_true rfl) ?_
      refine r_if_eq (tgt := 69) K dX10_drawn_41 (by decide) (fun c13_ => ?_) (fun c13_ => ?_)
      · have hf := e_t hf c13_
        refine r_iconst (v := (-1)) K dX10_drawn_69 rfl ?_
        exact r_iret K Z dX10_drawn_70 hf
      · have hf := e_f hf c13_
        refine r_iload K dX10_drawn_44 0 rfl ?_
        refine r_iconst (v := 0) K dX10_drawn_46 rfl ?_
        refine r_bipush (v := 12) K dX10_drawn_47 rfl ?_
        obtain ⟨r14_, h15_, g16_, hf⟩ := e_2 hf
        refine r_callS (av := [.int x3_, .int 0, .int 12]) (st := []) K lkX10_106 mwX10_isIn (conX10_isIn x3_ 0 12 h11_ r14_ h15_ g16_) dX10_drawn_49 (Nat.le_of_ble_eq_true rfl) rfl rfl (Nat.le_of_ble_eq_true rfl) ?_
        refine r_if_eq (tgt := 69) K dX10_drawn_52 (by decide) (fun c17_ => ?_) (fun c17_ => ?_)
        · have hf := e_t hf c17_
          refine r_iconst (v := (-1)) K dX10_drawn_69 rfl ?_
          exact r_iret K Z dX10_drawn_70 hf
        · have hf := e_f hf c17_
          refine r_iload_n K dX10_drawn_55 5 rfl rfl ?_
          refine r_iconst (v := (-1)) K dX10_drawn_56 rfl ?_
          refine r_aload_n K dX10_drawn_57 2 rfl rfl ?_
          refine r_getI K flX10_103 dX10_drawn_58 rfl rfl ?_
          refine r_iconst (v := 1) K dX10_drawn_61 rfl ?_
          refine r_isub K dX10_drawn_62 ?_
          obtain ⟨r18_, h19_, g20_, hf⟩ := e_2 hf
          refine r_callS (av := [.int p2, .int (-1), .int ((h15_.1 59 2) - 1)]) (st := []) K lkX10_106 mwX10_isIn (conX10_isIn p2 (-1) ((h15_.1 59 2) - 1) h15_ r18_ h19_ g20_) dX10_drawn_63 (Nat.le_of_ble_eq_true rfl) rfl rfl (Nat.le_of_ble_eq_true rfl) ?_
          refine r_if_ne (tgt := 71) K dX10_drawn_66 (by decide) (fun c21_ => ?_) (fun c21_ => ?_)
          · have hf := e_f hf c21_
            refine r_iload_n K dX10_drawn_71 3 rfl rfl ?_
            refine r_istore (lv' := [(6, .int p0), (5, .int x3_), (4, .int x1_), (0, .ref 59), (1, .int p0), (2, .int p1), (3, .int p2)]) K dX10_drawn_72 (Nat.le_of_ble_eq_true rfl) rfl ?_
            refine r_iconst (v := 0) K dX10_drawn_74 rfl ?_
            refine r_istore (lv' := [(7, .int 0), (6, .int p0), (5, .int x3_), (4, .int x1_), (0, .ref 59), (1, .int p0), (2, .int p1), (3, .int p2)]) K dX10_drawn_75 (Nat.le_of_ble_eq_true rfl) rfl ?_
            refine r_iconst (v := 0) K dX10_drawn_77 rfl ?_
            refine r_istore (lv' := [(8, .int 0), (7, .int 0), (6, .int p0), (5, .int x3_), (4, .int x1_), (0, .ref 59), (1, .int p0), (2, .int p1), (3, .int p2)]) K dX10_drawn_78 (Nat.le_of_ble_eq_true rfl) rfl ?_
            refine r_lv [5, 7, 8, 4, 3, 2, 1, 0] rfl ?_
            exact sX10_drawn_80 K Z p0 p1 p2 FU p1 p2 x1_ x3_ p0 0 0 h19_ hf
          · have hf := e_t hf c21_
            refine r_iconst (v := (-1)) K dX10_drawn_69 rfl ?_
            exact r_iret K Z dX10_drawn_70 hf
theorem conX10_drawn {G : GG} (p0 : Int32) (p1 : Int32) (p2 : Int32) (h : AH) (rv : Int32) (h' : AH) (hf : fX10_drawn p0 p1 p2 h = some (rv, h')) : Con G 67 yX10_drawn cX10_drawn 11 (some .int) [.ref 59, .int p0, .int p1, .int p2] h (some (.int rv)) h' := con_of mwX10_drawn (Nat.le_of_ble_eq_true rfl) (fun E K Z => sX10_drawn K Z p0 p1 p2 h hf)
def fX10_isShelf (p0 : Int32) (h : AH) : Option (Int32 × AH) :=
  bind2 (fX10_isIn p0 0 5 h) fun r1_ h2_ => if isB r1_ = true then some (r1_, h2_) else none
set_option maxRecDepth 10000 in
theorem sX10_isShelf {G : GG} {E : EE} {rv : Int32} {h' : AH} (K : OK G E 1 RX10 cX10_isShelf 1) (Z : RT G E (some .boolean) (some (.int rv)) h') (p0 : Int32) (h : AH) (hf : fX10_isShelf p0 h = some (rv, h')) : JJ G E 1 0 [(0, .int p0)] [] h := by
  unfold fX10_isShelf at hf
  refine r_iload_n K dX10_isShelf_0 0 rfl rfl ?_
  refine r_iconst (v := 0) K dX10_isShelf_1 rfl ?_
  refine r_iconst (v := 5) K dX10_isShelf_2 rfl ?_
  obtain ⟨r1_, h2_, g3_, hf⟩ := e_2 hf
  refine r_callS (av := [.int p0, .int 0, .int 5]) (st := []) K lkX10_106 mwX10_isIn (conX10_isIn p0 0 5 h r1_ h2_ g3_) dX10_isShelf_3 (Nat.le_of_ble_eq_true rfl) rfl rfl (Nat.le_of_ble_eq_true rfl) ?_
  obtain ⟨g4_, hf⟩ := e_g hf
  exact r_zret K Z dX10_isShelf_6 g4_ hf
theorem conX10_isShelf {G : GG} (p0 : Int32) (h : AH) (rv : Int32) (h' : AH) (hf : fX10_isShelf p0 h = some (rv, h')) : Con G 1 yX10_isShelf cX10_isShelf 1 (some .boolean) [.int p0] h (some (.int rv)) h' := con_of mwX10_isShelf (Nat.le_of_ble_eq_true rfl) (fun E K Z => sX10_isShelf K Z p0 h hf)
def fX10_rowAt (p0 : Int32) (p1 : Int32) (h : AH) : Option (Int32 × AH) :=
  bind2 (fX10_isShelf p0 h) fun r1_ h2_ => if r1_ = 0 then some ((-1), h2_) else if inb p0 6 = true then if (h2_.1 75 (ix p0)) = (-1) then some ((-11), h2_) else if (h2_.1 75 (ix p0)) ≤ 4 then bind2 (fX10_isIn p1 0 ((h2_.1 76 (ix p0)) - 1) h2_) fun r10_ h11_ => if r10_ = 0 then some ((-13), h11_) else some (1, h11_) else some ((-12), h2_) else none
set_option maxRecDepth 10000 in
theorem sX10_rowAt {G : GG} {E : EE} {rv : Int32} {h' : AH} (K : OK G E 2 RX10 cX10_rowAt 3) (Z : RT G E (some .int) (some (.int rv)) h') (p0 : Int32) (p1 : Int32) (h : AH) (hf : fX10_rowAt p0 p1 h = some (rv, h')) : JJ G E 3 0 [(0, .ref 59), (1, .int p0), (2, .int p1)] [] h := by
  unfold fX10_rowAt at hf
  refine r_iload_n K dX10_rowAt_0 1 rfl rfl ?_
  obtain ⟨r1_, h2_, g3_, hf⟩ := e_2 hf
  refine r_callS (av := [.int p0]) (st := []) K lkX10_250 mwX10_isShelf (conX10_isShelf p0 h r1_ h2_ g3_) dX10_rowAt_1 (Nat.le_of_ble_eq_true rfl) rfl rfl (Nat.le_of_ble_eq_true rfl) ?_
  refine r_if_ne (tgt := 11) K dX10_rowAt_4 (by decide) (fun c4_ => ?_) (fun c4_ => ?_)
  · have hf := e_f hf c4_
    refine r_aload_n K dX10_rowAt_11 0 rfl rfl ?_
    refine r_getR (o' := 75) K flX10_60 dX10_rowAt_12 rfl rfl rfl ?_
    refine r_iload_n K dX10_rowAt_15 1 rfl rfl ?_
    obtain ⟨g5_, hf⟩ := e_g hf
    refine r_iald K dX10_rowAt_16 rfl g5_ ?_
    refine r_iconst (v := (-1)) K dX10_rowAt_17 rfl ?_
    refine r_icmp_ne (tgt := 26) K dX10_rowAt_18 (by decide) (fun c6_ => ?_) (fun c6_ => ?_)
    · have hf := e_f hf c6_
      refine r_aload_n K dX10_rowAt_26 0 rfl rfl ?_
      refine r_getR (o' := 75) K flX10_60 dX10_rowAt_27 rfl rfl rfl ?_
      refine r_iload_n K dX10_rowAt_30 1 rfl rfl ?_
      refine r_iald K dX10_rowAt_31 rfl g5_ ?_
      refine r_iconst (v := 4) K dX10_rowAt_32 rfl ?_
      refine r_icmp_le (tgt := 41) K dX10_rowAt_33 (by decide) (fun c8_ => ?_) (fun c8_ => ?_)
      · have hf := e_t hf c8_
        refine r_iload_n K dX10_rowAt_41 2 rfl rfl ?_
        refine r_iconst (v := 0) K dX10_rowAt_42 rfl ?_
        refine r_aload_n K dX10_rowAt_43 0 rfl rfl ?_
        refine r_getR (o' := 76) K flX10_63 dX10_rowAt_44 rfl rfl rfl ?_
        refine r_iload_n K dX10_rowAt_47 1 rfl rfl ?_
        refine r_iald K dX10_rowAt_48 rfl g5_ ?_
        refine r_iconst (v := 1) K dX10_rowAt_49 rfl ?_
        refine r_isub K dX10_rowAt_50 ?_
        obtain ⟨r10_, h11_, g12_, hf⟩ := e_2 hf
        refine r_callS (av := [.int p1, .int 0, .int ((h2_.1 76 (ix p0)) - 1)]) (st := []) K lkX10_106 mwX10_isIn (conX10_isIn p1 0 ((h2_.1 76 (ix p0)) - 1) h2_ r10_ h11_ g12_) dX10_rowAt_51 (Nat.le_of_ble_eq_true rfl) rfl rfl (Nat.le_of_ble_eq_true rfl) ?_
        refine r_if_ne (tgt := 62) K dX10_rowAt_54 (by decide) (fun c13_ => ?_) (fun c13_ => ?_)
        · have hf := e_f hf c13_
          refine r_iconst (v := 1) K dX10_rowAt_62 rfl ?_
          exact r_iret K Z dX10_rowAt_63 hf
        · have hf := e_t hf c13_
          refine r_bipush (v := (-13)) K dX10_rowAt_57 rfl ?_
          refine r_goto (tgt := 63) K dX10_rowAt_59 (by decide) ?_
          exact r_iret K Z dX10_rowAt_63 hf
      · have hf := e_f hf c8_
        refine r_bipush (v := (-12)) K dX10_rowAt_36 rfl ?_
        refine r_goto (tgt := 63) K dX10_rowAt_38 (by decide) ?_
        exact r_iret K Z dX10_rowAt_63 hf
    · have hf := e_t hf c6_
      refine r_bipush (v := (-11)) K dX10_rowAt_21 rfl ?_
      refine r_goto (tgt := 63) K dX10_rowAt_23 (by decide) ?_
      exact r_iret K Z dX10_rowAt_63 hf
  · have hf := e_t hf c4_
    refine r_iconst (v := (-1)) K dX10_rowAt_7 rfl ?_
    refine r_goto (tgt := 63) K dX10_rowAt_8 (by decide) ?_
    exact r_iret K Z dX10_rowAt_63 hf
theorem conX10_rowAt {G : GG} (p0 : Int32) (p1 : Int32) (h : AH) (rv : Int32) (h' : AH) (hf : fX10_rowAt p0 p1 h = some (rv, h')) : Con G 2 yX10_rowAt cX10_rowAt 3 (some .int) [.ref 59, .int p0, .int p1] h (some (.int rv)) h' := con_of mwX10_rowAt (Nat.le_of_ble_eq_true rfl) (fun E K Z => sX10_rowAt K Z p0 p1 h hf)
def fX10_element (p0 : Int32) (p1 : Int32) (h : AH) : Option (Int64 × AH) :=
  bind2 (fX10_rowAt p0 p1 h) fun r1_ h2_ => if r1_ = 1 then if inb ((60 * p0) + p1) 360 = true then some ((h2_.2 77 (ix ((60 * p0) + p1))), h2_) else none else some ((-9223372036854775808), h2_)
set_option maxRecDepth 10000 in
theorem sX10_element {G : GG} {E : EE} {rv : Int64} {h' : AH} (K : OK G E 3 RX10 cX10_element 3) (Z : RT G E (some .long) (some (.long rv)) h') (p0 : Int32) (p1 : Int32) (h : AH) (hf : fX10_element p0 p1 h = some (rv, h')) : JJ G E 3 0 [(0, .ref 59), (1, .int p0), (2, .int p1)] [] h := by
  unfold fX10_element at hf
  refine r_aload_n K dX10_element_0 0 rfl rfl ?_
  refine r_iload_n K dX10_element_1 1 rfl rfl ?_
  refine r_iload_n K dX10_element_2 2 rfl rfl ?_
  obtain ⟨r1_, h2_, g3_, hf⟩ := e_2 hf
  refine r_callV (av := [.int p0, .int p1]) (st := []) K lkX10_300 mwX10_rowAt (conX10_rowAt p0 p1 h r1_ h2_ g3_) dX10_element_3 rfl (Nat.le_of_ble_eq_true rfl) rfl rfl (Nat.le_of_ble_eq_true rfl) ?_
  refine r_iconst (v := 1) K dX10_element_6 rfl ?_
  refine r_icmp_ne (tgt := 24) K dX10_element_7 (by decide) (fun c4_ => ?_) (fun c4_ => ?_)
  · have hf := e_f hf c4_
    refine r_ldc2 (v := (-9223372036854775808)) K dX10_element_24 lcX10_305 ?_
    exact r_lret K Z dX10_element_27 hf
  · have hf := e_t hf c4_
    refine r_aload_n K dX10_element_10 0 rfl rfl ?_
    refine r_getR (o' := 77) K flX10_66 dX10_element_11 rfl rfl rfl ?_
    refine r_bipush (v := 60) K dX10_element_14 rfl ?_
    refine r_iload_n K dX10_element_16 1 rfl rfl ?_
    refine r_imul K dX10_element_17 ?_
    refine r_iload_n K dX10_element_18 2 rfl rfl ?_
    refine r_iadd K dX10_element_19 ?_
    obtain ⟨g5_, hf⟩ := e_g hf
    refine r_lald K dX10_element_20 rfl g5_ ?_
    refine r_goto (tgt := 27) K dX10_element_21 (by decide) ?_
    exact r_lret K Z dX10_element_27 hf
theorem conX10_element {G : GG} (p0 : Int32) (p1 : Int32) (h : AH) (rv : Int64) (h' : AH) (hf : fX10_element p0 p1 h = some (rv, h')) : Con G 3 yX10_element cX10_element 3 (some .long) [.ref 59, .int p0, .int p1] h (some (.long rv)) h' := con_of mwX10_element (Nat.le_of_ble_eq_true rfl) (fun E K Z => sX10_element K Z p0 p1 h hf)
def fX10_feed (p0 : Int32) (h : AH) : Option (Int32 × AH) :=
  bind2 (fX10_isIn p0 0 255 h) fun r1_ h2_ => if r1_ = 0 then some ((-1), h2_) else if (h2_.1 59 12) = 120 then some ((-3), h2_) else if inb (h2_.1 59 12) 120 = true then letV (wI h2_ 67 (ix (h2_.1 59 12)) p0) fun h7_ => letV (wI h7_ 59 12 ((h7_.1 59 12) + 1)) fun h9_ => some ((h9_.1 59 12), h9_) else none
set_option maxRecDepth 10000 in
theorem sX10_feed {G : GG} {E : EE} {rv : Int32} {h' : AH} (K : OK G E 1 RX10 cX10_feed 2) (Z : RT G E (some .int) (some (.int rv)) h') (p0 : Int32) (h : AH) (hf : fX10_feed p0 h = some (rv, h')) : JJ G E 2 0 [(0, .ref 59), (1, .int p0)] [] h := by
  unfold fX10_feed at hf
  refine r_iload_n K dX10_feed_0 1 rfl rfl ?_
  refine r_iconst (v := 0) K dX10_feed_1 rfl ?_
  refine r_sipush (v := 255) K dX10_feed_2 rfl ?_
  obtain ⟨r1_, h2_, g3_, hf⟩ := e_2 hf
  refine r_callS (av := [.int p0, .int 0, .int 255]) (st := []) K lkX10_106 mwX10_isIn (conX10_isIn p0 0 255 h r1_ h2_ g3_) dX10_feed_5 (Nat.le_of_ble_eq_true rfl) rfl rfl (Nat.le_of_ble_eq_true rfl) ?_
  refine r_if_ne (tgt := 13) K dX10_feed_8 (by decide) (fun c4_ => ?_) (fun c4_ => ?_)
  · have hf := e_f hf c4_
    refine r_aload_n K dX10_feed_13 0 rfl rfl ?_
    refine r_getI K flX10_141 dX10_feed_14 rfl rfl ?_
    refine r_bipush (v := 120) K dX10_feed_17 rfl ?_
    refine r_icmp_ne (tgt := 25) K dX10_feed_19 (by decide) (fun c5_ => ?_) (fun c5_ => ?_)
    · have hf := e_f hf c5_
      refine r_aload_n K dX10_feed_25 0 rfl rfl ?_
      refine r_getR (o' := 67) K flX10_31 dX10_feed_26 rfl rfl rfl ?_
      refine r_aload_n K dX10_feed_29 0 rfl rfl ?_
      refine r_getI K flX10_141 dX10_feed_30 rfl rfl ?_
      refine r_iload_n K dX10_feed_33 1 rfl rfl ?_
      obtain ⟨g6_, hf⟩ := e_g hf
      obtain ⟨h7_, e8_, hf⟩ := e_l hf
      refine r_iast K dX10_feed_34 rfl g6_ e8_ ?_
      refine r_aload_n K dX10_feed_35 0 rfl rfl ?_
      refine r_dup K dX10_feed_36 rfl ?_
      refine r_getI K flX10_141 dX10_feed_37 rfl rfl ?_
      refine r_iconst (v := 1) K dX10_feed_40 rfl ?_
      refine r_iadd K dX10_feed_41 ?_
      obtain ⟨h9_, e10_, hf⟩ := e_l hf
      refine r_putI K fpX10_141 dX10_feed_42 rfl rfl e10_ ?_
      refine r_aload_n K dX10_feed_45 0 rfl rfl ?_
      refine r_getI K flX10_141 dX10_feed_46 rfl rfl ?_
      exact r_iret K Z dX10_feed_49 hf
    · have hf := e_t hf c5_
      refine r_bipush (v := (-3)) K dX10_feed_22 rfl ?_
      exact r_iret K Z dX10_feed_24 hf
  · have hf := e_t hf c4_
    refine r_iconst (v := (-1)) K dX10_feed_11 rfl ?_
    exact r_iret K Z dX10_feed_12 hf
theorem conX10_feed {G : GG} (p0 : Int32) (h : AH) (rv : Int32) (h' : AH) (hf : fX10_feed p0 h = some (rv, h')) : Con G 1 yX10_feed cX10_feed 2 (some .int) [.ref 59, .int p0] h (some (.int rv)) h' := con_of mwX10_feed (Nat.le_of_ble_eq_true rfl) (fun E K Z => sX10_feed K Z p0 h hf)
def fX10_first (p0 : Int32) (h : AH) : Option (Int32 × AH) :=
  bind2 (fX10_isIn p0 0 60 h) fun r1_ h2_ => if r1_ = 0 then some ((-1), h2_) else bindV (fX10_keepAll 0 h2_) fun h6_ => bindV (fX10_goMinutes p0 h6_) fun h9_ => bind2 (fX10_firstNow  h9_) fun r11_ h12_ => bindV (fX10_layAll 0 h12_) fun h15_ => some (r11_, h15_)
set_option maxRecDepth 10000 in
theorem sX10_first {G : GG} {E : EE} {rv : Int32} {h' : AH} (K : OK G E 67 RX10 cX10_first 3) (Z : RT G E (some .int) (some (.int rv)) h') (p0 : Int32) (h : AH) (hf : fX10_first p0 h = some (rv, h')) : JJ G E 3 0 [(0, .ref 59), (1, .int p0)] [] h := by
  unfold fX10_first at hf
  refine r_iload_n K dX10_first_0 1 rfl rfl ?_
  refine r_iconst (v := 0) K dX10_first_1 rfl ?_
  refine r_bipush (v := 60) K dX10_first_2 rfl ?_
  obtain ⟨r1_, h2_, g3_, hf⟩ := e_2 hf
  refine r_callS (av := [.int p0, .int 0, .int 60]) (st := []) K lkX10_106 mwX10_isIn (conX10_isIn p0 0 60 h r1_ h2_ g3_) dX10_first_4 (Nat.le_of_ble_eq_true rfl) rfl rfl (Nat.le_of_ble_eq_true rfl) ?_
  refine r_if_ne (tgt := 12) K dX10_first_7 (by decide) (fun c4_ => ?_) (fun c4_ => ?_)
  · have hf := e_f hf c4_
    refine r_aload_n K dX10_first_12 0 rfl rfl ?_
    refine r_iconst (v := 0) K dX10_first_13 rfl ?_
    obtain ⟨h6_, g7_, hf⟩ := e_v hf
    refine r_callV (av := [.int 0]) (st := []) K lkX10_222 mwX10_keepAll (conX10_keepAll 0 h2_ h6_ g7_) dX10_first_14 rfl (Nat.le_of_ble_eq_true rfl) rfl rfl (Nat.le_of_ble_eq_true rfl) ?_
    refine r_aload_n K dX10_first_17 0 rfl rfl ?_
    refine r_iload_n K dX10_first_18 1 rfl rfl ?_
    obtain ⟨h9_, g10_, hf⟩ := e_v hf
    refine r_callV (av := [.int p0]) (st := []) K lkX10_226 mwX10_goMinutes (conX10_goMinutes p0 h6_ h9_ g10_) dX10_first_19 rfl (Nat.le_of_ble_eq_true rfl) rfl rfl (Nat.le_of_ble_eq_true rfl) ?_
    refine r_aload_n K dX10_first_22 0 rfl rfl ?_
    obtain ⟨r11_, h12_, g13_, hf⟩ := e_2 hf
    refine r_callV (av := []) (st := []) K lkX10_235 mwX10_firstNow (conX10_firstNow  h9_ r11_ h12_ g13_) dX10_first_23 rfl (Nat.le_of_ble_eq_true rfl) rfl rfl (Nat.le_of_ble_eq_true rfl) ?_
    refine r_istore_n (lv' := [(2, .int r11_), (0, .ref 59), (1, .int p0)]) K dX10_first_26 rfl (Nat.le_of_ble_eq_true rfl) rfl ?_
    refine r_aload_n K dX10_first_27 1 rfl rfl ?_
    refine r_iconst (v := 0) K dX10_first_28 rfl ?_
    obtain ⟨h15_, g16_, hf⟩ := e_v hf
    refine r_callV (av := [.int 0]) (st := []) K lkX10_232 mwX10_layAll (conX10_layAll 0 h12_ h15_ g16_) dX10_first_29 rfl (Nat.le_of_ble_eq_true rfl) rfl rfl (Nat.le_of_ble_eq_true rfl) ?_
    refine r_iload_n K dX10_first_32 0 rfl rfl ?_
    exact r_iret K Z dX10_first_33 hf
  · have hf := e_t hf c4_
    refine r_iconst (v := (-1)) K dX10_first_10 rfl ?_
    exact r_iret K Z dX10_first_11 hf
theorem conX10_first {G : GG} (p0 : Int32) (h : AH) (rv : Int32) (h' : AH) (hf : fX10_first p0 h = some (rv, h')) : Con G 67 yX10_first cX10_first 3 (some .int) [.ref 59, .int p0] h (some (.int rv)) h' := con_of mwX10_first (Nat.le_of_ble_eq_true rfl) (fun E K Z => sX10_first K Z p0 h hf)
def fX10_wrong_9_b (p0 : Int32) (Q9 : Int32 → Int32 → Int32 → AH → Option (Int32 × AH)) (x1 : Int32) (x2 : Int32) (x3 : Int32) (h : AH) : Option (Int32 × AH) :=
  if inb x1 6 = true then if (jmin 9 (h.1 76 (ix x1))) ≤ x3 then some ((-2), h) else if x2 ≤ x3 then some (x3, h) else bind2 (fX10_byteAt x1 x3 h) fun r7_ h8_ => if r7_ = 9 then Q9 x1 x2 (x3 + 1) h8_ else bind2 (fX10_byteAt x1 x3 h8_) fun r11_ h12_ => if inb x3 9 = true then if r11_ = (h12_.1 74 (ix x3)) then Q9 x1 x2 (x3 + 1) h12_ else some (x3, h12_) else none else none
def fX10_wrong_9 (p0 : Int32) : Nat → Int32 → Int32 → Int32 → AH → Option (Int32 × AH)
  | 0 => fun _ _ _ _ => none
  | n + 1 => fX10_wrong_9_b p0 (fX10_wrong_9 p0 n)
set_option maxRecDepth 10000 in
theorem sX10_wrong_9_b {G : GG} {E : EE} {rv : Int32} {h' : AH} (K : OK G E 67 RX10 cX10_wrong 4) (Z : RT G E (some .int) (some (.int rv)) h') (p0 : Int32) (Q9 : Int32 → Int32 → Int32 → AH → Option (Int32 × AH)) (hQ9 : ∀ (x1 : Int32) (x2 : Int32) (x3 : Int32) (h : AH), Q9 x1 x2 x3 h = some (rv, h') → JJ G E 4 9 [(0, .ref 59), (1, .int x1), (2, .int x2), (3, .int x3)] [] h) (x1 : Int32) (x2 : Int32) (x3 : Int32) (h : AH) (hf : fX10_wrong_9_b p0 Q9 x1 x2 x3 h = some (rv, h')) : JJ G E 4 9 [(0, .ref 59), (1, .int x1), (2, .int x2), (3, .int x3)] [] h := by
  unfold fX10_wrong_9_b at hf
  refine r_iload_n K dX10_wrong_9 3 rfl rfl ?_
  refine r_bipush (v := 9) K dX10_wrong_10 rfl ?_
  refine r_aload_n K dX10_wrong_12 0 rfl rfl ?_
  refine r_getR (o' := 76) K flX10_63 dX10_wrong_13 rfl rfl rfl ?_
  refine r_iload_n K dX10_wrong_16 1 rfl rfl ?_
  obtain ⟨g4_, hf⟩ := e_g hf
  refine r_iald K dX10_wrong_17 rfl g4_ ?_
  refine r_mmin K lmX10_94 dX10_wrong_18 (Nat.le_of_ble_eq_true rfl) (Nat.le_of_ble_eq_true rfl) ?_
  refine r_icmp_ge (tgt := 63) K dX10_wrong_21 (by decide) (fun c5_ => ?_) (fun c5_ => ?_)
  · have hf := e_t hf c5_
    refine r_bipush (v := (-2)) K dX10_wrong_63 rfl ?_
    exact r_iret K Z dX10_wrong_65 hf
  · have hf := e_f hf c5_
    refine r_iload_n K dX10_wrong_24 3 rfl rfl ?_
    refine r_iload_n K dX10_wrong_25 2 rfl rfl ?_
    refine r_icmp_ge (tgt := 55) K dX10_wrong_26 (by decide) (fun c6_ => ?_) (fun c6_ => ?_)
    · have hf := e_t hf c6_
      refine r_iload_n K dX10_wrong_55 3 rfl rfl ?_
      exact r_iret K Z dX10_wrong_56 hf
    · have hf := e_f hf c6_
      refine r_aload_n K dX10_wrong_29 0 rfl rfl ?_
      refine r_iload_n K dX10_wrong_30 1 rfl rfl ?_
      refine r_iload_n K dX10_wrong_31 3 rfl rfl ?_
      obtain ⟨r7_, h8_, g9_, hf⟩ := e_2 hf
      refine r_callV (av := [.int x1, .int x3]) (st := []) K lkX10_257 mwX10_byteAt (conX10_byteAt x1 x3 h r7_ h8_ g9_) dX10_wrong_32 rfl (Nat.le_of_ble_eq_true rfl) rfl rfl (Nat.le_of_ble_eq_true rfl) ?_
      refine r_bipush (v := 9) K dX10_wrong_35 rfl ?_
      refine r_icmp_eq (tgt := 57) K dX10_wrong_37 (by decide) (fun c10_ => ?_) (fun c10_ => ?_)
      · have hf := e_t hf c10_
        refine r_iinc (y := 1) (lv' := [(3, .int (x3 + 1)), (0, .ref 59), (1, .int x1), (2, .int x2)]) K dX10_wrong_57 3 rfl rfl (Nat.le_of_ble_eq_true rfl) rfl ?_
        refine r_goto (tgt := 9) K dX10_wrong_60 (by decide) ?_
        refine r_lv [1, 2, 3, 0] rfl ?_
        exact hQ9 x1 x2 (x3 + 1) h8_ hf
      · have hf := e_f hf c10_
        refine r_aload_n K dX10_wrong_40 0 rfl rfl ?_
        refine r_iload_n K dX10_wrong_41 1 rfl rfl ?_
        refine r_iload_n K dX10_wrong_42 3 rfl rfl ?_
        obtain ⟨r11_, h12_, g13_, hf⟩ := e_2 hf
        refine r_callV (av := [.int x1, .int x3]) (st := []) K lkX10_257 mwX10_byteAt (conX10_byteAt x1 x3 h8_ r11_ h12_ g13_) dX10_wrong_43 rfl (Nat.le_of_ble_eq_true rfl) rfl rfl (Nat.le_of_ble_eq_true rfl) ?_
        refine r_aload_n K dX10_wrong_46 0 rfl rfl ?_
        refine r_getR (o' := 74) K flX10_57 dX10_wrong_47 rfl rfl rfl ?_
        refine r_iload_n K dX10_wrong_50 3 rfl rfl ?_
        obtain ⟨g14_, hf⟩ := e_g hf
        refine r_iald K dX10_wrong_51 rfl g14_ ?_
        refine r_icmp_eq (tgt := 57) K dX10_wrong_52 (by decide) (fun c15_ => ?_) (fun c15_ => ?_)
        · have hf := e_t hf c15_
          refine r_iinc (y := 1) (lv' := [(3, .int (x3 + 1)), (0, .ref 59), (1, .int x1), (2, .int x2)]) K dX10_wrong_57 3 rfl rfl (Nat.le_of_ble_eq_true rfl) rfl ?_
          refine r_goto (tgt := 9) K dX10_wrong_60 (by decide) ?_
          refine r_lv [1, 2, 3, 0] rfl ?_
          exact hQ9 x1 x2 (x3 + 1) h12_ hf
        · have hf := e_f hf c15_
          refine r_iload_n K dX10_wrong_55 3 rfl rfl ?_
          exact r_iret K Z dX10_wrong_56 hf
theorem sX10_wrong_9 {G : GG} {E : EE} {rv : Int32} {h' : AH} (K : OK G E 67 RX10 cX10_wrong 4) (Z : RT G E (some .int) (some (.int rv)) h') (p0 : Int32) : ∀ (n : Nat) (x1 : Int32) (x2 : Int32) (x3 : Int32) (h : AH), fX10_wrong_9 p0 n x1 x2 x3 h = some (rv, h') → JJ G E 4 9 [(0, .ref 59), (1, .int x1), (2, .int x2), (3, .int x3)] [] h := by
  intro n
  induction n with
  | zero => intro x1 x2 x3 h hf; cases hf
  | succ n ih => intro x1 x2 x3 h hf; exact sX10_wrong_9_b K Z p0 _ (fun x1 x2 x3 h hf => ih x1 x2 x3 h hf) x1 x2 x3 h hf
def fX10_wrong (p0 : Int32) (h : AH) : Option (Int32 × AH) :=
  bind2 (fX10_goAll 0 (-1) h) fun r1_ h2_ => fX10_wrong_9 p0 FU p0 r1_ 0 h2_
set_option maxRecDepth 10000 in
theorem sX10_wrong {G : GG} {E : EE} {rv : Int32} {h' : AH} (K : OK G E 67 RX10 cX10_wrong 4) (Z : RT G E (some .int) (some (.int rv)) h') (p0 : Int32) (h : AH) (hf : fX10_wrong p0 h = some (rv, h')) : JJ G E 4 0 [(0, .ref 59), (1, .int p0)] [] h := by
  unfold fX10_wrong at hf
  refine r_aload_n K dX10_wrong_0 0 rfl rfl ?_
  refine r_iconst (v := 0) K dX10_wrong_1 rfl ?_
  refine r_iconst (v := (-1)) K dX10_wrong_2 rfl ?_
  obtain ⟨r1_, h2_, g3_, hf⟩ := e_2 hf
  refine r_callV (av := [.int 0, .int (-1)]) (st := []) K lkX10_241 mwX10_goAll (conX10_goAll 0 (-1) h r1_ h2_ g3_) dX10_wrong_3 rfl (Nat.le_of_ble_eq_true rfl) rfl rfl (Nat.le_of_ble_eq_true rfl) ?_
  refine r_istore_n (lv' := [(2, .int r1_), (0, .ref 59), (1, .int p0)]) K dX10_wrong_6 rfl (Nat.le_of_ble_eq_true rfl) rfl ?_
  refine r_iconst (v := 0) K dX10_wrong_7 rfl ?_
  refine r_istore_n (lv' := [(3, .int 0), (2, .int r1_), (0, .ref 59), (1, .int p0)]) K dX10_wrong_8 rfl (Nat.le_of_ble_eq_true rfl) rfl ?_
  refine r_lv [2, 3, 1, 0] rfl ?_
  exact sX10_wrong_9 K Z p0 FU p0 r1_ 0 h2_ hf
theorem conX10_wrong {G : GG} (p0 : Int32) (h : AH) (rv : Int32) (h' : AH) (hf : fX10_wrong p0 h = some (rv, h')) : Con G 67 yX10_wrong cX10_wrong 4 (some .int) [.ref 59, .int p0] h (some (.int rv)) h' := con_of mwX10_wrong (Nat.le_of_ble_eq_true rfl) (fun E K Z => sX10_wrong K Z p0 h hf)
def fX10_fits_135 (p0 : Int32) (p1 : Int32) (p2 : Int32) (Q92 : Int32 → Int32 → Int32 → Int32 → Int32 → Int32 → Int32 → Int32 → AH → Option (Int32 × AH)) (x1 : Int32) (x2 : Int32) (x3 : Int32) (x4 : Int32) (x5 : Int32) (x7 : Int32) (x8 : Int32) (x9 : Int32) (s0 : Int32) (s1 : Int32) (h : AH) : Option (Int32 × AH) :=
  letV ((s1 + s0)) fun x36_ => if x9 = 0 then Q92 x1 x2 x3 x4 x5 x36_ x7 (x8 + (-1)) h else Q92 x1 x2 x3 x4 x5 x36_ x8 (x8 + (-1)) h
set_option maxRecDepth 10000 in
theorem sX10_fits_135 {G : GG} {E : EE} {rv : Int32} {h' : AH} (K : OK G E 68 RX10 cX10_fits 10) (Z : RT G E (some .int) (some (.int rv)) h') (p0 : Int32) (p1 : Int32) (p2 : Int32) (Q92 : Int32 → Int32 → Int32 → Int32 → Int32 → Int32 → Int32 → Int32 → AH → Option (Int32 × AH)) (hQ92 : ∀ (x1 : Int32) (x2 : Int32) (x3 : Int32) (x4 : Int32) (x5 : Int32) (x6 : Int32) (x7 : Int32) (x8 : Int32) (h : AH), Q92 x1 x2 x3 x4 x5 x6 x7 x8 h = some (rv, h') → JJ G E 10 92 [(0, .ref 59), (1, .int x1), (2, .int x2), (3, .int x3), (4, .int x4), (5, .int x5), (6, .int x6), (7, .int x7), (8, .int x8)] [] h) (x1 : Int32) (x2 : Int32) (x3 : Int32) (x4 : Int32) (x5 : Int32) (x7 : Int32) (x8 : Int32) (x9 : Int32) (s0 : Int32) (s1 : Int32) (h : AH) (hf : fX10_fits_135 p0 p1 p2 Q92 x1 x2 x3 x4 x5 x7 x8 x9 s0 s1 h = some (rv, h')) : JJ G E 10 135 [(0, .ref 59), (1, .int x1), (2, .int x2), (3, .int x3), (4, .int x4), (5, .int x5), (7, .int x7), (8, .int x8), (9, .int x9)] [.int s0, .int s1] h := by
  unfold fX10_fits_135 at hf
  refine r_iadd K dX10_fits_135 ?_
  obtain ⟨x36_, e37_, hf⟩ := e_l hf
  refine r_nmI e37_ ?_
  refine r_istore (lv' := [(6, .int x36_), (0, .ref 59), (1, .int x1), (2, .int x2), (3, .int x3), (4, .int x4), (5, .int x5), (7, .int x7), (8, .int x8), (9, .int x9)]) K dX10_fits_136 (Nat.le_of_ble_eq_true rfl) rfl ?_
  refine r_iload K dX10_fits_138 9 rfl ?_
  refine r_if_eq (tgt := 148) K dX10_fits_140 (by decide) (fun c38_ => ?_) (fun c38_ => ?_)
  · have hf := e_t hf c38_
    refine r_iload K dX10_fits_148 7 rfl ?_
    refine r_istore (lv' := [(7, .int x7), (6, .int x36_), (0, .ref 59), (1, .int x1), (2, .int x2), (3, .int x3), (4, .int x4), (5, .int x5), (8, .int x8), (9, .int x9)]) K dX10_fits_150 (Nat.le_of_ble_eq_true rfl) rfl ?_
    refine r_iinc (y := (-1)) (lv' := [(8, .int (x8 + (-1))), (7, .int x7), (6, .int x36_), (0, .ref 59), (1, .int x1), (2, .int x2), (3, .int x3), (4, .int x4), (5, .int x5), (9, .int x9)]) K dX10_fits_152 8 rfl rfl (Nat.le_of_ble_eq_true rfl) rfl ?_
    refine r_goto (tgt := 92) K dX10_fits_155 (by decide) ?_
    refine r_lv [3, 4, 5, 6, 7, 8, 2, 1, 0] rfl ?_
    exact hQ92 x1 x2 x3 x4 x5 x36_ x7 (x8 + (-1)) h hf
  · have hf := e_f hf c38_
    refine r_iload K dX10_fits_143 8 rfl ?_
    refine r_goto (tgt := 150) K dX10_fits_145 (by decide) ?_
    refine r_istore (lv' := [(7, .int x8), (6, .int x36_), (0, .ref 59), (1, .int x1), (2, .int x2), (3, .int x3), (4, .int x4), (5, .int x5), (8, .int x8), (9, .int x9)]) K dX10_fits_150 (Nat.le_of_ble_eq_true rfl) rfl ?_
    refine r_iinc (y := (-1)) (lv' := [(8, .int (x8 + (-1))), (7, .int x8), (6, .int x36_), (0, .ref 59), (1, .int x1), (2, .int x2), (3, .int x3), (4, .int x4), (5, .int x5), (9, .int x9)]) K dX10_fits_152 8 rfl rfl (Nat.le_of_ble_eq_true rfl) rfl ?_
    refine r_goto (tgt := 92) K dX10_fits_155 (by decide) ?_
    refine r_lv [3, 4, 5, 6, 7, 8, 2, 1, 0] rfl ?_
    exact hQ92 x1 x2 x3 x4 x5 x36_ x8 (x8 + (-1)) h hf
def fX10_fits_121 (p0 : Int32) (p1 : Int32) (p2 : Int32) (Q92 : Int32 → Int32 → Int32 → Int32 → Int32 → Int32 → Int32 → Int32 → AH → Option (Int32 × AH)) (x1 : Int32) (x2 : Int32) (x3 : Int32) (x4 : Int32) (x5 : Int32) (x6 : Int32) (x7 : Int32) (x8 : Int32) (s0 : Int32) (h : AH) : Option (Int32 × AH) :=
  if s0 = 0 then fX10_fits_135 p0 p1 p2 Q92 x1 x2 x3 x4 x5 x7 x8 s0 0 x6 h else fX10_fits_135 p0 p1 p2 Q92 x1 x2 x3 x4 x5 x7 x8 s0 1 x6 h
set_option maxRecDepth 10000 in
theorem sX10_fits_121 {G : GG} {E : EE} {rv : Int32} {h' : AH} (K : OK G E 68 RX10 cX10_fits 10) (Z : RT G E (some .int) (some (.int rv)) h') (p0 : Int32) (p1 : Int32) (p2 : Int32) (Q92 : Int32 → Int32 → Int32 → Int32 → Int32 → Int32 → Int32 → Int32 → AH → Option (Int32 × AH)) (hQ92 : ∀ (x1 : Int32) (x2 : Int32) (x3 : Int32) (x4 : Int32) (x5 : Int32) (x6 : Int32) (x7 : Int32) (x8 : Int32) (h : AH), Q92 x1 x2 x3 x4 x5 x6 x7 x8 h = some (rv, h') → JJ G E 10 92 [(0, .ref 59), (1, .int x1), (2, .int x2), (3, .int x3), (4, .int x4), (5, .int x5), (6, .int x6), (7, .int x7), (8, .int x8)] [] h) (x1 : Int32) (x2 : Int32) (x3 : Int32) (x4 : Int32) (x5 : Int32) (x6 : Int32) (x7 : Int32) (x8 : Int32) (s0 : Int32) (h : AH) (hf : fX10_fits_121 p0 p1 p2 Q92 x1 x2 x3 x4 x5 x6 x7 x8 s0 h = some (rv, h')) : JJ G E 10 121 [(0, .ref 59), (1, .int x1), (2, .int x2), (3, .int x3), (4, .int x4), (5, .int x5), (6, .int x6), (7, .int x7), (8, .int x8)] [.int s0] h := by
  unfold fX10_fits_121 at hf
  refine r_istore (lv' := [(9, .int s0), (0, .ref 59), (1, .int x1), (2, .int x2), (3, .int x3), (4, .int x4), (5, .int x5), (6, .int x6), (7, .int x7), (8, .int x8)]) K dX10_fits_121 (Nat.le_of_ble_eq_true rfl) rfl ?_
  refine r_iload K dX10_fits_123 7 rfl ?_
  refine r_iload K dX10_fits_125 0 rfl ?_
  refine r_if_eq (tgt := 134) K dX10_fits_127 (by decide) (fun c35_ => ?_) (fun c35_ => ?_)
  · have hf := e_t hf c35_
    refine r_iconst (v := 0) K dX10_fits_134 rfl ?_
    refine r_lv [1, 2, 3, 4, 5, 6, 8, 9, 0] rfl ?_
    exact sX10_fits_135 K Z p0 p1 p2 Q92 hQ92 x1 x2 x3 x4 x5 x7 x8 s0 0 x6 h hf
  · have hf := e_f hf c35_
    refine r_iconst (v := 1) K dX10_fits_130 rfl ?_
    refine r_goto (tgt := 135) K dX10_fits_131 (by decide) ?_
    refine r_lv [1, 2, 3, 4, 5, 6, 8, 9, 0] rfl ?_
    exact sX10_fits_135 K Z p0 p1 p2 Q92 hQ92 x1 x2 x3 x4 x5 x7 x8 s0 1 x6 h hf
def fX10_fits_92_b (p0 : Int32) (p1 : Int32) (p2 : Int32) (Q92 : Int32 → Int32 → Int32 → Int32 → Int32 → Int32 → Int32 → Int32 → AH → Option (Int32 × AH)) (x1 : Int32) (x2 : Int32) (x3 : Int32) (x4 : Int32) (x5 : Int32) (x6 : Int32) (x7 : Int32) (x8 : Int32) (h : AH) : Option (Int32 × AH) :=
  if x8 < 0 then bindV (fX10_change x2 x4 x5 h) fun h25_ => if (jrem x3 2) = 0 then some (x6, h25_) else some (x7, h25_) else bindV (fX10_change x2 x4 x8 h) fun h29_ => bind2 (fX10_wrong x1 h29_) fun r31_ h32_ => if r31_ = (-2) then fX10_fits_121 p0 p1 p2 Q92 x1 x2 x3 x4 x5 x6 x7 x8 1 h32_ else fX10_fits_121 p0 p1 p2 Q92 x1 x2 x3 x4 x5 x6 x7 x8 0 h32_
def fX10_fits_92 (p0 : Int32) (p1 : Int32) (p2 : Int32) : Nat → Int32 → Int32 → Int32 → Int32 → Int32 → Int32 → Int32 → Int32 → AH → Option (Int32 × AH)
  | 0 => fun _ _ _ _ _ _ _ _ _ => none
  | n + 1 => fX10_fits_92_b p0 p1 p2 (fX10_fits_92 p0 p1 p2 n)
set_option maxRecDepth 10000 in
theorem sX10_fits_92_b {G : GG} {E : EE} {rv : Int32} {h' : AH} (K : OK G E 68 RX10 cX10_fits 10) (Z : RT G E (some .int) (some (.int rv)) h') (p0 : Int32) (p1 : Int32) (p2 : Int32) (Q92 : Int32 → Int32 → Int32 → Int32 → Int32 → Int32 → Int32 → Int32 → AH → Option (Int32 × AH)) (hQ92 : ∀ (x1 : Int32) (x2 : Int32) (x3 : Int32) (x4 : Int32) (x5 : Int32) (x6 : Int32) (x7 : Int32) (x8 : Int32) (h : AH), Q92 x1 x2 x3 x4 x5 x6 x7 x8 h = some (rv, h') → JJ G E 10 92 [(0, .ref 59), (1, .int x1), (2, .int x2), (3, .int x3), (4, .int x4), (5, .int x5), (6, .int x6), (7, .int x7), (8, .int x8)] [] h) (x1 : Int32) (x2 : Int32) (x3 : Int32) (x4 : Int32) (x5 : Int32) (x6 : Int32) (x7 : Int32) (x8 : Int32) (h : AH) (hf : fX10_fits_92_b p0 p1 p2 Q92 x1 x2 x3 x4 x5 x6 x7 x8 h = some (rv, h')) : JJ G E 10 92 [(0, .ref 59), (1, .int x1), (2, .int x2), (3, .int x3), (4, .int x4), (5, .int x5), (6, .int x6), (7, .int x7), (8, .int x8)] [] h := by
  unfold fX10_fits_92_b at hf
  refine r_iload K dX10_fits_92 8 rfl ?_
  refine r_if_lt (tgt := 158) K dX10_fits_94 (by decide) (fun c23_ => ?_) (fun c23_ => ?_)
  · have hf := e_t hf c23_
    refine r_aload_n K dX10_fits_158 0 rfl rfl ?_
    refine r_iload_n K dX10_fits_159 2 rfl rfl ?_
    refine r_iload K dX10_fits_160 4 rfl ?_
    refine r_iload K dX10_fits_162 5 rfl ?_
    obtain ⟨h25_, g26_, hf⟩ := e_v hf
    refine r_callV (av := [.int x2, .int x4, .int x5]) (st := []) K lkX10_113 mwX10_change (conX10_change x2 x4 x5 h h25_ g26_) dX10_fits_164 rfl (Nat.le_of_ble_eq_true rfl) rfl rfl (Nat.le_of_ble_eq_true rfl) ?_
    refine r_iload_n K dX10_fits_167 3 rfl rfl ?_
    refine r_iconst (v := 2) K dX10_fits_168 rfl ?_
    refine r_irem K dX10_fits_169 (by decide) ?_
    refine r_if_ne (tgt := 178) K dX10_fits_170 (by decide) (fun c27_ => ?_) (fun c27_ => ?_)
    · have hf := e_f hf c27_
      refine r_iload K dX10_fits_178 7 rfl ?_
      exact r_iret K Z dX10_fits_180 hf
    · have hf := e_t hf c27_
      refine r_iload K dX10_fits_173 6 rfl ?_
      refine r_goto (tgt := 180) K dX10_fits_175 (by decide) ?_
      exact r_iret K Z dX10_fits_180 hf
  · have hf := e_f hf c23_
    refine r_aload_n K dX10_fits_97 0 rfl rfl ?_
    refine r_iload_n K dX10_fits_98 2 rfl rfl ?_
    refine r_iload K dX10_fits_99 4 rfl ?_
    refine r_iload K dX10_fits_101 8 rfl ?_
    obtain ⟨h29_, g30_, hf⟩ := e_v hf
    refine r_callV (av := [.int x2, .int x4, .int x8]) (st := []) K lkX10_113 mwX10_change (conX10_change x2 x4 x8 h h29_ g30_) dX10_fits_103 rfl (Nat.le_of_ble_eq_true rfl) rfl rfl (Nat.le_of_ble_eq_true rfl) ?_
    refine r_aload_n K dX10_fits_106 0 rfl rfl ?_
    refine r_iload_n K dX10_fits_107 1 rfl rfl ?_
    obtain ⟨r31_, h32_, g33_, hf⟩ := e_2 hf
    refine r_callV (av := [.int x1]) (st := []) K lkX10_263 mwX10_wrong (conX10_wrong x1 h29_ r31_ h32_ g33_) dX10_fits_108 rfl (Nat.le_of_ble_eq_true rfl) rfl rfl (Nat.le_of_ble_eq_true rfl) ?_
    refine r_bipush (v := (-2)) K dX10_fits_111 rfl ?_
    refine r_icmp_ne (tgt := 120) K dX10_fits_113 (by decide) (fun c34_ => ?_) (fun c34_ => ?_)
    · have hf := e_f hf c34_
      refine r_iconst (v := 0) K dX10_fits_120 rfl ?_
      refine r_lv [0, 1, 2, 3, 4, 5, 6, 7, 8] rfl ?_
      exact sX10_fits_121 K Z p0 p1 p2 Q92 hQ92 x1 x2 x3 x4 x5 x6 x7 x8 0 h32_ hf
    · have hf := e_t hf c34_
      refine r_iconst (v := 1) K dX10_fits_116 rfl ?_
      refine r_goto (tgt := 121) K dX10_fits_117 (by decide) ?_
      refine r_lv [0, 1, 2, 3, 4, 5, 6, 7, 8] rfl ?_
      exact sX10_fits_121 K Z p0 p1 p2 Q92 hQ92 x1 x2 x3 x4 x5 x6 x7 x8 1 h32_ hf
theorem sX10_fits_92 {G : GG} {E : EE} {rv : Int32} {h' : AH} (K : OK G E 68 RX10 cX10_fits 10) (Z : RT G E (some .int) (some (.int rv)) h') (p0 : Int32) (p1 : Int32) (p2 : Int32) : ∀ (n : Nat) (x1 : Int32) (x2 : Int32) (x3 : Int32) (x4 : Int32) (x5 : Int32) (x6 : Int32) (x7 : Int32) (x8 : Int32) (h : AH), fX10_fits_92 p0 p1 p2 n x1 x2 x3 x4 x5 x6 x7 x8 h = some (rv, h') → JJ G E 10 92 [(0, .ref 59), (1, .int x1), (2, .int x2), (3, .int x3), (4, .int x4), (5, .int x5), (6, .int x6), (7, .int x7), (8, .int x8)] [] h := by
  intro n
  induction n with
  | zero => intro x1 x2 x3 x4 x5 x6 x7 x8 h hf; cases hf
  | succ n ih => intro x1 x2 x3 x4 x5 x6 x7 x8 h hf; exact sX10_fits_92_b K Z p0 p1 p2 _ (fun x1 x2 x3 x4 x5 x6 x7 x8 h hf => ih x1 x2 x3 x4 x5 x6 x7 x8 h hf) x1 x2 x3 x4 x5 x6 x7 x8 h hf
def fX10_fits_60 (p0 : Int32) (p1 : Int32) (p2 : Int32) (x1 : Int32) (x2 : Int32) (x3 : Int32) (s0 : Int32) (h : AH) : Option (Int32 × AH) :=
  bind2 (fX10_number x2 s0 h) fun r19_ h20_ => if s0 = 0 then fX10_fits_92 p0 p1 p2 FU x1 x2 x3 s0 r19_ 0 (-2) 99 h20_ else fX10_fits_92 p0 p1 p2 FU x1 x2 x3 s0 r19_ 0 (-2) 9 h20_
set_option maxRecDepth 10000 in
theorem sX10_fits_60 {G : GG} {E : EE} {rv : Int32} {h' : AH} (K : OK G E 68 RX10 cX10_fits 10) (Z : RT G E (some .int) (some (.int rv)) h') (p0 : Int32) (p1 : Int32) (p2 : Int32) (x1 : Int32) (x2 : Int32) (x3 : Int32) (s0 : Int32) (h : AH) (hf : fX10_fits_60 p0 p1 p2 x1 x2 x3 s0 h = some (rv, h')) : JJ G E 10 60 [(0, .ref 59), (1, .int x1), (2, .int x2), (3, .int x3)] [.int s0] h := by
  unfold fX10_fits_60 at hf
  refine r_istore (lv' := [(4, .int s0), (0, .ref 59), (1, .int x1), (2, .int x2), (3, .int x3)]) K dX10_fits_60 (Nat.le_of_ble_eq_true rfl) rfl ?_
  refine r_aload_n K dX10_fits_62 1 rfl rfl ?_
  refine r_iload_n K dX10_fits_63 3 rfl rfl ?_
  refine r_iload K dX10_fits_64 0 rfl ?_
  obtain ⟨r19_, h20_, g21_, hf⟩ := e_2 hf
  refine r_callV (av := [.int x2, .int s0]) (st := []) K lkX10_110 mwX10_number (conX10_number x2 s0 h r19_ h20_ g21_) dX10_fits_66 rfl (Nat.le_of_ble_eq_true rfl) rfl rfl (Nat.le_of_ble_eq_true rfl) ?_
  refine r_istore (lv' := [(5, .int r19_), (4, .int s0), (0, .ref 59), (1, .int x1), (2, .int x2), (3, .int x3)]) K dX10_fits_69 (Nat.le_of_ble_eq_true rfl) rfl ?_
  refine r_iconst (v := 0) K dX10_fits_71 rfl ?_
  refine r_istore (lv' := [(6, .int 0), (5, .int r19_), (4, .int s0), (0, .ref 59), (1, .int x1), (2, .int x2), (3, .int x3)]) K dX10_fits_72 (Nat.le_of_ble_eq_true rfl) rfl ?_
  refine r_bipush (v := (-2)) K dX10_fits_74 rfl ?_
  refine r_istore (lv' := [(7, .int (-2)), (6, .int 0), (5, .int r19_), (4, .int s0), (0, .ref 59), (1, .int x1), (2, .int x2), (3, .int x3)]) K dX10_fits_76 (Nat.le_of_ble_eq_true rfl) rfl ?_
  refine r_iload K dX10_fits_78 3 rfl ?_
  refine r_if_ne (tgt := 88) K dX10_fits_80 (by decide) (fun c22_ => ?_) (fun c22_ => ?_)
  · have hf := e_f hf c22_
    refine r_bipush (v := 9) K dX10_fits_88 rfl ?_
    refine r_istore (lv' := [(8, .int 9), (7, .int (-2)), (6, .int 0), (5, .int r19_), (4, .int s0), (0, .ref 59), (1, .int x1), (2, .int x2), (3, .int x3)]) K dX10_fits_90 (Nat.le_of_ble_eq_true rfl) rfl ?_
    refine r_lv [5, 6, 7, 8, 4, 3, 2, 1, 0] rfl ?_
    exact sX10_fits_92 K Z p0 p1 p2 FU x1 x2 x3 s0 r19_ 0 (-2) 9 h20_ hf
  · have hf := e_t hf c22_
    refine r_bipush (v := 99) K dX10_fits_83 rfl ?_
    refine r_goto (tgt := 90) K dX10_fits_85 (by decide) ?_
    refine r_istore (lv' := [(8, .int 99), (7, .int (-2)), (6, .int 0), (5, .int r19_), (4, .int s0), (0, .ref 59), (1, .int x1), (2, .int x2), (3, .int x3)]) K dX10_fits_90 (Nat.le_of_ble_eq_true rfl) rfl ?_
    refine r_lv [5, 6, 7, 8, 4, 3, 2, 1, 0] rfl ?_
    exact sX10_fits_92 K Z p0 p1 p2 FU x1 x2 x3 s0 r19_ 0 (-2) 99 h20_ hf
def fX10_fits (p0 : Int32) (p1 : Int32) (p2 : Int32) (h : AH) : Option (Int32 × AH) :=
  bind2 (fX10_isShelf p0 h) fun r1_ h2_ => if r1_ = 0 then some ((-1), h2_) else bind2 (fX10_isGuest p1 h2_) fun r5_ h6_ => if r5_ = 0 then some ((-1), h6_) else bind2 (fX10_isIn p2 0 5 h6_) fun r9_ h10_ => if r9_ = 0 then some ((-1), h10_) else bind2 (fX10_bytesIn p0 h10_) fun r13_ h14_ => if 1 ≤ r13_ then if 2 ≤ p2 then if 4 ≤ p2 then fX10_fits_60 p0 p1 p2 p0 p1 p2 0 h14_ else fX10_fits_60 p0 p1 p2 p0 p1 p2 1 h14_ else fX10_fits_60 p0 p1 p2 p0 p1 p2 2 h14_ else bind2 (fX10_bytesIn p0 h14_) fun r39_ h40_ => some (r39_, h40_)
set_option maxRecDepth 10000 in
theorem sX10_fits {G : GG} {E : EE} {rv : Int32} {h' : AH} (K : OK G E 68 RX10 cX10_fits 10) (Z : RT G E (some .int) (some (.int rv)) h') (p0 : Int32) (p1 : Int32) (p2 : Int32) (h : AH) (hf : fX10_fits p0 p1 p2 h = some (rv, h')) : JJ G E 10 0 [(0, .ref 59), (1, .int p0), (2, .int p1), (3, .int p2)] [] h := by
  unfold fX10_fits at hf
  refine r_iload_n K dX10_fits_0 1 rfl rfl ?_
  obtain ⟨r1_, h2_, g3_, hf⟩ := e_2 hf
  refine r_callS (av := [.int p0]) (st := []) K lkX10_250 mwX10_isShelf (conX10_isShelf p0 h r1_ h2_ g3_) dX10_fits_1 (Nat.le_of_ble_eq_true rfl) rfl rfl (Nat.le_of_ble_eq_true rfl) ?_
  refine r_if_eq (tgt := 24) K dX10_fits_4 (by decide) (fun c4_ => ?_) (fun c4_ => ?_)
  · have hf := e_t hf c4_
    refine r_iconst (v := (-1)) K dX10_fits_24 rfl ?_
    exact r_iret K Z dX10_fits_25 hf
  · have hf := e_f hf c4_
    refine r_aload_n K dX10_fits_7 0 rfl rfl ?_
    refine r_iload_n K dX10_fits_8 2 rfl rfl ?_
    obtain ⟨r5_, h6_, g7_, hf⟩ := e_2 hf
    refine r_callV (av := [.int p1]) (st := []) K lkX10_124 mwX10_isGuest (conX10_isGuest p1 h2_ r5_ h6_ g7_) dX10_fits_9 rfl (Nat.le_of_ble_eq_true rfl) rfl rfl (Nat.le_of_ble_eq_true rfl) ?_
    refine r_if_eq (tgt := 24) K dX10_fits_12 (by decide) (fun c8_ => ?_) (fun c8_ => ?_)
    · have hf := e_t hf c8_
      refine r_iconst (v := (-1)) K dX10_fits_24 rfl ?_
      exact r_iret K Z dX10_fits_25 hf
    · have hf := e_f hf c8_
      refine r_iload_n K dX10_fits_15 3 rfl rfl ?_
      refine r_iconst (v := 0) K dX10_fits_16 rfl ?_
      refine r_iconst (v := 5) K dX10_fits_17 rfl ?_
      obtain ⟨r9_, h10_, g11_, hf⟩ := e_2 hf
      refine r_callS (av := [.int p2, .int 0, .int 5]) (st := []) K lkX10_106 mwX10_isIn (conX10_isIn p2 0 5 h6_ r9_ h10_ g11_) dX10_fits_18 (Nat.le_of_ble_eq_true rfl) rfl rfl (Nat.le_of_ble_eq_true rfl) ?_
      refine r_if_ne (tgt := 26) K dX10_fits_21 (by decide) (fun c12_ => ?_) (fun c12_ => ?_)
      · have hf := e_f hf c12_
        refine r_aload_n K dX10_fits_26 0 rfl rfl ?_
        refine r_iload_n K dX10_fits_27 1 rfl rfl ?_
        obtain ⟨r13_, h14_, g15_, hf⟩ := e_2 hf
        refine r_callV (av := [.int p0]) (st := []) K lkX10_260 mwX10_bytesIn (conX10_bytesIn p0 h10_ r13_ h14_ g15_) dX10_fits_28 rfl (Nat.le_of_ble_eq_true rfl) rfl rfl (Nat.le_of_ble_eq_true rfl) ?_
        refine r_iconst (v := 1) K dX10_fits_31 rfl ?_
        refine r_icmp_ge (tgt := 41) K dX10_fits_32 (by decide) (fun c16_ => ?_) (fun c16_ => ?_)
        · have hf := e_t hf c16_
          refine r_iload_n K dX10_fits_41 3 rfl rfl ?_
          refine r_iconst (v := 2) K dX10_fits_42 rfl ?_
          refine r_icmp_ge (tgt := 50) K dX10_fits_43 (by decide) (fun c17_ => ?_) (fun c17_ => ?_)
          · have hf := e_t hf c17_
            refine r_iload_n K dX10_fits_50 3 rfl rfl ?_
            refine r_iconst (v := 4) K dX10_fits_51 rfl ?_
            refine r_icmp_ge (tgt := 59) K dX10_fits_52 (by decide) (fun c18_ => ?_) (fun c18_ => ?_)
            · have hf := e_t hf c18_
              refine r_iconst (v := 0) K dX10_fits_59 rfl ?_
              refine r_lv [0, 1, 2, 3] rfl ?_
              exact sX10_fits_60 K Z p0 p1 p2 p0 p1 p2 0 h14_ hf
            · have hf := e_f hf c18_
              refine r_iconst (v := 1) K dX10_fits_55 rfl ?_
              refine r_goto (tgt := 60) K dX10_fits_56 (by decide) ?_
              refine r_lv [0, 1, 2, 3] rfl ?_
              exact sX10_fits_60 K Z p0 p1 p2 p0 p1 p2 1 h14_ hf
          · have hf := e_f hf c17_
            refine r_iconst (v := 2) K dX10_fits_46 rfl ?_
            refine r_goto (tgt := 60) K dX10_fits_47 (by decide) ?_
            refine r_lv [0, 1, 2, 3] rfl ?_
            exact sX10_fits_60 K Z p0 p1 p2 p0 p1 p2 2 h14_ hf
        · have hf := e_f hf c16_
          refine r_aload_n K dX10_fits_35 0 rfl rfl ?_
          refine r_iload_n K dX10_fits_36 1 rfl rfl ?_
          obtain ⟨r39_, h40_, g41_, hf⟩ := e_2 hf
          refine r_callV (av := [.int p0]) (st := []) K lkX10_260 mwX10_bytesIn (conX10_bytesIn p0 h14_ r39_ h40_ g41_) dX10_fits_37 rfl (Nat.le_of_ble_eq_true rfl) rfl rfl (Nat.le_of_ble_eq_true rfl) ?_
          exact r_iret K Z dX10_fits_40 hf
      · have hf := e_t hf c12_
        refine r_iconst (v := (-1)) K dX10_fits_24 rfl ?_
        exact r_iret K Z dX10_fits_25 hf
theorem conX10_fits {G : GG} (p0 : Int32) (p1 : Int32) (p2 : Int32) (h : AH) (rv : Int32) (h' : AH) (hf : fX10_fits p0 p1 p2 h = some (rv, h')) : Con G 68 yX10_fits cX10_fits 10 (some .int) [.ref 59, .int p0, .int p1, .int p2] h (some (.int rv)) h' := con_of mwX10_fits (Nat.le_of_ble_eq_true rfl) (fun E K Z => sX10_fits K Z p0 p1 p2 h hf)
