def fX7_numberOf (t : Nat) (p0 : Int32) (p1 : Int32) (h : AH) : Option (Int32 × AH) :=
  bind2 (fX7_hasNumber t p0 p1 h) fun r1_ h2_ => if r1_ = 0 then some ((-1), h2_) else if p1 = 8 then some ((h2_.1 t 11), h2_) else bind2 (fX7_numbersOf t p1 h2_) fun r6_ h7_ => if KD r6_ = (20, (KD r6_).2) ∧ inb p0 (KD r6_).2 = true then some ((h7_.1 r6_ (ix p0)), h7_) else none
set_option maxRecDepth 10000 in
theorem sX7_numberOf {G : GG} {E : EE} {rv : Int32} {h' : AH} (K : OK G E 2 RX7 cX7_numberOf 3) (Z : RT G E (some .int) (some (.int rv)) h') (t : Nat) (p0 : Int32) (p1 : Int32) (ht : KD t = (7, 12)) (h : AH) (hf : fX7_numberOf t p0 p1 h = some (rv, h')) : JJ G E 3 0 [(0, .ref t), (1, .int p0), (2, .int p1)] [] h := by
  unfold fX7_numberOf at hf
  refine r_aload_n K dX7_numberOf_0 0 rfl rfl ?_
  refine r_iload_n K dX7_numberOf_1 1 rfl rfl ?_
  refine r_iload_n K dX7_numberOf_2 2 rfl rfl ?_
  obtain ⟨r1_, h2_, g3_, hf⟩ := e_2 hf
  refine r_callV (av := [.int p0, .int p1]) (st := []) K lkX7_53 mwX7_hasNumber (conX7_hasNumber t p0 p1 ht h r1_ h2_ g3_) dX7_numberOf_3 ht (Nat.le_of_ble_eq_true rfl) rfl rfl (Nat.le_of_ble_eq_true rfl) ?_
  refine r_if_ne (tgt := 11) K dX7_numberOf_6 (by decide) (fun c4_ => ?_) (fun c4_ => ?_)
  · have hf := e_f hf c4_
    refine r_iload_n K dX7_numberOf_11 2 rfl rfl ?_
    refine r_bipush (v := 8) K dX7_numberOf_12 rfl ?_
    refine r_icmp_ne (tgt := 24) K dX7_numberOf_14 (by decide) (fun c5_ => ?_) (fun c5_ => ?_)
    · have hf := e_f hf c5_
      refine r_aload_n K dX7_numberOf_24 0 rfl rfl ?_
      refine r_iload_n K dX7_numberOf_25 2 rfl rfl ?_
      obtain ⟨r6_, h7_, g8_, hf⟩ := e_2 hf
      refine r_callV (av := [.int p1]) (st := []) K lkX7_57 mwX7_numbersOf (conX7_numbersOf t p1 ht h2_ r6_ h7_ g8_) dX7_numberOf_26 ht (Nat.le_of_ble_eq_true rfl) rfl rfl (Nat.le_of_ble_eq_true rfl) ?_
      refine r_iload_n K dX7_numberOf_29 1 rfl rfl ?_
      obtain ⟨g9_, hf⟩ := e_g hf
      refine r_iald K dX7_numberOf_30 g9_.1 g9_.2 ?_
      exact r_iret K Z dX7_numberOf_31 hf
    · have hf := e_t hf c5_
      refine r_aload_n K dX7_numberOf_17 0 rfl rfl ?_
      refine r_getI K flX7_46 dX7_numberOf_18 ht rfl ?_
      refine r_goto (tgt := 31) K dX7_numberOf_21 (by decide) ?_
      exact r_iret K Z dX7_numberOf_31 hf
  · have hf := e_t hf c4_
    refine r_iconst (v := (-1)) K dX7_numberOf_9 rfl ?_
    exact r_iret K Z dX7_numberOf_10 hf
theorem conX7_numberOf {G : GG} (t : Nat) (p0 : Int32) (p1 : Int32) (ht : KD t = (7, 12)) (h : AH) (rv : Int32) (h' : AH) (hf : fX7_numberOf t p0 p1 h = some (rv, h')) : Con G 2 yX7_numberOf cX7_numberOf 3 (some .int) [.ref t, .int p0, .int p1] h (some (.int rv)) h' := con_of mwX7_numberOf (Nat.le_of_ble_eq_true rfl) (fun E K Z => sX7_numberOf K Z t p0 p1 ht h hf)
def fX7_regretOfAll_4_b (t : Nat) (Q4 : Int32 → Int32 → AH → Option (Int32 × AH)) (x1 : Int32) (x2 : Int32) (h : AH) : Option (Int32 × AH) :=
  if (h.1 t 9) ≤ x2 then some (x1, h) else if inb x2 9 = true then letV ((x1 + (h.1 (rf t 0) (ix x2)))) fun x3_ => Q4 x3_ (x2 + 1) h else none
def fX7_regretOfAll_4 (t : Nat) : Nat → Int32 → Int32 → AH → Option (Int32 × AH)
  | 0 => fun _ _ _ => none
  | n + 1 => fX7_regretOfAll_4_b t (fX7_regretOfAll_4 t n)
set_option maxRecDepth 10000 in
theorem sX7_regretOfAll_4_b {G : GG} {E : EE} {rv : Int32} {h' : AH} (K : OK G E 0 RX7 cX7_regretOfAll 3) (Z : RT G E (some .int) (some (.int rv)) h') (t : Nat) (ht : KD t = (7, 12)) (Q4 : Int32 → Int32 → AH → Option (Int32 × AH)) (hQ4 : ∀ (x1 : Int32) (x2 : Int32) (h : AH), Q4 x1 x2 h = some (rv, h') → JJ G E 3 4 [(0, .ref t), (1, .int x1), (2, .int x2)] [] h) (x1 : Int32) (x2 : Int32) (h : AH) (hf : fX7_regretOfAll_4_b t Q4 x1 x2 h = some (rv, h')) : JJ G E 3 4 [(0, .ref t), (1, .int x1), (2, .int x2)] [] h := by
  unfold fX7_regretOfAll_4_b at hf
  refine r_iload_n K dX7_regretOfAll_4 2 rfl rfl ?_
  refine r_aload_n K dX7_regretOfAll_5 0 rfl rfl ?_
  refine r_getI K flX7_39 dX7_regretOfAll_6 ht rfl ?_
  refine r_icmp_ge (tgt := 27) K dX7_regretOfAll_9 (by decide) (fun c1_ => ?_) (fun c1_ => ?_)
  · have hf := e_t hf c1_
    refine r_iload_n K dX7_regretOfAll_27 1 rfl rfl ?_
    exact r_iret K Z dX7_regretOfAll_28 hf
  · have hf := e_f hf c1_
    refine r_iload_n K dX7_regretOfAll_12 1 rfl rfl ?_
    refine r_aload_n K dX7_regretOfAll_13 0 rfl rfl ?_
    refine r_getR (o' := (rf t 0)) K flX7_9 dX7_regretOfAll_14 ht rfl rfl ?_
    refine r_iload_n K dX7_regretOfAll_17 2 rfl rfl ?_
    obtain ⟨g2_, hf⟩ := e_g hf
    refine r_iald K dX7_regretOfAll_18 (kf7_0 ht) g2_ ?_
    refine r_iadd K dX7_regretOfAll_19 ?_
    obtain ⟨x3_, e4_, hf⟩ := e_l hf
    refine r_nmI e4_ ?_
    refine r_istore_n (lv' := [(1, .int x3_), (0, .ref t), (2, .int x2)]) K dX7_regretOfAll_20 rfl (Nat.le_of_ble_eq_true rfl) rfl ?_
    refine r_iinc (y := 1) (lv' := [(2, .int (x2 + 1)), (1, .int x3_), (0, .ref t)]) K dX7_regretOfAll_21 2 rfl rfl (Nat.le_of_ble_eq_true rfl) rfl ?_
    refine r_goto (tgt := 4) K dX7_regretOfAll_24 (by decide) ?_
    refine r_lv [2, 1, 0] rfl ?_
    exact hQ4 x3_ (x2 + 1) h hf
theorem sX7_regretOfAll_4 {G : GG} {E : EE} {rv : Int32} {h' : AH} (K : OK G E 0 RX7 cX7_regretOfAll 3) (Z : RT G E (some .int) (some (.int rv)) h') (t : Nat) (ht : KD t = (7, 12)) : ∀ (n : Nat) (x1 : Int32) (x2 : Int32) (h : AH), fX7_regretOfAll_4 t n x1 x2 h = some (rv, h') → JJ G E 3 4 [(0, .ref t), (1, .int x1), (2, .int x2)] [] h := by
  intro n
  induction n with
  | zero => intro x1 x2 h hf; cases hf
  | succ n ih => intro x1 x2 h hf; exact sX7_regretOfAll_4_b K Z t ht _ (fun x1 x2 h hf => ih x1 x2 h hf) x1 x2 h hf
def fX7_regretOfAll (t : Nat) (h : AH) : Option (Int32 × AH) :=
  fX7_regretOfAll_4 t FU 0 0 h
set_option maxRecDepth 10000 in
theorem sX7_regretOfAll {G : GG} {E : EE} {rv : Int32} {h' : AH} (K : OK G E 0 RX7 cX7_regretOfAll 3) (Z : RT G E (some .int) (some (.int rv)) h') (t : Nat) (ht : KD t = (7, 12)) (h : AH) (hf : fX7_regretOfAll t h = some (rv, h')) : JJ G E 3 0 [(0, .ref t)] [] h := by
  unfold fX7_regretOfAll at hf
  refine r_iconst (v := 0) K dX7_regretOfAll_0 rfl ?_
  refine r_istore_n (lv' := [(1, .int 0), (0, .ref t)]) K dX7_regretOfAll_1 rfl (Nat.le_of_ble_eq_true rfl) rfl ?_
  refine r_iconst (v := 0) K dX7_regretOfAll_2 rfl ?_
  refine r_istore_n (lv' := [(2, .int 0), (1, .int 0), (0, .ref t)]) K dX7_regretOfAll_3 rfl (Nat.le_of_ble_eq_true rfl) rfl ?_
  refine r_lv [2, 1, 0] rfl ?_
  exact sX7_regretOfAll_4 K Z t ht FU 0 0 h hf
theorem conX7_regretOfAll {G : GG} (t : Nat) (ht : KD t = (7, 12)) (h : AH) (rv : Int32) (h' : AH) (hf : fX7_regretOfAll t h = some (rv, h')) : Con G 0 yX7_regretOfAll cX7_regretOfAll 3 (some .int) [.ref t] h (some (.int rv)) h' := con_of mwX7_regretOfAll (Nat.le_of_ble_eq_true rfl) (fun E K Z => sX7_regretOfAll K Z t ht h hf)
def fX8_afterTurn (p0 : Int32) (p1 : Int32) (h : AH) : Option (Int32 × AH) :=
  if p1 = 2 then some (p0, h) else if p1 = 0 then some ((jmin 9 (p0 + 2)), h) else some ((jmax 0 (p0 - 2)), h)
set_option maxRecDepth 10000 in
theorem sX8_afterTurn {G : GG} {E : EE} {rv : Int32} {h' : AH} (K : OK G E 1 RX8 cX8_afterTurn 2) (Z : RT G E (some .int) (some (.int rv)) h') (p0 : Int32) (p1 : Int32) (h : AH) (hf : fX8_afterTurn p0 p1 h = some (rv, h')) : JJ G E 2 0 [(0, .int p0), (1, .int p1)] [] h := by
  unfold fX8_afterTurn at hf
  refine r_iload_n K dX8_afterTurn_0 1 rfl rfl ?_
  refine r_iconst (v := 2) K dX8_afterTurn_1 rfl ?_
  refine r_icmp_ne (tgt := 7) K dX8_afterTurn_2 (by decide) (fun c1_ => ?_) (fun c1_ => ?_)
  · have hf := e_f hf c1_
    refine r_iload_n K dX8_afterTurn_7 1 rfl rfl ?_
    refine r_if_ne (tgt := 22) K dX8_afterTurn_8 (by decide) (fun c2_ => ?_) (fun c2_ => ?_)
    · have hf := e_f hf c2_
      refine r_iconst (v := 0) K dX8_afterTurn_22 rfl ?_
      refine r_iload_n K dX8_afterTurn_23 0 rfl rfl ?_
      refine r_iconst (v := 2) K dX8_afterTurn_24 rfl ?_
      refine r_isub K dX8_afterTurn_25 ?_
      refine r_mmax K lmX8_38 dX8_afterTurn_26 (Nat.le_of_ble_eq_true rfl) (Nat.le_of_ble_eq_true rfl) ?_
      exact r_iret K Z dX8_afterTurn_29 hf
    · have hf := e_t hf c2_
      refine r_bipush (v := 9) K dX8_afterTurn_11 rfl ?_
      refine r_iload_n K dX8_afterTurn_13 0 rfl rfl ?_
      refine r_iconst (v := 2) K dX8_afterTurn_14 rfl ?_
      refine r_iadd K dX8_afterTurn_15 ?_
      refine r_mmin K lmX8_43 dX8_afterTurn_16 (Nat.le_of_ble_eq_true rfl) (Nat.le_of_ble_eq_true rfl) ?_
      refine r_goto (tgt := 29) K dX8_afterTurn_19 (by decide) ?_
      exact r_iret K Z dX8_afterTurn_29 hf
  · have hf := e_t hf c1_
    refine r_iload_n K dX8_afterTurn_5 0 rfl rfl ?_
    exact r_iret K Z dX8_afterTurn_6 hf
theorem conX8_afterTurn {G : GG} (p0 : Int32) (p1 : Int32) (h : AH) (rv : Int32) (h' : AH) (hf : fX8_afterTurn p0 p1 h = some (rv, h')) : Con G 1 yX8_afterTurn cX8_afterTurn 2 (some .int) [.int p0, .int p1] h (some (.int rv)) h' := con_of mwX8_afterTurn (Nat.le_of_ble_eq_true rfl) (fun E K Z => sX8_afterTurn K Z p0 p1 h hf)
def fX8_begin_12_b (p0 : Int32) (p1 : Int32) (Q12 : Int32 → AH → Option AH) (x3 : Int32) (h : AH) : Option AH :=
  if 100 ≤ x3 then some h else if inb x3 100 = true then letV (wI h 31 (ix x3) (-2000000000)) fun h7_ => Q12 (x3 + 1) h7_ else none
def fX8_begin_12 (p0 : Int32) (p1 : Int32) : Nat → Int32 → AH → Option AH
  | 0 => fun _ _ => none
  | n + 1 => fX8_begin_12_b p0 p1 (fX8_begin_12 p0 p1 n)
set_option maxRecDepth 10000 in
theorem sX8_begin_12_b {G : GG} {E : EE} {h' : AH} (K : OK G E 0 RX8 cX8_begin 4) (Z : RT G E none (none) h') (p0 : Int32) (p1 : Int32) (Q12 : Int32 → AH → Option AH) (hQ12 : ∀ (x3 : Int32) (h : AH), Q12 x3 h = some h' → JJ G E 4 12 [(0, .ref 30), (3, .int x3)] [] h) (x3 : Int32) (h : AH) (hf : fX8_begin_12_b p0 p1 Q12 x3 h = some h') : JJ G E 4 12 [(0, .ref 30), (3, .int x3)] [] h := by
  unfold fX8_begin_12_b at hf
  refine r_iload_n K dX8_begin_12 1 rfl rfl ?_
  refine r_aload_n K dX8_begin_13 0 rfl rfl ?_
  refine r_getR (o' := 31) K flX8_18 dX8_begin_14 rfl rfl rfl ?_
  refine r_alen (v := 100) K dX8_begin_17 rfl rfl ?_
  refine r_icmp_ge (tgt := 35) K dX8_begin_18 (by decide) (fun c5_ => ?_) (fun c5_ => ?_)
  · have hf := e_t hf c5_
    exact r_vret K Z dX8_begin_35 hf
  · have hf := e_f hf c5_
    refine r_aload_n K dX8_begin_21 0 rfl rfl ?_
    refine r_getR (o' := 31) K flX8_18 dX8_begin_22 rfl rfl rfl ?_
    refine r_iload_n K dX8_begin_25 1 rfl rfl ?_
    refine r_ldc (v := (-2000000000)) K dX8_begin_26 lcX8_26 ?_
    obtain ⟨g6_, hf⟩ := e_g hf
    obtain ⟨h7_, e8_, hf⟩ := e_l hf
    refine r_iast K dX8_begin_28 rfl g6_ e8_ ?_
    refine r_iinc (y := 1) (lv' := [(3, .int (x3 + 1)), (0, .ref 30)]) K dX8_begin_29 1 rfl rfl (Nat.le_of_ble_eq_true rfl) rfl ?_
    refine r_goto (tgt := 12) K dX8_begin_32 (by decide) ?_
    refine r_lv [1, 0] rfl ?_
    exact hQ12 (x3 + 1) h7_ hf
theorem sX8_begin_12 {G : GG} {E : EE} {h' : AH} (K : OK G E 0 RX8 cX8_begin 4) (Z : RT G E none (none) h') (p0 : Int32) (p1 : Int32) : ∀ (n : Nat) (x3 : Int32) (h : AH), fX8_begin_12 p0 p1 n x3 h = some h' → JJ G E 4 12 [(0, .ref 30), (3, .int x3)] [] h := by
  intro n
  induction n with
  | zero => intro x3 h hf; cases hf
  | succ n ih => intro x3 h hf; exact sX8_begin_12_b K Z p0 p1 _ (fun x3 h hf => ih x3 h hf) x3 h hf
def fX8_begin (p0 : Int32) (p1 : Int32) (h : AH) : Option AH :=
  letV (wI h 30 1 p0) fun h1_ => letV (wI h1_ 30 2 p1) fun h3_ => fX8_begin_12 p0 p1 FU 0 h3_
set_option maxRecDepth 10000 in
theorem sX8_begin {G : GG} {E : EE} {h' : AH} (K : OK G E 0 RX8 cX8_begin 4) (Z : RT G E none (none) h') (p0 : Int32) (p1 : Int32) (h : AH) (hf : fX8_begin p0 p1 h = some h') : JJ G E 4 0 [(0, .ref 30), (1, .int p0), (2, .int p1)] [] h := by
  unfold fX8_begin at hf
  refine r_aload_n K dX8_begin_0 0 rfl rfl ?_
  refine r_iload_n K dX8_begin_1 1 rfl rfl ?_
  obtain ⟨h1_, e2_, hf⟩ := e_l hf
  refine r_putI K fpX8_9 dX8_begin_2 rfl rfl e2_ ?_
  refine r_aload_n K dX8_begin_5 0 rfl rfl ?_
  refine r_iload_n K dX8_begin_6 2 rfl rfl ?_
  obtain ⟨h3_, e4_, hf⟩ := e_l hf
  refine r_putI K fpX8_15 dX8_begin_7 rfl rfl e4_ ?_
  refine r_iconst (v := 0) K dX8_begin_10 rfl ?_
  refine r_istore_n (lv' := [(3, .int 0), (0, .ref 30), (1, .int p0), (2, .int p1)]) K dX8_begin_11 rfl (Nat.le_of_ble_eq_true rfl) rfl ?_
  refine r_lv [1, 0] rfl ?_
  exact sX8_begin_12 K Z p0 p1 FU 0 h3_ hf
theorem conX8_begin {G : GG} (p0 : Int32) (p1 : Int32) (h : AH) (h' : AH) (hf : fX8_begin p0 p1 h = some h') : Con G 0 yX8_begin cX8_begin 4 none [.ref 30, .int p0, .int p1] h (none) h' := con_of mwX8_begin (Nat.le_of_ble_eq_true rfl) (fun E K Z => sX8_begin K Z p0 p1 h hf)
def fX8_endOf_111 (p0 : Int32) (p1 : Int32) (x3 : Int32) (h : AH) : Option (Int32 × AH) :=
  if inb x3 100 = true then some ((h.1 31 (ix x3)), h) else none
set_option maxRecDepth 10000 in
theorem sX8_endOf_111 {G : GG} {E : EE} {rv : Int32} {h' : AH} (K : OK G E 5 RX8 cX8_endOf 4) (Z : RT G E (some .int) (some (.int rv)) h') (p0 : Int32) (p1 : Int32) (x3 : Int32) (h : AH) (hf : fX8_endOf_111 p0 p1 x3 h = some (rv, h')) : JJ G E 4 111 [(0, .ref 30), (3, .int x3)] [] h := by
  unfold fX8_endOf_111 at hf
  refine r_aload_n K dX8_endOf_111 0 rfl rfl ?_
  refine r_getR (o' := 31) K flX8_18 dX8_endOf_112 rfl rfl rfl ?_
  refine r_iload_n K dX8_endOf_115 1 rfl rfl ?_
  obtain ⟨g7_, hf⟩ := e_g hf
  refine r_iald K dX8_endOf_116 rfl g7_ ?_
  exact r_iret K Z dX8_endOf_117 hf
def fX8_endOf (p0 : Int32) (p1 : Int32) (h : AH) : Option (Int32 × AH) :=
  letV (((p0 * 10) + p1)) fun x1_ => if x1_ < 0 then some (0, h) else if x1_ < 100 then if inb x1_ 100 = true then if (h.1 31 (ix x1_)) = (-2000000000) then bindV (fX6_startBehind 0 h) fun h9_ => if inb (h9_.1 30 1) 9 = true then letV (wI h9_ 22 (ix (h9_.1 30 1)) p0) fun h12_ => if inb (h12_.1 30 2) 9 = true then letV (wI h12_ 22 (ix (h12_.1 30 2)) p1) fun h15_ => bindV (fX6_allGo 9 h15_) fun h18_ => bind2 (fX6_placeOfGoer (h18_.1 30 2) h18_) fun r20_ h21_ => bind2 (fX6_placeOfGoer (h21_.1 30 1) h21_) fun r23_ h24_ => letV (wI h24_ 31 (ix x1_) (r20_ - r23_)) fun h27_ => fX8_endOf_111 p0 p1 x1_ h27_ else none else none else fX8_endOf_111 p0 p1 x1_ h else none else some (0, h)
set_option maxRecDepth 10000 in
theorem sX8_endOf {G : GG} {E : EE} {rv : Int32} {h' : AH} (K : OK G E 5 RX8 cX8_endOf 4) (Z : RT G E (some .int) (some (.int rv)) h') (p0 : Int32) (p1 : Int32) (h : AH) (hf : fX8_endOf p0 p1 h = some (rv, h')) : JJ G E 4 0 [(0, .ref 30), (1, .int p0), (2, .int p1)] [] h := by
  unfold fX8_endOf at hf
  refine r_iload_n K dX8_endOf_0 1 rfl rfl ?_
  refine r_bipush (v := 10) K dX8_endOf_1 rfl ?_
  refine r_imul K dX8_endOf_3 ?_
  refine r_iload_n K dX8_endOf_4 2 rfl rfl ?_
  refine r_iadd K dX8_endOf_5 ?_
  obtain ⟨x1_, e2_, hf⟩ := e_l hf
  refine r_nmI e2_ ?_
  refine r_istore_n (lv' := [(3, .int x1_), (0, .ref 30), (1, .int p0), (2, .int p1)]) K dX8_endOf_6 rfl (Nat.le_of_ble_eq_true rfl) rfl ?_
  refine r_iload_n K dX8_endOf_7 0 rfl rfl ?_
  refine r_if_lt (tgt := 20) K dX8_endOf_8 (by decide) (fun c3_ => ?_) (fun c3_ => ?_)
  · have hf := e_t hf c3_
    refine r_iconst (v := 0) K dX8_endOf_20 rfl ?_
    exact r_iret K Z dX8_endOf_21 hf
  · have hf := e_f hf c3_
    refine r_iload_n K dX8_endOf_11 0 rfl rfl ?_
    refine r_aload_n K dX8_endOf_12 1 rfl rfl ?_
    refine r_getR (o' := 31) K flX8_18 dX8_endOf_13 rfl rfl rfl ?_
    refine r_alen (v := 100) K dX8_endOf_16 rfl rfl ?_
    refine r_icmp_lt (tgt := 22) K dX8_endOf_17 (by decide) (fun c4_ => ?_) (fun c4_ => ?_)
    · have hf := e_t hf c4_
      refine r_aload_n K dX8_endOf_22 1 rfl rfl ?_
      refine r_getR (o' := 31) K flX8_18 dX8_endOf_23 rfl rfl rfl ?_
      refine r_iload_n K dX8_endOf_26 0 rfl rfl ?_
      obtain ⟨g5_, hf⟩ := e_g hf
      refine r_iald K dX8_endOf_27 rfl g5_ ?_
      refine r_ldc (v := (-2000000000)) K dX8_endOf_28 lcX8_26 ?_
      refine r_icmp_ne (tgt := 111) K dX8_endOf_30 (by decide) (fun c6_ => ?_) (fun c6_ => ?_)
      · have hf := e_f hf c6_
        refine r_lv [1, 0] rfl ?_
        exact sX8_endOf_111 K Z p0 p1 x1_ h hf
      · have hf := e_t hf c6_
        refine r_aload_n K dX8_endOf_33 1 rfl rfl ?_
        refine r_getR (o' := 18) K flX8_22 dX8_endOf_34 rfl rfl rfl ?_
        refine r_iconst (v := 0) K dX8_endOf_37 rfl ?_
        obtain ⟨h9_, g10_, hf⟩ := e_v hf
        refine r_callV (av := [.int 0]) (st := []) K lkX8_46 mwX6_startBehind (conX6_startBehind 0 h h9_ g10_) dX8_endOf_38 rfl (Nat.le_of_ble_eq_true rfl) rfl rfl (Nat.le_of_ble_eq_true rfl) ?_
        refine r_aload_n K dX8_endOf_41 1 rfl rfl ?_
        refine r_getR (o' := 18) K flX8_22 dX8_endOf_42 rfl rfl rfl ?_
        refine r_getR (o' := 19) K flX8_52 dX8_endOf_45 rfl rfl rfl ?_
        refine r_getR (o' := 22) K flX8_56 dX8_endOf_48 rfl rfl rfl ?_
        refine r_aload_n K dX8_endOf_51 1 rfl rfl ?_
        refine r_getI K flX8_9 dX8_endOf_52 rfl rfl ?_
        refine r_iload_n K dX8_endOf_55 2 rfl rfl ?_
        obtain ⟨g11_, hf⟩ := e_g hf
        obtain ⟨h12_, e13_, hf⟩ := e_l hf
        refine r_iast K dX8_endOf_56 rfl g11_ e13_ ?_
        refine r_aload_n K dX8_endOf_57 1 rfl rfl ?_
        refine r_getR (o' := 18) K flX8_22 dX8_endOf_58 rfl rfl rfl ?_
        refine r_getR (o' := 19) K flX8_52 dX8_endOf_61 rfl rfl rfl ?_
        refine r_getR (o' := 22) K flX8_56 dX8_endOf_64 rfl rfl rfl ?_
        refine r_aload_n K dX8_endOf_67 1 rfl rfl ?_
        refine r_getI K flX8_15 dX8_endOf_68 rfl rfl ?_
        refine r_iload_n K dX8_endOf_71 3 rfl rfl ?_
        obtain ⟨g14_, hf⟩ := e_g hf
        obtain ⟨h15_, e16_, hf⟩ := e_l hf
        refine r_iast K dX8_endOf_72 rfl g14_ e16_ ?_
        refine r_aload_n K dX8_endOf_73 1 rfl rfl ?_
        refine r_getR (o' := 18) K flX8_22 dX8_endOf_74 rfl rfl rfl ?_
        refine r_bipush (v := 9) K dX8_endOf_77 rfl ?_
        obtain ⟨h18_, g19_, hf⟩ := e_v hf
        refine r_callV (av := [.int 9]) (st := []) K lkX8_61 mwX6_allGo (conX6_allGo 9 h15_ h18_ g19_) dX8_endOf_79 rfl (Nat.le_of_ble_eq_true rfl) rfl rfl (Nat.le_of_ble_eq_true rfl) ?_
        refine r_aload_n K dX8_endOf_82 1 rfl rfl ?_
        refine r_getR (o' := 31) K flX8_18 dX8_endOf_83 rfl rfl rfl ?_
        refine r_iload_n K dX8_endOf_86 0 rfl rfl ?_
        refine r_aload_n K dX8_endOf_87 1 rfl rfl ?_
        refine r_getR (o' := 18) K flX8_22 dX8_endOf_88 rfl rfl rfl ?_
        refine r_aload_n K dX8_endOf_91 1 rfl rfl ?_
        refine r_getI K flX8_15 dX8_endOf_92 rfl rfl ?_
        obtain ⟨r20_, h21_, g22_, hf⟩ := e_2 hf
        refine r_callV (av := [.int (h18_.1 30 2)]) (st := [.int x1_, .ref 31]) K lkX8_64 mwX6_placeOfGoer (conX6_placeOfGoer (h18_.1 30 2) h18_ r20_ h21_ g22_) dX8_endOf_95 rfl (Nat.le_of_ble_eq_true rfl) rfl rfl (Nat.le_of_ble_eq_true rfl) ?_
        refine r_aload_n K dX8_endOf_98 1 rfl rfl ?_
        refine r_getR (o' := 18) K flX8_22 dX8_endOf_99 rfl rfl rfl ?_
        refine r_aload_n K dX8_endOf_102 1 rfl rfl ?_
        refine r_getI K flX8_9 dX8_endOf_103 rfl rfl ?_
        obtain ⟨r23_, h24_, g25_, hf⟩ := e_2 hf
        refine r_callV (av := [.int (h21_.1 30 1)]) (st := [.int r20_, .int x1_, .ref 31]) K lkX8_64 mwX6_placeOfGoer (conX6_placeOfGoer (h21_.1 30 1) h21_ r23_ h24_ g25_) dX8_endOf_106 rfl (Nat.le_of_ble_eq_true rfl) rfl rfl (Nat.le_of_ble_eq_true rfl) ?_
        refine r_isub K dX8_endOf_109 ?_
        obtain ⟨h27_, e28_, hf⟩ := e_l hf
        refine r_iast K dX8_endOf_110 rfl g5_ e28_ ?_
        refine r_lv [1, 0] rfl ?_
        exact sX8_endOf_111 K Z p0 p1 x1_ h27_ hf
    · have hf := e_f hf c4_
      refine r_iconst (v := 0) K dX8_endOf_20 rfl ?_
      exact r_iret K Z dX8_endOf_21 hf
theorem conX8_endOf {G : GG} (p0 : Int32) (p1 : Int32) (h : AH) (rv : Int32) (h' : AH) (hf : fX8_endOf p0 p1 h = some (rv, h')) : Con G 5 yX8_endOf cX8_endOf 4 (some .int) [.ref 30, .int p0, .int p1] h (some (.int rv)) h' := con_of mwX8_endOf (Nat.le_of_ble_eq_true rfl) (fun E K Z => sX8_endOf K Z p0 p1 h hf)
def fX8_best_28_b (RR : Nat → List Int32 → AH → Option (Int32 × AH)) (p0 : Int32) (p1 : Int32) (p2 : Int32) (p3 : Int32) (Q28 : Int32 → Int32 → Int32 → Int32 → Int32 → Int32 → AH → Option (Int32 × AH)) (x1 : Int32) (x2 : Int32) (x3 : Int32) (x4 : Int32) (x5 : Int32) (x6 : Int32) (h : AH) : Option (Int32 × AH) :=
  if 2 < x6 then some (x5, h) else if x4 = 0 then bind2 (fX8_afterTurn x2 x6 h) fun r5_ h6_ => bind2 (RR 0 [x1, r5_, (x3 - 1), 1] h6_) fun r8_ h9_ => letV ((jmin x5 r8_)) fun x11_ => Q28 x1 x2 x3 x4 x11_ (x6 + 1) h9_ else bind2 (fX8_afterTurn x1 x6 h) fun r13_ h14_ => bind2 (RR 0 [r13_, x2, (x3 - 1), 0] h14_) fun r16_ h17_ => letV ((jmax x5 r16_)) fun x19_ => Q28 x1 x2 x3 x4 x19_ (x6 + 1) h17_
def fX8_best_28 (RR : Nat → List Int32 → AH → Option (Int32 × AH)) (p0 : Int32) (p1 : Int32) (p2 : Int32) (p3 : Int32) : Nat → Int32 → Int32 → Int32 → Int32 → Int32 → Int32 → AH → Option (Int32 × AH)
  | 0 => fun _ _ _ _ _ _ _ => none
  | n + 1 => fX8_best_28_b RR p0 p1 p2 p3 (fX8_best_28 RR p0 p1 p2 p3 n)
set_option maxRecDepth 10000 in
theorem sX8_best_28_b {G : GG} {E : EE} {rv : Int32} {h' : AH} {dd : Nat} (hdd : 5 ≤ dd) (K : OK G E (dd + 1) RX8 cX8_best 7) (Z : RT G E (some .int) (some (.int rv)) h') (RR : Nat → List Int32 → AH → Option (Int32 × AH)) (hRR : (∀ (z0 : Int32) (z1 : Int32) (z2 : Int32) (z3 : Int32) (h : AH) (r : Int32) (h1 : AH), RR 0 [z0, z1, z2, z3] h = some (r, h1) → Con G dd yX8_best cX8_best 7 (some .int) [.ref 30, .int z0, .int z1, .int z2, .int z3] h (some (.int r)) h1)) (p0 : Int32) (p1 : Int32) (p2 : Int32) (p3 : Int32) (Q28 : Int32 → Int32 → Int32 → Int32 → Int32 → Int32 → AH → Option (Int32 × AH)) (hQ28 : ∀ (x1 : Int32) (x2 : Int32) (x3 : Int32) (x4 : Int32) (x5 : Int32) (x6 : Int32) (h : AH), Q28 x1 x2 x3 x4 x5 x6 h = some (rv, h') → JJ G E 7 28 [(0, .ref 30), (1, .int x1), (2, .int x2), (3, .int x3), (4, .int x4), (5, .int x5), (6, .int x6)] [] h) (x1 : Int32) (x2 : Int32) (x3 : Int32) (x4 : Int32) (x5 : Int32) (x6 : Int32) (h : AH) (hf : fX8_best_28_b RR p0 p1 p2 p3 Q28 x1 x2 x3 x4 x5 x6 h = some (rv, h')) : JJ G E 7 28 [(0, .ref 30), (1, .int x1), (2, .int x2), (3, .int x3), (4, .int x4), (5, .int x5), (6, .int x6)] [] h := by
  unfold fX8_best_28_b at hf
  refine r_iload K dX8_best_28 6 rfl ?_
  refine r_iconst (v := 2) K dX8_best_30 rfl ?_
  refine r_icmp_gt (tgt := 92) K dX8_best_31 (by decide) (fun c3_ => ?_) (fun c3_ => ?_)
  · have hf := e_t hf c3_
    refine r_iload K dX8_best_92 5 rfl ?_
    exact r_iret K Z dX8_best_94 hf
  · have hf := e_f hf c3_
    refine r_iload K dX8_best_34 4 rfl ?_
    refine r_if_eq (tgt := 64) K dX8_best_36 (by decide) (fun c4_ => ?_) (fun c4_ => ?_)
    · have hf := e_t hf c4_
      refine r_iload K dX8_best_64 5 rfl ?_
      refine r_aload_n K dX8_best_66 0 rfl rfl ?_
      refine r_iload_n K dX8_best_67 1 rfl rfl ?_
      refine r_iload_n K dX8_best_68 2 rfl rfl ?_
      refine r_iload K dX8_best_69 6 rfl ?_
      obtain ⟨r5_, h6_, g7_, hf⟩ := e_2 hf
      refine r_callS (av := [.int x2, .int x6]) (st := [.int x1, .ref 30, .int x5]) K lkX8_31 mwX8_afterTurn (conX8_afterTurn x2 x6 h r5_ h6_ g7_) dX8_best_71 (by omega) rfl rfl (Nat.le_of_ble_eq_true rfl) ?_
      refine r_iload_n K dX8_best_74 3 rfl rfl ?_
      refine r_iconst (v := 1) K dX8_best_75 rfl ?_
      refine r_isub K dX8_best_76 ?_
      refine r_iconst (v := 1) K dX8_best_77 rfl ?_
      obtain ⟨r8_, h9_, g10_, hf⟩ := e_2 hf
      refine r_callV (av := [.int x1, .int r5_, .int (x3 - 1), .int 1]) (st := [.int x5]) K lkX8_34 mwX8_best (hRR x1 r5_ (x3 - 1) 1 h6_ r8_ h9_ g10_) dX8_best_78 rfl (Nat.le_refl _) rfl rfl (Nat.le_of_ble_eq_true rfl) ?_
      refine r_mmin K lmX8_43 dX8_best_81 (by omega) (Nat.le_of_ble_eq_true rfl) ?_
      obtain ⟨x11_, e12_, hf⟩ := e_l hf
      refine r_nmI e12_ ?_
      refine r_istore (lv' := [(5, .int x11_), (0, .ref 30), (1, .int x1), (2, .int x2), (3, .int x3), (4, .int x4), (6, .int x6)]) K dX8_best_84 (Nat.le_of_ble_eq_true rfl) rfl ?_
      refine r_iinc (y := 1) (lv' := [(6, .int (x6 + 1)), (5, .int x11_), (0, .ref 30), (1, .int x1), (2, .int x2), (3, .int x3), (4, .int x4)]) K dX8_best_86 6 rfl rfl (Nat.le_of_ble_eq_true rfl) rfl ?_
      refine r_goto (tgt := 28) K dX8_best_89 (by decide) ?_
      refine r_lv [2, 3, 4, 5, 6, 1, 0] rfl ?_
      exact hQ28 x1 x2 x3 x4 x11_ (x6 + 1) h9_ hf
    · have hf := e_f hf c4_
      refine r_iload K dX8_best_39 5 rfl ?_
      refine r_aload_n K dX8_best_41 0 rfl rfl ?_
      refine r_iload_n K dX8_best_42 1 rfl rfl ?_
      refine r_iload K dX8_best_43 6 rfl ?_
      obtain ⟨r13_, h14_, g15_, hf⟩ := e_2 hf
      refine r_callS (av := [.int x1, .int x6]) (st := [.ref 30, .int x5]) K lkX8_31 mwX8_afterTurn (conX8_afterTurn x1 x6 h r13_ h14_ g15_) dX8_best_45 (by omega) rfl rfl (Nat.le_of_ble_eq_true rfl) ?_
      refine r_iload_n K dX8_best_48 2 rfl rfl ?_
      refine r_iload_n K dX8_best_49 3 rfl rfl ?_
      refine r_iconst (v := 1) K dX8_best_50 rfl ?_
      refine r_isub K dX8_best_51 ?_
      refine r_iconst (v := 0) K dX8_best_52 rfl ?_
      obtain ⟨r16_, h17_, g18_, hf⟩ := e_2 hf
      refine r_callV (av := [.int r13_, .int x2, .int (x3 - 1), .int 0]) (st := [.int x5]) K lkX8_34 mwX8_best (hRR r13_ x2 (x3 - 1) 0 h14_ r16_ h17_ g18_) dX8_best_53 rfl (Nat.le_refl _) rfl rfl (Nat.le_of_ble_eq_true rfl) ?_
      refine r_mmax K lmX8_38 dX8_best_56 (by omega) (Nat.le_of_ble_eq_true rfl) ?_
      obtain ⟨x19_, e20_, hf⟩ := e_l hf
      refine r_nmI e20_ ?_
      refine r_istore (lv' := [(5, .int x19_), (0, .ref 30), (1, .int x1), (2, .int x2), (3, .int x3), (4, .int x4), (6, .int x6)]) K dX8_best_59 (Nat.le_of_ble_eq_true rfl) rfl ?_
      refine r_goto (tgt := 86) K dX8_best_61 (by decide) ?_
      refine r_iinc (y := 1) (lv' := [(6, .int (x6 + 1)), (5, .int x19_), (0, .ref 30), (1, .int x1), (2, .int x2), (3, .int x3), (4, .int x4)]) K dX8_best_86 6 rfl rfl (Nat.le_of_ble_eq_true rfl) rfl ?_
      refine r_goto (tgt := 28) K dX8_best_89 (by decide) ?_
      refine r_lv [2, 3, 4, 5, 6, 1, 0] rfl ?_
      exact hQ28 x1 x2 x3 x4 x19_ (x6 + 1) h17_ hf
theorem sX8_best_28 {G : GG} {E : EE} {rv : Int32} {h' : AH} {dd : Nat} (hdd : 5 ≤ dd) (K : OK G E (dd + 1) RX8 cX8_best 7) (Z : RT G E (some .int) (some (.int rv)) h') (RR : Nat → List Int32 → AH → Option (Int32 × AH)) (hRR : (∀ (z0 : Int32) (z1 : Int32) (z2 : Int32) (z3 : Int32) (h : AH) (r : Int32) (h1 : AH), RR 0 [z0, z1, z2, z3] h = some (r, h1) → Con G dd yX8_best cX8_best 7 (some .int) [.ref 30, .int z0, .int z1, .int z2, .int z3] h (some (.int r)) h1)) (p0 : Int32) (p1 : Int32) (p2 : Int32) (p3 : Int32) : ∀ (n : Nat) (x1 : Int32) (x2 : Int32) (x3 : Int32) (x4 : Int32) (x5 : Int32) (x6 : Int32) (h : AH), fX8_best_28 RR p0 p1 p2 p3 n x1 x2 x3 x4 x5 x6 h = some (rv, h') → JJ G E 7 28 [(0, .ref 30), (1, .int x1), (2, .int x2), (3, .int x3), (4, .int x4), (5, .int x5), (6, .int x6)] [] h := by
  intro n
  induction n with
  | zero => intro x1 x2 x3 x4 x5 x6 h hf; cases hf
  | succ n ih => intro x1 x2 x3 x4 x5 x6 h hf; exact sX8_best_28_b hdd K Z RR hRR p0 p1 p2 p3 _ (fun x1 x2 x3 x4 x5 x6 h hf => ih x1 x2 x3 x4 x5 x6 h hf) x1 x2 x3 x4 x5 x6 h hf
def fX8_best (RR : Nat → List Int32 → AH → Option (Int32 × AH)) (p0 : Int32) (p1 : Int32) (p2 : Int32) (p3 : Int32) (h : AH) : Option (Int32 × AH) :=
  if 0 < p2 then if p3 = 0 then fX8_best_28 RR p0 p1 p2 p3 FU p0 p1 p2 p3 9 0 h else fX8_best_28 RR p0 p1 p2 p3 FU p0 p1 p2 p3 (-9) 0 h else bind2 (fX8_endOf p0 p1 h) fun r21_ h22_ => some (r21_, h22_)
set_option maxRecDepth 10000 in
theorem sX8_best {G : GG} {E : EE} {rv : Int32} {h' : AH} {dd : Nat} (hdd : 5 ≤ dd) (K : OK G E (dd + 1) RX8 cX8_best 7) (Z : RT G E (some .int) (some (.int rv)) h') (RR : Nat → List Int32 → AH → Option (Int32 × AH)) (hRR : (∀ (z0 : Int32) (z1 : Int32) (z2 : Int32) (z3 : Int32) (h : AH) (r : Int32) (h1 : AH), RR 0 [z0, z1, z2, z3] h = some (r, h1) → Con G dd yX8_best cX8_best 7 (some .int) [.ref 30, .int z0, .int z1, .int z2, .int z3] h (some (.int r)) h1)) (p0 : Int32) (p1 : Int32) (p2 : Int32) (p3 : Int32) (h : AH) (hf : fX8_best RR p0 p1 p2 p3 h = some (rv, h')) : JJ G E 7 0 [(0, .ref 30), (1, .int p0), (2, .int p1), (3, .int p2), (4, .int p3)] [] h := by
  unfold fX8_best at hf
  refine r_iload_n K dX8_best_0 3 rfl rfl ?_
  refine r_if_gt (tgt := 11) K dX8_best_1 (by decide) (fun c1_ => ?_) (fun c1_ => ?_)
  · have hf := e_t hf c1_
    refine r_iload K dX8_best_11 4 rfl ?_
    refine r_if_eq (tgt := 21) K dX8_best_13 (by decide) (fun c2_ => ?_) (fun c2_ => ?_)
    · have hf := e_t hf c2_
      refine r_bipush (v := 9) K dX8_best_21 rfl ?_
      refine r_istore (lv' := [(5, .int 9), (0, .ref 30), (1, .int p0), (2, .int p1), (3, .int p2), (4, .int p3)]) K dX8_best_23 (Nat.le_of_ble_eq_true rfl) rfl ?_
      refine r_iconst (v := 0) K dX8_best_25 rfl ?_
      refine r_istore (lv' := [(6, .int 0), (5, .int 9), (0, .ref 30), (1, .int p0), (2, .int p1), (3, .int p2), (4, .int p3)]) K dX8_best_26 (Nat.le_of_ble_eq_true rfl) rfl ?_
      refine r_lv [2, 3, 4, 5, 6, 1, 0] rfl ?_
      exact sX8_best_28 hdd K Z RR hRR p0 p1 p2 p3 FU p0 p1 p2 p3 9 0 h hf
    · have hf := e_f hf c2_
      refine r_bipush (v := (-9)) K dX8_best_16 rfl ?_
      refine r_goto (tgt := 23) K dX8_best_18 (by decide) ?_
      refine r_istore (lv' := [(5, .int (-9)), (0, .ref 30), (1, .int p0), (2, .int p1), (3, .int p2), (4, .int p3)]) K dX8_best_23 (Nat.le_of_ble_eq_true rfl) rfl ?_
      refine r_iconst (v := 0) K dX8_best_25 rfl ?_
      refine r_istore (lv' := [(6, .int 0), (5, .int (-9)), (0, .ref 30), (1, .int p0), (2, .int p1), (3, .int p2), (4, .int p3)]) K dX8_best_26 (Nat.le_of_ble_eq_true rfl) rfl ?_
      refine r_lv [2, 3, 4, 5, 6, 1, 0] rfl ?_
      exact sX8_best_28 hdd K Z RR hRR p0 p1 p2 p3 FU p0 p1 p2 p3 (-9) 0 h hf
  · have hf := e_f hf c1_
    refine r_aload_n K dX8_best_4 0 rfl rfl ?_
    refine r_iload_n K dX8_best_5 1 rfl rfl ?_
    refine r_iload_n K dX8_best_6 2 rfl rfl ?_
    obtain ⟨r21_, h22_, g23_, hf⟩ := e_2 hf
    refine r_callV (av := [.int p0, .int p1]) (st := []) K lkX8_27 mwX8_endOf (conX8_endOf p0 p1 h r21_ h22_ g23_) dX8_best_7 rfl (by omega) rfl rfl (Nat.le_of_ble_eq_true rfl) ?_
    exact r_iret K Z dX8_best_10 hf
def RGB : Nat → Nat → List Int32 → AH → Option (Int32 × AH)
  | 0 => fun _ _ _ => none
  | n + 1 => fun w a h => if w = 0 then fX8_best (RGB n) (a.getD 0 0) (a.getD 1 0) (a.getD 2 0) (a.getD 3 0) h else none
theorem conRGB {G : GG} : ∀ n : Nat, (∀ (z0 : Int32) (z1 : Int32) (z2 : Int32) (z3 : Int32) (h : AH) (r : Int32) (h1 : AH), RGB n 0 [z0, z1, z2, z3] h = some (r, h1) → Con G (5 + n) yX8_best cX8_best 7 (some .int) [.ref 30, .int z0, .int z1, .int z2, .int z3] h (some (.int r)) h1) := by
  intro n
  induction n with
  | zero => exact fun _ _ _ _ _ _ _ q => (by cases q)
  | succ n ih => exact fun z0 z1 z2 z3 h r h1 q => con_of mwX8_best (Nat.le_of_ble_eq_true rfl) (fun E K Z => sX8_best (dd := 5 + n) (Nat.le_add_right _ _) K Z (RGB n) ih z0 z1 z2 z3 h q)
theorem conRGB_0 {G : GG} (n : Nat) (z0 : Int32) (z1 : Int32) (z2 : Int32) (z3 : Int32) (h : AH) (r : Int32) (h1 : AH) (q : RGB n 0 [z0, z1, z2, z3] h = some (r, h1)) : Con G (5 + n) yX8_best cX8_best 7 (some .int) [.ref 30, .int z0, .int z1, .int z2, .int z3] h (some (.int r)) h1 := (conRGB n) z0 z1 z2 z3 h r h1 q
def fX9_act (p0 : Int32) (p1 : Int32) (p2 : Int32) (h : AH) : Option (Int32 × AH) :=
  bind2 (fX1_perform p0 p1 p2 h) fun r1_ h2_ => some (r1_, h2_)
set_option maxRecDepth 10000 in
theorem sX9_act {G : GG} {E : EE} {rv : Int32} {h' : AH} (K : OK G E 52 RX9 cX9_act 4) (Z : RT G E (some .int) (some (.int rv)) h') (p0 : Int32) (p1 : Int32) (p2 : Int32) (h : AH) (hf : fX9_act p0 p1 p2 h = some (rv, h')) : JJ G E 4 0 [(0, .ref 0), (1, .int p0), (2, .int p1), (3, .int p2)] [] h := by
  unfold fX9_act at hf
  refine r_aload_n K dX9_act_0 0 rfl rfl ?_
  refine r_getR (o' := 43) K flX9_76 dX9_act_1 rfl rfl rfl ?_
  refine r_iload_n K dX9_act_4 1 rfl rfl ?_
  refine r_iload_n K dX9_act_5 2 rfl rfl ?_
  refine r_iload_n K dX9_act_6 3 rfl rfl ?_
  obtain ⟨r1_, h2_, g3_, hf⟩ := e_2 hf
  refine r_callV (av := [.int p0, .int p1, .int p2]) (st := []) K lkX9_277 mwX1_perform (conX1_perform p0 p1 p2 h r1_ h2_ g3_) dX9_act_7 rfl (Nat.le_of_ble_eq_true rfl) rfl rfl (Nat.le_of_ble_eq_true rfl) ?_
  exact r_iret K Z dX9_act_10 hf
theorem conX9_act {G : GG} (p0 : Int32) (p1 : Int32) (p2 : Int32) (h : AH) (rv : Int32) (h' : AH) (hf : fX9_act p0 p1 p2 h = some (rv, h')) : Con G 52 yX9_act cX9_act 4 (some .int) [.ref 0, .int p0, .int p1, .int p2] h (some (.int rv)) h' := con_of mwX9_act (Nat.le_of_ble_eq_true rfl) (fun E K Z => sX9_act K Z p0 p1 p2 h hf)
def fX9_back (h : AH) : Option (Int32 × AH) :=
  if (h.1 33 6) = 0 then some ((-5), h) else bindV (fX2_layBack 1 h) fun h3_ => some ((h3_.1 32 (ix 2)), h3_)
set_option maxRecDepth 10000 in
theorem sX9_back {G : GG} {E : EE} {rv : Int32} {h' : AH} (K : OK G E 2 RX9 cX9_back 1) (Z : RT G E (some .int) (some (.int rv)) h') (h : AH) (hf : fX9_back h = some (rv, h')) : JJ G E 1 0 [(0, .ref 0)] [] h := by
  unfold fX9_back at hf
  refine r_aload_n K dX9_back_0 0 rfl rfl ?_
  refine r_getR (o' := 33) K flX9_62 dX9_back_1 rfl rfl rfl ?_
  refine r_getI K flX9_255 dX9_back_4 rfl rfl ?_
  refine r_if_ne (tgt := 13) K dX9_back_7 (by decide) (fun c1_ => ?_) (fun c1_ => ?_)
  · have hf := e_f hf c1_
    refine r_aload_n K dX9_back_13 0 rfl rfl ?_
    refine r_getR (o' := 33) K flX9_62 dX9_back_14 rfl rfl rfl ?_
    refine r_aload_n K dX9_back_17 0 rfl rfl ?_
    refine r_getR (o' := 1) K flX9_10 dX9_back_18 rfl rfl rfl ?_
    refine r_aload_n K dX9_back_21 0 rfl rfl ?_
    refine r_getR (o' := 32) K flX9_56 dX9_back_22 rfl rfl rfl ?_
    obtain ⟨h3_, g4_, hf⟩ := e_v hf
    refine r_callV (av := [.ref 1, .ref 32]) (st := []) K lkX9_259 mwX2_layBack (conX2_layBack 1 rfl h h3_ g4_) dX9_back_25 rfl (Nat.le_of_ble_eq_true rfl) rfl rfl (Nat.le_of_ble_eq_true rfl) ?_
    refine r_aload_n K dX9_back_28 0 rfl rfl ?_
    refine r_getR (o' := 32) K flX9_56 dX9_back_29 rfl rfl rfl ?_
    refine r_iconst (v := 2) K dX9_back_32 rfl ?_
    refine r_iald K dX9_back_33 rfl (by decide +kernel) ?_
    exact r_iret K Z dX9_back_34 hf
  · have hf := e_t hf c1_
    refine r_bipush (v := (-5)) K dX9_back_10 rfl ?_
    exact r_iret K Z dX9_back_12 hf
theorem conX9_back {G : GG} (h : AH) (rv : Int32) (h' : AH) (hf : fX9_back h = some (rv, h')) : Con G 2 yX9_back cX9_back 1 (some .int) [.ref 0] h (some (.int rv)) h' := con_of mwX9_back (Nat.le_of_ble_eq_true rfl) (fun E K Z => sX9_back K Z h hf)
def fX9_body (p0 : Int32) (h : AH) : Option (Int32 × AH) :=
  bind2 (fX1_isKind p0 h) fun r1_ h2_ => if r1_ = 0 then some ((-1), h2_) else if (h2_.1 43 1) < 50 then bind2 (fX1_add p0 h2_) fun r6_ h7_ => some (r6_, h7_) else some ((-3), h2_)
set_option maxRecDepth 10000 in
theorem sX9_body {G : GG} {E : EE} {rv : Int32} {h' : AH} (K : OK G E 1 RX9 cX9_body 2) (Z : RT G E (some .int) (some (.int rv)) h') (p0 : Int32) (h : AH) (hf : fX9_body p0 h = some (rv, h')) : JJ G E 2 0 [(0, .ref 0), (1, .int p0)] [] h := by
  unfold fX9_body at hf
  refine r_iload_n K dX9_body_0 1 rfl rfl ?_
  obtain ⟨r1_, h2_, g3_, hf⟩ := e_2 hf
  refine r_callS (av := [.int p0]) (st := []) K lkX9_269 mwX1_isKind (conX1_isKind p0 h r1_ h2_ g3_) dX9_body_1 (Nat.le_of_ble_eq_true rfl) rfl rfl (Nat.le_of_ble_eq_true rfl) ?_
  refine r_if_ne (tgt := 9) K dX9_body_4 (by decide) (fun c4_ => ?_) (fun c4_ => ?_)
  · have hf := e_f hf c4_
    refine r_aload_n K dX9_body_9 0 rfl rfl ?_
    refine r_getR (o' := 43) K flX9_76 dX9_body_10 rfl rfl rfl ?_
    refine r_getI K flX9_272 dX9_body_13 rfl rfl ?_
    refine r_bipush (v := 50) K dX9_body_16 rfl ?_
    refine r_icmp_lt (tgt := 26) K dX9_body_18 (by decide) (fun c5_ => ?_) (fun c5_ => ?_)
    · have hf := e_t hf c5_
      refine r_aload_n K dX9_body_26 0 rfl rfl ?_
      refine r_getR (o' := 43) K flX9_76 dX9_body_27 rfl rfl rfl ?_
      refine r_iload_n K dX9_body_30 1 rfl rfl ?_
      obtain ⟨r6_, h7_, g8_, hf⟩ := e_2 hf
      refine r_callV (av := [.int p0]) (st := []) K lkX9_275 mwX1_add (conX1_add p0 h2_ r6_ h7_ g8_) dX9_body_31 rfl (Nat.le_of_ble_eq_true rfl) rfl rfl (Nat.le_of_ble_eq_true rfl) ?_
      exact r_iret K Z dX9_body_34 hf
    · have hf := e_f hf c5_
      refine r_bipush (v := (-3)) K dX9_body_21 rfl ?_
      refine r_goto (tgt := 34) K dX9_body_23 (by decide) ?_
      exact r_iret K Z dX9_body_34 hf
  · have hf := e_t hf c4_
    refine r_iconst (v := (-1)) K dX9_body_7 rfl ?_
    exact r_iret K Z dX9_body_8 hf
theorem conX9_body {G : GG} (p0 : Int32) (h : AH) (rv : Int32) (h' : AH) (hf : fX9_body p0 h = some (rv, h')) : Con G 1 yX9_body cX9_body 2 (some .int) [.ref 0, .int p0] h (some (.int rv)) h' := con_of mwX9_body (Nat.le_of_ble_eq_true rfl) (fun E K Z => sX9_body K Z p0 h hf)
def fX9_isChoiceOfTwo (p0 : Int32) (h : AH) : Option (Int32 × AH) :=
  if p0 = 0 then some (1, h) else if p0 = 1 then some (1, h) else some (0, h)
set_option maxRecDepth 10000 in
theorem sX9_isChoiceOfTwo {G : GG} {E : EE} {rv : Int32} {h' : AH} (K : OK G E 0 RX9 cX9_isChoiceOfTwo 1) (Z : RT G E (some .boolean) (some (.int rv)) h') (p0 : Int32) (h : AH) (hf : fX9_isChoiceOfTwo p0 h = some (rv, h')) : JJ G E 1 0 [(0, .int p0)] [] h := by
  unfold fX9_isChoiceOfTwo at hf
  refine r_iload_n K dX9_isChoiceOfTwo_0 0 rfl rfl ?_
  refine r_if_eq (tgt := 9) K dX9_isChoiceOfTwo_1 (by decide) (fun c1_ => ?_) (fun c1_ => ?_)
  · have hf := e_t hf c1_
    refine r_iconst (v := 1) K dX9_isChoiceOfTwo_9 rfl ?_
    refine r_goto (tgt := 14) K dX9_isChoiceOfTwo_10 (by decide) ?_
    exact r_zret K Z dX9_isChoiceOfTwo_14 rfl hf
  · have hf := e_f hf c1_
    refine r_iload_n K dX9_isChoiceOfTwo_4 0 rfl rfl ?_
    refine r_iconst (v := 1) K dX9_isChoiceOfTwo_5 rfl ?_
    refine r_icmp_ne (tgt := 13) K dX9_isChoiceOfTwo_6 (by decide) (fun c2_ => ?_) (fun c2_ => ?_)
    · have hf := e_f hf c2_
      refine r_iconst (v := 0) K dX9_isChoiceOfTwo_13 rfl ?_
      exact r_zret K Z dX9_isChoiceOfTwo_14 rfl hf
    · have hf := e_t hf c2_
      refine r_iconst (v := 1) K dX9_isChoiceOfTwo_9 rfl ?_
      refine r_goto (tgt := 14) K dX9_isChoiceOfTwo_10 (by decide) ?_
      exact r_zret K Z dX9_isChoiceOfTwo_14 rfl hf
theorem conX9_isChoiceOfTwo {G : GG} (p0 : Int32) (h : AH) (rv : Int32) (h' : AH) (hf : fX9_isChoiceOfTwo p0 h = some (rv, h')) : Con G 0 yX9_isChoiceOfTwo cX9_isChoiceOfTwo 1 (some .boolean) [.int p0] h (some (.int rv)) h' := con_of mwX9_isChoiceOfTwo (Nat.le_of_ble_eq_true rfl) (fun E K Z => sX9_isChoiceOfTwo K Z p0 h hf)
def fX9_byTurns_113_b (p0 : Int32) (p1 : Int32) (p2 : Int32) (Q113 : Int32 → Int32 → Int32 → Int32 → Int32 → Int32 → Int32 → AH → Option (Int32 × AH)) (x2 : Int32) (x3 : Int32) (x4 : Int32) (x5 : Int32) (x6 : Int32) (x7 : Int32) (x8 : Int32) (h : AH) : Option (Int32 × AH) :=
  if 2 ≤ x8 then if x3 = 0 then some (x7, h) else some (x6, h) else if inb x4 9 = true then bind2 (fX8_afterTurn (h.1 4 (ix x4)) x8 h) fun r31_ h32_ => if inb x5 9 = true then bind2 (RGB 8 0 [r31_, (h32_.1 4 (ix x5)), (x2 - 1), 0] h32_) fun r35_ h36_ => if r35_ ≤ x7 then Q113 x2 x3 x4 x5 x6 x7 (x8 + 1) h36_ else Q113 x2 x3 x4 x5 x8 r35_ (x8 + 1) h36_ else none else none
def fX9_byTurns_113 (p0 : Int32) (p1 : Int32) (p2 : Int32) : Nat → Int32 → Int32 → Int32 → Int32 → Int32 → Int32 → Int32 → AH → Option (Int32 × AH)
  | 0 => fun _ _ _ _ _ _ _ _ => none
  | n + 1 => fX9_byTurns_113_b p0 p1 p2 (fX9_byTurns_113 p0 p1 p2 n)
set_option maxRecDepth 10000 in
theorem sX9_byTurns_113_b {G : GG} {E : EE} {rv : Int32} {h' : AH} (K : OK G E 14 RX9 cX9_byTurns 10) (Z : RT G E (some .int) (some (.int rv)) h') (p0 : Int32) (p1 : Int32) (p2 : Int32) (Q113 : Int32 → Int32 → Int32 → Int32 → Int32 → Int32 → Int32 → AH → Option (Int32 × AH)) (hQ113 : ∀ (x2 : Int32) (x3 : Int32) (x4 : Int32) (x5 : Int32) (x6 : Int32) (x7 : Int32) (x8 : Int32) (h : AH), Q113 x2 x3 x4 x5 x6 x7 x8 h = some (rv, h') → JJ G E 10 113 [(0, .ref 0), (2, .int x2), (3, .int x3), (4, .int x4), (5, .int x5), (6, .int x6), (7, .int x7), (8, .int x8)] [] h) (x2 : Int32) (x3 : Int32) (x4 : Int32) (x5 : Int32) (x6 : Int32) (x7 : Int32) (x8 : Int32) (h : AH) (hf : fX9_byTurns_113_b p0 p1 p2 Q113 x2 x3 x4 x5 x6 x7 x8 h = some (rv, h')) : JJ G E 10 113 [(0, .ref 0), (2, .int x2), (3, .int x3), (4, .int x4), (5, .int x5), (6, .int x6), (7, .int x7), (8, .int x8)] [] h := by
  unfold fX9_byTurns_113_b at hf
  refine r_iload K dX9_byTurns_113 7 rfl ?_
  refine r_iconst (v := 2) K dX9_byTurns_115 rfl ?_
  refine r_icmp_ge (tgt := 178) K dX9_byTurns_116 (by decide) (fun c28_ => ?_) (fun c28_ => ?_)
  · have hf := e_t hf c28_
    refine r_iload_n K dX9_byTurns_178 2 rfl rfl ?_
    refine r_if_ne (tgt := 187) K dX9_byTurns_179 (by decide) (fun c29_ => ?_) (fun c29_ => ?_)
    · have hf := e_f hf c29_
      refine r_iload K dX9_byTurns_187 5 rfl ?_
      exact r_iret K Z dX9_byTurns_189 hf
    · have hf := e_t hf c29_
      refine r_iload K dX9_byTurns_182 6 rfl ?_
      refine r_goto (tgt := 189) K dX9_byTurns_184 (by decide) ?_
      exact r_iret K Z dX9_byTurns_189 hf
  · have hf := e_f hf c28_
    refine r_aload_n K dX9_byTurns_119 0 rfl rfl ?_
    refine r_getR (o' := 30) K flX9_52 dX9_byTurns_120 rfl rfl rfl ?_
    refine r_aload_n K dX9_byTurns_123 0 rfl rfl ?_
    refine r_getR (o' := 1) K flX9_10 dX9_byTurns_124 rfl rfl rfl ?_
    refine r_getR (o' := 4) K flX9_193 dX9_byTurns_127 rfl rfl rfl ?_
    refine r_iload K dX9_byTurns_130 3 rfl ?_
    obtain ⟨g30_, hf⟩ := e_g hf
    refine r_iald K dX9_byTurns_132 rfl g30_ ?_
    refine r_iload K dX9_byTurns_133 7 rfl ?_
    obtain ⟨r31_, h32_, g33_, hf⟩ := e_2 hf
    refine r_callSN (av := [.int (h.1 4 (ix x4)), .int x8]) (st := [.ref 30]) K lkX9_233 mwX8_afterTurn (conX8_afterTurn (h.1 4 (ix x4)) x8 h r31_ h32_ g33_) dX9_byTurns_135 (Nat.le_of_ble_eq_true rfl) rfl rfl (Nat.le_of_ble_eq_true rfl) ?_
    refine r_aload_n K dX9_byTurns_138 0 rfl rfl ?_
    refine r_getR (o' := 1) K flX9_10 dX9_byTurns_139 rfl rfl rfl ?_
    refine r_getR (o' := 4) K flX9_193 dX9_byTurns_142 rfl rfl rfl ?_
    refine r_iload K dX9_byTurns_145 4 rfl ?_
    obtain ⟨g34_, hf⟩ := e_g hf
    refine r_iald K dX9_byTurns_147 rfl g34_ ?_
    refine r_iload_n K dX9_byTurns_148 1 rfl rfl ?_
    refine r_iconst (v := 1) K dX9_byTurns_149 rfl ?_
    refine r_isub K dX9_byTurns_150 ?_
    refine r_iconst (v := 0) K dX9_byTurns_151 rfl ?_
    obtain ⟨r35_, h36_, g37_, hf⟩ := e_2 hf
    refine r_callVN (av := [.int r31_, .int (h32_.1 4 (ix x5)), .int (x2 - 1), .int 0]) (st := []) K lkX9_229 mwX8_best (conRGB_0 8 r31_ (h32_.1 4 (ix x5)) (x2 - 1) 0 h32_ r35_ h36_ g37_) dX9_byTurns_152 rfl (Nat.le_of_ble_eq_true rfl) rfl rfl (Nat.le_of_ble_eq_true rfl) ?_
    refine r_istore (lv' := [(9, .int r35_), (0, .ref 0), (2, .int x2), (3, .int x3), (4, .int x4), (5, .int x5), (6, .int x6), (7, .int x7), (8, .int x8)]) K dX9_byTurns_155 (Nat.le_of_ble_eq_true rfl) rfl ?_
    refine r_iload K dX9_byTurns_157 0 rfl ?_
    refine r_iload K dX9_byTurns_159 7 rfl ?_
    refine r_icmp_le (tgt := 172) K dX9_byTurns_161 (by decide) (fun c38_ => ?_) (fun c38_ => ?_)
    · have hf := e_t hf c38_
      refine r_iinc (y := 1) (lv' := [(8, .int (x8 + 1)), (9, .int r35_), (0, .ref 0), (2, .int x2), (3, .int x3), (4, .int x4), (5, .int x5), (6, .int x6), (7, .int x7)]) K dX9_byTurns_172 8 rfl rfl (Nat.le_of_ble_eq_true rfl) rfl ?_
      refine r_goto (tgt := 113) K dX9_byTurns_175 (by decide) ?_
      refine r_lv [2, 3, 4, 5, 6, 7, 8, 0] rfl ?_
      exact hQ113 x2 x3 x4 x5 x6 x7 (x8 + 1) h36_ hf
    · have hf := e_f hf c38_
      refine r_iload K dX9_byTurns_164 0 rfl ?_
      refine r_istore (lv' := [(7, .int r35_), (9, .int r35_), (0, .ref 0), (2, .int x2), (3, .int x3), (4, .int x4), (5, .int x5), (6, .int x6), (8, .int x8)]) K dX9_byTurns_166 (Nat.le_of_ble_eq_true rfl) rfl ?_
      refine r_iload K dX9_byTurns_168 8 rfl ?_
      refine r_istore (lv' := [(6, .int x8), (7, .int r35_), (9, .int r35_), (0, .ref 0), (2, .int x2), (3, .int x3), (4, .int x4), (5, .int x5), (8, .int x8)]) K dX9_byTurns_170 (Nat.le_of_ble_eq_true rfl) rfl ?_
      refine r_iinc (y := 1) (lv' := [(8, .int (x8 + 1)), (6, .int x8), (7, .int r35_), (9, .int r35_), (0, .ref 0), (2, .int x2), (3, .int x3), (4, .int x4), (5, .int x5)]) K dX9_byTurns_172 8 rfl rfl (Nat.le_of_ble_eq_true rfl) rfl ?_
      refine r_goto (tgt := 113) K dX9_byTurns_175 (by decide) ?_
      refine r_lv [4, 5, 6, 7, 8, 1, 2, 0] rfl ?_
      exact hQ113 x2 x3 x4 x5 x8 r35_ (x8 + 1) h36_ hf
theorem sX9_byTurns_113 {G : GG} {E : EE} {rv : Int32} {h' : AH} (K : OK G E 14 RX9 cX9_byTurns 10) (Z : RT G E (some .int) (some (.int rv)) h') (p0 : Int32) (p1 : Int32) (p2 : Int32) : ∀ (n : Nat) (x2 : Int32) (x3 : Int32) (x4 : Int32) (x5 : Int32) (x6 : Int32) (x7 : Int32) (x8 : Int32) (h : AH), fX9_byTurns_113 p0 p1 p2 n x2 x3 x4 x5 x6 x7 x8 h = some (rv, h') → JJ G E 10 113 [(0, .ref 0), (2, .int x2), (3, .int x3), (4, .int x4), (5, .int x5), (6, .int x6), (7, .int x7), (8, .int x8)] [] h := by
  intro n
  induction n with
  | zero => intro x2 x3 x4 x5 x6 x7 x8 h hf; cases hf
  | succ n ih => intro x2 x3 x4 x5 x6 x7 x8 h hf; exact sX9_byTurns_113_b K Z p0 p1 p2 _ (fun x2 x3 x4 x5 x6 x7 x8 h hf => ih x2 x3 x4 x5 x6 x7 x8 h hf) x2 x3 x4 x5 x6 x7 x8 h hf
def fX9_byTurns (p0 : Int32) (p1 : Int32) (p2 : Int32) (h : AH) : Option (Int32 × AH) :=
  letV ((p0 / 10)) fun x1_ => letV ((jrem p0 10)) fun x3_ => bind2 (fX7_isLeft 1 x1_ h) fun r5_ h6_ => if r5_ = 0 then some ((-2000000000), h6_) else bind2 (fX7_isLeft 1 x3_ h6_) fun r9_ h10_ => if r9_ = 0 then some ((-2000000000), h10_) else if x1_ = x3_ then some ((-2000000000), h10_) else if p1 < 1 then some ((-2000000000), h10_) else if 5 < p1 then some ((-2000000000), h10_) else bind2 (fX9_isChoiceOfTwo p2 h10_) fun r16_ h17_ => if r16_ = 0 then some ((-2000000000), h17_) else bindV (fX8_begin x1_ x3_ h17_) fun h21_ => if inb x1_ 9 = true then if inb x3_ 9 = true then bind2 (RGB 8 0 [(h21_.1 4 (ix x1_)), (h21_.1 4 (ix x3_)), (p1 - 1), 0] h21_) fun r25_ h26_ => fX9_byTurns_113 p0 p1 p2 FU p1 p2 x1_ x3_ 2 r25_ 0 h26_ else none else none
set_option maxRecDepth 10000 in
theorem sX9_byTurns {G : GG} {E : EE} {rv : Int32} {h' : AH} (K : OK G E 14 RX9 cX9_byTurns 10) (Z : RT G E (some .int) (some (.int rv)) h') (p0 : Int32) (p1 : Int32) (p2 : Int32) (h : AH) (hf : fX9_byTurns p0 p1 p2 h = some (rv, h')) : JJ G E 10 0 [(0, .ref 0), (1, .int p0), (2, .int p1), (3, .int p2)] [] h := by
  unfold fX9_byTurns at hf
  refine r_iload_n K dX9_byTurns_0 1 rfl rfl ?_
  refine r_bipush (v := 10) K dX9_byTurns_1 rfl ?_
  refine r_idiv K dX9_byTurns_3 (by decide) ?_
  obtain ⟨x1_, e2_, hf⟩ := e_l hf
  refine r_nmI e2_ ?_
  refine r_istore (lv' := [(4, .int x1_), (0, .ref 0), (1, .int p0), (2, .int p1), (3, .int p2)]) K dX9_byTurns_4 (Nat.le_of_ble_eq_true rfl) rfl ?_
  refine r_iload_n K dX9_byTurns_6 2 rfl rfl ?_
  refine r_bipush (v := 10) K dX9_byTurns_7 rfl ?_
  refine r_irem K dX9_byTurns_9 (by decide) ?_
  obtain ⟨x3_, e4_, hf⟩ := e_l hf
  refine r_nmI e4_ ?_
  refine r_istore (lv' := [(5, .int x3_), (4, .int x1_), (0, .ref 0), (1, .int p0), (2, .int p1), (3, .int p2)]) K dX9_byTurns_10 (Nat.le_of_ble_eq_true rfl) rfl ?_
  refine r_aload_n K dX9_byTurns_12 2 rfl rfl ?_
  refine r_getR (o' := 1) K flX9_10 dX9_byTurns_13 rfl rfl rfl ?_
  refine r_iload K dX9_byTurns_16 1 rfl ?_
  obtain ⟨r5_, h6_, g7_, hf⟩ := e_2 hf
  refine r_callV (av := [.int x1_]) (st := []) K lkX9_182 mwX7_isLeft (conX7_isLeft 1 x1_ rfl h r5_ h6_ g7_) dX9_byTurns_18 rfl (Nat.le_of_ble_eq_true rfl) rfl rfl (Nat.le_of_ble_eq_true rfl) ?_
  refine r_if_eq (tgt := 60) K dX9_byTurns_21 (by decide) (fun c8_ => ?_) (fun c8_ => ?_)
  · have hf := e_t hf c8_
    refine r_ldc (v := (-2000000000)) K dX9_byTurns_60 lcX9_224 ?_
    exact r_iret K Z dX9_byTurns_62 hf
  · have hf := e_f hf c8_
    refine r_aload_n K dX9_byTurns_24 2 rfl rfl ?_
    refine r_getR (o' := 1) K flX9_10 dX9_byTurns_25 rfl rfl rfl ?_
    refine r_iload K dX9_byTurns_28 0 rfl ?_
    obtain ⟨r9_, h10_, g11_, hf⟩ := e_2 hf
    refine r_callV (av := [.int x3_]) (st := []) K lkX9_182 mwX7_isLeft (conX7_isLeft 1 x3_ rfl h6_ r9_ h10_ g11_) dX9_byTurns_30 rfl (Nat.le_of_ble_eq_true rfl) rfl rfl (Nat.le_of_ble_eq_true rfl) ?_
    refine r_if_eq (tgt := 60) K dX9_byTurns_33 (by decide) (fun c12_ => ?_) (fun c12_ => ?_)
    · have hf := e_t hf c12_
      refine r_ldc (v := (-2000000000)) K dX9_byTurns_60 lcX9_224 ?_
      exact r_iret K Z dX9_byTurns_62 hf
    · have hf := e_f hf c12_
      refine r_iload K dX9_byTurns_36 1 rfl ?_
      refine r_iload K dX9_byTurns_38 0 rfl ?_
      refine r_icmp_eq (tgt := 60) K dX9_byTurns_40 (by decide) (fun c13_ => ?_) (fun c13_ => ?_)
      · have hf := e_t hf c13_
        refine r_ldc (v := (-2000000000)) K dX9_byTurns_60 lcX9_224 ?_
        exact r_iret K Z dX9_byTurns_62 hf
      · have hf := e_f hf c13_
        refine r_iload_n K dX9_byTurns_43 4 rfl rfl ?_
        refine r_iconst (v := 1) K dX9_byTurns_44 rfl ?_
        refine r_icmp_lt (tgt := 60) K dX9_byTurns_45 (by decide) (fun c14_ => ?_) (fun c14_ => ?_)
        · have hf := e_t hf c14_
          refine r_ldc (v := (-2000000000)) K dX9_byTurns_60 lcX9_224 ?_
          exact r_iret K Z dX9_byTurns_62 hf
        · have hf := e_f hf c14_
          refine r_iload_n K dX9_byTurns_48 4 rfl rfl ?_
          refine r_iconst (v := 5) K dX9_byTurns_49 rfl ?_
          refine r_icmp_gt (tgt := 60) K dX9_byTurns_50 (by decide) (fun c15_ => ?_) (fun c15_ => ?_)
          · have hf := e_t hf c15_
            refine r_ldc (v := (-2000000000)) K dX9_byTurns_60 lcX9_224 ?_
            exact r_iret K Z dX9_byTurns_62 hf
          · have hf := e_f hf c15_
            refine r_iload_n K dX9_byTurns_53 5 rfl rfl ?_
            obtain ⟨r16_, h17_, g18_, hf⟩ := e_2 hf
            refine r_callS (av := [.int p2]) (st := []) K lkX9_167 mwX9_isChoiceOfTwo (conX9_isChoiceOfTwo p2 h10_ r16_ h17_ g18_) dX9_byTurns_54 (Nat.le_of_ble_eq_true rfl) rfl rfl (Nat.le_of_ble_eq_true rfl) ?_
            refine r_if_ne (tgt := 63) K dX9_byTurns_57 (by decide) (fun c19_ => ?_) (fun c19_ => ?_)
            · have hf := e_f hf c19_
              refine r_aload_n K dX9_byTurns_63 2 rfl rfl ?_
              refine r_getR (o' := 30) K flX9_52 dX9_byTurns_64 rfl rfl rfl ?_
              refine r_iload K dX9_byTurns_67 1 rfl ?_
              refine r_iload K dX9_byTurns_69 0 rfl ?_
              obtain ⟨h21_, g22_, hf⟩ := e_v hf
              refine r_callV (av := [.int x1_, .int x3_]) (st := []) K lkX9_225 mwX8_begin (conX8_begin x1_ x3_ h17_ h21_ g22_) dX9_byTurns_71 rfl (Nat.le_of_ble_eq_true rfl) rfl rfl (Nat.le_of_ble_eq_true rfl) ?_
              refine r_iconst (v := 2) K dX9_byTurns_74 rfl ?_
              refine r_istore (lv' := [(6, .int 2), (5, .int x3_), (4, .int x1_), (0, .ref 0), (1, .int p0), (2, .int p1), (3, .int p2)]) K dX9_byTurns_75 (Nat.le_of_ble_eq_true rfl) rfl ?_
              refine r_aload_n K dX9_byTurns_77 3 rfl rfl ?_
              refine r_getR (o' := 30) K flX9_52 dX9_byTurns_78 rfl rfl rfl ?_
              refine r_aload_n K dX9_byTurns_81 3 rfl rfl ?_
              refine r_getR (o' := 1) K flX9_10 dX9_byTurns_82 rfl rfl rfl ?_
              refine r_getR (o' := 4) K flX9_193 dX9_byTurns_85 rfl rfl rfl ?_
              refine r_iload K dX9_byTurns_88 2 rfl ?_
              obtain ⟨g23_, hf⟩ := e_g hf
              refine r_iald K dX9_byTurns_90 rfl g23_ ?_
              refine r_aload_n K dX9_byTurns_91 3 rfl rfl ?_
              refine r_getR (o' := 1) K flX9_10 dX9_byTurns_92 rfl rfl rfl ?_
              refine r_getR (o' := 4) K flX9_193 dX9_byTurns_95 rfl rfl rfl ?_
              refine r_iload K dX9_byTurns_98 1 rfl ?_
              obtain ⟨g24_, hf⟩ := e_g hf
              refine r_iald K dX9_byTurns_100 rfl g24_ ?_
              refine r_iload_n K dX9_byTurns_101 5 rfl rfl ?_
              refine r_iconst (v := 1) K dX9_byTurns_102 rfl ?_
              refine r_isub K dX9_byTurns_103 ?_
              refine r_iconst (v := 0) K dX9_byTurns_104 rfl ?_
              obtain ⟨r25_, h26_, g27_, hf⟩ := e_2 hf
              refine r_callVN (av := [.int (h21_.1 4 (ix x1_)), .int (h21_.1 4 (ix x3_)), .int (p1 - 1), .int 0]) (st := []) K lkX9_229 mwX8_best (conRGB_0 8 (h21_.1 4 (ix x1_)) (h21_.1 4 (ix x3_)) (p1 - 1) 0 h21_ r25_ h26_ g27_) dX9_byTurns_105 rfl (Nat.le_of_ble_eq_true rfl) rfl rfl (Nat.le_of_ble_eq_true rfl) ?_
              refine r_istore (lv' := [(7, .int r25_), (6, .int 2), (5, .int x3_), (4, .int x1_), (0, .ref 0), (1, .int p0), (2, .int p1), (3, .int p2)]) K dX9_byTurns_108 (Nat.le_of_ble_eq_true rfl) rfl ?_
              refine r_iconst (v := 0) K dX9_byTurns_110 rfl ?_
              refine r_istore (lv' := [(8, .int 0), (7, .int r25_), (6, .int 2), (5, .int x3_), (4, .int x1_), (0, .ref 0), (1, .int p0), (2, .int p1), (3, .int p2)]) K dX9_byTurns_111 (Nat.le_of_ble_eq_true rfl) rfl ?_
              refine r_lv [5, 7, 8, 4, 3, 2, 1, 0] rfl ?_
              exact sX9_byTurns_113 K Z p0 p1 p2 FU p1 p2 x1_ x3_ 2 r25_ 0 h26_ hf
            · have hf := e_t hf c19_
              refine r_ldc (v := (-2000000000)) K dX9_byTurns_60 lcX9_224 ?_
              exact r_iret K Z dX9_byTurns_62 hf
theorem conX9_byTurns {G : GG} (p0 : Int32) (p1 : Int32) (p2 : Int32) (h : AH) (rv : Int32) (h' : AH) (hf : fX9_byTurns p0 p1 p2 h = some (rv, h')) : Con G 14 yX9_byTurns cX9_byTurns 10 (some .int) [.ref 0, .int p0, .int p1, .int p2] h (some (.int rv)) h' := con_of mwX9_byTurns (Nat.le_of_ble_eq_true rfl) (fun E K Z => sX9_byTurns K Z p0 p1 p2 h hf)
def fX9_count (p0 : Int32) (h : AH) : Option (Int32 × AH) :=
  if p0 = 0 then some ((h.1 1 9), h) else if p0 = 1 then some ((h.1 1 10), h) else if p0 = 2 then some ((h.1 0 2), h) else if p0 = 3 then some ((h.1 38 5), h) else if p0 = 4 then some ((h.1 43 1), h) else if p0 = 5 then some ((h.1 43 3), h) else some ((-1), h)
set_option maxRecDepth 10000 in
theorem sX9_count {G : GG} {E : EE} {rv : Int32} {h' : AH} (K : OK G E 0 RX9 cX9_count 2) (Z : RT G E (some .int) (some (.int rv)) h') (p0 : Int32) (h : AH) (hf : fX9_count p0 h = some (rv, h')) : JJ G E 2 0 [(0, .ref 0), (1, .int p0)] [] h := by
  unfold fX9_count at hf
  refine r_iload_n K dX9_count_0 1 rfl rfl ?_
  by_cases c1_ : p0 = 0
  · have hf := e_t hf c1_
    refine r_tblIn (off := 39) (tgt := 40) K dX9_count_1 (by rw [c1_]; decide) (by rw [c1_]; decide) (by rw [c1_]; decide) (by decide) ?_
    refine r_aload_n K dX9_count_40 0 rfl rfl ?_
    refine r_getR (o' := 1) K flX9_10 dX9_count_41 rfl rfl rfl ?_
    refine r_getI K flX9_91 dX9_count_44 rfl rfl ?_
    exact r_iret K Z dX9_count_47 hf
  have hf := e_f hf c1_
  by_cases c2_ : p0 = 1
  · have hf := e_t hf c2_
    refine r_tblIn (off := 47) (tgt := 48) K dX9_count_1 (by rw [c2_]; decide) (by rw [c2_]; decide) (by rw [c2_]; decide) (by decide) ?_
    refine r_aload_n K dX9_count_48 0 rfl rfl ?_
    refine r_getR (o' := 1) K flX9_10 dX9_count_49 rfl rfl rfl ?_
    refine r_getI K flX9_117 dX9_count_52 rfl rfl ?_
    exact r_iret K Z dX9_count_55 hf
  have hf := e_f hf c2_
  by_cases c3_ : p0 = 2
  · have hf := e_t hf c3_
    refine r_tblIn (off := 55) (tgt := 56) K dX9_count_1 (by rw [c3_]; decide) (by rw [c3_]; decide) (by rw [c3_]; decide) (by decide) ?_
    refine r_aload_n K dX9_count_56 0 rfl rfl ?_
    refine r_getI K flX9_20 dX9_count_57 rfl rfl ?_
    exact r_iret K Z dX9_count_60 hf
  have hf := e_f hf c3_
  by_cases c4_ : p0 = 3
  · have hf := e_t hf c4_
    refine r_tblIn (off := 60) (tgt := 61) K dX9_count_1 (by rw [c4_]; decide) (by rw [c4_]; decide) (by rw [c4_]; decide) (by decide) ?_
    refine r_aload_n K dX9_count_61 0 rfl rfl ?_
    refine r_getR (o' := 38) K flX9_69 dX9_count_62 rfl rfl rfl ?_
    refine r_getI K flX9_329 dX9_count_65 rfl rfl ?_
    exact r_iret K Z dX9_count_68 hf
  have hf := e_f hf c4_
  by_cases c5_ : p0 = 4
  · have hf := e_t hf c5_
    refine r_tblIn (off := 68) (tgt := 69) K dX9_count_1 (by rw [c5_]; decide) (by rw [c5_]; decide) (by rw [c5_]; decide) (by decide) ?_
    refine r_aload_n K dX9_count_69 0 rfl rfl ?_
    refine r_getR (o' := 43) K flX9_76 dX9_count_70 rfl rfl rfl ?_
    refine r_getI K flX9_272 dX9_count_73 rfl rfl ?_
    exact r_iret K Z dX9_count_76 hf
  have hf := e_f hf c5_
  by_cases c6_ : p0 = 5
  · have hf := e_t hf c6_
    refine r_tblIn (off := 76) (tgt := 77) K dX9_count_1 (by rw [c6_]; decide) (by rw [c6_]; decide) (by rw [c6_]; decide) (by decide) ?_
    refine r_aload_n K dX9_count_77 0 rfl rfl ?_
    refine r_getR (o' := 43) K flX9_76 dX9_count_78 rfl rfl rfl ?_
    refine r_getI K flX9_280 dX9_count_81 rfl rfl ?_
    exact r_iret K Z dX9_count_84 hf
  have hf := e_f hf c6_
  have hout : p0.toInt < 0 ∨ 5 < p0.toInt := by
    have zc1_ := lv_neT (a := 0) c1_ (by decide)
    have zc2_ := lv_neT (a := 1) c2_ (by decide)
    have zc3_ := lv_neT (a := 2) c3_ (by decide)
    have zc4_ := lv_neT (a := 3) c4_ (by decide)
    have zc5_ := lv_neT (a := 4) c5_ (by decide)
    have zc6_ := lv_neT (a := 5) c6_ (by decide)
    omega
  refine r_tblOut (tgt := 85) K dX9_count_1 hout (by decide) ?_
  refine r_iconst (v := (-1)) K dX9_count_85 rfl ?_
  exact r_iret K Z dX9_count_86 hf
theorem conX9_count {G : GG} (p0 : Int32) (h : AH) (rv : Int32) (h' : AH) (hf : fX9_count p0 h = some (rv, h')) : Con G 0 yX9_count cX9_count 2 (some .int) [.ref 0, .int p0] h (some (.int rv)) h' := con_of mwX9_count (Nat.le_of_ble_eq_true rfl) (fun E K Z => sX9_count K Z p0 h hf)
def fX9_drawn_99_b (p0 : Int32) (p1 : Int32) (p2 : Int32) (Q99 : Int32 → Int32 → Int32 → Int32 → Int32 → Int32 → AH → Option (Int32 × AH)) (x3 : Int32) (x4 : Int32) (x5 : Int32) (x6 : Int32) (x8 : Int32) (x9 : Int32) (h : AH) : Option (Int32 × AH) :=
  if x4 ≤ x9 then some (x8, h) else bindV (fX6_sup x5 x6 h) fun h14_ => if x3 = (-1) then bind2 (fX7_regretOfAll 19 h14_) fun r21_ h22_ => letV ((x8 + r21_)) fun x24_ => Q99 x3 x4 x5 x6 x24_ (x9 + 1) h22_ else bind2 (fX3_sorriest 19 9 h14_) fun r17_ h18_ => if r17_ = x3 then Q99 x3 x4 x5 x6 (x8 + 1) (x9 + 1) h18_ else Q99 x3 x4 x5 x6 x8 (x9 + 1) h18_
def fX9_drawn_99 (p0 : Int32) (p1 : Int32) (p2 : Int32) : Nat → Int32 → Int32 → Int32 → Int32 → Int32 → Int32 → AH → Option (Int32 × AH)
  | 0 => fun _ _ _ _ _ _ _ => none
  | n + 1 => fX9_drawn_99_b p0 p1 p2 (fX9_drawn_99 p0 p1 p2 n)
set_option maxRecDepth 10000 in
theorem sX9_drawn_99_b {G : GG} {E : EE} {rv : Int32} {h' : AH} (K : OK G E 4 RX9 cX9_drawn 10) (Z : RT G E (some .int) (some (.int rv)) h') (p0 : Int32) (p1 : Int32) (p2 : Int32) (Q99 : Int32 → Int32 → Int32 → Int32 → Int32 → Int32 → AH → Option (Int32 × AH)) (hQ99 : ∀ (x3 : Int32) (x4 : Int32) (x5 : Int32) (x6 : Int32) (x8 : Int32) (x9 : Int32) (h : AH), Q99 x3 x4 x5 x6 x8 x9 h = some (rv, h') → JJ G E 10 99 [(0, .ref 0), (3, .int x3), (4, .int x4), (5, .int x5), (6, .int x6), (8, .int x8), (9, .int x9)] [] h) (x3 : Int32) (x4 : Int32) (x5 : Int32) (x6 : Int32) (x8 : Int32) (x9 : Int32) (h : AH) (hf : fX9_drawn_99_b p0 p1 p2 Q99 x3 x4 x5 x6 x8 x9 h = some (rv, h')) : JJ G E 10 99 [(0, .ref 0), (3, .int x3), (4, .int x4), (5, .int x5), (6, .int x6), (8, .int x8), (9, .int x9)] [] h := by
  unfold fX9_drawn_99_b at hf
  refine r_iload K dX9_drawn_99 6 rfl ?_
  refine r_iload K dX9_drawn_101 2 rfl ?_
  refine r_icmp_ge (tgt := 169) K dX9_drawn_103 (by decide) (fun c12_ => ?_) (fun c12_ => ?_)
  · have hf := e_t hf c12_
    refine r_iload K dX9_drawn_169 5 rfl ?_
    exact r_iret K Z dX9_drawn_171 hf
  · have hf := e_f hf c12_
    refine r_aload_n K dX9_drawn_106 0 rfl rfl ?_
    refine r_getR (o' := 18) K flX9_43 dX9_drawn_107 rfl rfl rfl ?_
    refine r_iload K dX9_drawn_110 3 rfl ?_
    refine r_iload K dX9_drawn_112 4 rfl ?_
    obtain ⟨h14_, g15_, hf⟩ := e_v hf
    refine r_callV (av := [.int x5, .int x6]) (st := []) K lkX9_239 mwX6_sup (conX6_sup x5 x6 h h14_ g15_) dX9_drawn_114 rfl (Nat.le_of_ble_eq_true rfl) rfl rfl (Nat.le_of_ble_eq_true rfl) ?_
    refine r_iload_n K dX9_drawn_117 1 rfl rfl ?_
    refine r_iconst (v := (-1)) K dX9_drawn_118 rfl ?_
    refine r_icmp_ne (tgt := 140) K dX9_drawn_119 (by decide) (fun c16_ => ?_) (fun c16_ => ?_)
    · have hf := e_f hf c16_
      refine r_aload_n K dX9_drawn_140 0 rfl rfl ?_
      refine r_getR (o' := 15) K flX9_34 dX9_drawn_141 rfl rfl rfl ?_
      refine r_aload_n K dX9_drawn_144 0 rfl rfl ?_
      refine r_getR (o' := 18) K flX9_43 dX9_drawn_145 rfl rfl rfl ?_
      refine r_getR (o' := 19) K flX9_153 dX9_drawn_148 rfl rfl rfl ?_
      refine r_bipush (v := 9) K dX9_drawn_151 rfl ?_
      obtain ⟨r17_, h18_, g19_, hf⟩ := e_2 hf
      refine r_callV (av := [.ref 19, .int 9]) (st := []) K lkX9_164 mwX3_sorriest (conX3_sorriest 19 9 rfl h14_ r17_ h18_ g19_) dX9_drawn_153 rfl (Nat.le_of_ble_eq_true rfl) rfl rfl (Nat.le_of_ble_eq_true rfl) ?_
      refine r_iload_n K dX9_drawn_156 1 rfl rfl ?_
      refine r_icmp_ne (tgt := 163) K dX9_drawn_157 (by decide) (fun c20_ => ?_) (fun c20_ => ?_)
      · have hf := e_f hf c20_
        refine r_iinc (y := 1) (lv' := [(9, .int (x9 + 1)), (0, .ref 0), (3, .int x3), (4, .int x4), (5, .int x5), (6, .int x6), (8, .int x8)]) K dX9_drawn_163 6 rfl rfl (Nat.le_of_ble_eq_true rfl) rfl ?_
        refine r_goto (tgt := 99) K dX9_drawn_166 (by decide) ?_
        refine r_lv [1, 2, 3, 4, 5, 6, 0] rfl ?_
        exact hQ99 x3 x4 x5 x6 x8 (x9 + 1) h18_ hf
      · have hf := e_t hf c20_
        refine r_iinc (y := 1) (lv' := [(8, .int (x8 + 1)), (0, .ref 0), (3, .int x3), (4, .int x4), (5, .int x5), (6, .int x6), (9, .int x9)]) K dX9_drawn_160 5 rfl rfl (Nat.le_of_ble_eq_true rfl) rfl ?_
        refine r_iinc (y := 1) (lv' := [(9, .int (x9 + 1)), (8, .int (x8 + 1)), (0, .ref 0), (3, .int x3), (4, .int x4), (5, .int x5), (6, .int x6)]) K dX9_drawn_163 6 rfl rfl (Nat.le_of_ble_eq_true rfl) rfl ?_
        refine r_goto (tgt := 99) K dX9_drawn_166 (by decide) ?_
        refine r_lv [2, 3, 4, 5, 6, 1, 0] rfl ?_
        exact hQ99 x3 x4 x5 x6 (x8 + 1) (x9 + 1) h18_ hf
    · have hf := e_t hf c16_
      refine r_iload K dX9_drawn_122 5 rfl ?_
      refine r_aload_n K dX9_drawn_124 0 rfl rfl ?_
      refine r_getR (o' := 18) K flX9_43 dX9_drawn_125 rfl rfl rfl ?_
      refine r_getR (o' := 19) K flX9_153 dX9_drawn_128 rfl rfl rfl ?_
      obtain ⟨r21_, h22_, g23_, hf⟩ := e_2 hf
      refine r_callV (av := []) (st := [.int x8]) K lkX9_242 mwX7_regretOfAll (conX7_regretOfAll 19 rfl h14_ r21_ h22_ g23_) dX9_drawn_131 rfl (Nat.le_of_ble_eq_true rfl) rfl rfl (Nat.le_of_ble_eq_true rfl) ?_
      refine r_iadd K dX9_drawn_134 ?_
      obtain ⟨x24_, e25_, hf⟩ := e_l hf
      refine r_nmI e25_ ?_
      refine r_istore (lv' := [(8, .int x24_), (0, .ref 0), (3, .int x3), (4, .int x4), (5, .int x5), (6, .int x6), (9, .int x9)]) K dX9_drawn_135 (Nat.le_of_ble_eq_true rfl) rfl ?_
      refine r_goto (tgt := 163) K dX9_drawn_137 (by decide) ?_
      refine r_iinc (y := 1) (lv' := [(9, .int (x9 + 1)), (8, .int x24_), (0, .ref 0), (3, .int x3), (4, .int x4), (5, .int x5), (6, .int x6)]) K dX9_drawn_163 6 rfl rfl (Nat.le_of_ble_eq_true rfl) rfl ?_
      refine r_goto (tgt := 99) K dX9_drawn_166 (by decide) ?_
      refine r_lv [2, 3, 4, 5, 6, 1, 0] rfl ?_
      exact hQ99 x3 x4 x5 x6 x24_ (x9 + 1) h22_ hf
theorem sX9_drawn_99 {G : GG} {E : EE} {rv : Int32} {h' : AH} (K : OK G E 4 RX9 cX9_drawn 10) (Z : RT G E (some .int) (some (.int rv)) h') (p0 : Int32) (p1 : Int32) (p2 : Int32) : ∀ (n : Nat) (x3 : Int32) (x4 : Int32) (x5 : Int32) (x6 : Int32) (x8 : Int32) (x9 : Int32) (h : AH), fX9_drawn_99 p0 p1 p2 n x3 x4 x5 x6 x8 x9 h = some (rv, h') → JJ G E 10 99 [(0, .ref 0), (3, .int x3), (4, .int x4), (5, .int x5), (6, .int x6), (8, .int x8), (9, .int x9)] [] h := by
  intro n
  induction n with
  | zero => intro x3 x4 x5 x6 x8 x9 h hf; cases hf
  | succ n ih => intro x3 x4 x5 x6 x8 x9 h hf; exact sX9_drawn_99_b K Z p0 p1 p2 _ (fun x3 x4 x5 x6 x8 x9 h hf => ih x3 x4 x5 x6 x8 x9 h hf) x3 x4 x5 x6 x8 x9 h hf
def fX9_drawn_85 (p0 : Int32) (p1 : Int32) (p2 : Int32) (x1 : Int32) (x3 : Int32) (x4 : Int32) (x5 : Int32) (x6 : Int32) (h : AH) : Option (Int32 × AH) :=
  letV (wI h 18 6 x1) fun h10_ => fX9_drawn_99 p0 p1 p2 FU x3 x4 x5 x6 0 0 h10_
set_option maxRecDepth 10000 in
theorem sX9_drawn_85 {G : GG} {E : EE} {rv : Int32} {h' : AH} (K : OK G E 4 RX9 cX9_drawn 10) (Z : RT G E (some .int) (some (.int rv)) h') (p0 : Int32) (p1 : Int32) (p2 : Int32) (x1 : Int32) (x3 : Int32) (x4 : Int32) (x5 : Int32) (x6 : Int32) (h : AH) (hf : fX9_drawn_85 p0 p1 p2 x1 x3 x4 x5 x6 h = some (rv, h')) : JJ G E 10 85 [(0, .ref 0), (1, .int x1), (3, .int x3), (4, .int x4), (5, .int x5), (6, .int x6)] [] h := by
  unfold fX9_drawn_85 at hf
  refine r_aload_n K dX9_drawn_85 0 rfl rfl ?_
  refine r_getR (o' := 18) K flX9_43 dX9_drawn_86 rfl rfl rfl ?_
  refine r_iload_n K dX9_drawn_89 1 rfl rfl ?_
  obtain ⟨h10_, e11_, hf⟩ := e_l hf
  refine r_putI K fpX9_236 dX9_drawn_90 rfl rfl e11_ ?_
  refine r_iconst (v := 0) K dX9_drawn_93 rfl ?_
  refine r_istore (lv' := [(8, .int 0), (0, .ref 0), (1, .int x1), (3, .int x3), (4, .int x4), (5, .int x5), (6, .int x6)]) K dX9_drawn_94 (Nat.le_of_ble_eq_true rfl) rfl ?_
  refine r_iconst (v := 0) K dX9_drawn_96 rfl ?_
  refine r_istore (lv' := [(9, .int 0), (8, .int 0), (0, .ref 0), (1, .int x1), (3, .int x3), (4, .int x4), (5, .int x5), (6, .int x6)]) K dX9_drawn_97 (Nat.le_of_ble_eq_true rfl) rfl ?_
  refine r_lv [2, 4, 5, 6, 7, 1, 0] rfl ?_
  exact sX9_drawn_99 K Z p0 p1 p2 FU x3 x4 x5 x6 0 0 h10_ hf
def fX9_drawn_60 (p0 : Int32) (p1 : Int32) (p2 : Int32) (x1 : Int32) (x3 : Int32) (x4 : Int32) (x5 : Int32) (x6 : Int32) (s0 : Int32) (h : AH) : Option (Int32 × AH) :=
  if s0 = 0 then some ((-1), h) else if x3 = (-1) then fX9_drawn_85 p0 p1 p2 x1 x3 x4 x5 x6 h else bind2 (fX7_hasGuest 1 x3 h) fun r26_ h27_ => if r26_ = 0 then some ((-1), h27_) else fX9_drawn_85 p0 p1 p2 x1 x3 x4 x5 x6 h27_
set_option maxRecDepth 10000 in
theorem sX9_drawn_60 {G : GG} {E : EE} {rv : Int32} {h' : AH} (K : OK G E 4 RX9 cX9_drawn 10) (Z : RT G E (some .int) (some (.int rv)) h') (p0 : Int32) (p1 : Int32) (p2 : Int32) (x1 : Int32) (x3 : Int32) (x4 : Int32) (x5 : Int32) (x6 : Int32) (s0 : Int32) (h : AH) (hf : fX9_drawn_60 p0 p1 p2 x1 x3 x4 x5 x6 s0 h = some (rv, h')) : JJ G E 10 60 [(0, .ref 0), (1, .int x1), (3, .int x3), (4, .int x4), (5, .int x5), (6, .int x6)] [.int s0] h := by
  unfold fX9_drawn_60 at hf
  refine r_istore (lv' := [(7, .int s0), (0, .ref 0), (1, .int x1), (3, .int x3), (4, .int x4), (5, .int x5), (6, .int x6)]) K dX9_drawn_60 (Nat.le_of_ble_eq_true rfl) rfl ?_
  refine r_iload K dX9_drawn_62 0 rfl ?_
  refine r_if_eq (tgt := 83) K dX9_drawn_64 (by decide) (fun c8_ => ?_) (fun c8_ => ?_)
  · have hf := e_t hf c8_
    refine r_iconst (v := (-1)) K dX9_drawn_83 rfl ?_
    exact r_iret K Z dX9_drawn_84 hf
  · have hf := e_f hf c8_
    refine r_iload_n K dX9_drawn_67 3 rfl rfl ?_
    refine r_iconst (v := (-1)) K dX9_drawn_68 rfl ?_
    refine r_icmp_eq (tgt := 85) K dX9_drawn_69 (by decide) (fun c9_ => ?_) (fun c9_ => ?_)
    · have hf := e_t hf c9_
      refine r_lv [1, 2, 3, 4, 5, 6] rfl ?_
      exact sX9_drawn_85 K Z p0 p1 p2 x1 x3 x4 x5 x6 h hf
    · have hf := e_f hf c9_
      refine r_aload_n K dX9_drawn_72 1 rfl rfl ?_
      refine r_getR (o' := 1) K flX9_10 dX9_drawn_73 rfl rfl rfl ?_
      refine r_iload_n K dX9_drawn_76 3 rfl rfl ?_
      obtain ⟨r26_, h27_, g28_, hf⟩ := e_2 hf
      refine r_callV (av := [.int x3]) (st := []) K lkX9_114 mwX7_hasGuest (conX7_hasGuest 1 x3 rfl h r26_ h27_ g28_) dX9_drawn_77 rfl (Nat.le_of_ble_eq_true rfl) rfl rfl (Nat.le_of_ble_eq_true rfl) ?_
      refine r_if_ne (tgt := 85) K dX9_drawn_80 (by decide) (fun c29_ => ?_) (fun c29_ => ?_)
      · have hf := e_f hf c29_
        refine r_lv [1, 2, 3, 4, 5, 6] rfl ?_
        exact sX9_drawn_85 K Z p0 p1 p2 x1 x3 x4 x5 x6 h27_ hf
      · have hf := e_t hf c29_
        refine r_iconst (v := (-1)) K dX9_drawn_83 rfl ?_
        exact r_iret K Z dX9_drawn_84 hf
def fX9_drawn_59 (p0 : Int32) (p1 : Int32) (p2 : Int32) (x1 : Int32) (x3 : Int32) (x4 : Int32) (x5 : Int32) (x6 : Int32) (h : AH) : Option (Int32 × AH) :=
  fX9_drawn_60 p0 p1 p2 x1 x3 x4 x5 x6 0 h
set_option maxRecDepth 10000 in
theorem sX9_drawn_59 {G : GG} {E : EE} {rv : Int32} {h' : AH} (K : OK G E 4 RX9 cX9_drawn 10) (Z : RT G E (some .int) (some (.int rv)) h') (p0 : Int32) (p1 : Int32) (p2 : Int32) (x1 : Int32) (x3 : Int32) (x4 : Int32) (x5 : Int32) (x6 : Int32) (h : AH) (hf : fX9_drawn_59 p0 p1 p2 x1 x3 x4 x5 x6 h = some (rv, h')) : JJ G E 10 59 [(0, .ref 0), (1, .int x1), (3, .int x3), (4, .int x4), (5, .int x5), (6, .int x6)] [] h := by
  unfold fX9_drawn_59 at hf
  refine r_iconst (v := 0) K dX9_drawn_59 rfl ?_
  refine r_lv [0, 1, 2, 3, 4, 5] rfl ?_
  exact sX9_drawn_60 K Z p0 p1 p2 x1 x3 x4 x5 x6 0 h hf
def fX9_drawn (p0 : Int32) (p1 : Int32) (p2 : Int32) (h : AH) : Option (Int32 × AH) :=
  letV ((p1 / 10000)) fun x1_ => letV ((jrem (p1 / 100) 100)) fun x3_ => letV ((jrem p1 100)) fun x5_ => if x1_ < 1 then fX9_drawn_59 p0 p1 p2 p0 p2 x1_ x3_ x5_ h else if 30 < x1_ then fX9_drawn_59 p0 p1 p2 p0 p2 x1_ x3_ x5_ h else if x3_ < 1 then fX9_drawn_59 p0 p1 p2 p0 p2 x1_ x3_ x5_ h else if 60 < x3_ then fX9_drawn_59 p0 p1 p2 p0 p2 x1_ x3_ x5_ h else if 12 < x5_ then fX9_drawn_59 p0 p1 p2 p0 p2 x1_ x3_ x5_ h else fX9_drawn_60 p0 p1 p2 p0 p2 x1_ x3_ x5_ 1 h
set_option maxRecDepth 10000 in
theorem sX9_drawn {G : GG} {E : EE} {rv : Int32} {h' : AH} (K : OK G E 4 RX9 cX9_drawn 10) (Z : RT G E (some .int) (some (.int rv)) h') (p0 : Int32) (p1 : Int32) (p2 : Int32) (h : AH) (hf : fX9_drawn p0 p1 p2 h = some (rv, h')) : JJ G E 10 0 [(0, .ref 0), (1, .int p0), (2, .int p1), (3, .int p2)] [] h := by
  unfold fX9_drawn at hf
  refine r_iload_n K dX9_drawn_0 2 rfl rfl ?_
  refine r_sipush (v := 10000) K dX9_drawn_1 rfl ?_
  refine r_idiv K dX9_drawn_4 (by decide) ?_
  obtain ⟨x1_, e2_, hf⟩ := e_l hf
  refine r_nmI e2_ ?_
  refine r_istore (lv' := [(4, .int x1_), (0, .ref 0), (1, .int p0), (2, .int p1), (3, .int p2)]) K dX9_drawn_5 (Nat.le_of_ble_eq_true rfl) rfl ?_
  refine r_iload_n K dX9_drawn_7 3 rfl rfl ?_
  refine r_bipush (v := 100) K dX9_drawn_8 rfl ?_
  refine r_idiv K dX9_drawn_10 (by decide) ?_
  refine r_bipush (v := 100) K dX9_drawn_11 rfl ?_
  refine r_irem K dX9_drawn_13 (by decide) ?_
  obtain ⟨x3_, e4_, hf⟩ := e_l hf
  refine r_nmI e4_ ?_
  refine r_istore (lv' := [(5, .int x3_), (4, .int x1_), (0, .ref 0), (1, .int p0), (2, .int p1), (3, .int p2)]) K dX9_drawn_14 (Nat.le_of_ble_eq_true rfl) rfl ?_
  refine r_iload_n K dX9_drawn_16 4 rfl rfl ?_
  refine r_bipush (v := 100) K dX9_drawn_17 rfl ?_
  refine r_irem K dX9_drawn_19 (by decide) ?_
  obtain ⟨x5_, e6_, hf⟩ := e_l hf
  refine r_nmI e6_ ?_
  refine r_istore (lv' := [(6, .int x5_), (5, .int x3_), (4, .int x1_), (0, .ref 0), (1, .int p0), (2, .int p1), (3, .int p2)]) K dX9_drawn_20 (Nat.le_of_ble_eq_true rfl) rfl ?_
  refine r_iload K dX9_drawn_22 2 rfl ?_
  refine r_iconst (v := 1) K dX9_drawn_24 rfl ?_
  refine r_icmp_lt (tgt := 59) K dX9_drawn_25 (by decide) (fun c7_ => ?_) (fun c7_ => ?_)
  · have hf := e_t hf c7_
    refine r_lv [3, 4, 6, 2, 1, 0] rfl ?_
    exact sX9_drawn_59 K Z p0 p1 p2 p0 p2 x1_ x3_ x5_ h hf
  · have hf := e_f hf c7_
    refine r_iload K dX9_drawn_28 2 rfl ?_
    refine r_bipush (v := 30) K dX9_drawn_30 rfl ?_
    refine r_icmp_gt (tgt := 59) K dX9_drawn_32 (by decide) (fun c30_ => ?_) (fun c30_ => ?_)
    · have hf := e_t hf c30_
      refine r_lv [3, 4, 6, 2, 1, 0] rfl ?_
      exact sX9_drawn_59 K Z p0 p1 p2 p0 p2 x1_ x3_ x5_ h hf
    · have hf := e_f hf c30_
      refine r_iload K dX9_drawn_35 1 rfl ?_
      refine r_iconst (v := 1) K dX9_drawn_37 rfl ?_
      refine r_icmp_lt (tgt := 59) K dX9_drawn_38 (by decide) (fun c31_ => ?_) (fun c31_ => ?_)
      · have hf := e_t hf c31_
        refine r_lv [3, 4, 6, 2, 1, 0] rfl ?_
        exact sX9_drawn_59 K Z p0 p1 p2 p0 p2 x1_ x3_ x5_ h hf
      · have hf := e_f hf c31_
        refine r_iload K dX9_drawn_41 1 rfl ?_
        refine r_bipush (v := 60) K dX9_drawn_43 rfl ?_
        refine r_icmp_gt (tgt := 59) K dX9_drawn_45 (by decide) (fun c32_ => ?_) (fun c32_ => ?_)
        · have hf := e_t hf c32_
          refine r_lv [3, 4, 6, 2, 1, 0] rfl ?_
          exact sX9_drawn_59 K Z p0 p1 p2 p0 p2 x1_ x3_ x5_ h hf
        · have hf := e_f hf c32_
          refine r_iload K dX9_drawn_48 0 rfl ?_
          refine r_bipush (v := 12) K dX9_drawn_50 rfl ?_
          refine r_icmp_gt (tgt := 59) K dX9_drawn_52 (by decide) (fun c33_ => ?_) (fun c33_ => ?_)
          · have hf := e_t hf c33_
            refine r_lv [3, 4, 6, 2, 1, 0] rfl ?_
            exact sX9_drawn_59 K Z p0 p1 p2 p0 p2 x1_ x3_ x5_ h hf
          · have hf := e_f hf c33_
            refine r_iconst (v := 1) K dX9_drawn_55 rfl ?_
            refine r_goto (tgt := 60) K dX9_drawn_56 (by decide) ?_
            refine r_lv [3, 4, 6, 2, 1, 0] rfl ?_
            exact sX9_drawn_60 K Z p0 p1 p2 p0 p2 x1_ x3_ x5_ 1 h hf
theorem conX9_drawn {G : GG} (p0 : Int32) (p1 : Int32) (p2 : Int32) (h : AH) (rv : Int32) (h' : AH) (hf : fX9_drawn p0 p1 p2 h = some (rv, h')) : Con G 4 yX9_drawn cX9_drawn 10 (some .int) [.ref 0, .int p0, .int p1, .int p2] h (some (.int rv)) h' := con_of mwX9_drawn (Nat.le_of_ble_eq_true rfl) (fun E K Z => sX9_drawn K Z p0 p1 p2 h hf)
def fX9_isShelf (p0 : Int32) (h : AH) : Option (Int32 × AH) :=
  if p0 < 0 then some (0, h) else if 6 ≤ p0 then some (0, h) else some (1, h)
set_option maxRecDepth 10000 in
theorem sX9_isShelf {G : GG} {E : EE} {rv : Int32} {h' : AH} (K : OK G E 0 RX9 cX9_isShelf 1) (Z : RT G E (some .boolean) (some (.int rv)) h') (p0 : Int32) (h : AH) (hf : fX9_isShelf p0 h = some (rv, h')) : JJ G E 1 0 [(0, .int p0)] [] h := by
  unfold fX9_isShelf at hf
  refine r_iload_n K dX9_isShelf_0 0 rfl rfl ?_
  refine r_if_lt (tgt := 14) K dX9_isShelf_1 (by decide) (fun c1_ => ?_) (fun c1_ => ?_)
  · have hf := e_t hf c1_
    refine r_iconst (v := 0) K dX9_isShelf_14 rfl ?_
    exact r_zret K Z dX9_isShelf_15 rfl hf
  · have hf := e_f hf c1_
    refine r_iload_n K dX9_isShelf_4 0 rfl rfl ?_
    refine r_bipush (v := 6) K dX9_isShelf_5 rfl ?_
    refine r_icmp_ge (tgt := 14) K dX9_isShelf_7 (by decide) (fun c2_ => ?_) (fun c2_ => ?_)
    · have hf := e_t hf c2_
      refine r_iconst (v := 0) K dX9_isShelf_14 rfl ?_
      exact r_zret K Z dX9_isShelf_15 rfl hf
    · have hf := e_f hf c2_
      refine r_iconst (v := 1) K dX9_isShelf_10 rfl ?_
      refine r_goto (tgt := 15) K dX9_isShelf_11 (by decide) ?_
      exact r_zret K Z dX9_isShelf_15 rfl hf
theorem conX9_isShelf {G : GG} (p0 : Int32) (h : AH) (rv : Int32) (h' : AH) (hf : fX9_isShelf p0 h = some (rv, h')) : Con G 0 yX9_isShelf cX9_isShelf 1 (some .boolean) [.int p0] h (some (.int rv)) h' := con_of mwX9_isShelf (Nat.le_of_ble_eq_true rfl) (fun E K Z => sX9_isShelf K Z p0 h hf)
def fX9_refusalOfPlace (p0 : Nat) (p1 : Int32) (h : AH) : Option (Int32 × AH) :=
  if (h.1 p0 0) = 0 then some ((-11), h) else if (h.1 p0 0) = 2 then if p1 < 0 then some ((-13), h) else if (h.1 p0 3) ≤ p1 then some ((-13), h) else some (0, h) else some ((-12), h)
set_option maxRecDepth 10000 in
theorem sX9_refusalOfPlace {G : GG} {E : EE} {rv : Int32} {h' : AH} (K : OK G E 0 RX9 cX9_refusalOfPlace 2) (Z : RT G E (some .int) (some (.int rv)) h') (p0 : Nat) (p1 : Int32) (hp0 : KD p0 = (5, 5)) (h : AH) (hf : fX9_refusalOfPlace p0 p1 h = some (rv, h')) : JJ G E 2 0 [(0, .ref p0), (1, .int p1)] [] h := by
  unfold fX9_refusalOfPlace at hf
  refine r_aload_n K dX9_refusalOfPlace_0 0 rfl rfl ?_
  refine r_getI K flX9_102 dX9_refusalOfPlace_1 hp0 rfl ?_
  refine r_if_ne (tgt := 10) K dX9_refusalOfPlace_4 (by decide) (fun c1_ => ?_) (fun c1_ => ?_)
  · have hf := e_f hf c1_
    refine r_aload_n K dX9_refusalOfPlace_10 0 rfl rfl ?_
    refine r_getI K flX9_102 dX9_refusalOfPlace_11 hp0 rfl ?_
    refine r_iconst (v := 2) K dX9_refusalOfPlace_14 rfl ?_
    refine r_icmp_eq (tgt := 21) K dX9_refusalOfPlace_15 (by decide) (fun c2_ => ?_) (fun c2_ => ?_)
    · have hf := e_t hf c2_
      refine r_iload_n K dX9_refusalOfPlace_21 1 rfl rfl ?_
      refine r_if_lt (tgt := 37) K dX9_refusalOfPlace_22 (by decide) (fun c3_ => ?_) (fun c3_ => ?_)
      · have hf := e_t hf c3_
        refine r_bipush (v := (-13)) K dX9_refusalOfPlace_37 rfl ?_
        exact r_iret K Z dX9_refusalOfPlace_39 hf
      · have hf := e_f hf c3_
        refine r_iload_n K dX9_refusalOfPlace_25 1 rfl rfl ?_
        refine r_aload_n K dX9_refusalOfPlace_26 0 rfl rfl ?_
        refine r_getI K flX9_332 dX9_refusalOfPlace_27 hp0 rfl ?_
        refine r_icmp_ge (tgt := 37) K dX9_refusalOfPlace_30 (by decide) (fun c4_ => ?_) (fun c4_ => ?_)
        · have hf := e_t hf c4_
          refine r_bipush (v := (-13)) K dX9_refusalOfPlace_37 rfl ?_
          exact r_iret K Z dX9_refusalOfPlace_39 hf
        · have hf := e_f hf c4_
          refine r_iconst (v := 0) K dX9_refusalOfPlace_33 rfl ?_
          refine r_goto (tgt := 39) K dX9_refusalOfPlace_34 (by decide) ?_
          exact r_iret K Z dX9_refusalOfPlace_39 hf
    · have hf := e_f hf c2_
      refine r_bipush (v := (-12)) K dX9_refusalOfPlace_18 rfl ?_
      exact r_iret K Z dX9_refusalOfPlace_20 hf
  · have hf := e_t hf c1_
    refine r_bipush (v := (-11)) K dX9_refusalOfPlace_7 rfl ?_
    exact r_iret K Z dX9_refusalOfPlace_9 hf
theorem conX9_refusalOfPlace {G : GG} (p0 : Nat) (p1 : Int32) (hp0 : KD p0 = (5, 5)) (h : AH) (rv : Int32) (h' : AH) (hf : fX9_refusalOfPlace p0 p1 h = some (rv, h')) : Con G 0 yX9_refusalOfPlace cX9_refusalOfPlace 2 (some .int) [.ref p0, .int p1] h (some (.int rv)) h' := con_of mwX9_refusalOfPlace (Nat.le_of_ble_eq_true rfl) (fun E K Z => sX9_refusalOfPlace K Z p0 p1 hp0 h hf)
def fX9_element (p0 : Int32) (p1 : Int32) (h : AH) : Option (Int64 × AH) :=
  bind2 (fX9_isShelf p0 h) fun r1_ h2_ => if r1_ = 0 then some ((-9223372036854775808), h2_) else if inb p0 6 = true then bind2 (fX9_refusalOfPlace (rf 46 (ix p0)) p1 h2_) fun r6_ h7_ => if r6_ = 0 then if inb p1 60 = true then some ((h7_.2 (rf (rf 46 (ix p0)) 4) (ix p1)), h7_) else none else some ((-9223372036854775808), h7_) else none
set_option maxRecDepth 10000 in
theorem sX9_element {G : GG} {E : EE} {rv : Int64} {h' : AH} (K : OK G E 1 RX9 cX9_element 3) (Z : RT G E (some .long) (some (.long rv)) h') (p0 : Int32) (p1 : Int32) (h : AH) (hf : fX9_element p0 p1 h = some (rv, h')) : JJ G E 3 0 [(0, .ref 0), (1, .int p0), (2, .int p1)] [] h := by
  unfold fX9_element at hf
  refine r_iload_n K dX9_element_0 1 rfl rfl ?_
  obtain ⟨r1_, h2_, g3_, hf⟩ := e_2 hf
  refine r_callS (av := [.int p0]) (st := []) K lkX9_98 mwX9_isShelf (conX9_isShelf p0 h r1_ h2_ g3_) dX9_element_1 (Nat.le_of_ble_eq_true rfl) rfl rfl (Nat.le_of_ble_eq_true rfl) ?_
  refine r_if_eq (tgt := 20) K dX9_element_4 (by decide) (fun c4_ => ?_) (fun c4_ => ?_)
  · have hf := e_t hf c4_
    refine r_ldc2 (v := (-9223372036854775808)) K dX9_element_20 lcX9_309 ?_
    exact r_lret K Z dX9_element_23 hf
  · have hf := e_f hf c4_
    refine r_aload_n K dX9_element_7 0 rfl rfl ?_
    refine r_getR (o' := 46) K flX9_82 dX9_element_8 rfl rfl rfl ?_
    refine r_iload_n K dX9_element_11 1 rfl rfl ?_
    obtain ⟨g5_, hf⟩ := e_g hf
    refine r_aald K dX9_element_12 rfl g5_ ?_
    refine r_iload_n K dX9_element_13 2 rfl rfl ?_
    obtain ⟨r6_, h7_, g8_, hf⟩ := e_2 hf
    refine r_callS (av := [.ref (rf 46 (ix p0)), .int p1]) (st := []) K lkX9_295 mwX9_refusalOfPlace (conX9_refusalOfPlace (rf 46 (ix p0)) p1 (kshelf g5_) h2_ r6_ h7_ g8_) dX9_element_14 (Nat.le_of_ble_eq_true rfl) rfl rfl (Nat.le_of_ble_eq_true rfl) ?_
    refine r_if_eq (tgt := 24) K dX9_element_17 (by decide) (fun c9_ => ?_) (fun c9_ => ?_)
    · have hf := e_t hf c9_
      refine r_aload_n K dX9_element_24 0 rfl rfl ?_
      refine r_getR (o' := 46) K flX9_82 dX9_element_25 rfl rfl rfl ?_
      refine r_iload_n K dX9_element_28 1 rfl rfl ?_
      refine r_aald K dX9_element_29 rfl g5_ ?_
      refine r_getR (o' := (rf (rf 46 (ix p0)) 4)) K flX9_299 dX9_element_30 (kshelf g5_) rfl rfl ?_
      refine r_iload_n K dX9_element_33 2 rfl rfl ?_
      obtain ⟨g11_, hf⟩ := e_g hf
      refine r_lald K dX9_element_34 (kf5_4 (kshelf g5_)) g11_ ?_
      exact r_lret K Z dX9_element_35 hf
    · have hf := e_f hf c9_
      refine r_ldc2 (v := (-9223372036854775808)) K dX9_element_20 lcX9_309 ?_
      exact r_lret K Z dX9_element_23 hf
theorem conX9_element {G : GG} (p0 : Int32) (p1 : Int32) (h : AH) (rv : Int64) (h' : AH) (hf : fX9_element p0 p1 h = some (rv, h')) : Con G 1 yX9_element cX9_element 3 (some .long) [.ref 0, .int p0, .int p1] h (some (.long rv)) h' := con_of mwX9_element (Nat.le_of_ble_eq_true rfl) (fun E K Z => sX9_element K Z p0 p1 h hf)
def fX9_feed (p0 : Int32) (h : AH) : Option (Int32 × AH) :=
  if p0 < 0 then some ((-1), h) else if p0 ≤ 255 then if (h.1 0 2) < 120 then if inb (h.1 0 2) 120 = true then letV (wI h 11 (ix (h.1 0 2)) p0) fun h5_ => letV (wI h5_ 0 2 ((h5_.1 0 2) + 1)) fun h7_ => some ((h7_.1 0 2), h7_) else none else some ((-3), h) else some ((-1), h)
set_option maxRecDepth 10000 in
theorem sX9_feed {G : GG} {E : EE} {rv : Int32} {h' : AH} (K : OK G E 0 RX9 cX9_feed 2) (Z : RT G E (some .int) (some (.int rv)) h') (p0 : Int32) (h : AH) (hf : fX9_feed p0 h = some (rv, h')) : JJ G E 2 0 [(0, .ref 0), (1, .int p0)] [] h := by
  unfold fX9_feed at hf
  refine r_iload_n K dX9_feed_0 1 rfl rfl ?_
  refine r_if_lt (tgt := 11) K dX9_feed_1 (by decide) (fun c1_ => ?_) (fun c1_ => ?_)
  · have hf := e_t hf c1_
    refine r_iconst (v := (-1)) K dX9_feed_11 rfl ?_
    exact r_iret K Z dX9_feed_12 hf
  · have hf := e_f hf c1_
    refine r_iload_n K dX9_feed_4 1 rfl rfl ?_
    refine r_sipush (v := 255) K dX9_feed_5 rfl ?_
    refine r_icmp_le (tgt := 13) K dX9_feed_8 (by decide) (fun c2_ => ?_) (fun c2_ => ?_)
    · have hf := e_t hf c2_
      refine r_aload_n K dX9_feed_13 0 rfl rfl ?_
      refine r_getI K flX9_20 dX9_feed_14 rfl rfl ?_
      refine r_bipush (v := 120) K dX9_feed_17 rfl ?_
      refine r_icmp_lt (tgt := 25) K dX9_feed_19 (by decide) (fun c3_ => ?_) (fun c3_ => ?_)
      · have hf := e_t hf c3_
        refine r_aload_n K dX9_feed_25 0 rfl rfl ?_
        refine r_getR (o' := 11) K flX9_16 dX9_feed_26 rfl rfl rfl ?_
        refine r_aload_n K dX9_feed_29 0 rfl rfl ?_
        refine r_getI K flX9_20 dX9_feed_30 rfl rfl ?_
        refine r_iload_n K dX9_feed_33 1 rfl rfl ?_
        obtain ⟨g4_, hf⟩ := e_g hf
        obtain ⟨h5_, e6_, hf⟩ := e_l hf
        refine r_iast K dX9_feed_34 rfl g4_ e6_ ?_
        refine r_aload_n K dX9_feed_35 0 rfl rfl ?_
        refine r_dup K dX9_feed_36 rfl ?_
        refine r_getI K flX9_20 dX9_feed_37 rfl rfl ?_
        refine r_iconst (v := 1) K dX9_feed_40 rfl ?_
        refine r_iadd K dX9_feed_41 ?_
        obtain ⟨h7_, e8_, hf⟩ := e_l hf
        refine r_putI K fpX9_20 dX9_feed_42 rfl rfl e8_ ?_
        refine r_aload_n K dX9_feed_45 0 rfl rfl ?_
        refine r_getI K flX9_20 dX9_feed_46 rfl rfl ?_
        exact r_iret K Z dX9_feed_49 hf
      · have hf := e_f hf c3_
        refine r_bipush (v := (-3)) K dX9_feed_22 rfl ?_
        exact r_iret K Z dX9_feed_24 hf
    · have hf := e_f hf c2_
      refine r_iconst (v := (-1)) K dX9_feed_11 rfl ?_
      exact r_iret K Z dX9_feed_12 hf
theorem conX9_feed {G : GG} (p0 : Int32) (h : AH) (rv : Int32) (h' : AH) (hf : fX9_feed p0 h = some (rv, h')) : Con G 0 yX9_feed cX9_feed 2 (some .int) [.ref 0, .int p0] h (some (.int rv)) h' := con_of mwX9_feed (Nat.le_of_ble_eq_true rfl) (fun E K Z => sX9_feed K Z p0 h hf)
def fX9_isThought (p0 : Int32) (h : AH) : Option (Int32 × AH) :=
  if p0 < 0 then some (0, h) else if 60 < p0 then some (0, h) else some (1, h)
set_option maxRecDepth 10000 in
theorem sX9_isThought {G : GG} {E : EE} {rv : Int32} {h' : AH} (K : OK G E 0 RX9 cX9_isThought 1) (Z : RT G E (some .boolean) (some (.int rv)) h') (p0 : Int32) (h : AH) (hf : fX9_isThought p0 h = some (rv, h')) : JJ G E 1 0 [(0, .int p0)] [] h := by
  unfold fX9_isThought at hf
  refine r_iload_n K dX9_isThought_0 0 rfl rfl ?_
  refine r_if_lt (tgt := 14) K dX9_isThought_1 (by decide) (fun c1_ => ?_) (fun c1_ => ?_)
  · have hf := e_t hf c1_
    refine r_iconst (v := 0) K dX9_isThought_14 rfl ?_
    exact r_zret K Z dX9_isThought_15 rfl hf
  · have hf := e_f hf c1_
    refine r_iload_n K dX9_isThought_4 0 rfl rfl ?_
    refine r_bipush (v := 60) K dX9_isThought_5 rfl ?_
    refine r_icmp_gt (tgt := 14) K dX9_isThought_7 (by decide) (fun c2_ => ?_) (fun c2_ => ?_)
    · have hf := e_t hf c2_
      refine r_iconst (v := 0) K dX9_isThought_14 rfl ?_
      exact r_zret K Z dX9_isThought_15 rfl hf
    · have hf := e_f hf c2_
      refine r_iconst (v := 1) K dX9_isThought_10 rfl ?_
      refine r_goto (tgt := 15) K dX9_isThought_11 (by decide) ?_
      exact r_zret K Z dX9_isThought_15 rfl hf
theorem conX9_isThought {G : GG} (p0 : Int32) (h : AH) (rv : Int32) (h' : AH) (hf : fX9_isThought p0 h = some (rv, h')) : Con G 0 yX9_isThought cX9_isThought 1 (some .boolean) [.int p0] h (some (.int rv)) h' := con_of mwX9_isThought (Nat.le_of_ble_eq_true rfl) (fun E K Z => sX9_isThought K Z p0 h hf)
def fX9_first (p0 : Int32) (h : AH) : Option (Int32 × AH) :=
  bind2 (fX9_isThought p0 h) fun r1_ h2_ => if r1_ = 0 then some ((-1), h2_) else bindV (fX6_startBehind p0 h2_) fun h6_ => bind2 (fX3_sorriest 19 9 h6_) fun r8_ h9_ => some (r8_, h9_)
set_option maxRecDepth 10000 in
theorem sX9_first {G : GG} {E : EE} {rv : Int32} {h' : AH} (K : OK G E 4 RX9 cX9_first 2) (Z : RT G E (some .int) (some (.int rv)) h') (p0 : Int32) (h : AH) (hf : fX9_first p0 h = some (rv, h')) : JJ G E 2 0 [(0, .ref 0), (1, .int p0)] [] h := by
  unfold fX9_first at hf
  refine r_iload_n K dX9_first_0 1 rfl rfl ?_
  obtain ⟨r1_, h2_, g3_, hf⟩ := e_2 hf
  refine r_callS (av := [.int p0]) (st := []) K lkX9_146 mwX9_isThought (conX9_isThought p0 h r1_ h2_ g3_) dX9_first_1 (Nat.le_of_ble_eq_true rfl) rfl rfl (Nat.le_of_ble_eq_true rfl) ?_
  refine r_if_ne (tgt := 9) K dX9_first_4 (by decide) (fun c4_ => ?_) (fun c4_ => ?_)
  · have hf := e_f hf c4_
    refine r_aload_n K dX9_first_9 0 rfl rfl ?_
    refine r_getR (o' := 18) K flX9_43 dX9_first_10 rfl rfl rfl ?_
    refine r_iload_n K dX9_first_13 1 rfl rfl ?_
    obtain ⟨h6_, g7_, hf⟩ := e_v hf
    refine r_callV (av := [.int p0]) (st := []) K lkX9_149 mwX6_startBehind (conX6_startBehind p0 h2_ h6_ g7_) dX9_first_14 rfl (Nat.le_of_ble_eq_true rfl) rfl rfl (Nat.le_of_ble_eq_true rfl) ?_
    refine r_aload_n K dX9_first_17 0 rfl rfl ?_
    refine r_getR (o' := 15) K flX9_34 dX9_first_18 rfl rfl rfl ?_
    refine r_aload_n K dX9_first_21 0 rfl rfl ?_
    refine r_getR (o' := 18) K flX9_43 dX9_first_22 rfl rfl rfl ?_
    refine r_getR (o' := 19) K flX9_153 dX9_first_25 rfl rfl rfl ?_
    refine r_bipush (v := 9) K dX9_first_28 rfl ?_
    obtain ⟨r8_, h9_, g10_, hf⟩ := e_2 hf
    refine r_callV (av := [.ref 19, .int 9]) (st := []) K lkX9_164 mwX3_sorriest (conX3_sorriest 19 9 rfl h6_ r8_ h9_ g10_) dX9_first_30 rfl (Nat.le_of_ble_eq_true rfl) rfl rfl (Nat.le_of_ble_eq_true rfl) ?_
    exact r_iret K Z dX9_first_33 hf
  · have hf := e_t hf c4_
    refine r_iconst (v := (-1)) K dX9_first_7 rfl ?_
    exact r_iret K Z dX9_first_8 hf
theorem conX9_first {G : GG} (p0 : Int32) (h : AH) (rv : Int32) (h' : AH) (hf : fX9_first p0 h = some (rv, h')) : Con G 4 yX9_first cX9_first 2 (some .int) [.ref 0, .int p0] h (some (.int rv)) h' := con_of mwX9_first (Nat.le_of_ble_eq_true rfl) (fun E K Z => sX9_first K Z p0 h hf)
def fX9_refusalOfBytes (p0 : Nat) (h : AH) : Option (Int32 × AH) :=
  if (h.1 p0 0) = 0 then some ((-11), h) else bind2 (fX5_isRowOf p0 0 h) fun r2_ h3_ => if r2_ = 0 then some ((-12), h3_) else some (0, h3_)
set_option maxRecDepth 10000 in
theorem sX9_refusalOfBytes {G : GG} {E : EE} {rv : Int32} {h' : AH} (K : OK G E 1 RX9 cX9_refusalOfBytes 1) (Z : RT G E (some .int) (some (.int rv)) h') (p0 : Nat) (hp0 : KD p0 = (5, 5)) (h : AH) (hf : fX9_refusalOfBytes p0 h = some (rv, h')) : JJ G E 1 0 [(0, .ref p0)] [] h := by
  unfold fX9_refusalOfBytes at hf
  refine r_aload_n K dX9_refusalOfBytes_0 0 rfl rfl ?_
  refine r_getI K flX9_102 dX9_refusalOfBytes_1 hp0 rfl ?_
  refine r_if_ne (tgt := 10) K dX9_refusalOfBytes_4 (by decide) (fun c1_ => ?_) (fun c1_ => ?_)
  · have hf := e_f hf c1_
    refine r_aload_n K dX9_refusalOfBytes_10 0 rfl rfl ?_
    refine r_iconst (v := 0) K dX9_refusalOfBytes_11 rfl ?_
    obtain ⟨r2_, h3_, g4_, hf⟩ := e_2 hf
    refine r_callV (av := [.int 0]) (st := []) K lkX9_105 mwX5_isRowOf (conX5_isRowOf p0 0 hp0 h r2_ h3_ g4_) dX9_refusalOfBytes_12 hp0 (Nat.le_of_ble_eq_true rfl) rfl rfl (Nat.le_of_ble_eq_true rfl) ?_
    refine r_if_eq (tgt := 22) K dX9_refusalOfBytes_15 (by decide) (fun c5_ => ?_) (fun c5_ => ?_)
    · have hf := e_t hf c5_
      refine r_bipush (v := (-12)) K dX9_refusalOfBytes_22 rfl ?_
      exact r_iret K Z dX9_refusalOfBytes_24 hf
    · have hf := e_f hf c5_
      refine r_iconst (v := 0) K dX9_refusalOfBytes_18 rfl ?_
      refine r_goto (tgt := 24) K dX9_refusalOfBytes_19 (by decide) ?_
      exact r_iret K Z dX9_refusalOfBytes_24 hf
  · have hf := e_t hf c1_
    refine r_bipush (v := (-11)) K dX9_refusalOfBytes_7 rfl ?_
    exact r_iret K Z dX9_refusalOfBytes_9 hf
theorem conX9_refusalOfBytes {G : GG} (p0 : Nat) (hp0 : KD p0 = (5, 5)) (h : AH) (rv : Int32) (h' : AH) (hf : fX9_refusalOfBytes p0 h = some (rv, h')) : Con G 1 yX9_refusalOfBytes cX9_refusalOfBytes 1 (some .int) [.ref p0] h (some (.int rv)) h' := con_of mwX9_refusalOfBytes (Nat.le_of_ble_eq_true rfl) (fun E K Z => sX9_refusalOfBytes K Z p0 hp0 h hf)
def fX9_fits_84_b (p0 : Int32) (p1 : Int32) (p2 : Int32) (Q84 : Int32 → Int32 → Int32 → Int32 → Int32 → Int32 → Int32 → AH → Option (Int32 × AH)) (x1 : Int32) (x2 : Int32) (x3 : Int32) (x5 : Int32) (x6 : Int32) (x7 : Int32) (x8 : Int32) (h : AH) : Option (Int32 × AH) :=
  if x8 < 0 then if (jrem x3 2) = 0 then some (x6, h) else some (x7, h) else bindV (fX6_startBehind 0 h) fun h24_ => bindV (fX7_setNumber 19 x2 x5 x8 h24_) fun h27_ => bindV (fX6_allGo 9 h27_) fun h30_ => if inb x1 6 = true then bind2 (fX6_firstOtherwise (rf 46 (ix x1)) h30_) fun r33_ h34_ => if r33_ = (-2) then Q84 x1 x2 x3 x5 (x6 + 1) x8 (x8 + (-1)) h34_ else Q84 x1 x2 x3 x5 x6 x7 (x8 + (-1)) h34_ else none
def fX9_fits_84 (p0 : Int32) (p1 : Int32) (p2 : Int32) : Nat → Int32 → Int32 → Int32 → Int32 → Int32 → Int32 → Int32 → AH → Option (Int32 × AH)
  | 0 => fun _ _ _ _ _ _ _ _ => none
  | n + 1 => fX9_fits_84_b p0 p1 p2 (fX9_fits_84 p0 p1 p2 n)
set_option maxRecDepth 10000 in
theorem sX9_fits_84_b {G : GG} {E : EE} {rv : Int32} {h' : AH} (K : OK G E 5 RX9 cX9_fits 9) (Z : RT G E (some .int) (some (.int rv)) h') (p0 : Int32) (p1 : Int32) (p2 : Int32) (Q84 : Int32 → Int32 → Int32 → Int32 → Int32 → Int32 → Int32 → AH → Option (Int32 × AH)) (hQ84 : ∀ (x1 : Int32) (x2 : Int32) (x3 : Int32) (x5 : Int32) (x6 : Int32) (x7 : Int32) (x8 : Int32) (h : AH), Q84 x1 x2 x3 x5 x6 x7 x8 h = some (rv, h') → JJ G E 9 84 [(0, .ref 0), (1, .int x1), (2, .int x2), (3, .int x3), (5, .int x5), (6, .int x6), (7, .int x7), (8, .int x8)] [] h) (x1 : Int32) (x2 : Int32) (x3 : Int32) (x5 : Int32) (x6 : Int32) (x7 : Int32) (x8 : Int32) (h : AH) (hf : fX9_fits_84_b p0 p1 p2 Q84 x1 x2 x3 x5 x6 x7 x8 h = some (rv, h')) : JJ G E 9 84 [(0, .ref 0), (1, .int x1), (2, .int x2), (3, .int x3), (5, .int x5), (6, .int x6), (7, .int x7), (8, .int x8)] [] h := by
  unfold fX9_fits_84_b at hf
  refine r_iload K dX9_fits_84 7 rfl ?_
  refine r_if_lt (tgt := 152) K dX9_fits_86 (by decide) (fun c21_ => ?_) (fun c21_ => ?_)
  · have hf := e_t hf c21_
    refine r_iload_n K dX9_fits_152 3 rfl rfl ?_
    refine r_iconst (v := 2) K dX9_fits_153 rfl ?_
    refine r_irem K dX9_fits_154 (by decide) ?_
    refine r_if_ne (tgt := 163) K dX9_fits_155 (by decide) (fun c22_ => ?_) (fun c22_ => ?_)
    · have hf := e_f hf c22_
      refine r_iload K dX9_fits_163 6 rfl ?_
      exact r_iret K Z dX9_fits_165 hf
    · have hf := e_t hf c22_
      refine r_iload K dX9_fits_158 5 rfl ?_
      refine r_goto (tgt := 165) K dX9_fits_160 (by decide) ?_
      exact r_iret K Z dX9_fits_165 hf
  · have hf := e_f hf c21_
    refine r_aload_n K dX9_fits_89 0 rfl rfl ?_
    refine r_getR (o' := 18) K flX9_43 dX9_fits_90 rfl rfl rfl ?_
    refine r_iconst (v := 0) K dX9_fits_93 rfl ?_
    obtain ⟨h24_, g25_, hf⟩ := e_v hf
    refine r_callV (av := [.int 0]) (st := []) K lkX9_149 mwX6_startBehind (conX6_startBehind 0 h h24_ g25_) dX9_fits_94 rfl (Nat.le_of_ble_eq_true rfl) rfl rfl (Nat.le_of_ble_eq_true rfl) ?_
    refine r_aload_n K dX9_fits_97 0 rfl rfl ?_
    refine r_getR (o' := 18) K flX9_43 dX9_fits_98 rfl rfl rfl ?_
    refine r_getR (o' := 19) K flX9_153 dX9_fits_101 rfl rfl rfl ?_
    refine r_iload_n K dX9_fits_104 2 rfl rfl ?_
    refine r_iload K dX9_fits_105 4 rfl ?_
    refine r_iload K dX9_fits_107 7 rfl ?_
    obtain ⟨h27_, g28_, hf⟩ := e_v hf
    refine r_callV (av := [.int x2, .int x5, .int x8]) (st := []) K lkX9_130 mwX7_setNumber (conX7_setNumber 19 x2 x5 x8 rfl h24_ h27_ g28_) dX9_fits_109 rfl (Nat.le_of_ble_eq_true rfl) rfl rfl (Nat.le_of_ble_eq_true rfl) ?_
    refine r_aload_n K dX9_fits_112 0 rfl rfl ?_
    refine r_getR (o' := 18) K flX9_43 dX9_fits_113 rfl rfl rfl ?_
    refine r_bipush (v := 9) K dX9_fits_116 rfl ?_
    obtain ⟨h30_, g31_, hf⟩ := e_v hf
    refine r_callV (av := [.int 9]) (st := []) K lkX9_173 mwX6_allGo (conX6_allGo 9 h27_ h30_ g31_) dX9_fits_118 rfl (Nat.le_of_ble_eq_true rfl) rfl rfl (Nat.le_of_ble_eq_true rfl) ?_
    refine r_aload_n K dX9_fits_121 0 rfl rfl ?_
    refine r_getR (o' := 18) K flX9_43 dX9_fits_122 rfl rfl rfl ?_
    refine r_aload_n K dX9_fits_125 0 rfl rfl ?_
    refine r_getR (o' := 46) K flX9_82 dX9_fits_126 rfl rfl rfl ?_
    refine r_iload_n K dX9_fits_129 1 rfl rfl ?_
    obtain ⟨g32_, hf⟩ := e_g hf
    refine r_aald K dX9_fits_130 rfl g32_ ?_
    obtain ⟨r33_, h34_, g35_, hf⟩ := e_2 hf
    refine r_callV (av := [.ref (rf 46 (ix x1))]) (st := []) K lkX9_221 mwX6_firstOtherwise (conX6_firstOtherwise (rf 46 (ix x1)) (kshelf g32_) h30_ r33_ h34_ g35_) dX9_fits_131 rfl (Nat.le_of_ble_eq_true rfl) rfl rfl (Nat.le_of_ble_eq_true rfl) ?_
    refine r_bipush (v := (-2)) K dX9_fits_134 rfl ?_
    refine r_icmp_ne (tgt := 146) K dX9_fits_136 (by decide) (fun c36_ => ?_) (fun c36_ => ?_)
    · have hf := e_f hf c36_
      refine r_iinc (y := (-1)) (lv' := [(8, .int (x8 + (-1))), (0, .ref 0), (1, .int x1), (2, .int x2), (3, .int x3), (5, .int x5), (6, .int x6), (7, .int x7)]) K dX9_fits_146 7 rfl rfl (Nat.le_of_ble_eq_true rfl) rfl ?_
      refine r_goto (tgt := 84) K dX9_fits_149 (by decide) ?_
      refine r_lv [1, 2, 3, 4, 5, 6, 7, 0] rfl ?_
      exact hQ84 x1 x2 x3 x5 x6 x7 (x8 + (-1)) h34_ hf
    · have hf := e_t hf c36_
      refine r_iinc (y := 1) (lv' := [(6, .int (x6 + 1)), (0, .ref 0), (1, .int x1), (2, .int x2), (3, .int x3), (5, .int x5), (7, .int x7), (8, .int x8)]) K dX9_fits_139 5 rfl rfl (Nat.le_of_ble_eq_true rfl) rfl ?_
      refine r_iload K dX9_fits_142 7 rfl ?_
      refine r_istore (lv' := [(7, .int x8), (6, .int (x6 + 1)), (0, .ref 0), (1, .int x1), (2, .int x2), (3, .int x3), (5, .int x5), (8, .int x8)]) K dX9_fits_144 (Nat.le_of_ble_eq_true rfl) rfl ?_
      refine r_iinc (y := (-1)) (lv' := [(8, .int (x8 + (-1))), (7, .int x8), (6, .int (x6 + 1)), (0, .ref 0), (1, .int x1), (2, .int x2), (3, .int x3), (5, .int x5)]) K dX9_fits_146 7 rfl rfl (Nat.le_of_ble_eq_true rfl) rfl ?_
      refine r_goto (tgt := 84) K dX9_fits_149 (by decide) ?_
      refine r_lv [3, 4, 5, 6, 7, 2, 1, 0] rfl ?_
      exact hQ84 x1 x2 x3 x5 (x6 + 1) x8 (x8 + (-1)) h34_ hf
theorem sX9_fits_84 {G : GG} {E : EE} {rv : Int32} {h' : AH} (K : OK G E 5 RX9 cX9_fits 9) (Z : RT G E (some .int) (some (.int rv)) h') (p0 : Int32) (p1 : Int32) (p2 : Int32) : ∀ (n : Nat) (x1 : Int32) (x2 : Int32) (x3 : Int32) (x5 : Int32) (x6 : Int32) (x7 : Int32) (x8 : Int32) (h : AH), fX9_fits_84 p0 p1 p2 n x1 x2 x3 x5 x6 x7 x8 h = some (rv, h') → JJ G E 9 84 [(0, .ref 0), (1, .int x1), (2, .int x2), (3, .int x3), (5, .int x5), (6, .int x6), (7, .int x7), (8, .int x8)] [] h := by
  intro n
  induction n with
  | zero => intro x1 x2 x3 x5 x6 x7 x8 h hf; cases hf
  | succ n ih => intro x1 x2 x3 x5 x6 x7 x8 h hf; exact sX9_fits_84_b K Z p0 p1 p2 _ (fun x1 x2 x3 x5 x6 x7 x8 h hf => ih x1 x2 x3 x5 x6 x7 x8 h hf) x1 x2 x3 x5 x6 x7 x8 h hf
def fX9_fits_67 (p0 : Int32) (p1 : Int32) (p2 : Int32) (x1 : Int32) (x2 : Int32) (x3 : Int32) (s0 : Int32) (h : AH) : Option (Int32 × AH) :=
  if inb s0 9 = true then letV ((ST 201 (ix s0))) fun x19_ => fX9_fits_84 p0 p1 p2 FU x1 x2 x3 s0 0 (-2) x19_ h else none
set_option maxRecDepth 10000 in
theorem sX9_fits_67 {G : GG} {E : EE} {rv : Int32} {h' : AH} (K : OK G E 5 RX9 cX9_fits 9) (Z : RT G E (some .int) (some (.int rv)) h') (p0 : Int32) (p1 : Int32) (p2 : Int32) (x1 : Int32) (x2 : Int32) (x3 : Int32) (s0 : Int32) (h : AH) (hf : fX9_fits_67 p0 p1 p2 x1 x2 x3 s0 h = some (rv, h')) : JJ G E 9 67 [(0, .ref 0), (1, .int x1), (2, .int x2), (3, .int x3)] [.int s0] h := by
  unfold fX9_fits_67 at hf
  refine r_istore (lv' := [(5, .int s0), (0, .ref 0), (1, .int x1), (2, .int x2), (3, .int x3)]) K dX9_fits_67 (Nat.le_of_ble_eq_true rfl) rfl ?_
  refine r_iconst (v := 0) K dX9_fits_69 rfl ?_
  refine r_istore (lv' := [(6, .int 0), (5, .int s0), (0, .ref 0), (1, .int x1), (2, .int x2), (3, .int x3)]) K dX9_fits_70 (Nat.le_of_ble_eq_true rfl) rfl ?_
  refine r_bipush (v := (-2)) K dX9_fits_72 rfl ?_
  refine r_istore (lv' := [(7, .int (-2)), (6, .int 0), (5, .int s0), (0, .ref 0), (1, .int x1), (2, .int x2), (3, .int x3)]) K dX9_fits_74 (Nat.le_of_ble_eq_true rfl) rfl ?_
  refine r_gets K gsX9_203 dX9_fits_76 ?_
  refine r_iload K dX9_fits_79 2 rfl ?_
  obtain ⟨g18_, hf⟩ := e_g hf
  refine r_sald K dX9_fits_81 sl201 g18_ ?_
  obtain ⟨x19_, e20_, hf⟩ := e_l hf
  refine r_nmI e20_ ?_
  refine r_istore (lv' := [(8, .int x19_), (7, .int (-2)), (6, .int 0), (5, .int s0), (0, .ref 0), (1, .int x1), (2, .int x2), (3, .int x3)]) K dX9_fits_82 (Nat.le_of_ble_eq_true rfl) rfl ?_
  refine r_lv [4, 5, 6, 7, 3, 2, 1, 0] rfl ?_
  exact sX9_fits_84 K Z p0 p1 p2 FU x1 x2 x3 s0 0 (-2) x19_ h hf
def fX9_fits (p0 : Int32) (p1 : Int32) (p2 : Int32) (h : AH) : Option (Int32 × AH) :=
  bind2 (fX9_isShelf p0 h) fun r1_ h2_ => if r1_ = 0 then some ((-1), h2_) else bind2 (fX7_hasGuest 1 p1 h2_) fun r5_ h6_ => if r5_ = 0 then some ((-1), h6_) else if p2 < 0 then some ((-1), h6_) else if p2 ≤ 5 then if inb p0 6 = true then bind2 (fX9_refusalOfBytes (rf 46 (ix p0)) h6_) fun r12_ h13_ => if r12_ = 0 then if 2 ≤ p2 then if 4 ≤ p2 then fX9_fits_67 p0 p1 p2 p0 p1 p2 0 h13_ else fX9_fits_67 p0 p1 p2 p0 p1 p2 1 h13_ else fX9_fits_67 p0 p1 p2 p0 p1 p2 2 h13_ else some (r12_, h13_) else none else some ((-1), h6_)
set_option maxRecDepth 10000 in
theorem sX9_fits {G : GG} {E : EE} {rv : Int32} {h' : AH} (K : OK G E 5 RX9 cX9_fits 9) (Z : RT G E (some .int) (some (.int rv)) h') (p0 : Int32) (p1 : Int32) (p2 : Int32) (h : AH) (hf : fX9_fits p0 p1 p2 h = some (rv, h')) : JJ G E 9 0 [(0, .ref 0), (1, .int p0), (2, .int p1), (3, .int p2)] [] h := by
  unfold fX9_fits at hf
  refine r_iload_n K dX9_fits_0 1 rfl rfl ?_
  obtain ⟨r1_, h2_, g3_, hf⟩ := e_2 hf
  refine r_callS (av := [.int p0]) (st := []) K lkX9_98 mwX9_isShelf (conX9_isShelf p0 h r1_ h2_ g3_) dX9_fits_1 (Nat.le_of_ble_eq_true rfl) rfl rfl (Nat.le_of_ble_eq_true rfl) ?_
  refine r_if_eq (tgt := 27) K dX9_fits_4 (by decide) (fun c4_ => ?_) (fun c4_ => ?_)
  · have hf := e_t hf c4_
    refine r_iconst (v := (-1)) K dX9_fits_27 rfl ?_
    exact r_iret K Z dX9_fits_28 hf
  · have hf := e_f hf c4_
    refine r_aload_n K dX9_fits_7 0 rfl rfl ?_
    refine r_getR (o' := 1) K flX9_10 dX9_fits_8 rfl rfl rfl ?_
    refine r_iload_n K dX9_fits_11 2 rfl rfl ?_
    obtain ⟨r5_, h6_, g7_, hf⟩ := e_2 hf
    refine r_callV (av := [.int p1]) (st := []) K lkX9_114 mwX7_hasGuest (conX7_hasGuest 1 p1 rfl h2_ r5_ h6_ g7_) dX9_fits_12 rfl (Nat.le_of_ble_eq_true rfl) rfl rfl (Nat.le_of_ble_eq_true rfl) ?_
    refine r_if_eq (tgt := 27) K dX9_fits_15 (by decide) (fun c8_ => ?_) (fun c8_ => ?_)
    · have hf := e_t hf c8_
      refine r_iconst (v := (-1)) K dX9_fits_27 rfl ?_
      exact r_iret K Z dX9_fits_28 hf
    · have hf := e_f hf c8_
      refine r_iload_n K dX9_fits_18 3 rfl rfl ?_
      refine r_if_lt (tgt := 27) K dX9_fits_19 (by decide) (fun c9_ => ?_) (fun c9_ => ?_)
      · have hf := e_t hf c9_
        refine r_iconst (v := (-1)) K dX9_fits_27 rfl ?_
        exact r_iret K Z dX9_fits_28 hf
      · have hf := e_f hf c9_
        refine r_iload_n K dX9_fits_22 3 rfl rfl ?_
        refine r_iconst (v := 5) K dX9_fits_23 rfl ?_
        refine r_icmp_le (tgt := 29) K dX9_fits_24 (by decide) (fun c10_ => ?_) (fun c10_ => ?_)
        · have hf := e_t hf c10_
          refine r_aload_n K dX9_fits_29 0 rfl rfl ?_
          refine r_getR (o' := 46) K flX9_82 dX9_fits_30 rfl rfl rfl ?_
          refine r_iload_n K dX9_fits_33 1 rfl rfl ?_
          obtain ⟨g11_, hf⟩ := e_g hf
          refine r_aald K dX9_fits_34 rfl g11_ ?_
          obtain ⟨r12_, h13_, g14_, hf⟩ := e_2 hf
          refine r_callS (av := [.ref (rf 46 (ix p0))]) (st := []) K lkX9_217 mwX9_refusalOfBytes (conX9_refusalOfBytes (rf 46 (ix p0)) (kshelf g11_) h6_ r12_ h13_ g14_) dX9_fits_35 (Nat.le_of_ble_eq_true rfl) rfl rfl (Nat.le_of_ble_eq_true rfl) ?_
          refine r_istore (lv' := [(4, .int r12_), (0, .ref 0), (1, .int p0), (2, .int p1), (3, .int p2)]) K dX9_fits_38 (Nat.le_of_ble_eq_true rfl) rfl ?_
          refine r_iload K dX9_fits_40 0 rfl ?_
          refine r_if_eq (tgt := 48) K dX9_fits_42 (by decide) (fun c15_ => ?_) (fun c15_ => ?_)
          · have hf := e_t hf c15_
            refine r_iload_n K dX9_fits_48 4 rfl rfl ?_
            refine r_iconst (v := 2) K dX9_fits_49 rfl ?_
            refine r_icmp_ge (tgt := 57) K dX9_fits_50 (by decide) (fun c16_ => ?_) (fun c16_ => ?_)
            · have hf := e_t hf c16_
              refine r_iload_n K dX9_fits_57 4 rfl rfl ?_
              refine r_iconst (v := 4) K dX9_fits_58 rfl ?_
              refine r_icmp_ge (tgt := 66) K dX9_fits_59 (by decide) (fun c17_ => ?_) (fun c17_ => ?_)
              · have hf := e_t hf c17_
                refine r_iconst (v := 0) K dX9_fits_66 rfl ?_
                refine r_lv [1, 2, 3, 4] rfl ?_
                exact sX9_fits_67 K Z p0 p1 p2 p0 p1 p2 0 h13_ hf
              · have hf := e_f hf c17_
                refine r_iconst (v := 1) K dX9_fits_62 rfl ?_
                refine r_goto (tgt := 67) K dX9_fits_63 (by decide) ?_
                refine r_lv [1, 2, 3, 4] rfl ?_
                exact sX9_fits_67 K Z p0 p1 p2 p0 p1 p2 1 h13_ hf
            · have hf := e_f hf c16_
              refine r_iconst (v := 2) K dX9_fits_53 rfl ?_
              refine r_goto (tgt := 67) K dX9_fits_54 (by decide) ?_
              refine r_lv [1, 2, 3, 4] rfl ?_
              exact sX9_fits_67 K Z p0 p1 p2 p0 p1 p2 2 h13_ hf
          · have hf := e_f hf c15_
            refine r_iload K dX9_fits_45 0 rfl ?_
            exact r_iret K Z dX9_fits_47 hf
        · have hf := e_f hf c10_
          refine r_iconst (v := (-1)) K dX9_fits_27 rfl ?_
          exact r_iret K Z dX9_fits_28 hf
theorem conX9_fits {G : GG} (p0 : Int32) (p1 : Int32) (p2 : Int32) (h : AH) (rv : Int32) (h' : AH) (hf : fX9_fits p0 p1 p2 h = some (rv, h')) : Con G 5 yX9_fits cX9_fits 9 (some .int) [.ref 0, .int p0, .int p1, .int p2] h (some (.int rv)) h' := con_of mwX9_fits (Nat.le_of_ble_eq_true rfl) (fun E K Z => sX9_fits K Z p0 p1 p2 h hf)
def fX9_goes (h : AH) : Option (Int32 × AH) :=
  bind2 (fX3_sorriest 1 9 h) fun r1_ h2_ => bind2 (fX7_hasGuest 1 r1_ h2_) fun r4_ h5_ => if r4_ = 0 then some ((-2), h5_) else letV (wI h5_ 32 (ix 2) ((h5_.1 32 (ix 2)) + 1)) fun h10_ => if inb r1_ 9 = true then letV (wI h10_ 32 (ix 4) ((h10_.1 32 (ix 4)) + (h10_.1 2 (ix r1_)))) fun h15_ => letV (wI h15_ 32 (ix 1) ((h15_.1 32 (ix 1)) + 1)) fun h19_ => letV (wI h19_ 7 (ix r1_) 1) fun h22_ => bindV (fX7_passMinute 1 h22_) fun h25_ => some (r1_, h25_) else none
set_option maxRecDepth 10000 in
theorem sX9_goes {G : GG} {E : EE} {rv : Int32} {h' : AH} (K : OK G E 4 RX9 cX9_goes 2) (Z : RT G E (some .int) (some (.int rv)) h') (h : AH) (hf : fX9_goes h = some (rv, h')) : JJ G E 2 0 [(0, .ref 0)] [] h := by
  unfold fX9_goes at hf
  refine r_aload_n K dX9_goes_0 0 rfl rfl ?_
  refine r_getR (o' := 15) K flX9_34 dX9_goes_1 rfl rfl rfl ?_
  refine r_aload_n K dX9_goes_4 0 rfl rfl ?_
  refine r_getR (o' := 1) K flX9_10 dX9_goes_5 rfl rfl rfl ?_
  refine r_bipush (v := 9) K dX9_goes_8 rfl ?_
  obtain ⟨r1_, h2_, g3_, hf⟩ := e_2 hf
  refine r_callV (av := [.ref 1, .int 9]) (st := []) K lkX9_164 mwX3_sorriest (conX3_sorriest 1 9 rfl h r1_ h2_ g3_) dX9_goes_10 rfl (Nat.le_of_ble_eq_true rfl) rfl rfl (Nat.le_of_ble_eq_true rfl) ?_
  refine r_istore_n (lv' := [(1, .int r1_), (0, .ref 0)]) K dX9_goes_13 rfl (Nat.le_of_ble_eq_true rfl) rfl ?_
  refine r_aload_n K dX9_goes_14 1 rfl rfl ?_
  refine r_getR (o' := 1) K flX9_10 dX9_goes_15 rfl rfl rfl ?_
  refine r_iload_n K dX9_goes_18 0 rfl rfl ?_
  obtain ⟨r4_, h5_, g6_, hf⟩ := e_2 hf
  refine r_callV (av := [.int r1_]) (st := []) K lkX9_114 mwX7_hasGuest (conX7_hasGuest 1 r1_ rfl h2_ r4_ h5_ g6_) dX9_goes_19 rfl (Nat.le_of_ble_eq_true rfl) rfl rfl (Nat.le_of_ble_eq_true rfl) ?_
  refine r_if_ne (tgt := 28) K dX9_goes_22 (by decide) (fun c7_ => ?_) (fun c7_ => ?_)
  · have hf := e_f hf c7_
    refine r_aload_n K dX9_goes_28 1 rfl rfl ?_
    refine r_getR (o' := 32) K flX9_56 dX9_goes_29 rfl rfl rfl ?_
    refine r_iconst (v := 2) K dX9_goes_32 rfl ?_
    refine r_dup2 K dX9_goes_33 rfl rfl ?_
    refine r_iald K dX9_goes_34 rfl (by decide +kernel) ?_
    refine r_iconst (v := 1) K dX9_goes_35 rfl ?_
    refine r_iadd K dX9_goes_36 ?_
    obtain ⟨h10_, e11_, hf⟩ := e_l hf
    refine r_iast K dX9_goes_37 rfl (by decide +kernel) e11_ ?_
    refine r_aload_n K dX9_goes_38 1 rfl rfl ?_
    refine r_getR (o' := 32) K flX9_56 dX9_goes_39 rfl rfl rfl ?_
    refine r_iconst (v := 4) K dX9_goes_42 rfl ?_
    refine r_dup2 K dX9_goes_43 rfl rfl ?_
    refine r_iald K dX9_goes_44 rfl (by decide +kernel) ?_
    refine r_aload_n K dX9_goes_45 1 rfl rfl ?_
    refine r_getR (o' := 1) K flX9_10 dX9_goes_46 rfl rfl rfl ?_
    refine r_getR (o' := 2) K flX9_158 dX9_goes_49 rfl rfl rfl ?_
    refine r_iload_n K dX9_goes_52 0 rfl rfl ?_
    obtain ⟨g13_, hf⟩ := e_g hf
    refine r_iald K dX9_goes_53 rfl g13_ ?_
    refine r_iadd K dX9_goes_54 ?_
    obtain ⟨h15_, e16_, hf⟩ := e_l hf
    refine r_iast K dX9_goes_55 rfl (by decide +kernel) e16_ ?_
    refine r_aload_n K dX9_goes_56 1 rfl rfl ?_
    refine r_getR (o' := 32) K flX9_56 dX9_goes_57 rfl rfl rfl ?_
    refine r_iconst (v := 1) K dX9_goes_60 rfl ?_
    refine r_dup2 K dX9_goes_61 rfl rfl ?_
    refine r_iald K dX9_goes_62 rfl (by decide +kernel) ?_
    refine r_iconst (v := 1) K dX9_goes_63 rfl ?_
    refine r_iadd K dX9_goes_64 ?_
    obtain ⟨h19_, e20_, hf⟩ := e_l hf
    refine r_iast K dX9_goes_65 rfl (by decide +kernel) e20_ ?_
    refine r_aload_n K dX9_goes_66 1 rfl rfl ?_
    refine r_getR (o' := 1) K flX9_10 dX9_goes_67 rfl rfl rfl ?_
    refine r_getR (o' := 7) K flX9_248 dX9_goes_70 rfl rfl rfl ?_
    refine r_iload_n K dX9_goes_73 0 rfl rfl ?_
    refine r_iconst (v := 1) K dX9_goes_74 rfl ?_
    obtain ⟨h22_, e23_, hf⟩ := e_l hf
    refine r_iast K dX9_goes_75 rfl g13_ e23_ ?_
    refine r_aload_n K dX9_goes_76 1 rfl rfl ?_
    refine r_getR (o' := 1) K flX9_10 dX9_goes_77 rfl rfl rfl ?_
    obtain ⟨h25_, g26_, hf⟩ := e_v hf
    refine r_callV (av := []) (st := []) K lkX9_170 mwX7_passMinute (conX7_passMinute 1 rfl h22_ h25_ g26_) dX9_goes_80 rfl (Nat.le_of_ble_eq_true rfl) rfl rfl (Nat.le_of_ble_eq_true rfl) ?_
    refine r_iload_n K dX9_goes_83 0 rfl rfl ?_
    exact r_iret K Z dX9_goes_84 hf
  · have hf := e_t hf c7_
    refine r_bipush (v := (-2)) K dX9_goes_25 rfl ?_
    exact r_iret K Z dX9_goes_27 hf
theorem conX9_goes {G : GG} (h : AH) (rv : Int32) (h' : AH) (hf : fX9_goes h = some (rv, h')) : Con G 4 yX9_goes cX9_goes 2 (some .int) [.ref 0] h (some (.int rv)) h' := con_of mwX9_goes (Nat.le_of_ble_eq_true rfl) (fun E K Z => sX9_goes K Z h hf)
def fX9_goesAs (p0 : Int32) (p1 : Int32) (h : AH) : Option (Int32 × AH) :=
  bind2 (fX9_isThought p0 h) fun r1_ h2_ => if r1_ = 0 then some ((-1), h2_) else if 0 ≤ p1 then bindV (fX6_startBehind p0 h2_) fun h7_ => bindV (fX6_allGo 9 h7_) fun h10_ => if (h10_.1 18 4) ≤ p1 then some ((-2), h10_) else if inb p1 9 = true then some ((h10_.1 29 (ix p1)), h10_) else none else some ((-1), h2_)
set_option maxRecDepth 10000 in
theorem sX9_goesAs {G : GG} {E : EE} {rv : Int32} {h' : AH} (K : OK G E 5 RX9 cX9_goesAs 3) (Z : RT G E (some .int) (some (.int rv)) h') (p0 : Int32) (p1 : Int32) (h : AH) (hf : fX9_goesAs p0 p1 h = some (rv, h')) : JJ G E 3 0 [(0, .ref 0), (1, .int p0), (2, .int p1)] [] h := by
  unfold fX9_goesAs at hf
  refine r_iload_n K dX9_goesAs_0 1 rfl rfl ?_
  obtain ⟨r1_, h2_, g3_, hf⟩ := e_2 hf
  refine r_callS (av := [.int p0]) (st := []) K lkX9_146 mwX9_isThought (conX9_isThought p0 h r1_ h2_ g3_) dX9_goesAs_1 (Nat.le_of_ble_eq_true rfl) rfl rfl (Nat.le_of_ble_eq_true rfl) ?_
  refine r_if_eq (tgt := 11) K dX9_goesAs_4 (by decide) (fun c4_ => ?_) (fun c4_ => ?_)
  · have hf := e_t hf c4_
    refine r_iconst (v := (-1)) K dX9_goesAs_11 rfl ?_
    exact r_iret K Z dX9_goesAs_12 hf
  · have hf := e_f hf c4_
    refine r_iload_n K dX9_goesAs_7 2 rfl rfl ?_
    refine r_if_ge (tgt := 13) K dX9_goesAs_8 (by decide) (fun c5_ => ?_) (fun c5_ => ?_)
    · have hf := e_t hf c5_
      refine r_aload_n K dX9_goesAs_13 0 rfl rfl ?_
      refine r_getR (o' := 18) K flX9_43 dX9_goesAs_14 rfl rfl rfl ?_
      refine r_iload_n K dX9_goesAs_17 1 rfl rfl ?_
      obtain ⟨h7_, g8_, hf⟩ := e_v hf
      refine r_callV (av := [.int p0]) (st := []) K lkX9_149 mwX6_startBehind (conX6_startBehind p0 h2_ h7_ g8_) dX9_goesAs_18 rfl (Nat.le_of_ble_eq_true rfl) rfl rfl (Nat.le_of_ble_eq_true rfl) ?_
      refine r_aload_n K dX9_goesAs_21 0 rfl rfl ?_
      refine r_getR (o' := 18) K flX9_43 dX9_goesAs_22 rfl rfl rfl ?_
      refine r_bipush (v := 9) K dX9_goesAs_25 rfl ?_
      obtain ⟨h10_, g11_, hf⟩ := e_v hf
      refine r_callV (av := [.int 9]) (st := []) K lkX9_173 mwX6_allGo (conX6_allGo 9 h7_ h10_ g11_) dX9_goesAs_27 rfl (Nat.le_of_ble_eq_true rfl) rfl rfl (Nat.le_of_ble_eq_true rfl) ?_
      refine r_iload_n K dX9_goesAs_30 2 rfl rfl ?_
      refine r_aload_n K dX9_goesAs_31 0 rfl rfl ?_
      refine r_getR (o' := 18) K flX9_43 dX9_goesAs_32 rfl rfl rfl ?_
      refine r_getI K flX9_176 dX9_goesAs_35 rfl rfl ?_
      refine r_icmp_ge (tgt := 53) K dX9_goesAs_38 (by decide) (fun c12_ => ?_) (fun c12_ => ?_)
      · have hf := e_t hf c12_
        refine r_bipush (v := (-2)) K dX9_goesAs_53 rfl ?_
        exact r_iret K Z dX9_goesAs_55 hf
      · have hf := e_f hf c12_
        refine r_aload_n K dX9_goesAs_41 0 rfl rfl ?_
        refine r_getR (o' := 18) K flX9_43 dX9_goesAs_42 rfl rfl rfl ?_
        refine r_getR (o' := 29) K flX9_179 dX9_goesAs_45 rfl rfl rfl ?_
        refine r_iload_n K dX9_goesAs_48 2 rfl rfl ?_
        obtain ⟨g13_, hf⟩ := e_g hf
        refine r_iald K dX9_goesAs_49 rfl g13_ ?_
        refine r_goto (tgt := 55) K dX9_goesAs_50 (by decide) ?_
        exact r_iret K Z dX9_goesAs_55 hf
    · have hf := e_f hf c5_
      refine r_iconst (v := (-1)) K dX9_goesAs_11 rfl ?_
      exact r_iret K Z dX9_goesAs_12 hf
theorem conX9_goesAs {G : GG} (p0 : Int32) (p1 : Int32) (h : AH) (rv : Int32) (h' : AH) (hf : fX9_goesAs p0 p1 h = some (rv, h')) : Con G 5 yX9_goesAs cX9_goesAs 3 (some .int) [.ref 0, .int p0, .int p1] h (some (.int rv)) h' := con_of mwX9_goesAs (Nat.le_of_ble_eq_true rfl) (fun E K Z => sX9_goesAs K Z p0 p1 h hf)
def fX9_goesWhen (p0 : Int32) (p1 : Int32) (h : AH) : Option (Int32 × AH) :=
  bind2 (fX9_isThought p0 h) fun r1_ h2_ => if r1_ = 0 then some ((-1), h2_) else bind2 (fX7_hasGuest 1 p1 h2_) fun r5_ h6_ => if r5_ = 0 then some ((-1), h6_) else bind2 (fX7_isLeft 1 p1 h6_) fun r9_ h10_ => if r9_ = 0 then some ((-2), h10_) else bindV (fX6_startBehind p0 h10_) fun h14_ => bindV (fX6_allGo 9 h14_) fun h17_ => bind2 (fX6_placeOfGoer p1 h17_) fun r19_ h20_ => some ((p0 + r19_), h20_)
set_option maxRecDepth 10000 in
theorem sX9_goesWhen {G : GG} {E : EE} {rv : Int32} {h' : AH} (K : OK G E 5 RX9 cX9_goesWhen 3) (Z : RT G E (some .int) (some (.int rv)) h') (p0 : Int32) (p1 : Int32) (h : AH) (hf : fX9_goesWhen p0 p1 h = some (rv, h')) : JJ G E 3 0 [(0, .ref 0), (1, .int p0), (2, .int p1)] [] h := by
  unfold fX9_goesWhen at hf
  refine r_iload_n K dX9_goesWhen_0 1 rfl rfl ?_
  obtain ⟨r1_, h2_, g3_, hf⟩ := e_2 hf
  refine r_callS (av := [.int p0]) (st := []) K lkX9_146 mwX9_isThought (conX9_isThought p0 h r1_ h2_ g3_) dX9_goesWhen_1 (Nat.le_of_ble_eq_true rfl) rfl rfl (Nat.le_of_ble_eq_true rfl) ?_
  refine r_if_eq (tgt := 18) K dX9_goesWhen_4 (by decide) (fun c4_ => ?_) (fun c4_ => ?_)
  · have hf := e_t hf c4_
    refine r_iconst (v := (-1)) K dX9_goesWhen_18 rfl ?_
    exact r_iret K Z dX9_goesWhen_19 hf
  · have hf := e_f hf c4_
    refine r_aload_n K dX9_goesWhen_7 0 rfl rfl ?_
    refine r_getR (o' := 1) K flX9_10 dX9_goesWhen_8 rfl rfl rfl ?_
    refine r_iload_n K dX9_goesWhen_11 2 rfl rfl ?_
    obtain ⟨r5_, h6_, g7_, hf⟩ := e_2 hf
    refine r_callV (av := [.int p1]) (st := []) K lkX9_114 mwX7_hasGuest (conX7_hasGuest 1 p1 rfl h2_ r5_ h6_ g7_) dX9_goesWhen_12 rfl (Nat.le_of_ble_eq_true rfl) rfl rfl (Nat.le_of_ble_eq_true rfl) ?_
    refine r_if_ne (tgt := 20) K dX9_goesWhen_15 (by decide) (fun c8_ => ?_) (fun c8_ => ?_)
    · have hf := e_f hf c8_
      refine r_aload_n K dX9_goesWhen_20 0 rfl rfl ?_
      refine r_getR (o' := 1) K flX9_10 dX9_goesWhen_21 rfl rfl rfl ?_
      refine r_iload_n K dX9_goesWhen_24 2 rfl rfl ?_
      obtain ⟨r9_, h10_, g11_, hf⟩ := e_2 hf
      refine r_callV (av := [.int p1]) (st := []) K lkX9_182 mwX7_isLeft (conX7_isLeft 1 p1 rfl h6_ r9_ h10_ g11_) dX9_goesWhen_25 rfl (Nat.le_of_ble_eq_true rfl) rfl rfl (Nat.le_of_ble_eq_true rfl) ?_
      refine r_if_ne (tgt := 34) K dX9_goesWhen_28 (by decide) (fun c12_ => ?_) (fun c12_ => ?_)
      · have hf := e_f hf c12_
        refine r_aload_n K dX9_goesWhen_34 0 rfl rfl ?_
        refine r_getR (o' := 18) K flX9_43 dX9_goesWhen_35 rfl rfl rfl ?_
        refine r_iload_n K dX9_goesWhen_38 1 rfl rfl ?_
        obtain ⟨h14_, g15_, hf⟩ := e_v hf
        refine r_callV (av := [.int p0]) (st := []) K lkX9_149 mwX6_startBehind (conX6_startBehind p0 h10_ h14_ g15_) dX9_goesWhen_39 rfl (Nat.le_of_ble_eq_true rfl) rfl rfl (Nat.le_of_ble_eq_true rfl) ?_
        refine r_aload_n K dX9_goesWhen_42 0 rfl rfl ?_
        refine r_getR (o' := 18) K flX9_43 dX9_goesWhen_43 rfl rfl rfl ?_
        refine r_bipush (v := 9) K dX9_goesWhen_46 rfl ?_
        obtain ⟨h17_, g18_, hf⟩ := e_v hf
        refine r_callV (av := [.int 9]) (st := []) K lkX9_173 mwX6_allGo (conX6_allGo 9 h14_ h17_ g18_) dX9_goesWhen_48 rfl (Nat.le_of_ble_eq_true rfl) rfl rfl (Nat.le_of_ble_eq_true rfl) ?_
        refine r_iload_n K dX9_goesWhen_51 1 rfl rfl ?_
        refine r_aload_n K dX9_goesWhen_52 0 rfl rfl ?_
        refine r_getR (o' := 18) K flX9_43 dX9_goesWhen_53 rfl rfl rfl ?_
        refine r_iload_n K dX9_goesWhen_56 2 rfl rfl ?_
        obtain ⟨r19_, h20_, g21_, hf⟩ := e_2 hf
        refine r_callV (av := [.int p1]) (st := [.int p0]) K lkX9_185 mwX6_placeOfGoer (conX6_placeOfGoer p1 h17_ r19_ h20_ g21_) dX9_goesWhen_57 rfl (Nat.le_of_ble_eq_true rfl) rfl rfl (Nat.le_of_ble_eq_true rfl) ?_
        refine r_iadd K dX9_goesWhen_60 ?_
        exact r_iret K Z dX9_goesWhen_61 hf
      · have hf := e_t hf c12_
        refine r_bipush (v := (-2)) K dX9_goesWhen_31 rfl ?_
        exact r_iret K Z dX9_goesWhen_33 hf
    · have hf := e_t hf c8_
      refine r_iconst (v := (-1)) K dX9_goesWhen_18 rfl ?_
      exact r_iret K Z dX9_goesWhen_19 hf
theorem conX9_goesWhen {G : GG} (p0 : Int32) (p1 : Int32) (h : AH) (rv : Int32) (h' : AH) (hf : fX9_goesWhen p0 p1 h = some (rv, h')) : Con G 5 yX9_goesWhen cX9_goesWhen 3 (some .int) [.ref 0, .int p0, .int p1] h (some (.int rv)) h' := con_of mwX9_goesWhen (Nat.le_of_ble_eq_true rfl) (fun E K Z => sX9_goesWhen K Z p0 p1 h hf)
def fX9_isWithin (p0 : Int32) (p1 : Int32) (h : AH) : Option (Int32 × AH) :=
  if p1 < 0 then some (0, h) else if 9 ≤ p1 then some (0, h) else if inb p1 9 = true then if p0 < (ST 200 (ix p1)) then some (0, h) else if (ST 201 (ix p1)) < p0 then some (0, h) else some (1, h) else none
set_option maxRecDepth 10000 in
theorem sX9_isWithin {G : GG} {E : EE} {rv : Int32} {h' : AH} (K : OK G E 0 RX9 cX9_isWithin 2) (Z : RT G E (some .boolean) (some (.int rv)) h') (p0 : Int32) (p1 : Int32) (h : AH) (hf : fX9_isWithin p0 p1 h = some (rv, h')) : JJ G E 2 0 [(0, .int p0), (1, .int p1)] [] h := by
  unfold fX9_isWithin at hf
  refine r_iload_n K dX9_isWithin_0 1 rfl rfl ?_
  refine r_if_lt (tgt := 34) K dX9_isWithin_1 (by decide) (fun c1_ => ?_) (fun c1_ => ?_)
  · have hf := e_t hf c1_
    refine r_iconst (v := 0) K dX9_isWithin_34 rfl ?_
    exact r_zret K Z dX9_isWithin_35 rfl hf
  · have hf := e_f hf c1_
    refine r_iload_n K dX9_isWithin_4 1 rfl rfl ?_
    refine r_gets K gsX9_206 dX9_isWithin_5 ?_
    refine r_slen (v := 9) K dX9_isWithin_8 sl200 rfl ?_
    refine r_icmp_ge (tgt := 34) K dX9_isWithin_9 (by decide) (fun c2_ => ?_) (fun c2_ => ?_)
    · have hf := e_t hf c2_
      refine r_iconst (v := 0) K dX9_isWithin_34 rfl ?_
      exact r_zret K Z dX9_isWithin_35 rfl hf
    · have hf := e_f hf c2_
      refine r_iload_n K dX9_isWithin_12 0 rfl rfl ?_
      refine r_gets K gsX9_206 dX9_isWithin_13 ?_
      refine r_iload_n K dX9_isWithin_16 1 rfl rfl ?_
      obtain ⟨g3_, hf⟩ := e_g hf
      refine r_sald K dX9_isWithin_17 sl200 g3_ ?_
      refine r_icmp_lt (tgt := 34) K dX9_isWithin_18 (by decide) (fun c4_ => ?_) (fun c4_ => ?_)
      · have hf := e_t hf c4_
        refine r_iconst (v := 0) K dX9_isWithin_34 rfl ?_
        exact r_zret K Z dX9_isWithin_35 rfl hf
      · have hf := e_f hf c4_
        refine r_iload_n K dX9_isWithin_21 0 rfl rfl ?_
        refine r_gets K gsX9_203 dX9_isWithin_22 ?_
        refine r_iload_n K dX9_isWithin_25 1 rfl rfl ?_
        refine r_sald K dX9_isWithin_26 sl201 g3_ ?_
        refine r_icmp_gt (tgt := 34) K dX9_isWithin_27 (by decide) (fun c6_ => ?_) (fun c6_ => ?_)
        · have hf := e_t hf c6_
          refine r_iconst (v := 0) K dX9_isWithin_34 rfl ?_
          exact r_zret K Z dX9_isWithin_35 rfl hf
        · have hf := e_f hf c6_
          refine r_iconst (v := 1) K dX9_isWithin_30 rfl ?_
          refine r_goto (tgt := 35) K dX9_isWithin_31 (by decide) ?_
          exact r_zret K Z dX9_isWithin_35 rfl hf
theorem conX9_isWithin {G : GG} (p0 : Int32) (p1 : Int32) (h : AH) (rv : Int32) (h' : AH) (hf : fX9_isWithin p0 p1 h = some (rv, h')) : Con G 0 yX9_isWithin cX9_isWithin 2 (some .boolean) [.int p0, .int p1] h (some (.int rv)) h' := con_of mwX9_isWithin (Nat.le_of_ble_eq_true rfl) (fun E K Z => sX9_isWithin K Z p0 p1 h hf)
def fX9_guest (p0 : Int32) (p1 : Int32) (h : AH) : Option (Int32 × AH) :=
  bind2 (fX9_isWithin p0 3 h) fun r1_ h2_ => if r1_ = 0 then some ((-1), h2_) else bind2 (fX9_isWithin p1 4 h2_) fun r5_ h6_ => if r5_ = 0 then some ((-1), h6_) else if (h6_.1 1 9) < 9 then bind2 (fX7_addGuest 1 p0 p1 h6_) fun r10_ h11_ => some (r10_, h11_) else some ((-3), h6_)
set_option maxRecDepth 10000 in
theorem sX9_guest {G : GG} {E : EE} {rv : Int32} {h' : AH} (K : OK G E 1 RX9 cX9_guest 3) (Z : RT G E (some .int) (some (.int rv)) h') (p0 : Int32) (p1 : Int32) (h : AH) (hf : fX9_guest p0 p1 h = some (rv, h')) : JJ G E 3 0 [(0, .ref 0), (1, .int p0), (2, .int p1)] [] h := by
  unfold fX9_guest at hf
  refine r_iload_n K dX9_guest_0 1 rfl rfl ?_
  refine r_iconst (v := 3) K dX9_guest_1 rfl ?_
  obtain ⟨r1_, h2_, g3_, hf⟩ := e_2 hf
  refine r_callS (av := [.int p0, .int 3]) (st := []) K lkX9_87 mwX9_isWithin (conX9_isWithin p0 3 h r1_ h2_ g3_) dX9_guest_2 (Nat.le_of_ble_eq_true rfl) rfl rfl (Nat.le_of_ble_eq_true rfl) ?_
  refine r_if_eq (tgt := 16) K dX9_guest_5 (by decide) (fun c4_ => ?_) (fun c4_ => ?_)
  · have hf := e_t hf c4_
    refine r_iconst (v := (-1)) K dX9_guest_16 rfl ?_
    exact r_iret K Z dX9_guest_17 hf
  · have hf := e_f hf c4_
    refine r_iload_n K dX9_guest_8 2 rfl rfl ?_
    refine r_iconst (v := 4) K dX9_guest_9 rfl ?_
    obtain ⟨r5_, h6_, g7_, hf⟩ := e_2 hf
    refine r_callS (av := [.int p1, .int 4]) (st := []) K lkX9_87 mwX9_isWithin (conX9_isWithin p1 4 h2_ r5_ h6_ g7_) dX9_guest_10 (Nat.le_of_ble_eq_true rfl) rfl rfl (Nat.le_of_ble_eq_true rfl) ?_
    refine r_if_ne (tgt := 18) K dX9_guest_13 (by decide) (fun c8_ => ?_) (fun c8_ => ?_)
    · have hf := e_f hf c8_
      refine r_aload_n K dX9_guest_18 0 rfl rfl ?_
      refine r_getR (o' := 1) K flX9_10 dX9_guest_19 rfl rfl rfl ?_
      refine r_getI K flX9_91 dX9_guest_22 rfl rfl ?_
      refine r_bipush (v := 9) K dX9_guest_25 rfl ?_
      refine r_icmp_lt (tgt := 33) K dX9_guest_27 (by decide) (fun c9_ => ?_) (fun c9_ => ?_)
      · have hf := e_t hf c9_
        refine r_aload_n K dX9_guest_33 0 rfl rfl ?_
        refine r_getR (o' := 1) K flX9_10 dX9_guest_34 rfl rfl rfl ?_
        refine r_iload_n K dX9_guest_37 1 rfl rfl ?_
        refine r_iload_n K dX9_guest_38 2 rfl rfl ?_
        obtain ⟨r10_, h11_, g12_, hf⟩ := e_2 hf
        refine r_callV (av := [.int p0, .int p1]) (st := []) K lkX9_94 mwX7_addGuest (conX7_addGuest 1 p0 p1 rfl h6_ r10_ h11_ g12_) dX9_guest_39 rfl (Nat.le_of_ble_eq_true rfl) rfl rfl (Nat.le_of_ble_eq_true rfl) ?_
        exact r_iret K Z dX9_guest_42 hf
      · have hf := e_f hf c9_
        refine r_bipush (v := (-3)) K dX9_guest_30 rfl ?_
        exact r_iret K Z dX9_guest_32 hf
    · have hf := e_t hf c8_
      refine r_iconst (v := (-1)) K dX9_guest_16 rfl ?_
      exact r_iret K Z dX9_guest_17 hf
theorem conX9_guest {G : GG} (p0 : Int32) (p1 : Int32) (h : AH) (rv : Int32) (h' : AH) (hf : fX9_guest p0 p1 h = some (rv, h')) : Con G 1 yX9_guest cX9_guest 3 (some .int) [.ref 0, .int p0, .int p1] h (some (.int rv)) h' := con_of mwX9_guest (Nat.le_of_ble_eq_true rfl) (fun E K Z => sX9_guest K Z p0 p1 h hf)
def fX9_guestComes_98_b (p0 : Nat) (p1 : Int64) (Q98 : Int32 → Int32 → Int32 → AH → Option (Int32 × AH)) (x4 : Int32) (x5 : Int32) (x6 : Int32) (h : AH) : Option (Int32 × AH) :=
  if 3 ≤ x6 then some (1, h) else if inb (x4 + x6) 60 = true then bindV (fX7_setNumber 1 x5 x6 (((h.2 (rf p0 4) (ix (x4 + x6))) : Int64).toInt32) h) fun h14_ => Q98 x4 x5 (x6 + 1) h14_ else none
def fX9_guestComes_98 (p0 : Nat) (p1 : Int64) : Nat → Int32 → Int32 → Int32 → AH → Option (Int32 × AH)
  | 0 => fun _ _ _ _ => none
  | n + 1 => fX9_guestComes_98_b p0 p1 (fX9_guestComes_98 p0 p1 n)
set_option maxRecDepth 10000 in
theorem sX9_guestComes_98_b {G : GG} {E : EE} {rv : Int32} {h' : AH} (K : OK G E 3 RX9 cX9_guestComes 7) (Z : RT G E (some .boolean) (some (.int rv)) h') (p0 : Nat) (p1 : Int64) (hp0 : KD p0 = (5, 5)) (Q98 : Int32 → Int32 → Int32 → AH → Option (Int32 × AH)) (hQ98 : ∀ (x4 : Int32) (x5 : Int32) (x6 : Int32) (h : AH), Q98 x4 x5 x6 h = some (rv, h') → JJ G E 7 98 [(0, .ref 0), (1, .ref p0), (4, .int x4), (5, .int x5), (6, .int x6)] [] h) (x4 : Int32) (x5 : Int32) (x6 : Int32) (h : AH) (hf : fX9_guestComes_98_b p0 p1 Q98 x4 x5 x6 h = some (rv, h')) : JJ G E 7 98 [(0, .ref 0), (1, .ref p0), (4, .int x4), (5, .int x5), (6, .int x6)] [] h := by
  unfold fX9_guestComes_98_b at hf
  refine r_iload K dX9_guestComes_98 4 rfl ?_
  refine r_iconst (v := 3) K dX9_guestComes_100 rfl ?_
  refine r_icmp_ge (tgt := 132) K dX9_guestComes_101 (by decide) (fun c11_ => ?_) (fun c11_ => ?_)
  · have hf := e_t hf c11_
    refine r_iconst (v := 1) K dX9_guestComes_132 rfl ?_
    exact r_zret K Z dX9_guestComes_133 rfl hf
  · have hf := e_f hf c11_
    refine r_aload_n K dX9_guestComes_104 0 rfl rfl ?_
    refine r_getR (o' := 1) K flX9_10 dX9_guestComes_105 rfl rfl rfl ?_
    refine r_iload K dX9_guestComes_108 3 rfl ?_
    refine r_iload K dX9_guestComes_110 4 rfl ?_
    refine r_aload_n K dX9_guestComes_112 1 rfl rfl ?_
    refine r_getR (o' := (rf p0 4)) K flX9_299 dX9_guestComes_113 hp0 rfl rfl ?_
    refine r_iload K dX9_guestComes_116 2 rfl ?_
    refine r_iload K dX9_guestComes_118 4 rfl ?_
    refine r_iadd K dX9_guestComes_120 ?_
    obtain ⟨g12_, hf⟩ := e_g hf
    refine r_lald K dX9_guestComes_121 (kf5_4 hp0) g12_ ?_
    refine r_l2i K dX9_guestComes_122 ?_
    obtain ⟨h14_, g15_, hf⟩ := e_v hf
    refine r_callV (av := [.int x5, .int x6, .int (((h.2 (rf p0 4) (ix (x4 + x6))) : Int64).toInt32)]) (st := []) K lkX9_130 mwX7_setNumber (conX7_setNumber 1 x5 x6 (((h.2 (rf p0 4) (ix (x4 + x6))) : Int64).toInt32) rfl h h14_ g15_) dX9_guestComes_123 rfl (Nat.le_of_ble_eq_true rfl) rfl rfl (Nat.le_of_ble_eq_true rfl) ?_
    refine r_iinc (y := 1) (lv' := [(6, .int (x6 + 1)), (0, .ref 0), (1, .ref p0), (4, .int x4), (5, .int x5)]) K dX9_guestComes_126 4 rfl rfl (Nat.le_of_ble_eq_true rfl) rfl ?_
    refine r_goto (tgt := 98) K dX9_guestComes_129 (by decide) ?_
    refine r_lv [1, 2, 3, 4, 0] rfl ?_
    exact hQ98 x4 x5 (x6 + 1) h14_ hf
theorem sX9_guestComes_98 {G : GG} {E : EE} {rv : Int32} {h' : AH} (K : OK G E 3 RX9 cX9_guestComes 7) (Z : RT G E (some .boolean) (some (.int rv)) h') (p0 : Nat) (p1 : Int64) (hp0 : KD p0 = (5, 5)) : ∀ (n : Nat) (x4 : Int32) (x5 : Int32) (x6 : Int32) (h : AH), fX9_guestComes_98 p0 p1 n x4 x5 x6 h = some (rv, h') → JJ G E 7 98 [(0, .ref 0), (1, .ref p0), (4, .int x4), (5, .int x5), (6, .int x6)] [] h := by
  intro n
  induction n with
  | zero => intro x4 x5 x6 h hf; cases hf
  | succ n ih => intro x4 x5 x6 h hf; exact sX9_guestComes_98_b K Z p0 p1 hp0 _ (fun x4 x5 x6 h hf => ih x4 x5 x6 h hf) x4 x5 x6 h hf
def fX9_guestComes_41_b (p0 : Nat) (p1 : Int64) (Q41 : Int32 → Int32 → AH → Option (Int32 × AH)) (x4 : Int32) (x5 : Int32) (h : AH) : Option (Int32 × AH) :=
  if 3 < x5 then if inb (x4 + 3) 60 = true then bind2 (fX7_addGuest 1 (((h.2 (rf p0 4) (ix (x4 + 3))) : Int64).toInt32) 7 h) fun r8_ h9_ => fX9_guestComes_98 p0 p1 FU x4 r8_ 0 h9_ else none else if inb (x4 + x5) 60 = true then bind2 (fX9_isWithin (((h.2 (rf p0 4) (ix (x4 + x5))) : Int64).toInt32) x5 h) fun r17_ h18_ => if r17_ = 0 then some (0, h18_) else Q41 x4 (x5 + 1) h18_ else none
def fX9_guestComes_41 (p0 : Nat) (p1 : Int64) : Nat → Int32 → Int32 → AH → Option (Int32 × AH)
  | 0 => fun _ _ _ => none
  | n + 1 => fX9_guestComes_41_b p0 p1 (fX9_guestComes_41 p0 p1 n)
set_option maxRecDepth 10000 in
theorem sX9_guestComes_41_b {G : GG} {E : EE} {rv : Int32} {h' : AH} (K : OK G E 3 RX9 cX9_guestComes 7) (Z : RT G E (some .boolean) (some (.int rv)) h') (p0 : Nat) (p1 : Int64) (hp0 : KD p0 = (5, 5)) (Q41 : Int32 → Int32 → AH → Option (Int32 × AH)) (hQ41 : ∀ (x4 : Int32) (x5 : Int32) (h : AH), Q41 x4 x5 h = some (rv, h') → JJ G E 7 41 [(0, .ref 0), (1, .ref p0), (4, .int x4), (5, .int x5)] [] h) (x4 : Int32) (x5 : Int32) (h : AH) (hf : fX9_guestComes_41_b p0 p1 Q41 x4 x5 h = some (rv, h')) : JJ G E 7 41 [(0, .ref 0), (1, .ref p0), (4, .int x4), (5, .int x5)] [] h := by
  unfold fX9_guestComes_41_b at hf
  refine r_iload K dX9_guestComes_41 3 rfl ?_
  refine r_iconst (v := 3) K dX9_guestComes_43 rfl ?_
  refine r_icmp_gt (tgt := 74) K dX9_guestComes_44 (by decide) (fun c6_ => ?_) (fun c6_ => ?_)
  · have hf := e_t hf c6_
    refine r_aload_n K dX9_guestComes_74 0 rfl rfl ?_
    refine r_getR (o' := 1) K flX9_10 dX9_guestComes_75 rfl rfl rfl ?_
    refine r_aload_n K dX9_guestComes_78 1 rfl rfl ?_
    refine r_getR (o' := (rf p0 4)) K flX9_299 dX9_guestComes_79 hp0 rfl rfl ?_
    refine r_iload K dX9_guestComes_82 2 rfl ?_
    refine r_iconst (v := 3) K dX9_guestComes_84 rfl ?_
    refine r_iadd K dX9_guestComes_85 ?_
    obtain ⟨g7_, hf⟩ := e_g hf
    refine r_lald K dX9_guestComes_86 (kf5_4 hp0) g7_ ?_
    refine r_l2i K dX9_guestComes_87 ?_
    refine r_bipush (v := 7) K dX9_guestComes_88 rfl ?_
    obtain ⟨r8_, h9_, g10_, hf⟩ := e_2 hf
    refine r_callV (av := [.int (((h.2 (rf p0 4) (ix (x4 + 3))) : Int64).toInt32), .int 7]) (st := []) K lkX9_94 mwX7_addGuest (conX7_addGuest 1 (((h.2 (rf p0 4) (ix (x4 + 3))) : Int64).toInt32) 7 rfl h r8_ h9_ g10_) dX9_guestComes_90 rfl (Nat.le_of_ble_eq_true rfl) rfl rfl (Nat.le_of_ble_eq_true rfl) ?_
    refine r_istore (lv' := [(5, .int r8_), (0, .ref 0), (1, .ref p0), (4, .int x4)]) K dX9_guestComes_93 (Nat.le_of_ble_eq_true rfl) rfl ?_
    refine r_iconst (v := 0) K dX9_guestComes_95 rfl ?_
    refine r_istore (lv' := [(6, .int 0), (5, .int r8_), (0, .ref 0), (1, .ref p0), (4, .int x4)]) K dX9_guestComes_96 (Nat.le_of_ble_eq_true rfl) rfl ?_
    refine r_lv [2, 3, 4, 1, 0] rfl ?_
    exact sX9_guestComes_98 K Z p0 p1 hp0 FU x4 r8_ 0 h9_ hf
  · have hf := e_f hf c6_
    refine r_aload_n K dX9_guestComes_47 1 rfl rfl ?_
    refine r_getR (o' := (rf p0 4)) K flX9_299 dX9_guestComes_48 hp0 rfl rfl ?_
    refine r_iload K dX9_guestComes_51 2 rfl ?_
    refine r_iload K dX9_guestComes_53 3 rfl ?_
    refine r_iadd K dX9_guestComes_55 ?_
    obtain ⟨g16_, hf⟩ := e_g hf
    refine r_lald K dX9_guestComes_56 (kf5_4 hp0) g16_ ?_
    refine r_l2i K dX9_guestComes_57 ?_
    refine r_iload K dX9_guestComes_58 3 rfl ?_
    obtain ⟨r17_, h18_, g19_, hf⟩ := e_2 hf
    refine r_callS (av := [.int (((h.2 (rf p0 4) (ix (x4 + x5))) : Int64).toInt32), .int x5]) (st := []) K lkX9_87 mwX9_isWithin (conX9_isWithin (((h.2 (rf p0 4) (ix (x4 + x5))) : Int64).toInt32) x5 h r17_ h18_ g19_) dX9_guestComes_60 (Nat.le_of_ble_eq_true rfl) rfl rfl (Nat.le_of_ble_eq_true rfl) ?_
    refine r_if_ne (tgt := 68) K dX9_guestComes_63 (by decide) (fun c20_ => ?_) (fun c20_ => ?_)
    · have hf := e_f hf c20_
      refine r_iinc (y := 1) (lv' := [(5, .int (x5 + 1)), (0, .ref 0), (1, .ref p0), (4, .int x4)]) K dX9_guestComes_68 3 rfl rfl (Nat.le_of_ble_eq_true rfl) rfl ?_
      refine r_goto (tgt := 41) K dX9_guestComes_71 (by decide) ?_
      refine r_lv [1, 2, 3, 0] rfl ?_
      exact hQ41 x4 (x5 + 1) h18_ hf
    · have hf := e_t hf c20_
      refine r_iconst (v := 0) K dX9_guestComes_66 rfl ?_
      exact r_zret K Z dX9_guestComes_67 rfl hf
theorem sX9_guestComes_41 {G : GG} {E : EE} {rv : Int32} {h' : AH} (K : OK G E 3 RX9 cX9_guestComes 7) (Z : RT G E (some .boolean) (some (.int rv)) h') (p0 : Nat) (p1 : Int64) (hp0 : KD p0 = (5, 5)) : ∀ (n : Nat) (x4 : Int32) (x5 : Int32) (h : AH), fX9_guestComes_41 p0 p1 n x4 x5 h = some (rv, h') → JJ G E 7 41 [(0, .ref 0), (1, .ref p0), (4, .int x4), (5, .int x5)] [] h := by
  intro n
  induction n with
  | zero => intro x4 x5 h hf; cases hf
  | succ n ih => intro x4 x5 h hf; exact sX9_guestComes_41_b K Z p0 p1 hp0 _ (fun x4 x5 h hf => ih x4 x5 h hf) x4 x5 h hf
def fX9_guestComes (p0 : Nat) (p1 : Int64) (h : AH) : Option (Int32 × AH) :=
  if (lg_cmp p1 0) < 0 then some (0, h) else if 0 ≤ (lg_cmp (p1 + 3) (((h.1 p0 3) : Int32).toInt64)) then some (0, h) else if (h.1 1 9) < 9 then letV (((p1 : Int64).toInt32)) fun x4_ => fX9_guestComes_41 p0 p1 FU x4_ 0 h else some (0, h)
set_option maxRecDepth 10000 in
theorem sX9_guestComes {G : GG} {E : EE} {rv : Int32} {h' : AH} (K : OK G E 3 RX9 cX9_guestComes 7) (Z : RT G E (some .boolean) (some (.int rv)) h') (p0 : Nat) (p1 : Int64) (hp0 : KD p0 = (5, 5)) (h : AH) (hf : fX9_guestComes p0 p1 h = some (rv, h')) : JJ G E 7 0 [(0, .ref 0), (1, .ref p0), (2, .long p1)] [] h := by
  unfold fX9_guestComes at hf
  refine r_lload_n K dX9_guestComes_0 2 rfl rfl ?_
  refine r_lconst (v := 0) K dX9_guestComes_1 rfl ?_
  refine r_lcmp K dX9_guestComes_2 ?_
  refine r_if_lt (tgt := 32) K dX9_guestComes_3 (by decide) (fun c1_ => ?_) (fun c1_ => ?_)
  · have hf := e_t hf c1_
    refine r_iconst (v := 0) K dX9_guestComes_32 rfl ?_
    exact r_zret K Z dX9_guestComes_33 rfl hf
  · have hf := e_f hf c1_
    refine r_lload_n K dX9_guestComes_6 2 rfl rfl ?_
    refine r_ldc2 (v := 3) K dX9_guestComes_7 lcX9_335 ?_
    refine r_ladd K dX9_guestComes_10 ?_
    refine r_aload_n K dX9_guestComes_11 1 rfl rfl ?_
    refine r_getI K flX9_332 dX9_guestComes_12 hp0 rfl ?_
    refine r_i2l K dX9_guestComes_15 ?_
    refine r_lcmp K dX9_guestComes_16 ?_
    refine r_if_ge (tgt := 32) K dX9_guestComes_17 (by decide) (fun c2_ => ?_) (fun c2_ => ?_)
    · have hf := e_t hf c2_
      refine r_iconst (v := 0) K dX9_guestComes_32 rfl ?_
      exact r_zret K Z dX9_guestComes_33 rfl hf
    · have hf := e_f hf c2_
      refine r_aload_n K dX9_guestComes_20 0 rfl rfl ?_
      refine r_getR (o' := 1) K flX9_10 dX9_guestComes_21 rfl rfl rfl ?_
      refine r_getI K flX9_91 dX9_guestComes_24 rfl rfl ?_
      refine r_bipush (v := 9) K dX9_guestComes_27 rfl ?_
      refine r_icmp_lt (tgt := 34) K dX9_guestComes_29 (by decide) (fun c3_ => ?_) (fun c3_ => ?_)
      · have hf := e_t hf c3_
        refine r_lload_n K dX9_guestComes_34 2 rfl rfl ?_
        refine r_l2i K dX9_guestComes_35 ?_
        obtain ⟨x4_, e5_, hf⟩ := e_l hf
        refine r_nmI e5_ ?_
        refine r_istore (lv' := [(4, .int x4_), (0, .ref 0), (1, .ref p0), (2, .long p1)]) K dX9_guestComes_36 (Nat.le_of_ble_eq_true rfl) rfl ?_
        refine r_iconst (v := 0) K dX9_guestComes_38 rfl ?_
        refine r_istore (lv' := [(5, .int 0), (4, .int x4_), (0, .ref 0), (1, .ref p0), (2, .long p1)]) K dX9_guestComes_39 (Nat.le_of_ble_eq_true rfl) rfl ?_
        refine r_lv [2, 3, 1, 0] rfl ?_
        exact sX9_guestComes_41 K Z p0 p1 hp0 FU x4_ 0 h hf
      · have hf := e_f hf c3_
        refine r_iconst (v := 0) K dX9_guestComes_32 rfl ?_
        exact r_zret K Z dX9_guestComes_33 rfl hf
theorem conX9_guestComes {G : GG} (p0 : Nat) (p1 : Int64) (hp0 : KD p0 = (5, 5)) (h : AH) (rv : Int32) (h' : AH) (hf : fX9_guestComes p0 p1 h = some (rv, h')) : Con G 3 yX9_guestComes cX9_guestComes 7 (some .boolean) [.ref 0, .ref p0, .long p1] h (some (.int rv)) h' := con_of mwX9_guestComes (Nat.le_of_ble_eq_true rfl) (fun E K Z => sX9_guestComes K Z p0 p1 hp0 h hf)
def fX9_guests_56_b (p0 : Int32) (p1 : Int32) (p2 : Int32) (Q56 : Int32 → Int32 → Nat → Int32 → Int32 → AH → Option (Int32 × AH)) (x2 : Int32) (x3 : Int32) (o4 : Nat) (x5 : Int32) (x6 : Int32) (h : AH) : Option (Int32 × AH) :=
  if x3 ≤ x6 then some (x5, h) else bind2 (fX9_guestComes o4 (((x2 : Int32).toInt64) + (4 * ((x6 : Int32).toInt64))) h) fun r17_ h18_ => if r17_ = 0 then some (x5, h18_) else Q56 x2 x3 o4 (x5 + 1) (x6 + 1) h18_
def fX9_guests_56 (p0 : Int32) (p1 : Int32) (p2 : Int32) : Nat → Int32 → Int32 → Nat → Int32 → Int32 → AH → Option (Int32 × AH)
  | 0 => fun _ _ _ _ _ _ => none
  | n + 1 => fX9_guests_56_b p0 p1 p2 (fX9_guests_56 p0 p1 p2 n)
set_option maxRecDepth 10000 in
theorem sX9_guests_56_b {G : GG} {E : EE} {rv : Int32} {h' : AH} (K : OK G E 4 RX9 cX9_guests 7) (Z : RT G E (some .int) (some (.int rv)) h') (p0 : Int32) (p1 : Int32) (p2 : Int32) (Q56 : Int32 → Int32 → Nat → Int32 → Int32 → AH → Option (Int32 × AH)) (hQ56 : ∀ (x2 : Int32) (x3 : Int32) (o4 : Nat) (x5 : Int32) (x6 : Int32) (ho4 : KD o4 = (5, 5)) (h : AH), Q56 x2 x3 o4 x5 x6 h = some (rv, h') → JJ G E 7 56 [(0, .ref 0), (2, .int x2), (3, .int x3), (4, .ref o4), (5, .int x5), (6, .int x6)] [] h) (x2 : Int32) (x3 : Int32) (o4 : Nat) (x5 : Int32) (x6 : Int32) (ho4 : KD o4 = (5, 5)) (h : AH) (hf : fX9_guests_56_b p0 p1 p2 Q56 x2 x3 o4 x5 x6 h = some (rv, h')) : JJ G E 7 56 [(0, .ref 0), (2, .int x2), (3, .int x3), (4, .ref o4), (5, .int x5), (6, .int x6)] [] h := by
  unfold fX9_guests_56_b at hf
  refine r_iload K dX9_guests_56 5 rfl ?_
  refine r_iload_n K dX9_guests_58 2 rfl rfl ?_
  refine r_icmp_ge (tgt := 90) K dX9_guests_59 (by decide) (fun c16_ => ?_) (fun c16_ => ?_)
  · have hf := e_t hf c16_
    refine r_iload K dX9_guests_90 4 rfl ?_
    exact r_iret K Z dX9_guests_92 hf
  · have hf := e_f hf c16_
    refine r_aload_n K dX9_guests_62 0 rfl rfl ?_
    refine r_aload K dX9_guests_63 3 rfl ?_
    refine r_iload_n K dX9_guests_65 1 rfl rfl ?_
    refine r_i2l K dX9_guests_66 ?_
    refine r_ldc2 (v := 4) K dX9_guests_67 lcX9_108 ?_
    refine r_iload K dX9_guests_70 5 rfl ?_
    refine r_i2l K dX9_guests_72 ?_
    refine r_lmul K dX9_guests_73 ?_
    refine r_ladd K dX9_guests_74 ?_
    obtain ⟨r17_, h18_, g19_, hf⟩ := e_2 hf
    refine r_callV (av := [.ref o4, .long (((x2 : Int32).toInt64) + (4 * ((x6 : Int32).toInt64)))]) (st := []) K lkX9_110 mwX9_guestComes (conX9_guestComes o4 (((x2 : Int32).toInt64) + (4 * ((x6 : Int32).toInt64))) ho4 h r17_ h18_ g19_) dX9_guests_75 rfl (Nat.le_of_ble_eq_true rfl) rfl rfl (Nat.le_of_ble_eq_true rfl) ?_
    refine r_if_eq (tgt := 90) K dX9_guests_78 (by decide) (fun c20_ => ?_) (fun c20_ => ?_)
    · have hf := e_t hf c20_
      refine r_iload K dX9_guests_90 4 rfl ?_
      exact r_iret K Z dX9_guests_92 hf
    · have hf := e_f hf c20_
      refine r_iinc (y := 1) (lv' := [(5, .int (x5 + 1)), (0, .ref 0), (2, .int x2), (3, .int x3), (4, .ref o4), (6, .int x6)]) K dX9_guests_81 4 rfl rfl (Nat.le_of_ble_eq_true rfl) rfl ?_
      refine r_iinc (y := 1) (lv' := [(6, .int (x6 + 1)), (5, .int (x5 + 1)), (0, .ref 0), (2, .int x2), (3, .int x3), (4, .ref o4)]) K dX9_guests_84 5 rfl rfl (Nat.le_of_ble_eq_true rfl) rfl ?_
      refine r_goto (tgt := 56) K dX9_guests_87 (by decide) ?_
      refine r_lv [2, 3, 4, 5, 1, 0] rfl ?_
      exact hQ56 x2 x3 o4 (x5 + 1) (x6 + 1) ho4 h18_ hf
theorem sX9_guests_56 {G : GG} {E : EE} {rv : Int32} {h' : AH} (K : OK G E 4 RX9 cX9_guests 7) (Z : RT G E (some .int) (some (.int rv)) h') (p0 : Int32) (p1 : Int32) (p2 : Int32) : ∀ (n : Nat) (x2 : Int32) (x3 : Int32) (o4 : Nat) (x5 : Int32) (x6 : Int32) (ho4 : KD o4 = (5, 5)) (h : AH), fX9_guests_56 p0 p1 p2 n x2 x3 o4 x5 x6 h = some (rv, h') → JJ G E 7 56 [(0, .ref 0), (2, .int x2), (3, .int x3), (4, .ref o4), (5, .int x5), (6, .int x6)] [] h := by
  intro n
  induction n with
  | zero => intro x2 x3 o4 x5 x6 ho4 h hf; cases hf
  | succ n ih => intro x2 x3 o4 x5 x6 ho4 h hf; exact sX9_guests_56_b K Z p0 p1 p2 _ (fun x2 x3 o4 x5 x6 ho4 h hf => ih x2 x3 o4 x5 x6 ho4 h hf) x2 x3 o4 x5 x6 ho4 h hf
def fX9_guests (p0 : Int32) (p1 : Int32) (p2 : Int32) (h : AH) : Option (Int32 × AH) :=
  bind2 (fX9_isShelf p0 h) fun r1_ h2_ => if r1_ = 0 then some ((-1), h2_) else if p2 < 1 then some ((-1), h2_) else if p2 ≤ 9 then if inb p0 6 = true then letV ((rf 46 (ix p0))) fun o8_ => if (h2_.1 o8_ 0) = 0 then some (0, h2_) else bind2 (fX5_isRowOf o8_ 0 h2_) fun r12_ h13_ => if r12_ = 0 then some ((-12), h13_) else fX9_guests_56 p0 p1 p2 FU p1 p2 o8_ 0 0 h13_ else none else some ((-1), h2_)
set_option maxRecDepth 10000 in
theorem sX9_guests {G : GG} {E : EE} {rv : Int32} {h' : AH} (K : OK G E 4 RX9 cX9_guests 7) (Z : RT G E (some .int) (some (.int rv)) h') (p0 : Int32) (p1 : Int32) (p2 : Int32) (h : AH) (hf : fX9_guests p0 p1 p2 h = some (rv, h')) : JJ G E 7 0 [(0, .ref 0), (1, .int p0), (2, .int p1), (3, .int p2)] [] h := by
  unfold fX9_guests at hf
  refine r_iload_n K dX9_guests_0 1 rfl rfl ?_
  obtain ⟨r1_, h2_, g3_, hf⟩ := e_2 hf
  refine r_callS (av := [.int p0]) (st := []) K lkX9_98 mwX9_isShelf (conX9_isShelf p0 h r1_ h2_ g3_) dX9_guests_1 (Nat.le_of_ble_eq_true rfl) rfl rfl (Nat.le_of_ble_eq_true rfl) ?_
  refine r_if_eq (tgt := 18) K dX9_guests_4 (by decide) (fun c4_ => ?_) (fun c4_ => ?_)
  · have hf := e_t hf c4_
    refine r_iconst (v := (-1)) K dX9_guests_18 rfl ?_
    exact r_iret K Z dX9_guests_19 hf
  · have hf := e_f hf c4_
    refine r_iload_n K dX9_guests_7 3 rfl rfl ?_
    refine r_iconst (v := 1) K dX9_guests_8 rfl ?_
    refine r_icmp_lt (tgt := 18) K dX9_guests_9 (by decide) (fun c5_ => ?_) (fun c5_ => ?_)
    · have hf := e_t hf c5_
      refine r_iconst (v := (-1)) K dX9_guests_18 rfl ?_
      exact r_iret K Z dX9_guests_19 hf
    · have hf := e_f hf c5_
      refine r_iload_n K dX9_guests_12 3 rfl rfl ?_
      refine r_bipush (v := 9) K dX9_guests_13 rfl ?_
      refine r_icmp_le (tgt := 20) K dX9_guests_15 (by decide) (fun c6_ => ?_) (fun c6_ => ?_)
      · have hf := e_t hf c6_
        refine r_aload_n K dX9_guests_20 0 rfl rfl ?_
        refine r_getR (o' := 46) K flX9_82 dX9_guests_21 rfl rfl rfl ?_
        refine r_iload_n K dX9_guests_24 1 rfl rfl ?_
        obtain ⟨g7_, hf⟩ := e_g hf
        refine r_aald K dX9_guests_25 rfl g7_ ?_
        obtain ⟨o8_, e9_, hf⟩ := e_l hf
        have hk10_ : KD o8_ = (5, 5) := e9_ ▸ (kshelf g7_)
        refine r_nmR e9_ ?_
        refine r_astore (lv' := [(4, .ref o8_), (0, .ref 0), (1, .int p0), (2, .int p1), (3, .int p2)]) K dX9_guests_26 (Nat.le_of_ble_eq_true rfl) rfl ?_
        refine r_aload K dX9_guests_28 0 rfl ?_
        refine r_getI K flX9_102 dX9_guests_30 hk10_ rfl ?_
        refine r_if_ne (tgt := 38) K dX9_guests_33 (by decide) (fun c11_ => ?_) (fun c11_ => ?_)
        · have hf := e_f hf c11_
          refine r_aload K dX9_guests_38 0 rfl ?_
          refine r_iconst (v := 0) K dX9_guests_40 rfl ?_
          obtain ⟨r12_, h13_, g14_, hf⟩ := e_2 hf
          refine r_callV (av := [.int 0]) (st := []) K lkX9_105 mwX5_isRowOf (conX5_isRowOf o8_ 0 hk10_ h2_ r12_ h13_ g14_) dX9_guests_41 hk10_ (Nat.le_of_ble_eq_true rfl) rfl rfl (Nat.le_of_ble_eq_true rfl) ?_
          refine r_if_ne (tgt := 50) K dX9_guests_44 (by decide) (fun c15_ => ?_) (fun c15_ => ?_)
          · have hf := e_f hf c15_
            refine r_iconst (v := 0) K dX9_guests_50 rfl ?_
            refine r_istore (lv' := [(5, .int 0), (4, .ref o8_), (0, .ref 0), (1, .int p0), (2, .int p1), (3, .int p2)]) K dX9_guests_51 (Nat.le_of_ble_eq_true rfl) rfl ?_
            refine r_iconst (v := 0) K dX9_guests_53 rfl ?_
            refine r_istore (lv' := [(6, .int 0), (5, .int 0), (4, .ref o8_), (0, .ref 0), (1, .int p0), (2, .int p1), (3, .int p2)]) K dX9_guests_54 (Nat.le_of_ble_eq_true rfl) rfl ?_
            refine r_lv [3, 5, 6, 2, 1, 0] rfl ?_
            exact sX9_guests_56 K Z p0 p1 p2 FU p1 p2 o8_ 0 0 hk10_ h13_ hf
          · have hf := e_t hf c15_
            refine r_bipush (v := (-12)) K dX9_guests_47 rfl ?_
            exact r_iret K Z dX9_guests_49 hf
        · have hf := e_t hf c11_
          refine r_iconst (v := 0) K dX9_guests_36 rfl ?_
          exact r_iret K Z dX9_guests_37 hf
      · have hf := e_f hf c6_
        refine r_iconst (v := (-1)) K dX9_guests_18 rfl ?_
        exact r_iret K Z dX9_guests_19 hf
theorem conX9_guests {G : GG} (p0 : Int32) (p1 : Int32) (p2 : Int32) (h : AH) (rv : Int32) (h' : AH) (hf : fX9_guests p0 p1 p2 h = some (rv, h')) : Con G 4 yX9_guests cX9_guests 7 (some .int) [.ref 0, .int p0, .int p1, .int p2] h (some (.int rv)) h' := con_of mwX9_guests (Nat.le_of_ble_eq_true rfl) (fun E K Z => sX9_guests K Z p0 p1 p2 h hf)
def fX9_held_25_b (p0 : Int32) (Q25 : Int32 → Int32 → Int32 → Int32 → AH → Option (Int32 × AH)) (x1 : Int32) (x2 : Int32) (x3 : Int32) (x4 : Int32) (h : AH) : Option (Int32 × AH) :=
  if (h.1 1 9) ≤ x4 then if x1 = 0 then some (x2, h) else some (x3, h) else bind2 (fX6_regretOfGoers x4 h) fun r10_ h11_ => if x3 ≤ r10_ then Q25 x1 x2 x3 (x4 + 1) h11_ else Q25 x1 x4 r10_ (x4 + 1) h11_
def fX9_held_25 (p0 : Int32) : Nat → Int32 → Int32 → Int32 → Int32 → AH → Option (Int32 × AH)
  | 0 => fun _ _ _ _ _ => none
  | n + 1 => fX9_held_25_b p0 (fX9_held_25 p0 n)
set_option maxRecDepth 10000 in
theorem sX9_held_25_b {G : GG} {E : EE} {rv : Int32} {h' : AH} (K : OK G E 6 RX9 cX9_held 6) (Z : RT G E (some .int) (some (.int rv)) h') (p0 : Int32) (Q25 : Int32 → Int32 → Int32 → Int32 → AH → Option (Int32 × AH)) (hQ25 : ∀ (x1 : Int32) (x2 : Int32) (x3 : Int32) (x4 : Int32) (h : AH), Q25 x1 x2 x3 x4 h = some (rv, h') → JJ G E 6 25 [(0, .ref 0), (1, .int x1), (2, .int x2), (3, .int x3), (4, .int x4)] [] h) (x1 : Int32) (x2 : Int32) (x3 : Int32) (x4 : Int32) (h : AH) (hf : fX9_held_25_b p0 Q25 x1 x2 x3 x4 h = some (rv, h')) : JJ G E 6 25 [(0, .ref 0), (1, .int x1), (2, .int x2), (3, .int x3), (4, .int x4)] [] h := by
  unfold fX9_held_25_b at hf
  refine r_iload K dX9_held_25 4 rfl ?_
  refine r_aload_n K dX9_held_27 0 rfl rfl ?_
  refine r_getR (o' := 1) K flX9_10 dX9_held_28 rfl rfl rfl ?_
  refine r_getI K flX9_91 dX9_held_31 rfl rfl ?_
  refine r_icmp_ge (tgt := 66) K dX9_held_34 (by decide) (fun c8_ => ?_) (fun c8_ => ?_)
  · have hf := e_t hf c8_
    refine r_iload_n K dX9_held_66 1 rfl rfl ?_
    refine r_if_ne (tgt := 74) K dX9_held_67 (by decide) (fun c9_ => ?_) (fun c9_ => ?_)
    · have hf := e_f hf c9_
      refine r_iload_n K dX9_held_74 3 rfl rfl ?_
      exact r_iret K Z dX9_held_75 hf
    · have hf := e_t hf c9_
      refine r_iload_n K dX9_held_70 2 rfl rfl ?_
      refine r_goto (tgt := 75) K dX9_held_71 (by decide) ?_
      exact r_iret K Z dX9_held_75 hf
  · have hf := e_f hf c8_
    refine r_aload_n K dX9_held_37 0 rfl rfl ?_
    refine r_getR (o' := 18) K flX9_43 dX9_held_38 rfl rfl rfl ?_
    refine r_iload K dX9_held_41 4 rfl ?_
    obtain ⟨r10_, h11_, g12_, hf⟩ := e_2 hf
    refine r_callV (av := [.int x4]) (st := []) K lkX9_200 mwX6_regretOfGoers (conX6_regretOfGoers x4 h r10_ h11_ g12_) dX9_held_43 rfl (Nat.le_of_ble_eq_true rfl) rfl rfl (Nat.le_of_ble_eq_true rfl) ?_
    refine r_istore (lv' := [(5, .int r10_), (0, .ref 0), (1, .int x1), (2, .int x2), (3, .int x3), (4, .int x4)]) K dX9_held_46 (Nat.le_of_ble_eq_true rfl) rfl ?_
    refine r_iload K dX9_held_48 0 rfl ?_
    refine r_iload_n K dX9_held_50 4 rfl rfl ?_
    refine r_icmp_ge (tgt := 60) K dX9_held_51 (by decide) (fun c13_ => ?_) (fun c13_ => ?_)
    · have hf := e_t hf c13_
      refine r_iinc (y := 1) (lv' := [(4, .int (x4 + 1)), (5, .int r10_), (0, .ref 0), (1, .int x1), (2, .int x2), (3, .int x3)]) K dX9_held_60 5 rfl rfl (Nat.le_of_ble_eq_true rfl) rfl ?_
      refine r_goto (tgt := 25) K dX9_held_63 (by decide) ?_
      refine r_lv [2, 3, 4, 5, 0] rfl ?_
      exact hQ25 x1 x2 x3 (x4 + 1) h11_ hf
    · have hf := e_f hf c13_
      refine r_iload K dX9_held_54 0 rfl ?_
      refine r_istore_n (lv' := [(3, .int r10_), (5, .int r10_), (0, .ref 0), (1, .int x1), (2, .int x2), (4, .int x4)]) K dX9_held_56 rfl (Nat.le_of_ble_eq_true rfl) rfl ?_
      refine r_iload K dX9_held_57 5 rfl ?_
      refine r_istore_n (lv' := [(2, .int x4), (3, .int r10_), (5, .int r10_), (0, .ref 0), (1, .int x1), (4, .int x4)]) K dX9_held_59 rfl (Nat.le_of_ble_eq_true rfl) rfl ?_
      refine r_iinc (y := 1) (lv' := [(4, .int (x4 + 1)), (2, .int x4), (3, .int r10_), (5, .int r10_), (0, .ref 0), (1, .int x1)]) K dX9_held_60 5 rfl rfl (Nat.le_of_ble_eq_true rfl) rfl ?_
      refine r_goto (tgt := 25) K dX9_held_63 (by decide) ?_
      refine r_lv [4, 5, 1, 2, 0] rfl ?_
      exact hQ25 x1 x4 r10_ (x4 + 1) h11_ hf
theorem sX9_held_25 {G : GG} {E : EE} {rv : Int32} {h' : AH} (K : OK G E 6 RX9 cX9_held 6) (Z : RT G E (some .int) (some (.int rv)) h') (p0 : Int32) : ∀ (n : Nat) (x1 : Int32) (x2 : Int32) (x3 : Int32) (x4 : Int32) (h : AH), fX9_held_25 p0 n x1 x2 x3 x4 h = some (rv, h') → JJ G E 6 25 [(0, .ref 0), (1, .int x1), (2, .int x2), (3, .int x3), (4, .int x4)] [] h := by
  intro n
  induction n with
  | zero => intro x1 x2 x3 x4 h hf; cases hf
  | succ n ih => intro x1 x2 x3 x4 h hf; exact sX9_held_25_b K Z p0 _ (fun x1 x2 x3 x4 h hf => ih x1 x2 x3 x4 h hf) x1 x2 x3 x4 h hf
def fX9_held (p0 : Int32) (h : AH) : Option (Int32 × AH) :=
  bind2 (fX9_isChoiceOfTwo p0 h) fun r1_ h2_ => if r1_ = 0 then some ((-1), h2_) else bind2 (fX6_regretOfGoers 9 h2_) fun r5_ h6_ => fX9_held_25 p0 FU p0 9 r5_ 0 h6_
set_option maxRecDepth 10000 in
theorem sX9_held {G : GG} {E : EE} {rv : Int32} {h' : AH} (K : OK G E 6 RX9 cX9_held 6) (Z : RT G E (some .int) (some (.int rv)) h') (p0 : Int32) (h : AH) (hf : fX9_held p0 h = some (rv, h')) : JJ G E 6 0 [(0, .ref 0), (1, .int p0)] [] h := by
  unfold fX9_held at hf
  refine r_iload_n K dX9_held_0 1 rfl rfl ?_
  obtain ⟨r1_, h2_, g3_, hf⟩ := e_2 hf
  refine r_callS (av := [.int p0]) (st := []) K lkX9_167 mwX9_isChoiceOfTwo (conX9_isChoiceOfTwo p0 h r1_ h2_ g3_) dX9_held_1 (Nat.le_of_ble_eq_true rfl) rfl rfl (Nat.le_of_ble_eq_true rfl) ?_
  refine r_if_ne (tgt := 9) K dX9_held_4 (by decide) (fun c4_ => ?_) (fun c4_ => ?_)
  · have hf := e_f hf c4_
    refine r_bipush (v := 9) K dX9_held_9 rfl ?_
    refine r_istore_n (lv' := [(2, .int 9), (0, .ref 0), (1, .int p0)]) K dX9_held_11 rfl (Nat.le_of_ble_eq_true rfl) rfl ?_
    refine r_aload_n K dX9_held_12 1 rfl rfl ?_
    refine r_getR (o' := 18) K flX9_43 dX9_held_13 rfl rfl rfl ?_
    refine r_bipush (v := 9) K dX9_held_16 rfl ?_
    obtain ⟨r5_, h6_, g7_, hf⟩ := e_2 hf
    refine r_callV (av := [.int 9]) (st := []) K lkX9_200 mwX6_regretOfGoers (conX6_regretOfGoers 9 h2_ r5_ h6_ g7_) dX9_held_18 rfl (Nat.le_of_ble_eq_true rfl) rfl rfl (Nat.le_of_ble_eq_true rfl) ?_
    refine r_istore_n (lv' := [(3, .int r5_), (2, .int 9), (0, .ref 0), (1, .int p0)]) K dX9_held_21 rfl (Nat.le_of_ble_eq_true rfl) rfl ?_
    refine r_iconst (v := 0) K dX9_held_22 rfl ?_
    refine r_istore (lv' := [(4, .int 0), (3, .int r5_), (2, .int 9), (0, .ref 0), (1, .int p0)]) K dX9_held_23 (Nat.le_of_ble_eq_true rfl) rfl ?_
    refine r_lv [3, 4, 2, 1, 0] rfl ?_
    exact sX9_held_25 K Z p0 FU p0 9 r5_ 0 h6_ hf
  · have hf := e_t hf c4_
    refine r_iconst (v := (-1)) K dX9_held_7 rfl ?_
    exact r_iret K Z dX9_held_8 hf
theorem conX9_held {G : GG} (p0 : Int32) (h : AH) (rv : Int32) (h' : AH) (hf : fX9_held p0 h = some (rv, h')) : Con G 6 yX9_held cX9_held 6 (some .int) [.ref 0, .int p0] h (some (.int rv)) h' := con_of mwX9_held (Nat.le_of_ble_eq_true rfl) (fun E K Z => sX9_held K Z p0 h hf)
def fX9_image (h : AH) : Option (Int32 × AH) :=
  bindV (fX2_take 1 h) fun h2_ => some ((h2_.1 32 (ix 2)), h2_)
set_option maxRecDepth 10000 in
theorem sX9_image {G : GG} {E : EE} {rv : Int32} {h' : AH} (K : OK G E 2 RX9 cX9_image 1) (Z : RT G E (some .int) (some (.int rv)) h') (h : AH) (hf : fX9_image h = some (rv, h')) : JJ G E 1 0 [(0, .ref 0)] [] h := by
  unfold fX9_image at hf
  refine r_aload_n K dX9_image_0 0 rfl rfl ?_
  refine r_getR (o' := 33) K flX9_62 dX9_image_1 rfl rfl rfl ?_
  refine r_aload_n K dX9_image_4 0 rfl rfl ?_
  refine r_getR (o' := 1) K flX9_10 dX9_image_5 rfl rfl rfl ?_
  refine r_aload_n K dX9_image_8 0 rfl rfl ?_
  refine r_getR (o' := 32) K flX9_56 dX9_image_9 rfl rfl rfl ?_
  obtain ⟨h2_, g3_, hf⟩ := e_v hf
  refine r_callV (av := [.ref 1, .ref 32]) (st := []) K lkX9_251 mwX2_take (conX2_take 1 rfl h h2_ g3_) dX9_image_12 rfl (Nat.le_of_ble_eq_true rfl) rfl rfl (Nat.le_of_ble_eq_true rfl) ?_
  refine r_aload_n K dX9_image_15 0 rfl rfl ?_
  refine r_getR (o' := 32) K flX9_56 dX9_image_16 rfl rfl rfl ?_
  refine r_iconst (v := 2) K dX9_image_19 rfl ?_
  refine r_iald K dX9_image_20 rfl (by decide +kernel) ?_
  exact r_iret K Z dX9_image_21 hf
theorem conX9_image {G : GG} (h : AH) (rv : Int32) (h' : AH) (hf : fX9_image h = some (rv, h')) : Con G 2 yX9_image cX9_image 1 (some .int) [.ref 0] h (some (.int rv)) h' := con_of mwX9_image (Nat.le_of_ble_eq_true rfl) (fun E K Z => sX9_image K Z h hf)
