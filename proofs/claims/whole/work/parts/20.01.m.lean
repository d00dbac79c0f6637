def fX3_sorriest_9_b (p0 : Nat) (p1 : Int32) (Q9 : Int32 → Int32 → Int32 → Int32 → AH → Option (Int32 × AH)) (x2 : Int32) (x3 : Int32) (x4 : Int32) (x5 : Int32) (h : AH) : Option (Int32 × AH) :=
  if (h.1 p0 9) ≤ x5 then some (x3, h) else if inb x5 9 = true then if (h.1 (rf p0 5) (ix x5)) = 0 then if x5 = x2 then Q9 x2 x3 x4 (x5 + 1) h else bind2 (fX3_readOf p0 x5 h) fun r5_ h6_ => if r5_ ≤ x4 then Q9 x2 x3 x4 (x5 + 1) h6_ else Q9 x2 x5 r5_ (x5 + 1) h6_ else Q9 x2 x3 x4 (x5 + 1) h else none
def fX3_sorriest_9 (p0 : Nat) (p1 : Int32) : Nat → Int32 → Int32 → Int32 → Int32 → AH → Option (Int32 × AH)
  | 0 => fun _ _ _ _ _ => none
  | n + 1 => fX3_sorriest_9_b p0 p1 (fX3_sorriest_9 p0 p1 n)
set_option maxRecDepth 10000 in
theorem sX3_sorriest_9_b {G : GG} {E : EE} {rv : Int32} {h' : AH} (K : OK G E 3 RX3 cX3_sorriest 7) (Z : RT G E (some .int) (some (.int rv)) h') (p0 : Nat) (p1 : Int32) (hp0 : KD p0 = (7, 12)) (Q9 : Int32 → Int32 → Int32 → Int32 → AH → Option (Int32 × AH)) (hQ9 : ∀ (x2 : Int32) (x3 : Int32) (x4 : Int32) (x5 : Int32) (h : AH), Q9 x2 x3 x4 x5 h = some (rv, h') → JJ G E 7 9 [(0, .ref 15), (1, .ref p0), (2, .int x2), (3, .int x3), (4, .int x4), (5, .int x5)] [] h) (x2 : Int32) (x3 : Int32) (x4 : Int32) (x5 : Int32) (h : AH) (hf : fX3_sorriest_9_b p0 p1 Q9 x2 x3 x4 x5 h = some (rv, h')) : JJ G E 7 9 [(0, .ref 15), (1, .ref p0), (2, .int x2), (3, .int x3), (4, .int x4), (5, .int x5)] [] h := by
  unfold fX3_sorriest_9_b at hf
  refine r_iload K dX3_sorriest_9 5 rfl ?_
  refine r_aload_n K dX3_sorriest_11 1 rfl rfl ?_
  refine r_getI K flX3_72 dX3_sorriest_12 hp0 rfl ?_
  refine r_icmp_ge (tgt := 63) K dX3_sorriest_15 (by decide) (fun c1_ => ?_) (fun c1_ => ?_)
  · have hf := e_t hf c1_
    refine r_iload_n K dX3_sorriest_63 3 rfl rfl ?_
    exact r_iret K Z dX3_sorriest_64 hf
  · have hf := e_f hf c1_
    refine r_aload_n K dX3_sorriest_18 1 rfl rfl ?_
    refine r_getR (o' := (rf p0 5)) K flX3_75 dX3_sorriest_19 hp0 rfl rfl ?_
    refine r_iload K dX3_sorriest_22 5 rfl ?_
    obtain ⟨g2_, hf⟩ := e_g hf
    refine r_iald K dX3_sorriest_24 (kf7_5 hp0) g2_ ?_
    refine r_if_ne (tgt := 57) K dX3_sorriest_25 (by decide) (fun c3_ => ?_) (fun c3_ => ?_)
    · have hf := e_f hf c3_
      refine r_iinc (y := 1) (lv' := [(5, .int (x5 + 1)), (0, .ref 15), (1, .ref p0), (2, .int x2), (3, .int x3), (4, .int x4)]) K dX3_sorriest_57 5 rfl rfl (Nat.le_of_ble_eq_true rfl) rfl ?_
      refine r_goto (tgt := 9) K dX3_sorriest_60 (by decide) ?_
      refine r_lv [1, 2, 3, 4, 5, 0] rfl ?_
      exact hQ9 x2 x3 x4 (x5 + 1) h hf
    · have hf := e_t hf c3_
      refine r_iload K dX3_sorriest_28 5 rfl ?_
      refine r_iload_n K dX3_sorriest_30 2 rfl rfl ?_
      refine r_icmp_eq (tgt := 57) K dX3_sorriest_31 (by decide) (fun c4_ => ?_) (fun c4_ => ?_)
      · have hf := e_t hf c4_
        refine r_iinc (y := 1) (lv' := [(5, .int (x5 + 1)), (0, .ref 15), (1, .ref p0), (2, .int x2), (3, .int x3), (4, .int x4)]) K dX3_sorriest_57 5 rfl rfl (Nat.le_of_ble_eq_true rfl) rfl ?_
        refine r_goto (tgt := 9) K dX3_sorriest_60 (by decide) ?_
        refine r_lv [1, 2, 3, 4, 5, 0] rfl ?_
        exact hQ9 x2 x3 x4 (x5 + 1) h hf
      · have hf := e_f hf c4_
        refine r_aload_n K dX3_sorriest_34 0 rfl rfl ?_
        refine r_aload_n K dX3_sorriest_35 1 rfl rfl ?_
        refine r_iload K dX3_sorriest_36 5 rfl ?_
        obtain ⟨r5_, h6_, g7_, hf⟩ := e_2 hf
        refine r_callV (av := [.ref p0, .int x5]) (st := []) K lkX3_78 mwX3_readOf (conX3_readOf p0 x5 hp0 h r5_ h6_ g7_) dX3_sorriest_38 rfl (Nat.le_of_ble_eq_true rfl) rfl rfl (Nat.le_of_ble_eq_true rfl) ?_
        refine r_istore (lv' := [(6, .int r5_), (0, .ref 15), (1, .ref p0), (2, .int x2), (3, .int x3), (4, .int x4), (5, .int x5)]) K dX3_sorriest_41 (Nat.le_of_ble_eq_true rfl) rfl ?_
        refine r_iload K dX3_sorriest_43 0 rfl ?_
        refine r_iload K dX3_sorriest_45 5 rfl ?_
        refine r_icmp_le (tgt := 57) K dX3_sorriest_47 (by decide) (fun c8_ => ?_) (fun c8_ => ?_)
        · have hf := e_t hf c8_
          refine r_iinc (y := 1) (lv' := [(5, .int (x5 + 1)), (6, .int r5_), (0, .ref 15), (1, .ref p0), (2, .int x2), (3, .int x3), (4, .int x4)]) K dX3_sorriest_57 6 rfl rfl (Nat.le_of_ble_eq_true rfl) rfl ?_
          refine r_goto (tgt := 9) K dX3_sorriest_60 (by decide) ?_
          refine r_lv [2, 3, 4, 5, 6, 0] rfl ?_
          exact hQ9 x2 x3 x4 (x5 + 1) h6_ hf
        · have hf := e_f hf c8_
          refine r_iload K dX3_sorriest_50 0 rfl ?_
          refine r_istore (lv' := [(4, .int r5_), (6, .int r5_), (0, .ref 15), (1, .ref p0), (2, .int x2), (3, .int x3), (5, .int x5)]) K dX3_sorriest_52 (Nat.le_of_ble_eq_true rfl) rfl ?_
          refine r_iload K dX3_sorriest_54 6 rfl ?_
          refine r_istore_n (lv' := [(3, .int x5), (4, .int r5_), (6, .int r5_), (0, .ref 15), (1, .ref p0), (2, .int x2), (5, .int x5)]) K dX3_sorriest_56 rfl (Nat.le_of_ble_eq_true rfl) rfl ?_
          refine r_iinc (y := 1) (lv' := [(5, .int (x5 + 1)), (3, .int x5), (4, .int r5_), (6, .int r5_), (0, .ref 15), (1, .ref p0), (2, .int x2)]) K dX3_sorriest_57 6 rfl rfl (Nat.le_of_ble_eq_true rfl) rfl ?_
          refine r_goto (tgt := 9) K dX3_sorriest_60 (by decide) ?_
          refine r_lv [4, 5, 6, 1, 2, 0] rfl ?_
          exact hQ9 x2 x5 r5_ (x5 + 1) h6_ hf
theorem sX3_sorriest_9 {G : GG} {E : EE} {rv : Int32} {h' : AH} (K : OK G E 3 RX3 cX3_sorriest 7) (Z : RT G E (some .int) (some (.int rv)) h') (p0 : Nat) (p1 : Int32) (hp0 : KD p0 = (7, 12)) : ∀ (n : Nat) (x2 : Int32) (x3 : Int32) (x4 : Int32) (x5 : Int32) (h : AH), fX3_sorriest_9 p0 p1 n x2 x3 x4 x5 h = some (rv, h') → JJ G E 7 9 [(0, .ref 15), (1, .ref p0), (2, .int x2), (3, .int x3), (4, .int x4), (5, .int x5)] [] h := by
  intro n
  induction n with
  | zero => intro x2 x3 x4 x5 h hf; cases hf
  | succ n ih => intro x2 x3 x4 x5 h hf; exact sX3_sorriest_9_b K Z p0 p1 hp0 _ (fun x2 x3 x4 x5 h hf => ih x2 x3 x4 x5 h hf) x2 x3 x4 x5 h hf
def fX3_sorriest (p0 : Nat) (p1 : Int32) (h : AH) : Option (Int32 × AH) :=
  fX3_sorriest_9 p0 p1 FU p1 (-2) (-1) 0 h
set_option maxRecDepth 10000 in
theorem sX3_sorriest {G : GG} {E : EE} {rv : Int32} {h' : AH} (K : OK G E 3 RX3 cX3_sorriest 7) (Z : RT G E (some .int) (some (.int rv)) h') (p0 : Nat) (p1 : Int32) (hp0 : KD p0 = (7, 12)) (h : AH) (hf : fX3_sorriest p0 p1 h = some (rv, h')) : JJ G E 7 0 [(0, .ref 15), (1, .ref p0), (2, .int p1)] [] h := by
  unfold fX3_sorriest at hf
  refine r_bipush (v := (-2)) K dX3_sorriest_0 rfl ?_
  refine r_istore_n (lv' := [(3, .int (-2)), (0, .ref 15), (1, .ref p0), (2, .int p1)]) K dX3_sorriest_2 rfl (Nat.le_of_ble_eq_true rfl) rfl ?_
  refine r_iconst (v := (-1)) K dX3_sorriest_3 rfl ?_
  refine r_istore (lv' := [(4, .int (-1)), (3, .int (-2)), (0, .ref 15), (1, .ref p0), (2, .int p1)]) K dX3_sorriest_4 (Nat.le_of_ble_eq_true rfl) rfl ?_
  refine r_iconst (v := 0) K dX3_sorriest_6 rfl ?_
  refine r_istore (lv' := [(5, .int 0), (4, .int (-1)), (3, .int (-2)), (0, .ref 15), (1, .ref p0), (2, .int p1)]) K dX3_sorriest_7 (Nat.le_of_ble_eq_true rfl) rfl ?_
  refine r_lv [3, 4, 5, 2, 1, 0] rfl ?_
  exact sX3_sorriest_9 K Z p0 p1 hp0 FU p1 (-2) (-1) 0 h hf
theorem conX3_sorriest {G : GG} (p0 : Nat) (p1 : Int32) (hp0 : KD p0 = (7, 12)) (h : AH) (rv : Int32) (h' : AH) (hf : fX3_sorriest p0 p1 h = some (rv, h')) : Con G 3 yX3_sorriest cX3_sorriest 7 (some .int) [.ref 15, .ref p0, .int p1] h (some (.int rv)) h' := con_of mwX3_sorriest (Nat.le_of_ble_eq_true rfl) (fun E K Z => sX3_sorriest K Z p0 p1 hp0 h hf)
def fX4_await (p0 : Int32) (h : AH) : Option AH :=
  if 120 ≤ (h.1 12 3) then some h else if inb (h.1 12 3) 120 = true then letV (wI h 14 (ix (h.1 12 3)) p0) fun h3_ => letV (wI h3_ 12 3 ((h3_.1 12 3) + 1)) fun h5_ => some h5_ else none
set_option maxRecDepth 10000 in
theorem sX4_await {G : GG} {E : EE} {h' : AH} (K : OK G E 0 RX4 cX4_await 2) (Z : RT G E none (none) h') (p0 : Int32) (h : AH) (hf : fX4_await p0 h = some h') : JJ G E 2 0 [(0, .ref 12), (1, .int p0)] [] h := by
  unfold fX4_await at hf
  refine r_aload_n K dX4_await_0 0 rfl rfl ?_
  refine r_getI K flX4_22 dX4_await_1 rfl rfl ?_
  refine r_aload_n K dX4_await_4 0 rfl rfl ?_
  refine r_getR (o' := 14) K flX4_19 dX4_await_5 rfl rfl rfl ?_
  refine r_alen (v := 120) K dX4_await_8 rfl rfl ?_
  refine r_icmp_ge (tgt := 32) K dX4_await_9 (by decide) (fun c1_ => ?_) (fun c1_ => ?_)
  · have hf := e_t hf c1_
    exact r_vret K Z dX4_await_32 hf
  · have hf := e_f hf c1_
    refine r_aload_n K dX4_await_12 0 rfl rfl ?_
    refine r_getR (o' := 14) K flX4_19 dX4_await_13 rfl rfl rfl ?_
    refine r_aload_n K dX4_await_16 0 rfl rfl ?_
    refine r_getI K flX4_22 dX4_await_17 rfl rfl ?_
    refine r_iload_n K dX4_await_20 1 rfl rfl ?_
    obtain ⟨g2_, hf⟩ := e_g hf
    obtain ⟨h3_, e4_, hf⟩ := e_l hf
    refine r_iast K dX4_await_21 rfl g2_ e4_ ?_
    refine r_aload_n K dX4_await_22 0 rfl rfl ?_
    refine r_dup K dX4_await_23 rfl ?_
    refine r_getI K flX4_22 dX4_await_24 rfl rfl ?_
    refine r_iconst (v := 1) K dX4_await_27 rfl ?_
    refine r_iadd K dX4_await_28 ?_
    obtain ⟨h5_, e6_, hf⟩ := e_l hf
    refine r_putI K fpX4_22 dX4_await_29 rfl rfl e6_ ?_
    exact r_vret K Z dX4_await_32 hf
theorem conX4_await {G : GG} (p0 : Int32) (h : AH) (h' : AH) (hf : fX4_await p0 h = some h') : Con G 0 yX4_await cX4_await 2 none [.ref 12, .int p0] h (none) h' := con_of mwX4_await (Nat.le_of_ble_eq_true rfl) (fun E K Z => sX4_await K Z p0 h hf)
def fX4_begin (h : AH) : Option AH :=
  letV (wI h 12 1 0) fun h1_ => letV (wI h1_ 12 3 0) fun h3_ => letV (wI h3_ 12 4 0) fun h5_ => letV (wI h5_ 12 5 0) fun h7_ => letV (wI h7_ 12 7 1) fun h9_ => letV (wI h9_ 12 8 0) fun h11_ => some h11_
set_option maxRecDepth 10000 in
theorem sX4_begin {G : GG} {E : EE} {h' : AH} (K : OK G E 0 RX4 cX4_begin 1) (Z : RT G E none (none) h') (h : AH) (hf : fX4_begin h = some h') : JJ G E 1 0 [(0, .ref 12)] [] h := by
  unfold fX4_begin at hf
  refine r_aload_n K dX4_begin_0 0 rfl rfl ?_
  refine r_iconst (v := 0) K dX4_begin_1 rfl ?_
  obtain ⟨h1_, e2_, hf⟩ := e_l hf
  refine r_putI K fpX4_15 dX4_begin_2 rfl rfl e2_ ?_
  refine r_aload_n K dX4_begin_5 0 rfl rfl ?_
  refine r_iconst (v := 0) K dX4_begin_6 rfl ?_
  obtain ⟨h3_, e4_, hf⟩ := e_l hf
  refine r_putI K fpX4_22 dX4_begin_7 rfl rfl e4_ ?_
  refine r_aload_n K dX4_begin_10 0 rfl rfl ?_
  refine r_iconst (v := 0) K dX4_begin_11 rfl ?_
  obtain ⟨h5_, e6_, hf⟩ := e_l hf
  refine r_putI K fpX4_25 dX4_begin_12 rfl rfl e6_ ?_
  refine r_aload_n K dX4_begin_15 0 rfl rfl ?_
  refine r_iconst (v := 0) K dX4_begin_16 rfl ?_
  obtain ⟨h7_, e8_, hf⟩ := e_l hf
  refine r_putI K fpX4_28 dX4_begin_17 rfl rfl e8_ ?_
  refine r_aload_n K dX4_begin_20 0 rfl rfl ?_
  refine r_iconst (v := 1) K dX4_begin_21 rfl ?_
  obtain ⟨h9_, e10_, hf⟩ := e_l hf
  refine r_putZ K fpX4_34 dX4_begin_22 rfl rfl rfl e10_ ?_
  refine r_aload_n K dX4_begin_25 0 rfl rfl ?_
  refine r_iconst (v := 0) K dX4_begin_26 rfl ?_
  obtain ⟨h11_, e12_, hf⟩ := e_l hf
  refine r_putZ K fpX4_38 dX4_begin_27 rfl rfl rfl e12_ ?_
  exact r_vret K Z dX4_begin_30 hf
theorem conX4_begin {G : GG} (h : AH) (h' : AH) (hf : fX4_begin h = some h') : Con G 0 yX4_begin cX4_begin 1 none [.ref 12] h (none) h' := con_of mwX4_begin (Nat.le_of_ble_eq_true rfl) (fun E K Z => sX4_begin K Z h hf)
def fX4_emit (p0 : Int32) (h : AH) : Option AH :=
  if 121 ≤ (h.1 12 1) then some h else if inb (h.1 12 1) 121 = true then letV (wI h 13 (ix (h.1 12 1)) p0) fun h3_ => letV (wI h3_ 12 1 ((h3_.1 12 1) + 1)) fun h5_ => some h5_ else none
set_option maxRecDepth 10000 in
theorem sX4_emit {G : GG} {E : EE} {h' : AH} (K : OK G E 0 RX4 cX4_emit 2) (Z : RT G E none (none) h') (p0 : Int32) (h : AH) (hf : fX4_emit p0 h = some h') : JJ G E 2 0 [(0, .ref 12), (1, .int p0)] [] h := by
  unfold fX4_emit at hf
  refine r_aload_n K dX4_emit_0 0 rfl rfl ?_
  refine r_getI K flX4_15 dX4_emit_1 rfl rfl ?_
  refine r_aload_n K dX4_emit_4 0 rfl rfl ?_
  refine r_getR (o' := 13) K flX4_11 dX4_emit_5 rfl rfl rfl ?_
  refine r_alen (v := 121) K dX4_emit_8 rfl rfl ?_
  refine r_icmp_ge (tgt := 32) K dX4_emit_9 (by decide) (fun c1_ => ?_) (fun c1_ => ?_)
  · have hf := e_t hf c1_
    exact r_vret K Z dX4_emit_32 hf
  · have hf := e_f hf c1_
    refine r_aload_n K dX4_emit_12 0 rfl rfl ?_
    refine r_getR (o' := 13) K flX4_11 dX4_emit_13 rfl rfl rfl ?_
    refine r_aload_n K dX4_emit_16 0 rfl rfl ?_
    refine r_getI K flX4_15 dX4_emit_17 rfl rfl ?_
    refine r_iload_n K dX4_emit_20 1 rfl rfl ?_
    obtain ⟨g2_, hf⟩ := e_g hf
    obtain ⟨h3_, e4_, hf⟩ := e_l hf
    refine r_iast K dX4_emit_21 rfl g2_ e4_ ?_
    refine r_aload_n K dX4_emit_22 0 rfl rfl ?_
    refine r_dup K dX4_emit_23 rfl ?_
    refine r_getI K flX4_15 dX4_emit_24 rfl rfl ?_
    refine r_iconst (v := 1) K dX4_emit_27 rfl ?_
    refine r_iadd K dX4_emit_28 ?_
    obtain ⟨h5_, e6_, hf⟩ := e_l hf
    refine r_putI K fpX4_15 dX4_emit_29 rfl rfl e6_ ?_
    exact r_vret K Z dX4_emit_32 hf
theorem conX4_emit {G : GG} (p0 : Int32) (h : AH) (h' : AH) (hf : fX4_emit p0 h = some h') : Con G 0 yX4_emit cX4_emit 2 none [.ref 12, .int p0] h (none) h' := con_of mwX4_emit (Nat.le_of_ble_eq_true rfl) (fun E K Z => sX4_emit K Z p0 h hf)
def fX4_rankOf (p0 : Int32) (h : AH) : Option (Int32 × AH) :=
  if p0 = 33 then some (6, h) else if p0 = 37 then some (5, h) else if p0 = 38 then some (2, h) else if p0 = 42 then some (5, h) else if p0 = 43 then some (4, h) else if p0 = 45 then some (4, h) else if p0 = 47 then some (5, h) else if p0 = 60 then some (3, h) else if p0 = 61 then some (3, h) else if p0 = 62 then some (3, h) else if p0 = 124 then some (1, h) else if p0 = 126 then some (6, h) else some (0, h)
set_option maxRecDepth 10000 in
theorem sX4_rankOf {G : GG} {E : EE} {rv : Int32} {h' : AH} (K : OK G E 0 RX4 cX4_rankOf 1) (Z : RT G E (some .int) (some (.int rv)) h') (p0 : Int32) (h : AH) (hf : fX4_rankOf p0 h = some (rv, h')) : JJ G E 1 0 [(0, .int p0)] [] h := by
  unfold fX4_rankOf at hf
  refine r_iload_n K dX4_rankOf_0 0 rfl rfl ?_
  by_cases c1_ : p0 = 33
  · have hf := e_t hf c1_
    refine r_look (off := 117) (tgt := 118) K dX4_rankOf_1 (by decide) (by rw [c1_]; decide) (by decide) ?_
    refine r_bipush (v := 6) K dX4_rankOf_118 rfl ?_
    exact r_iret K Z dX4_rankOf_120 hf
  have hf := e_f hf c1_
  by_cases c2_ : p0 = 37
  · have hf := e_t hf c2_
    refine r_look (off := 115) (tgt := 116) K dX4_rankOf_1 (by decide) (by rw [c2_]; decide) (by decide) ?_
    refine r_iconst (v := 5) K dX4_rankOf_116 rfl ?_
    exact r_iret K Z dX4_rankOf_117 hf
  have hf := e_f hf c2_
  by_cases c3_ : p0 = 38
  · have hf := e_t hf c3_
    refine r_look (off := 109) (tgt := 110) K dX4_rankOf_1 (by decide) (by rw [c3_]; decide) (by decide) ?_
    refine r_iconst (v := 2) K dX4_rankOf_110 rfl ?_
    exact r_iret K Z dX4_rankOf_111 hf
  have hf := e_f hf c3_
  by_cases c4_ : p0 = 42
  · have hf := e_t hf c4_
    refine r_look (off := 115) (tgt := 116) K dX4_rankOf_1 (by decide) (by rw [c4_]; decide) (by decide) ?_
    refine r_iconst (v := 5) K dX4_rankOf_116 rfl ?_
    exact r_iret K Z dX4_rankOf_117 hf
  have hf := e_f hf c4_
  by_cases c5_ : p0 = 43
  · have hf := e_t hf c5_
    refine r_look (off := 113) (tgt := 114) K dX4_rankOf_1 (by decide) (by rw [c5_]; decide) (by decide) ?_
    refine r_iconst (v := 4) K dX4_rankOf_114 rfl ?_
    exact r_iret K Z dX4_rankOf_115 hf
  have hf := e_f hf c5_
  by_cases c6_ : p0 = 45
  · have hf := e_t hf c6_
    refine r_look (off := 113) (tgt := 114) K dX4_rankOf_1 (by decide) (by rw [c6_]; decide) (by decide) ?_
    refine r_iconst (v := 4) K dX4_rankOf_114 rfl ?_
    exact r_iret K Z dX4_rankOf_115 hf
  have hf := e_f hf c6_
  by_cases c7_ : p0 = 47
  · have hf := e_t hf c7_
    refine r_look (off := 115) (tgt := 116) K dX4_rankOf_1 (by decide) (by rw [c7_]; decide) (by decide) ?_
    refine r_iconst (v := 5) K dX4_rankOf_116 rfl ?_
    exact r_iret K Z dX4_rankOf_117 hf
  have hf := e_f hf c7_
  by_cases c8_ : p0 = 60
  · have hf := e_t hf c8_
    refine r_look (off := 111) (tgt := 112) K dX4_rankOf_1 (by decide) (by rw [c8_]; decide) (by decide) ?_
    refine r_iconst (v := 3) K dX4_rankOf_112 rfl ?_
    exact r_iret K Z dX4_rankOf_113 hf
  have hf := e_f hf c8_
  by_cases c9_ : p0 = 61
  · have hf := e_t hf c9_
    refine r_look (off := 111) (tgt := 112) K dX4_rankOf_1 (by decide) (by rw [c9_]; decide) (by decide) ?_
    refine r_iconst (v := 3) K dX4_rankOf_112 rfl ?_
    exact r_iret K Z dX4_rankOf_113 hf
  have hf := e_f hf c9_
  by_cases c10_ : p0 = 62
  · have hf := e_t hf c10_
    refine r_look (off := 111) (tgt := 112) K dX4_rankOf_1 (by decide) (by rw [c10_]; decide) (by decide) ?_
    refine r_iconst (v := 3) K dX4_rankOf_112 rfl ?_
    exact r_iret K Z dX4_rankOf_113 hf
  have hf := e_f hf c10_
  by_cases c11_ : p0 = 124
  · have hf := e_t hf c11_
    refine r_look (off := 107) (tgt := 108) K dX4_rankOf_1 (by decide) (by rw [c11_]; decide) (by decide) ?_
    refine r_iconst (v := 1) K dX4_rankOf_108 rfl ?_
    exact r_iret K Z dX4_rankOf_109 hf
  have hf := e_f hf c11_
  by_cases c12_ : p0 = 126
  · have hf := e_t hf c12_
    refine r_look (off := 117) (tgt := 118) K dX4_rankOf_1 (by decide) (by rw [c12_]; decide) (by decide) ?_
    refine r_bipush (v := 6) K dX4_rankOf_118 rfl ?_
    exact r_iret K Z dX4_rankOf_120 hf
  have hf := e_f hf c12_
  refine r_look (off := 120) (tgt := 121) K dX4_rankOf_1 (by decide) ((lv_osw c1_ (by decide)).trans ((lv_osw c2_ (by decide)).trans ((lv_osw c3_ (by decide)).trans ((lv_osw c4_ (by decide)).trans ((lv_osw c5_ (by decide)).trans ((lv_osw c6_ (by decide)).trans ((lv_osw c7_ (by decide)).trans ((lv_osw c8_ (by decide)).trans ((lv_osw c9_ (by decide)).trans ((lv_osw c10_ (by decide)).trans ((lv_osw c11_ (by decide)).trans ((lv_osw c12_ (by decide)).trans (rfl))))))))))))) (by decide) ?_
  refine r_iconst (v := 0) K dX4_rankOf_121 rfl ?_
  exact r_iret K Z dX4_rankOf_122 hf
theorem conX4_rankOf {G : GG} (p0 : Int32) (h : AH) (rv : Int32) (h' : AH) (hf : fX4_rankOf p0 h = some (rv, h')) : Con G 0 yX4_rankOf cX4_rankOf 1 (some .int) [.int p0] h (some (.int rv)) h' := con_of mwX4_rankOf (Nat.le_of_ble_eq_true rfl) (fun E K Z => sX4_rankOf K Z p0 h hf)
def fX4_release_46 (p0 : Int32) (x2 : Int32) (h : AH) : Option (Int32 × AH) :=
  letV (wI h 12 3 ((h.1 12 3) - x2)) fun h4_ => some (x2, h4_)
set_option maxRecDepth 10000 in
theorem sX4_release_46 {G : GG} {E : EE} {rv : Int32} {h' : AH} (K : OK G E 1 RX4 cX4_release 4) (Z : RT G E (some .int) (some (.int rv)) h') (p0 : Int32) (x2 : Int32) (h : AH) (hf : fX4_release_46 p0 x2 h = some (rv, h')) : JJ G E 4 46 [(0, .ref 12), (2, .int x2)] [] h := by
  unfold fX4_release_46 at hf
  refine r_aload_n K dX4_release_46 0 rfl rfl ?_
  refine r_dup K dX4_release_47 rfl ?_
  refine r_getI K flX4_22 dX4_release_48 rfl rfl ?_
  refine r_iload_n K dX4_release_51 1 rfl rfl ?_
  refine r_isub K dX4_release_52 ?_
  obtain ⟨h4_, e5_, hf⟩ := e_l hf
  refine r_putI K fpX4_22 dX4_release_53 rfl rfl e5_ ?_
  refine r_iload_n K dX4_release_56 1 rfl rfl ?_
  exact r_iret K Z dX4_release_57 hf
def fX4_release_9_b (p0 : Int32) (Q9 : Int32 → Int32 → Int32 → AH → Option (Int32 × AH)) (x1 : Int32) (x2 : Int32) (x3 : Int32) (h : AH) : Option (Int32 × AH) :=
  if x3 < 0 then fX4_release_46 p0 x2 h else if inb x3 120 = true then bind2 (fX4_rankOf (h.1 14 (ix x3)) h) fun r7_ h8_ => if r7_ < x1 then fX4_release_46 p0 x2 h8_ else bindV (fX4_emit (-(h8_.1 14 (ix x3))) h8_) fun h13_ => Q9 x1 (x2 + 1) (x3 + (-1)) h13_ else none
def fX4_release_9 (p0 : Int32) : Nat → Int32 → Int32 → Int32 → AH → Option (Int32 × AH)
  | 0 => fun _ _ _ _ => none
  | n + 1 => fX4_release_9_b p0 (fX4_release_9 p0 n)
set_option maxRecDepth 10000 in
theorem sX4_release_9_b {G : GG} {E : EE} {rv : Int32} {h' : AH} (K : OK G E 1 RX4 cX4_release 4) (Z : RT G E (some .int) (some (.int rv)) h') (p0 : Int32) (Q9 : Int32 → Int32 → Int32 → AH → Option (Int32 × AH)) (hQ9 : ∀ (x1 : Int32) (x2 : Int32) (x3 : Int32) (h : AH), Q9 x1 x2 x3 h = some (rv, h') → JJ G E 4 9 [(0, .ref 12), (1, .int x1), (2, .int x2), (3, .int x3)] [] h) (x1 : Int32) (x2 : Int32) (x3 : Int32) (h : AH) (hf : fX4_release_9_b p0 Q9 x1 x2 x3 h = some (rv, h')) : JJ G E 4 9 [(0, .ref 12), (1, .int x1), (2, .int x2), (3, .int x3)] [] h := by
  unfold fX4_release_9_b at hf
  refine r_iload_n K dX4_release_9 3 rfl rfl ?_
  refine r_if_lt (tgt := 46) K dX4_release_10 (by decide) (fun c3_ => ?_) (fun c3_ => ?_)
  · have hf := e_t hf c3_
    refine r_lv [0, 2] rfl ?_
    exact sX4_release_46 K Z p0 x2 h hf
  · have hf := e_f hf c3_
    refine r_aload_n K dX4_release_13 0 rfl rfl ?_
    refine r_getR (o' := 14) K flX4_19 dX4_release_14 rfl rfl rfl ?_
    refine r_iload_n K dX4_release_17 3 rfl rfl ?_
    obtain ⟨g6_, hf⟩ := e_g hf
    refine r_iald K dX4_release_18 rfl g6_ ?_
    obtain ⟨r7_, h8_, g9_, hf⟩ := e_2 hf
    refine r_callS (av := [.int (h.1 14 (ix x3))]) (st := []) K lkX4_80 mwX4_rankOf (conX4_rankOf (h.1 14 (ix x3)) h r7_ h8_ g9_) dX4_release_19 (Nat.le_of_ble_eq_true rfl) rfl rfl (Nat.le_of_ble_eq_true rfl) ?_
    refine r_iload_n K dX4_release_22 1 rfl rfl ?_
    refine r_icmp_lt (tgt := 46) K dX4_release_23 (by decide) (fun c10_ => ?_) (fun c10_ => ?_)
    · have hf := e_t hf c10_
      refine r_lv [0, 2] rfl ?_
      exact sX4_release_46 K Z p0 x2 h8_ hf
    · have hf := e_f hf c10_
      refine r_aload_n K dX4_release_26 0 rfl rfl ?_
      refine r_aload_n K dX4_release_27 0 rfl rfl ?_
      refine r_getR (o' := 14) K flX4_19 dX4_release_28 rfl rfl rfl ?_
      refine r_iload_n K dX4_release_31 3 rfl rfl ?_
      refine r_iald K dX4_release_32 rfl g6_ ?_
      refine r_ineg K dX4_release_33 ?_
      obtain ⟨h13_, g14_, hf⟩ := e_v hf
      refine r_callV (av := [.int (-(h8_.1 14 (ix x3)))]) (st := []) K lkX4_55 mwX4_emit (conX4_emit (-(h8_.1 14 (ix x3))) h8_ h13_ g14_) dX4_release_34 rfl (Nat.le_of_ble_eq_true rfl) rfl rfl (Nat.le_of_ble_eq_true rfl) ?_
      refine r_iinc (y := 1) (lv' := [(2, .int (x2 + 1)), (0, .ref 12), (1, .int x1), (3, .int x3)]) K dX4_release_37 2 rfl rfl (Nat.le_of_ble_eq_true rfl) rfl ?_
      refine r_iinc (y := (-1)) (lv' := [(3, .int (x3 + (-1))), (2, .int (x2 + 1)), (0, .ref 12), (1, .int x1)]) K dX4_release_40 3 rfl rfl (Nat.le_of_ble_eq_true rfl) rfl ?_
      refine r_goto (tgt := 9) K dX4_release_43 (by decide) ?_
      refine r_lv [2, 3, 1, 0] rfl ?_
      exact hQ9 x1 (x2 + 1) (x3 + (-1)) h13_ hf
theorem sX4_release_9 {G : GG} {E : EE} {rv : Int32} {h' : AH} (K : OK G E 1 RX4 cX4_release 4) (Z : RT G E (some .int) (some (.int rv)) h') (p0 : Int32) : ∀ (n : Nat) (x1 : Int32) (x2 : Int32) (x3 : Int32) (h : AH), fX4_release_9 p0 n x1 x2 x3 h = some (rv, h') → JJ G E 4 9 [(0, .ref 12), (1, .int x1), (2, .int x2), (3, .int x3)] [] h := by
  intro n
  induction n with
  | zero => intro x1 x2 x3 h hf; cases hf
  | succ n ih => intro x1 x2 x3 h hf; exact sX4_release_9_b K Z p0 _ (fun x1 x2 x3 h hf => ih x1 x2 x3 h hf) x1 x2 x3 h hf
def fX4_release (p0 : Int32) (h : AH) : Option (Int32 × AH) :=
  letV (((h.1 12 3) - 1)) fun x1_ => fX4_release_9 p0 FU p0 0 x1_ h
set_option maxRecDepth 10000 in
theorem sX4_release {G : GG} {E : EE} {rv : Int32} {h' : AH} (K : OK G E 1 RX4 cX4_release 4) (Z : RT G E (some .int) (some (.int rv)) h') (p0 : Int32) (h : AH) (hf : fX4_release p0 h = some (rv, h')) : JJ G E 4 0 [(0, .ref 12), (1, .int p0)] [] h := by
  unfold fX4_release at hf
  refine r_iconst (v := 0) K dX4_release_0 rfl ?_
  refine r_istore_n (lv' := [(2, .int 0), (0, .ref 12), (1, .int p0)]) K dX4_release_1 rfl (Nat.le_of_ble_eq_true rfl) rfl ?_
  refine r_aload_n K dX4_release_2 1 rfl rfl ?_
  refine r_getI K flX4_22 dX4_release_3 rfl rfl ?_
  refine r_iconst (v := 1) K dX4_release_6 rfl ?_
  refine r_isub K dX4_release_7 ?_
  obtain ⟨x1_, e2_, hf⟩ := e_l hf
  refine r_nmI e2_ ?_
  refine r_istore_n (lv' := [(3, .int x1_), (2, .int 0), (0, .ref 12), (1, .int p0)]) K dX4_release_8 rfl (Nat.le_of_ble_eq_true rfl) rfl ?_
  refine r_lv [2, 3, 1, 0] rfl ?_
  exact sX4_release_9 K Z p0 FU p0 0 x1_ h hf
theorem conX4_release {G : GG} (p0 : Int32) (h : AH) (rv : Int32) (h' : AH) (hf : fX4_release p0 h = some (rv, h')) : Con G 1 yX4_release cX4_release 4 (some .int) [.ref 12, .int p0] h (some (.int rv)) h' := con_of mwX4_release (Nat.le_of_ble_eq_true rfl) (fun E K Z => sX4_release K Z p0 h hf)
def fX4_endOperand (p0 : Int32) (h : AH) : Option AH :=
  letV (wI h 12 5 p0) fun h1_ => letV (wI h1_ 12 7 0) fun h3_ => bind2 (fX4_release 6 h3_) fun r5_ h6_ => letV (wI h6_ 12 4 ((h3_.1 12 4) - r5_)) fun h8_ => some h8_
set_option maxRecDepth 10000 in
theorem sX4_endOperand {G : GG} {E : EE} {h' : AH} (K : OK G E 2 RX4 cX4_endOperand 2) (Z : RT G E none (none) h') (p0 : Int32) (h : AH) (hf : fX4_endOperand p0 h = some h') : JJ G E 2 0 [(0, .ref 12), (1, .int p0)] [] h := by
  unfold fX4_endOperand at hf
  refine r_aload_n K dX4_endOperand_0 0 rfl rfl ?_
  refine r_iload_n K dX4_endOperand_1 1 rfl rfl ?_
  obtain ⟨h1_, e2_, hf⟩ := e_l hf
  refine r_putI K fpX4_28 dX4_endOperand_2 rfl rfl e2_ ?_
  refine r_aload_n K dX4_endOperand_5 0 rfl rfl ?_
  refine r_iconst (v := 0) K dX4_endOperand_6 rfl ?_
  obtain ⟨h3_, e4_, hf⟩ := e_l hf
  refine r_putZ K fpX4_34 dX4_endOperand_7 rfl rfl rfl e4_ ?_
  refine r_aload_n K dX4_endOperand_10 0 rfl rfl ?_
  refine r_dup K dX4_endOperand_11 rfl ?_
  refine r_getI K flX4_25 dX4_endOperand_12 rfl rfl ?_
  refine r_aload_n K dX4_endOperand_15 0 rfl rfl ?_
  refine r_bipush (v := 6) K dX4_endOperand_16 rfl ?_
  obtain ⟨r5_, h6_, g7_, hf⟩ := e_2 hf
  refine r_callV (av := [.int 6]) (st := [.int (h3_.1 12 4), .ref 12]) K lkX4_84 mwX4_release (conX4_release 6 h3_ r5_ h6_ g7_) dX4_endOperand_18 rfl (Nat.le_of_ble_eq_true rfl) rfl rfl (Nat.le_of_ble_eq_true rfl) ?_
  refine r_isub K dX4_endOperand_21 ?_
  obtain ⟨h8_, e9_, hf⟩ := e_l hf
  refine r_putI K fpX4_25 dX4_endOperand_22 rfl rfl e9_ ?_
  exact r_vret K Z dX4_endOperand_25 hf
theorem conX4_endOperand {G : GG} (p0 : Int32) (h : AH) (h' : AH) (hf : fX4_endOperand p0 h = some h') : Con G 2 yX4_endOperand cX4_endOperand 2 none [.ref 12, .int p0] h (none) h' := con_of mwX4_endOperand (Nat.le_of_ble_eq_true rfl) (fun E K Z => sX4_endOperand K Z p0 h hf)
def fX4_closes (h : AH) : Option (Int32 × AH) :=
  bind2 (fX4_release 1 h) fun r1_ h2_ => if (h2_.1 12 3) = 0 then some (0, h2_) else letV (wI h2_ 12 3 ((h2_.1 12 3) - 1)) fun h5_ => letV (wI h5_ 12 4 ((h5_.1 12 4) - 1)) fun h7_ => bindV (fX4_endOperand 0 h7_) fun h10_ => some (1, h10_)
set_option maxRecDepth 10000 in
theorem sX4_closes {G : GG} {E : EE} {rv : Int32} {h' : AH} (K : OK G E 3 RX4 cX4_closes 1) (Z : RT G E (some .boolean) (some (.int rv)) h') (h : AH) (hf : fX4_closes h = some (rv, h')) : JJ G E 1 0 [(0, .ref 12)] [] h := by
  unfold fX4_closes at hf
  refine r_aload_n K dX4_closes_0 0 rfl rfl ?_
  refine r_iconst (v := 1) K dX4_closes_1 rfl ?_
  obtain ⟨r1_, h2_, g3_, hf⟩ := e_2 hf
  refine r_callV (av := [.int 1]) (st := []) K lkX4_84 mwX4_release (conX4_release 1 h r1_ h2_ g3_) dX4_closes_2 rfl (Nat.le_of_ble_eq_true rfl) rfl rfl (Nat.le_of_ble_eq_true rfl) ?_
  refine r_pop K dX4_closes_5 rfl ?_
  refine r_aload_n K dX4_closes_6 0 rfl rfl ?_
  refine r_getI K flX4_22 dX4_closes_7 rfl rfl ?_
  refine r_if_ne (tgt := 15) K dX4_closes_10 (by decide) (fun c4_ => ?_) (fun c4_ => ?_)
  · have hf := e_f hf c4_
    refine r_aload_n K dX4_closes_15 0 rfl rfl ?_
    refine r_dup K dX4_closes_16 rfl ?_
    refine r_getI K flX4_22 dX4_closes_17 rfl rfl ?_
    refine r_iconst (v := 1) K dX4_closes_20 rfl ?_
    refine r_isub K dX4_closes_21 ?_
    obtain ⟨h5_, e6_, hf⟩ := e_l hf
    refine r_putI K fpX4_22 dX4_closes_22 rfl rfl e6_ ?_
    refine r_aload_n K dX4_closes_25 0 rfl rfl ?_
    refine r_dup K dX4_closes_26 rfl ?_
    refine r_getI K flX4_25 dX4_closes_27 rfl rfl ?_
    refine r_iconst (v := 1) K dX4_closes_30 rfl ?_
    refine r_isub K dX4_closes_31 ?_
    obtain ⟨h7_, e8_, hf⟩ := e_l hf
    refine r_putI K fpX4_25 dX4_closes_32 rfl rfl e8_ ?_
    refine r_aload_n K dX4_closes_35 0 rfl rfl ?_
    refine r_iconst (v := 0) K dX4_closes_36 rfl ?_
    obtain ⟨h10_, g11_, hf⟩ := e_v hf
    refine r_callV (av := [.int 0]) (st := []) K lkX4_62 mwX4_endOperand (conX4_endOperand 0 h7_ h10_ g11_) dX4_closes_37 rfl (Nat.le_of_ble_eq_true rfl) rfl rfl (Nat.le_of_ble_eq_true rfl) ?_
    refine r_iconst (v := 1) K dX4_closes_40 rfl ?_
    exact r_zret K Z dX4_closes_41 rfl hf
  · have hf := e_t hf c4_
    refine r_iconst (v := 0) K dX4_closes_13 rfl ?_
    exact r_zret K Z dX4_closes_14 rfl hf
theorem conX4_closes {G : GG} (h : AH) (rv : Int32) (h' : AH) (hf : fX4_closes h = some (rv, h')) : Con G 3 yX4_closes cX4_closes 1 (some .boolean) [.ref 12] h (some (.int rv)) h' := con_of mwX4_closes (Nat.le_of_ble_eq_true rfl) (fun E K Z => sX4_closes K Z h hf)
def fX4_endsE (h : AH) : Option (Int32 × AH) :=
  bind2 (fX4_release 1 h) fun r1_ h2_ => if (h2_.1 12 3) = 0 then some (1, h2_) else some (0, h2_)
set_option maxRecDepth 10000 in
theorem sX4_endsE {G : GG} {E : EE} {rv : Int32} {h' : AH} (K : OK G E 2 RX4 cX4_endsE 1) (Z : RT G E (some .boolean) (some (.int rv)) h') (h : AH) (hf : fX4_endsE h = some (rv, h')) : JJ G E 1 0 [(0, .ref 12)] [] h := by
  unfold fX4_endsE at hf
  refine r_aload_n K dX4_endsE_0 0 rfl rfl ?_
  refine r_iconst (v := 1) K dX4_endsE_1 rfl ?_
  obtain ⟨r1_, h2_, g3_, hf⟩ := e_2 hf
  refine r_callV (av := [.int 1]) (st := []) K lkX4_84 mwX4_release (conX4_release 1 h r1_ h2_ g3_) dX4_endsE_2 rfl (Nat.le_of_ble_eq_true rfl) rfl rfl (Nat.le_of_ble_eq_true rfl) ?_
  refine r_pop K dX4_endsE_5 rfl ?_
  refine r_aload_n K dX4_endsE_6 0 rfl rfl ?_
  refine r_getI K flX4_22 dX4_endsE_7 rfl rfl ?_
  refine r_if_ne (tgt := 17) K dX4_endsE_10 (by decide) (fun c4_ => ?_) (fun c4_ => ?_)
  · have hf := e_f hf c4_
    refine r_iconst (v := 0) K dX4_endsE_17 rfl ?_
    exact r_zret K Z dX4_endsE_18 rfl hf
  · have hf := e_t hf c4_
    refine r_iconst (v := 1) K dX4_endsE_13 rfl ?_
    refine r_goto (tgt := 18) K dX4_endsE_14 (by decide) ?_
    exact r_zret K Z dX4_endsE_18 rfl hf
theorem conX4_endsE {G : GG} (h : AH) (rv : Int32) (h' : AH) (hf : fX4_endsE h = some (rv, h')) : Con G 2 yX4_endsE cX4_endsE 1 (some .boolean) [.ref 12] h (some (.int rv)) h' := con_of mwX4_endsE (Nat.le_of_ble_eq_true rfl) (fun E K Z => sX4_endsE K Z h hf)
def fX4_endsPart_49 (p0 : Int32) (h : AH) : Option (Int32 × AH) :=
  letV (wI h 12 7 1) fun h11_ => some (1, h11_)
set_option maxRecDepth 10000 in
theorem sX4_endsPart_49 {G : GG} {E : EE} {rv : Int32} {h' : AH} (K : OK G E 3 RX4 cX4_endsPart 2) (Z : RT G E (some .boolean) (some (.int rv)) h') (p0 : Int32) (h : AH) (hf : fX4_endsPart_49 p0 h = some (rv, h')) : JJ G E 2 49 [(0, .ref 12)] [] h := by
  unfold fX4_endsPart_49 at hf
  refine r_aload_n K dX4_endsPart_49 0 rfl rfl ?_
  refine r_iconst (v := 1) K dX4_endsPart_50 rfl ?_
  obtain ⟨h11_, e12_, hf⟩ := e_l hf
  refine r_putZ K fpX4_34 dX4_endsPart_51 rfl rfl rfl e12_ ?_
  refine r_iconst (v := 1) K dX4_endsPart_54 rfl ?_
  exact r_zret K Z dX4_endsPart_55 rfl hf
def fX4_endsPart_34 (p0 : Int32) (x1 : Int32) (s0 : Int32) (h : AH) : Option (Int32 × AH) :=
  if isB s0 = true then letV (wI h 12 8 s0) fun h8_ => if x1 = 59 then bindV (fX4_emit (-59) h8_) fun h14_ => fX4_endsPart_49 p0 h14_ else fX4_endsPart_49 p0 h8_ else none
set_option maxRecDepth 10000 in
theorem sX4_endsPart_34 {G : GG} {E : EE} {rv : Int32} {h' : AH} (K : OK G E 3 RX4 cX4_endsPart 2) (Z : RT G E (some .boolean) (some (.int rv)) h') (p0 : Int32) (x1 : Int32) (s0 : Int32) (h : AH) (hf : fX4_endsPart_34 p0 x1 s0 h = some (rv, h')) : JJ G E 2 34 [(0, .ref 12), (1, .int x1)] [.int s0, .ref 12] h := by
  unfold fX4_endsPart_34 at hf
  obtain ⟨g7_, hf⟩ := e_g hf
  obtain ⟨h8_, e9_, hf⟩ := e_l hf
  refine r_putZ K fpX4_38 dX4_endsPart_34 rfl rfl g7_ e9_ ?_
  refine r_iload_n K dX4_endsPart_37 1 rfl rfl ?_
  refine r_bipush (v := 59) K dX4_endsPart_38 rfl ?_
  refine r_icmp_ne (tgt := 49) K dX4_endsPart_40 (by decide) (fun c10_ => ?_) (fun c10_ => ?_)
  · have hf := e_f hf c10_
    refine r_lv [0] rfl ?_
    exact sX4_endsPart_49 K Z p0 h8_ hf
  · have hf := e_t hf c10_
    refine r_aload_n K dX4_endsPart_43 0 rfl rfl ?_
    refine r_bipush (v := (-59)) K dX4_endsPart_44 rfl ?_
    obtain ⟨h14_, g15_, hf⟩ := e_v hf
    refine r_callV (av := [.int (-59)]) (st := []) K lkX4_55 mwX4_emit (conX4_emit (-59) h8_ h14_ g15_) dX4_endsPart_46 rfl (Nat.le_of_ble_eq_true rfl) rfl rfl (Nat.le_of_ble_eq_true rfl) ?_
    refine r_lv [0] rfl ?_
    exact sX4_endsPart_49 K Z p0 h14_ hf
def fX4_endsPart_22 (p0 : Int32) (x1 : Int32) (h : AH) : Option (Int32 × AH) :=
  if x1 = 63 then fX4_endsPart_34 p0 x1 1 h else fX4_endsPart_34 p0 x1 0 h
set_option maxRecDepth 10000 in
theorem sX4_endsPart_22 {G : GG} {E : EE} {rv : Int32} {h' : AH} (K : OK G E 3 RX4 cX4_endsPart 2) (Z : RT G E (some .boolean) (some (.int rv)) h') (p0 : Int32) (x1 : Int32) (h : AH) (hf : fX4_endsPart_22 p0 x1 h = some (rv, h')) : JJ G E 2 22 [(0, .ref 12), (1, .int x1)] [] h := by
  unfold fX4_endsPart_22 at hf
  refine r_aload_n K dX4_endsPart_22 0 rfl rfl ?_
  refine r_iload_n K dX4_endsPart_23 1 rfl rfl ?_
  refine r_bipush (v := 63) K dX4_endsPart_24 rfl ?_
  refine r_icmp_ne (tgt := 33) K dX4_endsPart_26 (by decide) (fun c6_ => ?_) (fun c6_ => ?_)
  · have hf := e_f hf c6_
    refine r_iconst (v := 0) K dX4_endsPart_33 rfl ?_
    refine r_lv [0, 1] rfl ?_
    exact sX4_endsPart_34 K Z p0 x1 0 h hf
  · have hf := e_t hf c6_
    refine r_iconst (v := 1) K dX4_endsPart_29 rfl ?_
    refine r_goto (tgt := 34) K dX4_endsPart_30 (by decide) ?_
    refine r_lv [0, 1] rfl ?_
    exact sX4_endsPart_34 K Z p0 x1 1 h hf
def fX4_endsPart (p0 : Int32) (h : AH) : Option (Int32 × AH) :=
  bind2 (fX4_endsE  h) fun r1_ h2_ => if r1_ = 0 then some (0, h2_) else if p0 = 63 then if (h2_.1 12 8) = 0 then fX4_endsPart_22 p0 p0 h2_ else some (0, h2_) else fX4_endsPart_22 p0 p0 h2_
set_option maxRecDepth 10000 in
theorem sX4_endsPart {G : GG} {E : EE} {rv : Int32} {h' : AH} (K : OK G E 3 RX4 cX4_endsPart 2) (Z : RT G E (some .boolean) (some (.int rv)) h') (p0 : Int32) (h : AH) (hf : fX4_endsPart p0 h = some (rv, h')) : JJ G E 2 0 [(0, .ref 12), (1, .int p0)] [] h := by
  unfold fX4_endsPart at hf
  refine r_aload_n K dX4_endsPart_0 0 rfl rfl ?_
  obtain ⟨r1_, h2_, g3_, hf⟩ := e_2 hf
  refine r_callV (av := []) (st := []) K lkX4_51 mwX4_endsE (conX4_endsE  h r1_ h2_ g3_) dX4_endsPart_1 rfl (Nat.le_of_ble_eq_true rfl) rfl rfl (Nat.le_of_ble_eq_true rfl) ?_
  refine r_if_eq (tgt := 20) K dX4_endsPart_4 (by decide) (fun c4_ => ?_) (fun c4_ => ?_)
  · have hf := e_t hf c4_
    refine r_iconst (v := 0) K dX4_endsPart_20 rfl ?_
    exact r_zret K Z dX4_endsPart_21 rfl hf
  · have hf := e_f hf c4_
    refine r_iload_n K dX4_endsPart_7 1 rfl rfl ?_
    refine r_bipush (v := 63) K dX4_endsPart_8 rfl ?_
    refine r_icmp_ne (tgt := 22) K dX4_endsPart_10 (by decide) (fun c5_ => ?_) (fun c5_ => ?_)
    · have hf := e_f hf c5_
      refine r_lv [0, 1] rfl ?_
      exact sX4_endsPart_22 K Z p0 p0 h2_ hf
    · have hf := e_t hf c5_
      refine r_aload_n K dX4_endsPart_13 0 rfl rfl ?_
      refine r_getI K flX4_38 dX4_endsPart_14 rfl rfl ?_
      refine r_if_eq (tgt := 22) K dX4_endsPart_17 (by decide) (fun c16_ => ?_) (fun c16_ => ?_)
      · have hf := e_t hf c16_
        refine r_lv [0, 1] rfl ?_
        exact sX4_endsPart_22 K Z p0 p0 h2_ hf
      · have hf := e_f hf c16_
        refine r_iconst (v := 0) K dX4_endsPart_20 rfl ?_
        exact r_zret K Z dX4_endsPart_21 rfl hf
theorem conX4_endsPart {G : GG} (p0 : Int32) (h : AH) (rv : Int32) (h' : AH) (hf : fX4_endsPart p0 h = some (rv, h')) : Con G 3 yX4_endsPart cX4_endsPart 2 (some .boolean) [.ref 12, .int p0] h (some (.int rv)) h' := con_of mwX4_endsPart (Nat.le_of_ble_eq_true rfl) (fun E K Z => sX4_endsPart K Z p0 h hf)
def fX4_isDigit (p0 : Int32) (h : AH) : Option (Int32 × AH) :=
  if p0 < 48 then some (0, h) else if 57 < p0 then some (0, h) else some (1, h)
set_option maxRecDepth 10000 in
theorem sX4_isDigit {G : GG} {E : EE} {rv : Int32} {h' : AH} (K : OK G E 0 RX4 cX4_isDigit 1) (Z : RT G E (some .boolean) (some (.int rv)) h') (p0 : Int32) (h : AH) (hf : fX4_isDigit p0 h = some (rv, h')) : JJ G E 1 0 [(0, .int p0)] [] h := by
  unfold fX4_isDigit at hf
  refine r_iload_n K dX4_isDigit_0 0 rfl rfl ?_
  refine r_bipush (v := 48) K dX4_isDigit_1 rfl ?_
  refine r_icmp_lt (tgt := 16) K dX4_isDigit_3 (by decide) (fun c1_ => ?_) (fun c1_ => ?_)
  · have hf := e_t hf c1_
    refine r_iconst (v := 0) K dX4_isDigit_16 rfl ?_
    exact r_zret K Z dX4_isDigit_17 rfl hf
  · have hf := e_f hf c1_
    refine r_iload_n K dX4_isDigit_6 0 rfl rfl ?_
    refine r_bipush (v := 57) K dX4_isDigit_7 rfl ?_
    refine r_icmp_gt (tgt := 16) K dX4_isDigit_9 (by decide) (fun c2_ => ?_) (fun c2_ => ?_)
    · have hf := e_t hf c2_
      refine r_iconst (v := 0) K dX4_isDigit_16 rfl ?_
      exact r_zret K Z dX4_isDigit_17 rfl hf
    · have hf := e_f hf c2_
      refine r_iconst (v := 1) K dX4_isDigit_12 rfl ?_
      refine r_goto (tgt := 17) K dX4_isDigit_13 (by decide) ?_
      exact r_zret K Z dX4_isDigit_17 rfl hf
theorem conX4_isDigit {G : GG} (p0 : Int32) (h : AH) (rv : Int32) (h' : AH) (hf : fX4_isDigit p0 h = some (rv, h')) : Con G 0 yX4_isDigit cX4_isDigit 1 (some .boolean) [.int p0] h (some (.int rv)) h' := con_of mwX4_isDigit (Nat.le_of_ble_eq_true rfl) (fun E K Z => sX4_isDigit K Z p0 h hf)
def fX4_takesOperand_102 (p0 : Int32) (s0 : Int32) (h : AH) : Option (Int32 × AH) :=
  bindV (fX4_await s0 h) fun h15_ => some (1, h15_)
set_option maxRecDepth 10000 in
theorem sX4_takesOperand_102 {G : GG} {E : EE} {rv : Int32} {h' : AH} (K : OK G E 3 RX4 cX4_takesOperand 2) (Z : RT G E (some .boolean) (some (.int rv)) h') (p0 : Int32) (s0 : Int32) (h : AH) (hf : fX4_takesOperand_102 p0 s0 h = some (rv, h')) : JJ G E 2 102 [] [.int s0, .ref 12] h := by
  unfold fX4_takesOperand_102 at hf
  obtain ⟨h15_, g16_, hf⟩ := e_v hf
  refine r_callV (av := [.int s0]) (st := []) K lkX4_68 mwX4_await (conX4_await s0 h h15_ g16_) dX4_takesOperand_102 rfl (Nat.le_of_ble_eq_true rfl) rfl rfl (Nat.le_of_ble_eq_true rfl) ?_
  refine r_iconst (v := 1) K dX4_takesOperand_105 rfl ?_
  exact r_zret K Z dX4_takesOperand_106 rfl hf
def fX4_takesOperand_68 (p0 : Int32) (x1 : Int32) (h : AH) : Option (Int32 × AH) :=
  if (h.1 12 4) < 6 then letV (wI h 12 4 ((h.1 12 4) + 1)) fun h11_ => if x1 = 45 then fX4_takesOperand_102 p0 126 h11_ else fX4_takesOperand_102 p0 x1 h11_ else some (0, h)
set_option maxRecDepth 10000 in
theorem sX4_takesOperand_68 {G : GG} {E : EE} {rv : Int32} {h' : AH} (K : OK G E 3 RX4 cX4_takesOperand 2) (Z : RT G E (some .boolean) (some (.int rv)) h') (p0 : Int32) (x1 : Int32) (h : AH) (hf : fX4_takesOperand_68 p0 x1 h = some (rv, h')) : JJ G E 2 68 [(0, .ref 12), (1, .int x1)] [] h := by
  unfold fX4_takesOperand_68 at hf
  refine r_aload_n K dX4_takesOperand_68 0 rfl rfl ?_
  refine r_getI K flX4_25 dX4_takesOperand_69 rfl rfl ?_
  refine r_bipush (v := 6) K dX4_takesOperand_72 rfl ?_
  refine r_icmp_lt (tgt := 79) K dX4_takesOperand_74 (by decide) (fun c10_ => ?_) (fun c10_ => ?_)
  · have hf := e_t hf c10_
    refine r_aload_n K dX4_takesOperand_79 0 rfl rfl ?_
    refine r_dup K dX4_takesOperand_80 rfl ?_
    refine r_getI K flX4_25 dX4_takesOperand_81 rfl rfl ?_
    refine r_iconst (v := 1) K dX4_takesOperand_84 rfl ?_
    refine r_iadd K dX4_takesOperand_85 ?_
    obtain ⟨h11_, e12_, hf⟩ := e_l hf
    refine r_putI K fpX4_25 dX4_takesOperand_86 rfl rfl e12_ ?_
    refine r_aload_n K dX4_takesOperand_89 0 rfl rfl ?_
    refine r_iload_n K dX4_takesOperand_90 1 rfl rfl ?_
    refine r_bipush (v := 45) K dX4_takesOperand_91 rfl ?_
    refine r_icmp_ne (tgt := 101) K dX4_takesOperand_93 (by decide) (fun c13_ => ?_) (fun c13_ => ?_)
    · have hf := e_f hf c13_
      refine r_iload_n K dX4_takesOperand_101 1 rfl rfl ?_
      refine r_lv [] rfl ?_
      exact sX4_takesOperand_102 K Z p0 x1 h11_ hf
    · have hf := e_t hf c13_
      refine r_bipush (v := 126) K dX4_takesOperand_96 rfl ?_
      refine r_goto (tgt := 102) K dX4_takesOperand_98 (by decide) ?_
      refine r_lv [] rfl ?_
      exact sX4_takesOperand_102 K Z p0 126 h11_ hf
  · have hf := e_f hf c10_
    refine r_iconst (v := 0) K dX4_takesOperand_77 rfl ?_
    exact r_zret K Z dX4_takesOperand_78 rfl hf
def fX4_takesOperand (p0 : Int32) (h : AH) : Option (Int32 × AH) :=
  bind2 (fX4_isDigit p0 h) fun r1_ h2_ => if r1_ = 0 then bind2 (fX4_isName p0 h2_) fun r5_ h6_ => if r5_ = 0 then if p0 = 40 then fX4_takesOperand_68 p0 p0 h6_ else if p0 = 33 then fX4_takesOperand_68 p0 p0 h6_ else if p0 = 45 then fX4_takesOperand_68 p0 p0 h6_ else some (0, h6_) else bindV (fX4_emit (-p0) h6_) fun h20_ => bindV (fX4_endOperand 0 h20_) fun h23_ => some (1, h23_) else letV (wI h2_ 12 6 (h2_.1 12 1)) fun h25_ => bindV (fX4_emit (p0 - 48) h25_) fun h28_ => bindV (fX4_endOperand 3 h28_) fun h31_ => some (1, h31_)
set_option maxRecDepth 10000 in
theorem sX4_takesOperand {G : GG} {E : EE} {rv : Int32} {h' : AH} (K : OK G E 3 RX4 cX4_takesOperand 2) (Z : RT G E (some .boolean) (some (.int rv)) h') (p0 : Int32) (h : AH) (hf : fX4_takesOperand p0 h = some (rv, h')) : JJ G E 2 0 [(0, .ref 12), (1, .int p0)] [] h := by
  unfold fX4_takesOperand at hf
  refine r_iload_n K dX4_takesOperand_0 1 rfl rfl ?_
  obtain ⟨r1_, h2_, g3_, hf⟩ := e_2 hf
  refine r_callS (av := [.int p0]) (st := []) K lkX4_59 mwX4_isDigit (conX4_isDigit p0 h r1_ h2_ g3_) dX4_takesOperand_1 (Nat.le_of_ble_eq_true rfl) rfl rfl (Nat.le_of_ble_eq_true rfl) ?_
  refine r_if_eq (tgt := 30) K dX4_takesOperand_4 (by decide) (fun c4_ => ?_) (fun c4_ => ?_)
  · have hf := e_t hf c4_
    refine r_iload_n K dX4_takesOperand_30 1 rfl rfl ?_
    obtain ⟨r5_, h6_, g7_, hf⟩ := e_2 hf
    refine r_callS (av := [.int p0]) (st := []) K lkX4_65 mwX4_isName (conX4_isName p0 h2_ r5_ h6_ g7_) dX4_takesOperand_31 (Nat.le_of_ble_eq_true rfl) rfl rfl (Nat.le_of_ble_eq_true rfl) ?_
    refine r_if_eq (tgt := 50) K dX4_takesOperand_34 (by decide) (fun c8_ => ?_) (fun c8_ => ?_)
    · have hf := e_t hf c8_
      refine r_iload_n K dX4_takesOperand_50 1 rfl rfl ?_
      refine r_bipush (v := 40) K dX4_takesOperand_51 rfl ?_
      refine r_icmp_eq (tgt := 68) K dX4_takesOperand_53 (by decide) (fun c9_ => ?_) (fun c9_ => ?_)
      · have hf := e_t hf c9_
        refine r_lv [0, 1] rfl ?_
        exact sX4_takesOperand_68 K Z p0 p0 h6_ hf
      · have hf := e_f hf c9_
        refine r_iload_n K dX4_takesOperand_56 1 rfl rfl ?_
        refine r_bipush (v := 33) K dX4_takesOperand_57 rfl ?_
        refine r_icmp_eq (tgt := 68) K dX4_takesOperand_59 (by decide) (fun c17_ => ?_) (fun c17_ => ?_)
        · have hf := e_t hf c17_
          refine r_lv [0, 1] rfl ?_
          exact sX4_takesOperand_68 K Z p0 p0 h6_ hf
        · have hf := e_f hf c17_
          refine r_iload_n K dX4_takesOperand_62 1 rfl rfl ?_
          refine r_bipush (v := 45) K dX4_takesOperand_63 rfl ?_
          refine r_icmp_ne (tgt := 77) K dX4_takesOperand_65 (by decide) (fun c18_ => ?_) (fun c18_ => ?_)
          · have hf := e_f hf c18_
            refine r_iconst (v := 0) K dX4_takesOperand_77 rfl ?_
            exact r_zret K Z dX4_takesOperand_78 rfl hf
          · have hf := e_t hf c18_
            refine r_lv [0, 1] rfl ?_
            exact sX4_takesOperand_68 K Z p0 p0 h6_ hf
    · have hf := e_f hf c8_
      refine r_aload_n K dX4_takesOperand_37 0 rfl rfl ?_
      refine r_iload_n K dX4_takesOperand_38 1 rfl rfl ?_
      refine r_ineg K dX4_takesOperand_39 ?_
      obtain ⟨h20_, g21_, hf⟩ := e_v hf
      refine r_callV (av := [.int (-p0)]) (st := []) K lkX4_55 mwX4_emit (conX4_emit (-p0) h6_ h20_ g21_) dX4_takesOperand_40 rfl (Nat.le_of_ble_eq_true rfl) rfl rfl (Nat.le_of_ble_eq_true rfl) ?_
      refine r_aload_n K dX4_takesOperand_43 0 rfl rfl ?_
      refine r_iconst (v := 0) K dX4_takesOperand_44 rfl ?_
      obtain ⟨h23_, g24_, hf⟩ := e_v hf
      refine r_callV (av := [.int 0]) (st := []) K lkX4_62 mwX4_endOperand (conX4_endOperand 0 h20_ h23_ g24_) dX4_takesOperand_45 rfl (Nat.le_of_ble_eq_true rfl) rfl rfl (Nat.le_of_ble_eq_true rfl) ?_
      refine r_iconst (v := 1) K dX4_takesOperand_48 rfl ?_
      exact r_zret K Z dX4_takesOperand_49 rfl hf
  · have hf := e_f hf c4_
    refine r_aload_n K dX4_takesOperand_7 0 rfl rfl ?_
    refine r_aload_n K dX4_takesOperand_8 0 rfl rfl ?_
    refine r_getI K flX4_15 dX4_takesOperand_9 rfl rfl ?_
    obtain ⟨h25_, e26_, hf⟩ := e_l hf
    refine r_putI K fpX4_31 dX4_takesOperand_12 rfl rfl e26_ ?_
    refine r_aload_n K dX4_takesOperand_15 0 rfl rfl ?_
    refine r_iload_n K dX4_takesOperand_16 1 rfl rfl ?_
    refine r_bipush (v := 48) K dX4_takesOperand_17 rfl ?_
    refine r_isub K dX4_takesOperand_19 ?_
    obtain ⟨h28_, g29_, hf⟩ := e_v hf
    refine r_callV (av := [.int (p0 - 48)]) (st := []) K lkX4_55 mwX4_emit (conX4_emit (p0 - 48) h25_ h28_ g29_) dX4_takesOperand_20 rfl (Nat.le_of_ble_eq_true rfl) rfl rfl (Nat.le_of_ble_eq_true rfl) ?_
    refine r_aload_n K dX4_takesOperand_23 0 rfl rfl ?_
    refine r_iconst (v := 3) K dX4_takesOperand_24 rfl ?_
    obtain ⟨h31_, g32_, hf⟩ := e_v hf
    refine r_callV (av := [.int 3]) (st := []) K lkX4_62 mwX4_endOperand (conX4_endOperand 3 h28_ h31_ g32_) dX4_takesOperand_25 rfl (Nat.le_of_ble_eq_true rfl) rfl rfl (Nat.le_of_ble_eq_true rfl) ?_
    refine r_iconst (v := 1) K dX4_takesOperand_28 rfl ?_
    exact r_zret K Z dX4_takesOperand_29 rfl hf
theorem conX4_takesOperand {G : GG} (p0 : Int32) (h : AH) (rv : Int32) (h' : AH) (hf : fX4_takesOperand p0 h = some (rv, h')) : Con G 3 yX4_takesOperand cX4_takesOperand 2 (some .boolean) [.ref 12, .int p0] h (some (.int rv)) h' := con_of mwX4_takesOperand (Nat.le_of_ble_eq_true rfl) (fun E K Z => sX4_takesOperand K Z p0 h hf)
def fX4_takesDigit (p0 : Int32) (h : AH) : Option (Int32 × AH) :=
  if (h.1 12 5) ≤ 0 then some (0, h) else if (h.1 12 6) < 121 then letV (wI h 12 5 ((h.1 12 5) - 1)) fun h3_ => if inb (h3_.1 12 6) 121 = true then letV (wI h3_ 13 (ix (h3_.1 12 6)) (((h3_.1 13 (ix (h3_.1 12 6))) * 10) + (p0 - 48))) fun h7_ => some (1, h7_) else none else some (0, h)
set_option maxRecDepth 10000 in
theorem sX4_takesDigit {G : GG} {E : EE} {rv : Int32} {h' : AH} (K : OK G E 0 RX4 cX4_takesDigit 2) (Z : RT G E (some .boolean) (some (.int rv)) h') (p0 : Int32) (h : AH) (hf : fX4_takesDigit p0 h = some (rv, h')) : JJ G E 2 0 [(0, .ref 12), (1, .int p0)] [] h := by
  unfold fX4_takesDigit at hf
  refine r_aload_n K dX4_takesDigit_0 0 rfl rfl ?_
  refine r_getI K flX4_28 dX4_takesDigit_1 rfl rfl ?_
  refine r_if_le (tgt := 19) K dX4_takesDigit_4 (by decide) (fun c1_ => ?_) (fun c1_ => ?_)
  · have hf := e_t hf c1_
    refine r_iconst (v := 0) K dX4_takesDigit_19 rfl ?_
    exact r_zret K Z dX4_takesDigit_20 rfl hf
  · have hf := e_f hf c1_
    refine r_aload_n K dX4_takesDigit_7 0 rfl rfl ?_
    refine r_getI K flX4_31 dX4_takesDigit_8 rfl rfl ?_
    refine r_aload_n K dX4_takesDigit_11 0 rfl rfl ?_
    refine r_getR (o' := 13) K flX4_11 dX4_takesDigit_12 rfl rfl rfl ?_
    refine r_alen (v := 121) K dX4_takesDigit_15 rfl rfl ?_
    refine r_icmp_lt (tgt := 21) K dX4_takesDigit_16 (by decide) (fun c2_ => ?_) (fun c2_ => ?_)
    · have hf := e_t hf c2_
      refine r_aload_n K dX4_takesDigit_21 0 rfl rfl ?_
      refine r_dup K dX4_takesDigit_22 rfl ?_
      refine r_getI K flX4_28 dX4_takesDigit_23 rfl rfl ?_
      refine r_iconst (v := 1) K dX4_takesDigit_26 rfl ?_
      refine r_isub K dX4_takesDigit_27 ?_
      obtain ⟨h3_, e4_, hf⟩ := e_l hf
      refine r_putI K fpX4_28 dX4_takesDigit_28 rfl rfl e4_ ?_
      refine r_aload_n K dX4_takesDigit_31 0 rfl rfl ?_
      refine r_getR (o' := 13) K flX4_11 dX4_takesDigit_32 rfl rfl rfl ?_
      refine r_aload_n K dX4_takesDigit_35 0 rfl rfl ?_
      refine r_getI K flX4_31 dX4_takesDigit_36 rfl rfl ?_
      refine r_aload_n K dX4_takesDigit_39 0 rfl rfl ?_
      refine r_getR (o' := 13) K flX4_11 dX4_takesDigit_40 rfl rfl rfl ?_
      refine r_aload_n K dX4_takesDigit_43 0 rfl rfl ?_
      refine r_getI K flX4_31 dX4_takesDigit_44 rfl rfl ?_
      obtain ⟨g5_, hf⟩ := e_g hf
      refine r_iald K dX4_takesDigit_47 rfl g5_ ?_
      refine r_bipush (v := 10) K dX4_takesDigit_48 rfl ?_
      refine r_imul K dX4_takesDigit_50 ?_
      refine r_iload_n K dX4_takesDigit_51 1 rfl rfl ?_
      refine r_bipush (v := 48) K dX4_takesDigit_52 rfl ?_
      refine r_isub K dX4_takesDigit_54 ?_
      refine r_iadd K dX4_takesDigit_55 ?_
      obtain ⟨h7_, e8_, hf⟩ := e_l hf
      refine r_iast K dX4_takesDigit_56 rfl g5_ e8_ ?_
      refine r_iconst (v := 1) K dX4_takesDigit_57 rfl ?_
      exact r_zret K Z dX4_takesDigit_58 rfl hf
    · have hf := e_f hf c2_
      refine r_iconst (v := 0) K dX4_takesDigit_19 rfl ?_
      exact r_zret K Z dX4_takesDigit_20 rfl hf
theorem conX4_takesDigit {G : GG} (p0 : Int32) (h : AH) (rv : Int32) (h' : AH) (hf : fX4_takesDigit p0 h = some (rv, h')) : Con G 0 yX4_takesDigit cX4_takesDigit 2 (some .boolean) [.ref 12, .int p0] h (some (.int rv)) h' := con_of mwX4_takesDigit (Nat.le_of_ble_eq_true rfl) (fun E K Z => sX4_takesDigit K Z p0 h hf)
def fX4_takesSign_36 (p0 : Int32) (x1 : Int32) (h : AH) : Option (Int32 × AH) :=
  bind2 (fX4_endsPart x1 h) fun r7_ h8_ => if isB r7_ = true then some (r7_, h8_) else none
set_option maxRecDepth 10000 in
theorem sX4_takesSign_36 {G : GG} {E : EE} {rv : Int32} {h' : AH} (K : OK G E 4 RX4 cX4_takesSign 3) (Z : RT G E (some .boolean) (some (.int rv)) h') (p0 : Int32) (x1 : Int32) (h : AH) (hf : fX4_takesSign_36 p0 x1 h = some (rv, h')) : JJ G E 3 36 [(0, .ref 12), (1, .int x1)] [] h := by
  unfold fX4_takesSign_36 at hf
  refine r_aload_n K dX4_takesSign_36 0 rfl rfl ?_
  refine r_iload_n K dX4_takesSign_37 1 rfl rfl ?_
  obtain ⟨r7_, h8_, g9_, hf⟩ := e_2 hf
  refine r_callV (av := [.int x1]) (st := []) K lkX4_77 mwX4_endsPart (conX4_endsPart x1 h r7_ h8_ g9_) dX4_takesSign_38 rfl (Nat.le_of_ble_eq_true rfl) rfl rfl (Nat.le_of_ble_eq_true rfl) ?_
  obtain ⟨g10_, hf⟩ := e_g hf
  exact r_zret K Z dX4_takesSign_41 g10_ hf
def fX4_takesSign_108 (p0 : Int32) (x1 : Int32) (h : AH) : Option (Int32 × AH) :=
  bindV (fX4_await x1 h) fun h23_ => letV (wI h23_ 12 7 1) fun h25_ => some (1, h25_)
set_option maxRecDepth 10000 in
theorem sX4_takesSign_108 {G : GG} {E : EE} {rv : Int32} {h' : AH} (K : OK G E 4 RX4 cX4_takesSign 3) (Z : RT G E (some .boolean) (some (.int rv)) h') (p0 : Int32) (x1 : Int32) (h : AH) (hf : fX4_takesSign_108 p0 x1 h = some (rv, h')) : JJ G E 3 108 [(0, .ref 12), (1, .int x1)] [] h := by
  unfold fX4_takesSign_108 at hf
  refine r_aload_n K dX4_takesSign_108 0 rfl rfl ?_
  refine r_iload_n K dX4_takesSign_109 1 rfl rfl ?_
  obtain ⟨h23_, g24_, hf⟩ := e_v hf
  refine r_callV (av := [.int x1]) (st := []) K lkX4_68 mwX4_await (conX4_await x1 h h23_ g24_) dX4_takesSign_110 rfl (Nat.le_of_ble_eq_true rfl) rfl rfl (Nat.le_of_ble_eq_true rfl) ?_
  refine r_aload_n K dX4_takesSign_113 0 rfl rfl ?_
  refine r_iconst (v := 1) K dX4_takesSign_114 rfl ?_
  obtain ⟨h25_, e26_, hf⟩ := e_l hf
  refine r_putZ K fpX4_34 dX4_takesSign_115 rfl rfl rfl e26_ ?_
  refine r_iconst (v := 1) K dX4_takesSign_118 rfl ?_
  exact r_zret K Z dX4_takesSign_119 rfl hf
def fX4_takesSign_72 (p0 : Int32) (x1 : Int32) (x2 : Int32) (s0 : Int32) (h : AH) : Option (Int32 × AH) :=
  bind2 (fX4_release s0 h) fun r18_ h19_ => if x2 = 3 then if (h19_.1 12 3) ≤ 0 then fX4_takesSign_108 p0 x1 h19_ else if inb ((h19_.1 12 3) - 1) 120 = true then bind2 (fX4_rankOf (h19_.1 14 (ix ((h19_.1 12 3) - 1))) h19_) fun r29_ h30_ => if r29_ = 3 then some (0, h30_) else fX4_takesSign_108 p0 x1 h30_ else none else fX4_takesSign_108 p0 x1 h19_
set_option maxRecDepth 10000 in
theorem sX4_takesSign_72 {G : GG} {E : EE} {rv : Int32} {h' : AH} (K : OK G E 4 RX4 cX4_takesSign 3) (Z : RT G E (some .boolean) (some (.int rv)) h') (p0 : Int32) (x1 : Int32) (x2 : Int32) (s0 : Int32) (h : AH) (hf : fX4_takesSign_72 p0 x1 x2 s0 h = some (rv, h')) : JJ G E 3 72 [(0, .ref 12), (1, .int x1), (2, .int x2)] [.int s0, .ref 12] h := by
  unfold fX4_takesSign_72 at hf
  obtain ⟨r18_, h19_, g20_, hf⟩ := e_2 hf
  refine r_callV (av := [.int s0]) (st := []) K lkX4_84 mwX4_release (conX4_release s0 h r18_ h19_ g20_) dX4_takesSign_72 rfl (Nat.le_of_ble_eq_true rfl) rfl rfl (Nat.le_of_ble_eq_true rfl) ?_
  refine r_pop K dX4_takesSign_75 rfl ?_
  refine r_iload_n K dX4_takesSign_76 2 rfl rfl ?_
  refine r_iconst (v := 3) K dX4_takesSign_77 rfl ?_
  refine r_icmp_ne (tgt := 108) K dX4_takesSign_78 (by decide) (fun c21_ => ?_) (fun c21_ => ?_)
  · have hf := e_f hf c21_
    refine r_lv [0, 1] rfl ?_
    exact sX4_takesSign_108 K Z p0 x1 h19_ hf
  · have hf := e_t hf c21_
    refine r_aload_n K dX4_takesSign_81 0 rfl rfl ?_
    refine r_getI K flX4_22 dX4_takesSign_82 rfl rfl ?_
    refine r_if_le (tgt := 108) K dX4_takesSign_85 (by decide) (fun c27_ => ?_) (fun c27_ => ?_)
    · have hf := e_t hf c27_
      refine r_lv [0, 1] rfl ?_
      exact sX4_takesSign_108 K Z p0 x1 h19_ hf
    · have hf := e_f hf c27_
      refine r_aload_n K dX4_takesSign_88 0 rfl rfl ?_
      refine r_getR (o' := 14) K flX4_19 dX4_takesSign_89 rfl rfl rfl ?_
      refine r_aload_n K dX4_takesSign_92 0 rfl rfl ?_
      refine r_getI K flX4_22 dX4_takesSign_93 rfl rfl ?_
      refine r_iconst (v := 1) K dX4_takesSign_96 rfl ?_
      refine r_isub K dX4_takesSign_97 ?_
      obtain ⟨g28_, hf⟩ := e_g hf
      refine r_iald K dX4_takesSign_98 rfl g28_ ?_
      obtain ⟨r29_, h30_, g31_, hf⟩ := e_2 hf
      refine r_callS (av := [.int (h19_.1 14 (ix ((h19_.1 12 3) - 1)))]) (st := []) K lkX4_80 mwX4_rankOf (conX4_rankOf (h19_.1 14 (ix ((h19_.1 12 3) - 1))) h19_ r29_ h30_ g31_) dX4_takesSign_99 (Nat.le_of_ble_eq_true rfl) rfl rfl (Nat.le_of_ble_eq_true rfl) ?_
      refine r_iconst (v := 3) K dX4_takesSign_102 rfl ?_
      refine r_icmp_ne (tgt := 108) K dX4_takesSign_103 (by decide) (fun c32_ => ?_) (fun c32_ => ?_)
      · have hf := e_f hf c32_
        refine r_lv [0, 1] rfl ?_
        exact sX4_takesSign_108 K Z p0 x1 h30_ hf
      · have hf := e_t hf c32_
        refine r_iconst (v := 0) K dX4_takesSign_106 rfl ?_
        exact r_zret K Z dX4_takesSign_107 rfl hf
def fX4_takesSign (p0 : Int32) (h : AH) : Option (Int32 × AH) :=
  bind2 (fX4_isDigit p0 h) fun r1_ h2_ => if r1_ = 0 then if p0 = 41 then bind2 (fX4_closes  h2_) fun r33_ h34_ => if isB r33_ = true then some (r33_, h34_) else none else if p0 = 63 then fX4_takesSign_36 p0 p0 h2_ else if p0 = 59 then fX4_takesSign_36 p0 p0 h2_ else bind2 (fX4_rankOf p0 h2_) fun r12_ h13_ => if r12_ < 1 then some (0, h13_) else if r12_ ≤ 5 then if r12_ = 3 then fX4_takesSign_72 p0 p0 r12_ (r12_ + 1) h13_ else fX4_takesSign_72 p0 p0 r12_ r12_ h13_ else some (0, h13_) else bind2 (fX4_takesDigit p0 h2_) fun r37_ h38_ => if isB r37_ = true then some (r37_, h38_) else none
set_option maxRecDepth 10000 in
theorem sX4_takesSign {G : GG} {E : EE} {rv : Int32} {h' : AH} (K : OK G E 4 RX4 cX4_takesSign 3) (Z : RT G E (some .boolean) (some (.int rv)) h') (p0 : Int32) (h : AH) (hf : fX4_takesSign p0 h = some (rv, h')) : JJ G E 3 0 [(0, .ref 12), (1, .int p0)] [] h := by
  unfold fX4_takesSign at hf
  refine r_iload_n K dX4_takesSign_0 1 rfl rfl ?_
  obtain ⟨r1_, h2_, g3_, hf⟩ := e_2 hf
  refine r_callS (av := [.int p0]) (st := []) K lkX4_59 mwX4_isDigit (conX4_isDigit p0 h r1_ h2_ g3_) dX4_takesSign_1 (Nat.le_of_ble_eq_true rfl) rfl rfl (Nat.le_of_ble_eq_true rfl) ?_
  refine r_if_eq (tgt := 13) K dX4_takesSign_4 (by decide) (fun c4_ => ?_) (fun c4_ => ?_)
  · have hf := e_t hf c4_
    refine r_iload_n K dX4_takesSign_13 1 rfl rfl ?_
    refine r_bipush (v := 41) K dX4_takesSign_14 rfl ?_
    refine r_icmp_ne (tgt := 24) K dX4_takesSign_16 (by decide) (fun c5_ => ?_) (fun c5_ => ?_)
    · have hf := e_f hf c5_
      refine r_iload_n K dX4_takesSign_24 1 rfl rfl ?_
      refine r_bipush (v := 63) K dX4_takesSign_25 rfl ?_
      refine r_icmp_eq (tgt := 36) K dX4_takesSign_27 (by decide) (fun c6_ => ?_) (fun c6_ => ?_)
      · have hf := e_t hf c6_
        refine r_lv [0, 1] rfl ?_
        exact sX4_takesSign_36 K Z p0 p0 h2_ hf
      · have hf := e_f hf c6_
        refine r_iload_n K dX4_takesSign_30 1 rfl rfl ?_
        refine r_bipush (v := 59) K dX4_takesSign_31 rfl ?_
        refine r_icmp_ne (tgt := 42) K dX4_takesSign_33 (by decide) (fun c11_ => ?_) (fun c11_ => ?_)
        · have hf := e_f hf c11_
          refine r_iload_n K dX4_takesSign_42 1 rfl rfl ?_
          obtain ⟨r12_, h13_, g14_, hf⟩ := e_2 hf
          refine r_callS (av := [.int p0]) (st := []) K lkX4_80 mwX4_rankOf (conX4_rankOf p0 h2_ r12_ h13_ g14_) dX4_takesSign_43 (Nat.le_of_ble_eq_true rfl) rfl rfl (Nat.le_of_ble_eq_true rfl) ?_
          refine r_istore_n (lv' := [(2, .int r12_), (0, .ref 12), (1, .int p0)]) K dX4_takesSign_46 rfl (Nat.le_of_ble_eq_true rfl) rfl ?_
          refine r_iload_n K dX4_takesSign_47 0 rfl rfl ?_
          refine r_iconst (v := 1) K dX4_takesSign_48 rfl ?_
          refine r_icmp_lt (tgt := 57) K dX4_takesSign_49 (by decide) (fun c15_ => ?_) (fun c15_ => ?_)
          · have hf := e_t hf c15_
            refine r_iconst (v := 0) K dX4_takesSign_57 rfl ?_
            exact r_zret K Z dX4_takesSign_58 rfl hf
          · have hf := e_f hf c15_
            refine r_iload_n K dX4_takesSign_52 0 rfl rfl ?_
            refine r_iconst (v := 5) K dX4_takesSign_53 rfl ?_
            refine r_icmp_le (tgt := 59) K dX4_takesSign_54 (by decide) (fun c16_ => ?_) (fun c16_ => ?_)
            · have hf := e_t hf c16_
              refine r_aload_n K dX4_takesSign_59 1 rfl rfl ?_
              refine r_iload_n K dX4_takesSign_60 0 rfl rfl ?_
              refine r_iconst (v := 3) K dX4_takesSign_61 rfl ?_
              refine r_icmp_ne (tgt := 71) K dX4_takesSign_62 (by decide) (fun c17_ => ?_) (fun c17_ => ?_)
              · have hf := e_f hf c17_
                refine r_iload_n K dX4_takesSign_71 0 rfl rfl ?_
                refine r_lv [1, 2, 0] rfl ?_
                exact sX4_takesSign_72 K Z p0 p0 r12_ r12_ h13_ hf
              · have hf := e_t hf c17_
                refine r_iload_n K dX4_takesSign_65 0 rfl rfl ?_
                refine r_iconst (v := 1) K dX4_takesSign_66 rfl ?_
                refine r_iadd K dX4_takesSign_67 ?_
                refine r_goto (tgt := 72) K dX4_takesSign_68 (by decide) ?_
                refine r_lv [1, 2, 0] rfl ?_
                exact sX4_takesSign_72 K Z p0 p0 r12_ (r12_ + 1) h13_ hf
            · have hf := e_f hf c16_
              refine r_iconst (v := 0) K dX4_takesSign_57 rfl ?_
              exact r_zret K Z dX4_takesSign_58 rfl hf
        · have hf := e_t hf c11_
          refine r_lv [0, 1] rfl ?_
          exact sX4_takesSign_36 K Z p0 p0 h2_ hf
    · have hf := e_t hf c5_
      refine r_aload_n K dX4_takesSign_19 0 rfl rfl ?_
      obtain ⟨r33_, h34_, g35_, hf⟩ := e_2 hf
      refine r_callV (av := []) (st := []) K lkX4_74 mwX4_closes (conX4_closes  h2_ r33_ h34_ g35_) dX4_takesSign_20 rfl (Nat.le_of_ble_eq_true rfl) rfl rfl (Nat.le_of_ble_eq_true rfl) ?_
      obtain ⟨g36_, hf⟩ := e_g hf
      exact r_zret K Z dX4_takesSign_23 g36_ hf
  · have hf := e_f hf c4_
    refine r_aload_n K dX4_takesSign_7 0 rfl rfl ?_
    refine r_iload_n K dX4_takesSign_8 1 rfl rfl ?_
    obtain ⟨r37_, h38_, g39_, hf⟩ := e_2 hf
    refine r_callV (av := [.int p0]) (st := []) K lkX4_71 mwX4_takesDigit (conX4_takesDigit p0 h2_ r37_ h38_ g39_) dX4_takesSign_9 rfl (Nat.le_of_ble_eq_true rfl) rfl rfl (Nat.le_of_ble_eq_true rfl) ?_
    obtain ⟨g40_, hf⟩ := e_g hf
    exact r_zret K Z dX4_takesSign_12 g40_ hf
theorem conX4_takesSign {G : GG} (p0 : Int32) (h : AH) (rv : Int32) (h' : AH) (hf : fX4_takesSign p0 h = some (rv, h')) : Con G 4 yX4_takesSign cX4_takesSign 3 (some .boolean) [.ref 12, .int p0] h (some (.int rv)) h' := con_of mwX4_takesSign (Nat.le_of_ble_eq_true rfl) (fun E K Z => sX4_takesSign K Z p0 h hf)
def fX4_faultOf_55 (p1 : Int32) (x2 : Int32) (h : AH) : Option (Int32 × AH) :=
  if (h.1 12 7) = 0 then bind2 (fX4_endsE  h) fun r6_ h7_ => if r6_ = 0 then some (x2, h7_) else bindV (fX4_emit (-59) h7_) fun h11_ => some ((-1), h11_) else some (x2, h)
set_option maxRecDepth 10000 in
theorem sX4_faultOf_55 {G : GG} {E : EE} {rv : Int32} {h' : AH} (K : OK G E 5 RX4 cX4_faultOf 4) (Z : RT G E (some .int) (some (.int rv)) h') (p1 : Int32) (x2 : Int32) (h : AH) (hf : fX4_faultOf_55 p1 x2 h = some (rv, h')) : JJ G E 4 55 [(0, .ref 12), (2, .int x2)] [] h := by
  unfold fX4_faultOf_55 at hf
  refine r_aload_n K dX4_faultOf_55 0 rfl rfl ?_
  refine r_getI K flX4_34 dX4_faultOf_56 rfl rfl ?_
  refine r_if_ne (tgt := 69) K dX4_faultOf_59 (by decide) (fun c5_ => ?_) (fun c5_ => ?_)
  · have hf := e_f hf c5_
    refine r_iload_n K dX4_faultOf_69 1 rfl rfl ?_
    exact r_iret K Z dX4_faultOf_70 hf
  · have hf := e_t hf c5_
    refine r_aload_n K dX4_faultOf_62 0 rfl rfl ?_
    obtain ⟨r6_, h7_, g8_, hf⟩ := e_2 hf
    refine r_callV (av := []) (st := []) K lkX4_51 mwX4_endsE (conX4_endsE  h r6_ h7_ g8_) dX4_faultOf_63 rfl (Nat.le_of_ble_eq_true rfl) rfl rfl (Nat.le_of_ble_eq_true rfl) ?_
    refine r_if_ne (tgt := 71) K dX4_faultOf_66 (by decide) (fun c9_ => ?_) (fun c9_ => ?_)
    · have hf := e_f hf c9_
      refine r_aload_n K dX4_faultOf_71 0 rfl rfl ?_
      refine r_bipush (v := (-59)) K dX4_faultOf_72 rfl ?_
      obtain ⟨h11_, g12_, hf⟩ := e_v hf
      refine r_callV (av := [.int (-59)]) (st := []) K lkX4_55 mwX4_emit (conX4_emit (-59) h7_ h11_ g12_) dX4_faultOf_74 rfl (Nat.le_of_ble_eq_true rfl) rfl rfl (Nat.le_of_ble_eq_true rfl) ?_
      refine r_iconst (v := (-1)) K dX4_faultOf_77 rfl ?_
      exact r_iret K Z dX4_faultOf_78 hf
    · have hf := e_t hf c9_
      refine r_iload_n K dX4_faultOf_69 1 rfl rfl ?_
      exact r_iret K Z dX4_faultOf_70 hf
def fX4_faultOf_6_b (p1 : Int32) (Q6 : Int32 → Int32 → AH → Option (Int32 × AH)) (x2 : Int32) (x3 : Int32) (h : AH) : Option (Int32 × AH) :=
  if x2 ≤ x3 then fX4_faultOf_55 p1 x2 h else if 120 ≤ x3 then fX4_faultOf_55 p1 x2 h else if (h.1 12 7) = 0 then if inb x3 120 = true then bind2 (fX4_takesSign (h.1 11 (ix x3)) h) fun r16_ h17_ => if r16_ = 0 then some (x3, h17_) else Q6 x2 (x3 + 1) h17_ else none else if inb x3 120 = true then bind2 (fX4_takesOperand (h.1 11 (ix x3)) h) fun r21_ h22_ => if r21_ = 0 then some (x3, h22_) else Q6 x2 (x3 + 1) h22_ else none
def fX4_faultOf_6 (p1 : Int32) : Nat → Int32 → Int32 → AH → Option (Int32 × AH)
  | 0 => fun _ _ _ => none
  | n + 1 => fX4_faultOf_6_b p1 (fX4_faultOf_6 p1 n)
set_option maxRecDepth 10000 in
theorem sX4_faultOf_6_b {G : GG} {E : EE} {rv : Int32} {h' : AH} (K : OK G E 5 RX4 cX4_faultOf 4) (Z : RT G E (some .int) (some (.int rv)) h') (p1 : Int32) (Q6 : Int32 → Int32 → AH → Option (Int32 × AH)) (hQ6 : ∀ (x2 : Int32) (x3 : Int32) (h : AH), Q6 x2 x3 h = some (rv, h') → JJ G E 4 6 [(0, .ref 12), (1, .ref 11), (2, .int x2), (3, .int x3)] [] h) (x2 : Int32) (x3 : Int32) (h : AH) (hf : fX4_faultOf_6_b p1 Q6 x2 x3 h = some (rv, h')) : JJ G E 4 6 [(0, .ref 12), (1, .ref 11), (2, .int x2), (3, .int x3)] [] h := by
  unfold fX4_faultOf_6_b at hf
  refine r_iload_n K dX4_faultOf_6 3 rfl rfl ?_
  refine r_iload_n K dX4_faultOf_7 2 rfl rfl ?_
  refine r_icmp_ge (tgt := 55) K dX4_faultOf_8 (by decide) (fun c4_ => ?_) (fun c4_ => ?_)
  · have hf := e_t hf c4_
    refine r_lv [0, 2] rfl ?_
    exact sX4_faultOf_55 K Z p1 x2 h hf
  · have hf := e_f hf c4_
    refine r_iload_n K dX4_faultOf_11 3 rfl rfl ?_
    refine r_aload_n K dX4_faultOf_12 1 rfl rfl ?_
    refine r_alen (v := 120) K dX4_faultOf_13 rfl rfl ?_
    refine r_icmp_ge (tgt := 55) K dX4_faultOf_14 (by decide) (fun c13_ => ?_) (fun c13_ => ?_)
    · have hf := e_t hf c13_
      refine r_lv [0, 2] rfl ?_
      exact sX4_faultOf_55 K Z p1 x2 h hf
    · have hf := e_f hf c13_
      refine r_aload_n K dX4_faultOf_17 0 rfl rfl ?_
      refine r_getI K flX4_34 dX4_faultOf_18 rfl rfl ?_
      refine r_if_eq (tgt := 37) K dX4_faultOf_21 (by decide) (fun c14_ => ?_) (fun c14_ => ?_)
      · have hf := e_t hf c14_
        refine r_aload_n K dX4_faultOf_37 0 rfl rfl ?_
        refine r_aload_n K dX4_faultOf_38 1 rfl rfl ?_
        refine r_iload_n K dX4_faultOf_39 3 rfl rfl ?_
        obtain ⟨g15_, hf⟩ := e_g hf
        refine r_iald K dX4_faultOf_40 rfl g15_ ?_
        obtain ⟨r16_, h17_, g18_, hf⟩ := e_2 hf
        refine r_callV (av := [.int (h.1 11 (ix x3))]) (st := []) K lkX4_48 mwX4_takesSign (conX4_takesSign (h.1 11 (ix x3)) h r16_ h17_ g18_) dX4_faultOf_41 rfl (Nat.le_of_ble_eq_true rfl) rfl rfl (Nat.le_of_ble_eq_true rfl) ?_
        refine r_if_ne (tgt := 49) K dX4_faultOf_44 (by decide) (fun c19_ => ?_) (fun c19_ => ?_)
        · have hf := e_f hf c19_
          refine r_iinc (y := 1) (lv' := [(3, .int (x3 + 1)), (0, .ref 12), (1, .ref 11), (2, .int x2)]) K dX4_faultOf_49 3 rfl rfl (Nat.le_of_ble_eq_true rfl) rfl ?_
          refine r_goto (tgt := 6) K dX4_faultOf_52 (by decide) ?_
          refine r_lv [1, 2, 3, 0] rfl ?_
          exact hQ6 x2 (x3 + 1) h17_ hf
        · have hf := e_t hf c19_
          refine r_iload_n K dX4_faultOf_47 3 rfl rfl ?_
          exact r_iret K Z dX4_faultOf_48 hf
      · have hf := e_f hf c14_
        refine r_aload_n K dX4_faultOf_24 0 rfl rfl ?_
        refine r_aload_n K dX4_faultOf_25 1 rfl rfl ?_
        refine r_iload_n K dX4_faultOf_26 3 rfl rfl ?_
        obtain ⟨g20_, hf⟩ := e_g hf
        refine r_iald K dX4_faultOf_27 rfl g20_ ?_
        obtain ⟨r21_, h22_, g23_, hf⟩ := e_2 hf
        refine r_callV (av := [.int (h.1 11 (ix x3))]) (st := []) K lkX4_44 mwX4_takesOperand (conX4_takesOperand (h.1 11 (ix x3)) h r21_ h22_ g23_) dX4_faultOf_28 rfl (Nat.le_of_ble_eq_true rfl) rfl rfl (Nat.le_of_ble_eq_true rfl) ?_
        refine r_if_eq (tgt := 47) K dX4_faultOf_31 (by decide) (fun c24_ => ?_) (fun c24_ => ?_)
        · have hf := e_t hf c24_
          refine r_iload_n K dX4_faultOf_47 3 rfl rfl ?_
          exact r_iret K Z dX4_faultOf_48 hf
        · have hf := e_f hf c24_
          refine r_goto (tgt := 49) K dX4_faultOf_34 (by decide) ?_
          refine r_iinc (y := 1) (lv' := [(3, .int (x3 + 1)), (0, .ref 12), (1, .ref 11), (2, .int x2)]) K dX4_faultOf_49 3 rfl rfl (Nat.le_of_ble_eq_true rfl) rfl ?_
          refine r_goto (tgt := 6) K dX4_faultOf_52 (by decide) ?_
          refine r_lv [1, 2, 3, 0] rfl ?_
          exact hQ6 x2 (x3 + 1) h22_ hf
theorem sX4_faultOf_6 {G : GG} {E : EE} {rv : Int32} {h' : AH} (K : OK G E 5 RX4 cX4_faultOf 4) (Z : RT G E (some .int) (some (.int rv)) h') (p1 : Int32) : ∀ (n : Nat) (x2 : Int32) (x3 : Int32) (h : AH), fX4_faultOf_6 p1 n x2 x3 h = some (rv, h') → JJ G E 4 6 [(0, .ref 12), (1, .ref 11), (2, .int x2), (3, .int x3)] [] h := by
  intro n
  induction n with
  | zero => intro x2 x3 h hf; cases hf
  | succ n ih => intro x2 x3 h hf; exact sX4_faultOf_6_b K Z p1 _ (fun x2 x3 h hf => ih x2 x3 h hf) x2 x3 h hf
def fX4_faultOf (p1 : Int32) (h : AH) : Option (Int32 × AH) :=
  bindV (fX4_begin  h) fun h2_ => fX4_faultOf_6 p1 FU p1 0 h2_
set_option maxRecDepth 10000 in
theorem sX4_faultOf {G : GG} {E : EE} {rv : Int32} {h' : AH} (K : OK G E 5 RX4 cX4_faultOf 4) (Z : RT G E (some .int) (some (.int rv)) h') (p1 : Int32) (h : AH) (hf : fX4_faultOf p1 h = some (rv, h')) : JJ G E 4 0 [(0, .ref 12), (1, .ref 11), (2, .int p1)] [] h := by
  unfold fX4_faultOf at hf
  refine r_aload_n K dX4_faultOf_0 0 rfl rfl ?_
  obtain ⟨h2_, g3_, hf⟩ := e_v hf
  refine r_callV (av := []) (st := []) K lkX4_41 mwX4_begin (conX4_begin  h h2_ g3_) dX4_faultOf_1 rfl (Nat.le_of_ble_eq_true rfl) rfl rfl (Nat.le_of_ble_eq_true rfl) ?_
  refine r_iconst (v := 0) K dX4_faultOf_4 rfl ?_
  refine r_istore_n (lv' := [(3, .int 0), (0, .ref 12), (1, .ref 11), (2, .int p1)]) K dX4_faultOf_5 rfl (Nat.le_of_ble_eq_true rfl) rfl ?_
  refine r_lv [1, 2, 3, 0] rfl ?_
  exact sX4_faultOf_6 K Z p1 FU p1 0 h2_ hf
theorem conX4_faultOf {G : GG} (p1 : Int32) (h : AH) (rv : Int32) (h' : AH) (hf : fX4_faultOf p1 h = some (rv, h')) : Con G 5 yX4_faultOf cX4_faultOf 4 (some .int) [.ref 12, .ref 11, .int p1] h (some (.int rv)) h' := con_of mwX4_faultOf (Nat.le_of_ble_eq_true rfl) (fun E K Z => sX4_faultOf K Z p1 h hf)
def fX5_cut (t : Nat) (p0 : Int64) (h : AH) : Option (Int64 × AH) :=
  letV ((h.1 t 2)) fun x1_ => if x1_ = 0 then some (((((((p0 : Int64).toInt32) : Int32).toInt8.toInt32) : Int32).toInt64), h) else if x1_ = 1 then some (((((((p0 : Int64).toInt32) : Int32).toInt16.toInt32) : Int32).toInt64), h) else if x1_ = 2 then some (((((p0 : Int64).toInt32) : Int32).toInt64), h) else if x1_ = 3 then some (p0, h) else if (lg_cmp p0 0) = 0 then some (0, h) else some (1, h)
set_option maxRecDepth 10000 in
theorem sX5_cut {G : GG} {E : EE} {rv : Int64} {h' : AH} (K : OK G E 0 RX5 cX5_cut 3) (Z : RT G E (some .long) (some (.long rv)) h') (t : Nat) (p0 : Int64) (ht : KD t = (5, 5)) (h : AH) (hf : fX5_cut t p0 h = some (rv, h')) : JJ G E 3 0 [(0, .ref t), (1, .long p0)] [] h := by
  unfold fX5_cut at hf
  refine r_aload_n K dX5_cut_0 0 rfl rfl ?_
  refine r_getI K flX5_18 dX5_cut_1 ht rfl ?_
  obtain ⟨x1_, e2_, hf⟩ := e_l hf
  refine r_nmI e2_ ?_
  by_cases c3_ : x1_ = 0
  · have hf := e_t hf c3_
    refine r_tblIn (off := 32) (tgt := 36) K dX5_cut_4 (by rw [c3_]; decide) (by rw [c3_]; decide) (by rw [c3_]; decide) (by decide) ?_
    refine r_lload_n K dX5_cut_36 1 rfl rfl ?_
    refine r_l2i K dX5_cut_37 ?_
    refine r_i2b K dX5_cut_38 ?_
    refine r_i2l K dX5_cut_39 ?_
    exact r_lret K Z dX5_cut_40 hf
  have hf := e_f hf c3_
  by_cases c4_ : x1_ = 1
  · have hf := e_t hf c4_
    refine r_tblIn (off := 37) (tgt := 41) K dX5_cut_4 (by rw [c4_]; decide) (by rw [c4_]; decide) (by rw [c4_]; decide) (by decide) ?_
    refine r_lload_n K dX5_cut_41 1 rfl rfl ?_
    refine r_l2i K dX5_cut_42 ?_
    refine r_i2s K dX5_cut_43 ?_
    refine r_i2l K dX5_cut_44 ?_
    exact r_lret K Z dX5_cut_45 hf
  have hf := e_f hf c4_
  by_cases c5_ : x1_ = 2
  · have hf := e_t hf c5_
    refine r_tblIn (off := 42) (tgt := 46) K dX5_cut_4 (by rw [c5_]; decide) (by rw [c5_]; decide) (by rw [c5_]; decide) (by decide) ?_
    refine r_lload_n K dX5_cut_46 1 rfl rfl ?_
    refine r_l2i K dX5_cut_47 ?_
    refine r_i2l K dX5_cut_48 ?_
    exact r_lret K Z dX5_cut_49 hf
  have hf := e_f hf c5_
  by_cases c6_ : x1_ = 3
  · have hf := e_t hf c6_
    refine r_tblIn (off := 46) (tgt := 50) K dX5_cut_4 (by rw [c6_]; decide) (by rw [c6_]; decide) (by rw [c6_]; decide) (by decide) ?_
    refine r_lload_n K dX5_cut_50 1 rfl rfl ?_
    exact r_lret K Z dX5_cut_51 hf
  have hf := e_f hf c6_
  have hout : x1_.toInt < 0 ∨ 3 < x1_.toInt := by
    have zc3_ := lv_neT (a := 0) c3_ (by decide)
    have zc4_ := lv_neT (a := 1) c4_ (by decide)
    have zc5_ := lv_neT (a := 2) c5_ (by decide)
    have zc6_ := lv_neT (a := 3) c6_ (by decide)
    omega
  refine r_tblOut (tgt := 52) K dX5_cut_4 hout (by decide) ?_
  refine r_lload_n K dX5_cut_52 1 rfl rfl ?_
  refine r_lconst (v := 0) K dX5_cut_53 rfl ?_
  refine r_lcmp K dX5_cut_54 ?_
  refine r_if_eq (tgt := 62) K dX5_cut_55 (by decide) (fun c7_ => ?_) (fun c7_ => ?_)
  · have hf := e_t hf c7_
    refine r_lconst (v := 0) K dX5_cut_62 rfl ?_
    exact r_lret K Z dX5_cut_63 hf
  · have hf := e_f hf c7_
    refine r_lconst (v := 1) K dX5_cut_58 rfl ?_
    refine r_goto (tgt := 63) K dX5_cut_59 (by decide) ?_
    exact r_lret K Z dX5_cut_63 hf
theorem conX5_cut {G : GG} (t : Nat) (p0 : Int64) (ht : KD t = (5, 5)) (h : AH) (rv : Int64) (h' : AH) (hf : fX5_cut t p0 h = some (rv, h')) : Con G 0 yX5_cut cX5_cut 3 (some .long) [.ref t, .long p0] h (some (.long rv)) h' := con_of mwX5_cut (Nat.le_of_ble_eq_true rfl) (fun E K Z => sX5_cut K Z t p0 ht h hf)
def fX5_hasPlaces (t : Nat) (p0 : Int32) (p1 : Int32) (h : AH) : Option (Int32 × AH) :=
  if p0 < 0 then some (0, h) else if p1 < 0 then some (0, h) else if 0 < (lg_cmp (((p0 : Int32).toInt64) + ((p1 : Int32).toInt64)) (((h.1 t 3) : Int32).toInt64)) then some (0, h) else some (1, h)
set_option maxRecDepth 10000 in
theorem sX5_hasPlaces {G : GG} {E : EE} {rv : Int32} {h' : AH} (K : OK G E 0 RX5 cX5_hasPlaces 3) (Z : RT G E (some .boolean) (some (.int rv)) h') (t : Nat) (p0 : Int32) (p1 : Int32) (ht : KD t = (5, 5)) (h : AH) (hf : fX5_hasPlaces t p0 p1 h = some (rv, h')) : JJ G E 3 0 [(0, .ref t), (1, .int p0), (2, .int p1)] [] h := by
  unfold fX5_hasPlaces at hf
  refine r_iload_n K dX5_hasPlaces_0 1 rfl rfl ?_
  refine r_if_lt (tgt := 26) K dX5_hasPlaces_1 (by decide) (fun c1_ => ?_) (fun c1_ => ?_)
  · have hf := e_t hf c1_
    refine r_iconst (v := 0) K dX5_hasPlaces_26 rfl ?_
    exact r_zret K Z dX5_hasPlaces_27 rfl hf
  · have hf := e_f hf c1_
    refine r_iload_n K dX5_hasPlaces_4 2 rfl rfl ?_
    refine r_if_lt (tgt := 26) K dX5_hasPlaces_5 (by decide) (fun c2_ => ?_) (fun c2_ => ?_)
    · have hf := e_t hf c2_
      refine r_iconst (v := 0) K dX5_hasPlaces_26 rfl ?_
      exact r_zret K Z dX5_hasPlaces_27 rfl hf
    · have hf := e_f hf c2_
      refine r_iload_n K dX5_hasPlaces_8 1 rfl rfl ?_
      refine r_i2l K dX5_hasPlaces_9 ?_
      refine r_iload_n K dX5_hasPlaces_10 2 rfl rfl ?_
      refine r_i2l K dX5_hasPlaces_11 ?_
      refine r_ladd K dX5_hasPlaces_12 ?_
      refine r_aload_n K dX5_hasPlaces_13 0 rfl rfl ?_
      refine r_getI K flX5_21 dX5_hasPlaces_14 ht rfl ?_
      refine r_i2l K dX5_hasPlaces_17 ?_
      refine r_lcmp K dX5_hasPlaces_18 ?_
      refine r_if_gt (tgt := 26) K dX5_hasPlaces_19 (by decide) (fun c3_ => ?_) (fun c3_ => ?_)
      · have hf := e_t hf c3_
        refine r_iconst (v := 0) K dX5_hasPlaces_26 rfl ?_
        exact r_zret K Z dX5_hasPlaces_27 rfl hf
      · have hf := e_f hf c3_
        refine r_iconst (v := 1) K dX5_hasPlaces_22 rfl ?_
        refine r_goto (tgt := 27) K dX5_hasPlaces_23 (by decide) ?_
        exact r_zret K Z dX5_hasPlaces_27 rfl hf
theorem conX5_hasPlaces {G : GG} (t : Nat) (p0 : Int32) (p1 : Int32) (ht : KD t = (5, 5)) (h : AH) (rv : Int32) (h' : AH) (hf : fX5_hasPlaces t p0 p1 h = some (rv, h')) : Con G 0 yX5_hasPlaces cX5_hasPlaces 3 (some .boolean) [.ref t, .int p0, .int p1] h (some (.int rv)) h' := con_of mwX5_hasPlaces (Nat.le_of_ble_eq_true rfl) (fun E K Z => sX5_hasPlaces K Z t p0 p1 ht h hf)
def fX5_holdRow_26_b (t : Nat) (p0 : Int32) (p1 : Int32) (Q26 : Int32 → AH → Option AH) (x3 : Int32) (h : AH) : Option AH :=
  if 60 ≤ x3 then some h else if inb x3 60 = true then letV (wL h (rf t 4) (ix x3) 0) fun h9_ => Q26 (x3 + 1) h9_ else none
def fX5_holdRow_26 (t : Nat) (p0 : Int32) (p1 : Int32) : Nat → Int32 → AH → Option AH
  | 0 => fun _ _ => none
  | n + 1 => fX5_holdRow_26_b t p0 p1 (fX5_holdRow_26 t p0 p1 n)
set_option maxRecDepth 10000 in
theorem sX5_holdRow_26_b {G : GG} {E : EE} {h' : AH} (K : OK G E 1 RX5 cX5_holdRow 4) (Z : RT G E none (none) h') (t : Nat) (p0 : Int32) (p1 : Int32) (ht : KD t = (5, 5)) (Q26 : Int32 → AH → Option AH) (hQ26 : ∀ (x3 : Int32) (h : AH), Q26 x3 h = some h' → JJ G E 4 26 [(0, .ref t), (3, .int x3)] [] h) (x3 : Int32) (h : AH) (hf : fX5_holdRow_26_b t p0 p1 Q26 x3 h = some h') : JJ G E 4 26 [(0, .ref t), (3, .int x3)] [] h := by
  unfold fX5_holdRow_26_b at hf
  refine r_iload_n K dX5_holdRow_26 1 rfl rfl ?_
  refine r_bipush (v := 60) K dX5_holdRow_27 rfl ?_
  refine r_icmp_ge (tgt := 45) K dX5_holdRow_29 (by decide) (fun c7_ => ?_) (fun c7_ => ?_)
  · have hf := e_t hf c7_
    exact r_vret K Z dX5_holdRow_45 hf
  · have hf := e_f hf c7_
    refine r_aload_n K dX5_holdRow_32 0 rfl rfl ?_
    refine r_getR (o' := (rf t 4)) K flX5_24 dX5_holdRow_33 ht rfl rfl ?_
    refine r_iload_n K dX5_holdRow_36 1 rfl rfl ?_
    refine r_lconst (v := 0) K dX5_holdRow_37 rfl ?_
    obtain ⟨g8_, hf⟩ := e_g hf
    obtain ⟨h9_, e10_, hf⟩ := e_l hf
    refine r_last K dX5_holdRow_38 (kf5_4 ht) g8_ e10_ ?_
    refine r_iinc (y := 1) (lv' := [(3, .int (x3 + 1)), (0, .ref t)]) K dX5_holdRow_39 1 rfl rfl (Nat.le_of_ble_eq_true rfl) rfl ?_
    refine r_goto (tgt := 26) K dX5_holdRow_42 (by decide) ?_
    refine r_lv [1, 0] rfl ?_
    exact hQ26 (x3 + 1) h9_ hf
theorem sX5_holdRow_26 {G : GG} {E : EE} {h' : AH} (K : OK G E 1 RX5 cX5_holdRow 4) (Z : RT G E none (none) h') (t : Nat) (p0 : Int32) (p1 : Int32) (ht : KD t = (5, 5)) : ∀ (n : Nat) (x3 : Int32) (h : AH), fX5_holdRow_26 t p0 p1 n x3 h = some h' → JJ G E 4 26 [(0, .ref t), (3, .int x3)] [] h := by
  intro n
  induction n with
  | zero => intro x3 h hf; cases hf
  | succ n ih => intro x3 h hf; exact sX5_holdRow_26_b K Z t p0 p1 ht _ (fun x3 h hf => ih x3 h hf) x3 h hf
def fX5_holdRow (t : Nat) (p0 : Int32) (p1 : Int32) (h : AH) : Option AH :=
  letV (wI h t 0 2) fun h1_ => letV (wI h1_ t 2 p0) fun h3_ => letV (wI h3_ t 3 (jmax 0 (jmin 60 p1))) fun h5_ => fX5_holdRow_26 t p0 p1 FU 0 h5_
set_option maxRecDepth 10000 in
theorem sX5_holdRow {G : GG} {E : EE} {h' : AH} (K : OK G E 1 RX5 cX5_holdRow 4) (Z : RT G E none (none) h') (t : Nat) (p0 : Int32) (p1 : Int32) (ht : KD t = (5, 5)) (h : AH) (hf : fX5_holdRow t p0 p1 h = some h') : JJ G E 4 0 [(0, .ref t), (1, .int p0), (2, .int p1)] [] h := by
  unfold fX5_holdRow at hf
  refine r_aload_n K dX5_holdRow_0 0 rfl rfl ?_
  refine r_iconst (v := 2) K dX5_holdRow_1 rfl ?_
  obtain ⟨h1_, e2_, hf⟩ := e_l hf
  refine r_putI K fpX5_11 dX5_holdRow_2 ht rfl e2_ ?_
  refine r_aload_n K dX5_holdRow_5 0 rfl rfl ?_
  refine r_iload_n K dX5_holdRow_6 1 rfl rfl ?_
  obtain ⟨h3_, e4_, hf⟩ := e_l hf
  refine r_putI K fpX5_18 dX5_holdRow_7 ht rfl e4_ ?_
  refine r_aload_n K dX5_holdRow_10 0 rfl rfl ?_
  refine r_iconst (v := 0) K dX5_holdRow_11 rfl ?_
  refine r_bipush (v := 60) K dX5_holdRow_12 rfl ?_
  refine r_iload_n K dX5_holdRow_14 2 rfl rfl ?_
  refine r_mmin K lmX5_28 dX5_holdRow_15 (Nat.le_of_ble_eq_true rfl) (Nat.le_of_ble_eq_true rfl) ?_
  refine r_mmax K lmX5_34 dX5_holdRow_18 (Nat.le_of_ble_eq_true rfl) (Nat.le_of_ble_eq_true rfl) ?_
  obtain ⟨h5_, e6_, hf⟩ := e_l hf
  refine r_putI K fpX5_21 dX5_holdRow_21 ht rfl e6_ ?_
  refine r_iconst (v := 0) K dX5_holdRow_24 rfl ?_
  refine r_istore_n (lv' := [(3, .int 0), (0, .ref t), (1, .int p0), (2, .int p1)]) K dX5_holdRow_25 rfl (Nat.le_of_ble_eq_true rfl) rfl ?_
  refine r_lv [1, 0] rfl ?_
  exact sX5_holdRow_26 K Z t p0 p1 ht FU 0 h5_ hf
theorem conX5_holdRow {G : GG} (t : Nat) (p0 : Int32) (p1 : Int32) (ht : KD t = (5, 5)) (h : AH) (h' : AH) (hf : fX5_holdRow t p0 p1 h = some h') : Con G 1 yX5_holdRow cX5_holdRow 4 none [.ref t, .int p0, .int p1] h (none) h' := con_of mwX5_holdRow (Nat.le_of_ble_eq_true rfl) (fun E K Z => sX5_holdRow K Z t p0 p1 ht h hf)
def fX5_isRowOf (t : Nat) (p0 : Int32) (h : AH) : Option (Int32 × AH) :=
  if (h.1 t 0) = 2 then if (h.1 t 2) = p0 then some (1, h) else some (0, h) else some (0, h)
set_option maxRecDepth 10000 in
theorem sX5_isRowOf {G : GG} {E : EE} {rv : Int32} {h' : AH} (K : OK G E 0 RX5 cX5_isRowOf 2) (Z : RT G E (some .boolean) (some (.int rv)) h') (t : Nat) (p0 : Int32) (ht : KD t = (5, 5)) (h : AH) (hf : fX5_isRowOf t p0 h = some (rv, h')) : JJ G E 2 0 [(0, .ref t), (1, .int p0)] [] h := by
  unfold fX5_isRowOf at hf
  refine r_aload_n K dX5_isRowOf_0 0 rfl rfl ?_
  refine r_getI K flX5_11 dX5_isRowOf_1 ht rfl ?_
  refine r_iconst (v := 2) K dX5_isRowOf_4 rfl ?_
  refine r_icmp_ne (tgt := 20) K dX5_isRowOf_5 (by decide) (fun c1_ => ?_) (fun c1_ => ?_)
  · have hf := e_f hf c1_
    refine r_iconst (v := 0) K dX5_isRowOf_20 rfl ?_
    exact r_zret K Z dX5_isRowOf_21 rfl hf
  · have hf := e_t hf c1_
    refine r_aload_n K dX5_isRowOf_8 0 rfl rfl ?_
    refine r_getI K flX5_18 dX5_isRowOf_9 ht rfl ?_
    refine r_iload_n K dX5_isRowOf_12 1 rfl rfl ?_
    refine r_icmp_ne (tgt := 20) K dX5_isRowOf_13 (by decide) (fun c2_ => ?_) (fun c2_ => ?_)
    · have hf := e_f hf c2_
      refine r_iconst (v := 0) K dX5_isRowOf_20 rfl ?_
      exact r_zret K Z dX5_isRowOf_21 rfl hf
    · have hf := e_t hf c2_
      refine r_iconst (v := 1) K dX5_isRowOf_16 rfl ?_
      refine r_goto (tgt := 21) K dX5_isRowOf_17 (by decide) ?_
      exact r_zret K Z dX5_isRowOf_21 rfl hf
theorem conX5_isRowOf {G : GG} (t : Nat) (p0 : Int32) (ht : KD t = (5, 5)) (h : AH) (rv : Int32) (h' : AH) (hf : fX5_isRowOf t p0 h = some (rv, h')) : Con G 0 yX5_isRowOf cX5_isRowOf 2 (some .boolean) [.ref t, .int p0] h (some (.int rv)) h' := con_of mwX5_isRowOf (Nat.le_of_ble_eq_true rfl) (fun E K Z => sX5_isRowOf K Z t p0 ht h hf)
def fX7_passMinute_64_b (t : Nat) (Q64 : Int32 → AH → Option AH) (x1 : Int32) (h : AH) : Option AH :=
  if (h.1 t 9) ≤ x1 then letV (wI h t 11 (jmin 199 ((h.1 t 11) + 1))) fun h3_ => some h3_ else if inb x1 9 = true then if (h.1 (rf t 5) (ix x1)) = 0 then letV (wI h (rf t 0) (ix x1) (jmax 0 (jmin 99 ((h.1 (rf t 0) (ix x1)) - (h.1 (rf t 1) (ix x1)))))) fun h10_ => Q64 (x1 + 1) h10_ else Q64 (x1 + 1) h else none
def fX7_passMinute_64 (t : Nat) : Nat → Int32 → AH → Option AH
  | 0 => fun _ _ => none
  | n + 1 => fX7_passMinute_64_b t (fX7_passMinute_64 t n)
set_option maxRecDepth 10000 in
theorem sX7_passMinute_64_b {G : GG} {E : EE} {h' : AH} (K : OK G E 2 RX7 cX7_passMinute 2) (Z : RT G E none (none) h') (t : Nat) (ht : KD t = (7, 12)) (Q64 : Int32 → AH → Option AH) (hQ64 : ∀ (x1 : Int32) (h : AH), Q64 x1 h = some h' → JJ G E 2 64 [(0, .ref t), (1, .int x1)] [] h) (x1 : Int32) (h : AH) (hf : fX7_passMinute_64_b t Q64 x1 h = some h') : JJ G E 2 64 [(0, .ref t), (1, .int x1)] [] h := by
  unfold fX7_passMinute_64_b at hf
  refine r_iload_n K dX7_passMinute_64 1 rfl rfl ?_
  refine r_aload_n K dX7_passMinute_65 0 rfl rfl ?_
  refine r_getI K flX7_39 dX7_passMinute_66 ht rfl ?_
  refine r_icmp_ge (tgt := 115) K dX7_passMinute_69 (by decide) (fun c2_ => ?_) (fun c2_ => ?_)
  · have hf := e_t hf c2_
    refine r_aload_n K dX7_passMinute_115 0 rfl rfl ?_
    refine r_sipush (v := 199) K dX7_passMinute_116 rfl ?_
    refine r_aload_n K dX7_passMinute_119 0 rfl rfl ?_
    refine r_getI K flX7_46 dX7_passMinute_120 ht rfl ?_
    refine r_iconst (v := 1) K dX7_passMinute_123 rfl ?_
    refine r_iadd K dX7_passMinute_124 ?_
    refine r_mmin K lmX7_64 dX7_passMinute_125 (Nat.le_of_ble_eq_true rfl) (Nat.le_of_ble_eq_true rfl) ?_
    obtain ⟨h3_, e4_, hf⟩ := e_l hf
    refine r_putI K fpX7_46 dX7_passMinute_128 ht rfl e4_ ?_
    exact r_vret K Z dX7_passMinute_131 hf
  · have hf := e_f hf c2_
    refine r_aload_n K dX7_passMinute_72 0 rfl rfl ?_
    refine r_getR (o' := (rf t 5)) K flX7_27 dX7_passMinute_73 ht rfl rfl ?_
    refine r_iload_n K dX7_passMinute_76 1 rfl rfl ?_
    obtain ⟨g5_, hf⟩ := e_g hf
    refine r_iald K dX7_passMinute_77 (kf7_5 ht) g5_ ?_
    refine r_if_ne (tgt := 109) K dX7_passMinute_78 (by decide) (fun c6_ => ?_) (fun c6_ => ?_)
    · have hf := e_f hf c6_
      refine r_iinc (y := 1) (lv' := [(1, .int (x1 + 1)), (0, .ref t)]) K dX7_passMinute_109 1 rfl rfl (Nat.le_of_ble_eq_true rfl) rfl ?_
      refine r_goto (tgt := 64) K dX7_passMinute_112 (by decide) ?_
      refine r_lv [1, 0] rfl ?_
      exact hQ64 (x1 + 1) h hf
    · have hf := e_t hf c6_
      refine r_aload_n K dX7_passMinute_81 0 rfl rfl ?_
      refine r_getR (o' := (rf t 0)) K flX7_9 dX7_passMinute_82 ht rfl rfl ?_
      refine r_iload_n K dX7_passMinute_85 1 rfl rfl ?_
      refine r_iconst (v := 0) K dX7_passMinute_86 rfl ?_
      refine r_bipush (v := 99) K dX7_passMinute_87 rfl ?_
      refine r_aload_n K dX7_passMinute_89 0 rfl rfl ?_
      refine r_getR (o' := (rf t 0)) K flX7_9 dX7_passMinute_90 ht rfl rfl ?_
      refine r_iload_n K dX7_passMinute_93 1 rfl rfl ?_
      refine r_iald K dX7_passMinute_94 (kf7_0 ht) g5_ ?_
      refine r_aload_n K dX7_passMinute_95 0 rfl rfl ?_
      refine r_getR (o' := (rf t 1)) K flX7_15 dX7_passMinute_96 ht rfl rfl ?_
      refine r_iload_n K dX7_passMinute_99 1 rfl rfl ?_
      refine r_iald K dX7_passMinute_100 (kf7_1 ht) g5_ ?_
      refine r_isub K dX7_passMinute_101 ?_
      refine r_mmin K lmX7_64 dX7_passMinute_102 (Nat.le_of_ble_eq_true rfl) (Nat.le_of_ble_eq_true rfl) ?_
      refine r_mmax K lmX7_70 dX7_passMinute_105 (Nat.le_of_ble_eq_true rfl) (Nat.le_of_ble_eq_true rfl) ?_
      obtain ⟨h10_, e11_, hf⟩ := e_l hf
      refine r_iast K dX7_passMinute_108 (kf7_0 ht) g5_ e11_ ?_
      refine r_iinc (y := 1) (lv' := [(1, .int (x1 + 1)), (0, .ref t)]) K dX7_passMinute_109 1 rfl rfl (Nat.le_of_ble_eq_true rfl) rfl ?_
      refine r_goto (tgt := 64) K dX7_passMinute_112 (by decide) ?_
      refine r_lv [1, 0] rfl ?_
      exact hQ64 (x1 + 1) h10_ hf
theorem sX7_passMinute_64 {G : GG} {E : EE} {h' : AH} (K : OK G E 2 RX7 cX7_passMinute 2) (Z : RT G E none (none) h') (t : Nat) (ht : KD t = (7, 12)) : ∀ (n : Nat) (x1 : Int32) (h : AH), fX7_passMinute_64 t n x1 h = some h' → JJ G E 2 64 [(0, .ref t), (1, .int x1)] [] h := by
  intro n
  induction n with
  | zero => intro x1 h hf; cases hf
  | succ n ih => intro x1 h hf; exact sX7_passMinute_64_b K Z t ht _ (fun x1 h hf => ih x1 h hf) x1 h hf
def fX7_passMinute_2_b (t : Nat) (Q2 : Int32 → AH → Option AH) (x1 : Int32) (h : AH) : Option AH :=
  if (h.1 t 10) ≤ x1 then fX7_passMinute_64 t FU 0 h else if inb x1 13 = true then if (h.1 (rf t 7) (ix x1)) = (h.1 t 11) then bind2 (fX7_isLeft t (h.1 (rf t 6) (ix x1)) h) fun r15_ h16_ => if r15_ = 0 then Q2 (x1 + 1) h16_ else if inb (h16_.1 (rf t 6) (ix x1)) 9 = true then letV (wI h16_ (rf t 0) (ix (h16_.1 (rf t 6) (ix x1))) ((h16_.1 (rf t 0) (ix (h16_.1 (rf t 6) (ix x1)))) + (h16_.1 (rf t 8) (ix x1)))) fun h23_ => Q2 (x1 + 1) h23_ else none else Q2 (x1 + 1) h else none
def fX7_passMinute_2 (t : Nat) : Nat → Int32 → AH → Option AH
  | 0 => fun _ _ => none
  | n + 1 => fX7_passMinute_2_b t (fX7_passMinute_2 t n)
set_option maxRecDepth 10000 in
theorem sX7_passMinute_2_b {G : GG} {E : EE} {h' : AH} (K : OK G E 2 RX7 cX7_passMinute 2) (Z : RT G E none (none) h') (t : Nat) (ht : KD t = (7, 12)) (Q2 : Int32 → AH → Option AH) (hQ2 : ∀ (x1 : Int32) (h : AH), Q2 x1 h = some h' → JJ G E 2 2 [(0, .ref t), (1, .int x1)] [] h) (x1 : Int32) (h : AH) (hf : fX7_passMinute_2_b t Q2 x1 h = some h') : JJ G E 2 2 [(0, .ref t), (1, .int x1)] [] h := by
  unfold fX7_passMinute_2_b at hf
  refine r_iload_n K dX7_passMinute_2 1 rfl rfl ?_
  refine r_aload_n K dX7_passMinute_3 0 rfl rfl ?_
  refine r_getI K flX7_43 dX7_passMinute_4 ht rfl ?_
  refine r_icmp_ge (tgt := 62) K dX7_passMinute_7 (by decide) (fun c1_ => ?_) (fun c1_ => ?_)
  · have hf := e_t hf c1_
    refine r_iconst (v := 0) K dX7_passMinute_62 rfl ?_
    refine r_istore_n (lv' := [(1, .int 0), (0, .ref t)]) K dX7_passMinute_63 rfl (Nat.le_of_ble_eq_true rfl) rfl ?_
    refine r_lv [1, 0] rfl ?_
    exact sX7_passMinute_64 K Z t ht FU 0 h hf
  · have hf := e_f hf c1_
    refine r_aload_n K dX7_passMinute_10 0 rfl rfl ?_
    refine r_getR (o' := (rf t 7)) K flX7_33 dX7_passMinute_11 ht rfl rfl ?_
    refine r_iload_n K dX7_passMinute_14 1 rfl rfl ?_
    obtain ⟨g12_, hf⟩ := e_g hf
    refine r_iald K dX7_passMinute_15 (kf7_7 ht) g12_ ?_
    refine r_aload_n K dX7_passMinute_16 0 rfl rfl ?_
    refine r_getI K flX7_46 dX7_passMinute_17 ht rfl ?_
    refine r_icmp_ne (tgt := 56) K dX7_passMinute_20 (by decide) (fun c13_ => ?_) (fun c13_ => ?_)
    · have hf := e_f hf c13_
      refine r_iinc (y := 1) (lv' := [(1, .int (x1 + 1)), (0, .ref t)]) K dX7_passMinute_56 1 rfl rfl (Nat.le_of_ble_eq_true rfl) rfl ?_
      refine r_goto (tgt := 2) K dX7_passMinute_59 (by decide) ?_
      refine r_lv [1, 0] rfl ?_
      exact hQ2 (x1 + 1) h hf
    · have hf := e_t hf c13_
      refine r_aload_n K dX7_passMinute_23 0 rfl rfl ?_
      refine r_aload_n K dX7_passMinute_24 0 rfl rfl ?_
      refine r_getR (o' := (rf t 6)) K flX7_30 dX7_passMinute_25 ht rfl rfl ?_
      refine r_iload_n K dX7_passMinute_28 1 rfl rfl ?_
      refine r_iald K dX7_passMinute_29 (kf7_6 ht) g12_ ?_
      obtain ⟨r15_, h16_, g17_, hf⟩ := e_2 hf
      refine r_callV (av := [.int (h.1 (rf t 6) (ix x1))]) (st := []) K lkX7_61 mwX7_isLeft (conX7_isLeft t (h.1 (rf t 6) (ix x1)) ht h r15_ h16_ g17_) dX7_passMinute_30 ht (Nat.le_of_ble_eq_true rfl) rfl rfl (Nat.le_of_ble_eq_true rfl) ?_
      refine r_if_eq (tgt := 56) K dX7_passMinute_33 (by decide) (fun c18_ => ?_) (fun c18_ => ?_)
      · have hf := e_t hf c18_
        refine r_iinc (y := 1) (lv' := [(1, .int (x1 + 1)), (0, .ref t)]) K dX7_passMinute_56 1 rfl rfl (Nat.le_of_ble_eq_true rfl) rfl ?_
        refine r_goto (tgt := 2) K dX7_passMinute_59 (by decide) ?_
        refine r_lv [1, 0] rfl ?_
        exact hQ2 (x1 + 1) h16_ hf
      · have hf := e_f hf c18_
        refine r_aload_n K dX7_passMinute_36 0 rfl rfl ?_
        refine r_getR (o' := (rf t 0)) K flX7_9 dX7_passMinute_37 ht rfl rfl ?_
        refine r_aload_n K dX7_passMinute_40 0 rfl rfl ?_
        refine r_getR (o' := (rf t 6)) K flX7_30 dX7_passMinute_41 ht rfl rfl ?_
        refine r_iload_n K dX7_passMinute_44 1 rfl rfl ?_
        refine r_iald K dX7_passMinute_45 (kf7_6 ht) g12_ ?_
        refine r_dup2 K dX7_passMinute_46 rfl rfl ?_
        obtain ⟨g20_, hf⟩ := e_g hf
        refine r_iald K dX7_passMinute_47 (kf7_0 ht) g20_ ?_
        refine r_aload_n K dX7_passMinute_48 0 rfl rfl ?_
        refine r_getR (o' := (rf t 8)) K flX7_36 dX7_passMinute_49 ht rfl rfl ?_
        refine r_iload_n K dX7_passMinute_52 1 rfl rfl ?_
        refine r_iald K dX7_passMinute_53 (kf7_8 ht) g12_ ?_
        refine r_iadd K dX7_passMinute_54 ?_
        obtain ⟨h23_, e24_, hf⟩ := e_l hf
        refine r_iast K dX7_passMinute_55 (kf7_0 ht) g20_ e24_ ?_
        refine r_iinc (y := 1) (lv' := [(1, .int (x1 + 1)), (0, .ref t)]) K dX7_passMinute_56 1 rfl rfl (Nat.le_of_ble_eq_true rfl) rfl ?_
        refine r_goto (tgt := 2) K dX7_passMinute_59 (by decide) ?_
        refine r_lv [1, 0] rfl ?_
        exact hQ2 (x1 + 1) h23_ hf
theorem sX7_passMinute_2 {G : GG} {E : EE} {h' : AH} (K : OK G E 2 RX7 cX7_passMinute 2) (Z : RT G E none (none) h') (t : Nat) (ht : KD t = (7, 12)) : ∀ (n : Nat) (x1 : Int32) (h : AH), fX7_passMinute_2 t n x1 h = some h' → JJ G E 2 2 [(0, .ref t), (1, .int x1)] [] h := by
  intro n
  induction n with
  | zero => intro x1 h hf; cases hf
  | succ n ih => intro x1 h hf; exact sX7_passMinute_2_b K Z t ht _ (fun x1 h hf => ih x1 h hf) x1 h hf
def fX7_passMinute (t : Nat) (h : AH) : Option AH :=
  fX7_passMinute_2 t FU 0 h
set_option maxRecDepth 10000 in
theorem sX7_passMinute {G : GG} {E : EE} {h' : AH} (K : OK G E 2 RX7 cX7_passMinute 2) (Z : RT G E none (none) h') (t : Nat) (ht : KD t = (7, 12)) (h : AH) (hf : fX7_passMinute t h = some h') : JJ G E 2 0 [(0, .ref t)] [] h := by
  unfold fX7_passMinute at hf
  refine r_iconst (v := 0) K dX7_passMinute_0 rfl ?_
  refine r_istore_n (lv' := [(1, .int 0), (0, .ref t)]) K dX7_passMinute_1 rfl (Nat.le_of_ble_eq_true rfl) rfl ?_
  refine r_lv [1, 0] rfl ?_
  exact sX7_passMinute_2 K Z t ht FU 0 h hf
theorem conX7_passMinute {G : GG} (t : Nat) (ht : KD t = (7, 12)) (h : AH) (h' : AH) (hf : fX7_passMinute t h = some h') : Con G 2 yX7_passMinute cX7_passMinute 2 none [.ref t] h (none) h' := con_of mwX7_passMinute (Nat.le_of_ble_eq_true rfl) (fun E K Z => sX7_passMinute K Z t ht h hf)
def fX6_allGo_48 (p0 : Int32) (Q12 : Int32 → Int32 → AH → Option AH) (x1 : Int32) (x2 : Int32) (x3 : Int32) (h : AH) : Option AH :=
  bind2 (fX7_isLeft 19 x3 h) fun r10_ h11_ => if r10_ = 0 then some h11_ else if inb (h11_.1 18 4) 9 = true then letV (wI h11_ 29 (ix (h11_.1 18 4)) x3) fun h15_ => letV (wI h15_ 18 4 ((h15_.1 18 4) + 1)) fun h17_ => if inb x3 9 = true then letV (wI h17_ 18 5 ((h17_.1 18 5) + (h17_.1 20 (ix x3)))) fun h20_ => letV (wI h20_ 25 (ix x3) 1) fun h23_ => bindV (fX7_passMinute 19 h23_) fun h26_ => Q12 x1 (x2 + 1) h26_ else none else none
set_option maxRecDepth 10000 in
theorem sX6_allGo_48 {G : GG} {E : EE} {h' : AH} (K : OK G E 4 RX6 cX6_allGo 4) (Z : RT G E none (none) h') (p0 : Int32) (Q12 : Int32 → Int32 → AH → Option AH) (hQ12 : ∀ (x1 : Int32) (x2 : Int32) (h : AH), Q12 x1 x2 h = some h' → JJ G E 4 12 [(0, .ref 18), (1, .int x1), (2, .int x2)] [] h) (x1 : Int32) (x2 : Int32) (x3 : Int32) (h : AH) (hf : fX6_allGo_48 p0 Q12 x1 x2 x3 h = some h') : JJ G E 4 48 [(0, .ref 18), (1, .int x1), (2, .int x2), (3, .int x3)] [] h := by
  unfold fX6_allGo_48 at hf
  refine r_aload_n K dX6_allGo_48 0 rfl rfl ?_
  refine r_getR (o' := 19) K flX6_12 dX6_allGo_49 rfl rfl rfl ?_
  refine r_iload_n K dX6_allGo_52 3 rfl rfl ?_
  obtain ⟨r10_, h11_, g12_, hf⟩ := e_2 hf
  refine r_callV (av := [.int x3]) (st := []) K lkX6_52 mwX7_isLeft (conX7_isLeft 19 x3 rfl h r10_ h11_ g12_) dX6_allGo_53 rfl (Nat.le_of_ble_eq_true rfl) rfl rfl (Nat.le_of_ble_eq_true rfl) ?_
  refine r_if_ne (tgt := 60) K dX6_allGo_56 (by decide) (fun c13_ => ?_) (fun c13_ => ?_)
  · have hf := e_f hf c13_
    refine r_aload_n K dX6_allGo_60 0 rfl rfl ?_
    refine r_getR (o' := 29) K flX6_18 dX6_allGo_61 rfl rfl rfl ?_
    refine r_aload_n K dX6_allGo_64 0 rfl rfl ?_
    refine r_getI K flX6_22 dX6_allGo_65 rfl rfl ?_
    refine r_iload_n K dX6_allGo_68 3 rfl rfl ?_
    obtain ⟨g14_, hf⟩ := e_g hf
    obtain ⟨h15_, e16_, hf⟩ := e_l hf
    refine r_iast K dX6_allGo_69 rfl g14_ e16_ ?_
    refine r_aload_n K dX6_allGo_70 0 rfl rfl ?_
    refine r_dup K dX6_allGo_71 rfl ?_
    refine r_getI K flX6_22 dX6_allGo_72 rfl rfl ?_
    refine r_iconst (v := 1) K dX6_allGo_75 rfl ?_
    refine r_iadd K dX6_allGo_76 ?_
    obtain ⟨h17_, e18_, hf⟩ := e_l hf
    refine r_putI K fpX6_22 dX6_allGo_77 rfl rfl e18_ ?_
    refine r_aload_n K dX6_allGo_80 0 rfl rfl ?_
    refine r_dup K dX6_allGo_81 rfl ?_
    refine r_getI K flX6_26 dX6_allGo_82 rfl rfl ?_
    refine r_aload_n K dX6_allGo_85 0 rfl rfl ?_
    refine r_getR (o' := 19) K flX6_12 dX6_allGo_86 rfl rfl rfl ?_
    refine r_getR (o' := 20) K flX6_56 dX6_allGo_89 rfl rfl rfl ?_
    refine r_iload_n K dX6_allGo_92 3 rfl rfl ?_
    obtain ⟨g19_, hf⟩ := e_g hf
    refine r_iald K dX6_allGo_93 rfl g19_ ?_
    refine r_iadd K dX6_allGo_94 ?_
    obtain ⟨h20_, e21_, hf⟩ := e_l hf
    refine r_putI K fpX6_26 dX6_allGo_95 rfl rfl e21_ ?_
    refine r_aload_n K dX6_allGo_98 0 rfl rfl ?_
    refine r_getR (o' := 19) K flX6_12 dX6_allGo_99 rfl rfl rfl ?_
    refine r_getR (o' := 25) K flX6_59 dX6_allGo_102 rfl rfl rfl ?_
    refine r_iload_n K dX6_allGo_105 3 rfl rfl ?_
    refine r_iconst (v := 1) K dX6_allGo_106 rfl ?_
    obtain ⟨h23_, e24_, hf⟩ := e_l hf
    refine r_iast K dX6_allGo_107 rfl g19_ e24_ ?_
    refine r_aload_n K dX6_allGo_108 0 rfl rfl ?_
    refine r_getR (o' := 19) K flX6_12 dX6_allGo_109 rfl rfl rfl ?_
    obtain ⟨h26_, g27_, hf⟩ := e_v hf
    refine r_callV (av := []) (st := []) K lkX6_43 mwX7_passMinute (conX7_passMinute 19 rfl h23_ h26_ g27_) dX6_allGo_112 rfl (Nat.le_of_ble_eq_true rfl) rfl rfl (Nat.le_of_ble_eq_true rfl) ?_
    refine r_iinc (y := 1) (lv' := [(2, .int (x2 + 1)), (0, .ref 18), (1, .int x1), (3, .int x3)]) K dX6_allGo_115 2 rfl rfl (Nat.le_of_ble_eq_true rfl) rfl ?_
    refine r_goto (tgt := 12) K dX6_allGo_118 (by decide) ?_
    refine r_lv [1, 2, 0] rfl ?_
    exact hQ12 x1 (x2 + 1) h26_ hf
  · have hf := e_t hf c13_
    exact r_vret K Z dX6_allGo_59 hf
def fX6_allGo_12_b (p0 : Int32) (Q12 : Int32 → Int32 → AH → Option AH) (x1 : Int32) (x2 : Int32) (h : AH) : Option AH :=
  if 9 ≤ x2 then some h else bind2 (fX3_sorriest 19 x1 h) fun r6_ h7_ => if 0 ≤ r6_ then fX6_allGo_48 p0 Q12 x1 x2 r6_ h7_ else bind2 (fX7_isLeft 19 x1 h7_) fun r28_ h29_ => if r28_ = 0 then fX6_allGo_48 p0 Q12 x1 x2 r6_ h29_ else fX6_allGo_48 p0 Q12 x1 x2 x1 h29_
def fX6_allGo_12 (p0 : Int32) : Nat → Int32 → Int32 → AH → Option AH
  | 0 => fun _ _ _ => none
  | n + 1 => fX6_allGo_12_b p0 (fX6_allGo_12 p0 n)
set_option maxRecDepth 10000 in
theorem sX6_allGo_12_b {G : GG} {E : EE} {h' : AH} (K : OK G E 4 RX6 cX6_allGo 4) (Z : RT G E none (none) h') (p0 : Int32) (Q12 : Int32 → Int32 → AH → Option AH) (hQ12 : ∀ (x1 : Int32) (x2 : Int32) (h : AH), Q12 x1 x2 h = some h' → JJ G E 4 12 [(0, .ref 18), (1, .int x1), (2, .int x2)] [] h) (x1 : Int32) (x2 : Int32) (h : AH) (hf : fX6_allGo_12_b p0 Q12 x1 x2 h = some h') : JJ G E 4 12 [(0, .ref 18), (1, .int x1), (2, .int x2)] [] h := by
  unfold fX6_allGo_12_b at hf
  refine r_iload_n K dX6_allGo_12 2 rfl rfl ?_
  refine r_bipush (v := 9) K dX6_allGo_13 rfl ?_
  refine r_icmp_ge (tgt := 121) K dX6_allGo_15 (by decide) (fun c5_ => ?_) (fun c5_ => ?_)
  · have hf := e_t hf c5_
    exact r_vret K Z dX6_allGo_121 hf
  · have hf := e_f hf c5_
    refine r_aload_n K dX6_allGo_18 0 rfl rfl ?_
    refine r_getR (o' := 15) K flX6_35 dX6_allGo_19 rfl rfl rfl ?_
    refine r_aload_n K dX6_allGo_22 0 rfl rfl ?_
    refine r_getR (o' := 19) K flX6_12 dX6_allGo_23 rfl rfl rfl ?_
    refine r_iload_n K dX6_allGo_26 1 rfl rfl ?_
    obtain ⟨r6_, h7_, g8_, hf⟩ := e_2 hf
    refine r_callV (av := [.ref 19, .int x1]) (st := []) K lkX6_46 mwX3_sorriest (conX3_sorriest 19 x1 rfl h r6_ h7_ g8_) dX6_allGo_27 rfl (Nat.le_of_ble_eq_true rfl) rfl rfl (Nat.le_of_ble_eq_true rfl) ?_
    refine r_istore_n (lv' := [(3, .int r6_), (0, .ref 18), (1, .int x1), (2, .int x2)]) K dX6_allGo_30 rfl (Nat.le_of_ble_eq_true rfl) rfl ?_
    refine r_iload_n K dX6_allGo_31 0 rfl rfl ?_
    refine r_if_ge (tgt := 48) K dX6_allGo_32 (by decide) (fun c9_ => ?_) (fun c9_ => ?_)
    · have hf := e_t hf c9_
      refine r_lv [1, 2, 3, 0] rfl ?_
      exact sX6_allGo_48 K Z p0 Q12 hQ12 x1 x2 r6_ h7_ hf
    · have hf := e_f hf c9_
      refine r_aload_n K dX6_allGo_35 1 rfl rfl ?_
      refine r_getR (o' := 19) K flX6_12 dX6_allGo_36 rfl rfl rfl ?_
      refine r_iload_n K dX6_allGo_39 2 rfl rfl ?_
      obtain ⟨r28_, h29_, g30_, hf⟩ := e_2 hf
      refine r_callV (av := [.int x1]) (st := []) K lkX6_52 mwX7_isLeft (conX7_isLeft 19 x1 rfl h7_ r28_ h29_ g30_) dX6_allGo_40 rfl (Nat.le_of_ble_eq_true rfl) rfl rfl (Nat.le_of_ble_eq_true rfl) ?_
      refine r_if_eq (tgt := 48) K dX6_allGo_43 (by decide) (fun c31_ => ?_) (fun c31_ => ?_)
      · have hf := e_t hf c31_
        refine r_lv [1, 2, 3, 0] rfl ?_
        exact sX6_allGo_48 K Z p0 Q12 hQ12 x1 x2 r6_ h29_ hf
      · have hf := e_f hf c31_
        refine r_iload_n K dX6_allGo_46 2 rfl rfl ?_
        refine r_istore_n (lv' := [(3, .int x1), (0, .ref 18), (1, .int x1), (2, .int x2)]) K dX6_allGo_47 rfl (Nat.le_of_ble_eq_true rfl) rfl ?_
        refine r_lv [1, 2, 3, 0] rfl ?_
        exact sX6_allGo_48 K Z p0 Q12 hQ12 x1 x2 x1 h29_ hf
theorem sX6_allGo_12 {G : GG} {E : EE} {h' : AH} (K : OK G E 4 RX6 cX6_allGo 4) (Z : RT G E none (none) h') (p0 : Int32) : ∀ (n : Nat) (x1 : Int32) (x2 : Int32) (h : AH), fX6_allGo_12 p0 n x1 x2 h = some h' → JJ G E 4 12 [(0, .ref 18), (1, .int x1), (2, .int x2)] [] h := by
  intro n
  induction n with
  | zero => intro x1 x2 h hf; cases hf
  | succ n ih => intro x1 x2 h hf; exact sX6_allGo_12_b K Z p0 _ (fun x1 x2 h hf => ih x1 x2 h hf) x1 x2 h hf
def fX6_allGo (p0 : Int32) (h : AH) : Option AH :=
  letV (wI h 18 4 0) fun h1_ => letV (wI h1_ 18 5 0) fun h3_ => fX6_allGo_12 p0 FU p0 0 h3_
set_option maxRecDepth 10000 in
theorem sX6_allGo {G : GG} {E : EE} {h' : AH} (K : OK G E 4 RX6 cX6_allGo 4) (Z : RT G E none (none) h') (p0 : Int32) (h : AH) (hf : fX6_allGo p0 h = some h') : JJ G E 4 0 [(0, .ref 18), (1, .int p0)] [] h := by
  unfold fX6_allGo at hf
  refine r_aload_n K dX6_allGo_0 0 rfl rfl ?_
  refine r_iconst (v := 0) K dX6_allGo_1 rfl ?_
  obtain ⟨h1_, e2_, hf⟩ := e_l hf
  refine r_putI K fpX6_22 dX6_allGo_2 rfl rfl e2_ ?_
  refine r_aload_n K dX6_allGo_5 0 rfl rfl ?_
  refine r_iconst (v := 0) K dX6_allGo_6 rfl ?_
  obtain ⟨h3_, e4_, hf⟩ := e_l hf
  refine r_putI K fpX6_26 dX6_allGo_7 rfl rfl e4_ ?_
  refine r_iconst (v := 0) K dX6_allGo_10 rfl ?_
  refine r_istore_n (lv' := [(2, .int 0), (0, .ref 18), (1, .int p0)]) K dX6_allGo_11 rfl (Nat.le_of_ble_eq_true rfl) rfl ?_
  refine r_lv [1, 2, 0] rfl ?_
  exact sX6_allGo_12 K Z p0 FU p0 0 h3_ hf
theorem conX6_allGo {G : GG} (p0 : Int32) (h : AH) (h' : AH) (hf : fX6_allGo p0 h = some h') : Con G 4 yX6_allGo cX6_allGo 4 none [.ref 18, .int p0] h (none) h' := con_of mwX6_allGo (Nat.le_of_ble_eq_true rfl) (fun E K Z => sX6_allGo K Z p0 h hf)
def fX6_firstOtherwise_2_b (p0 : Nat) (Q2 : Int32 → AH → Option (Int32 × AH)) (x2 : Int32) (h : AH) : Option (Int32 × AH) :=
  if (h.1 p0 3) ≤ x2 then some ((-2), h) else if 9 ≤ x2 then some ((-2), h) else if (h.1 18 4) ≤ x2 then some (x2, h) else if inb x2 60 = true then if (lg_cmp (h.2 (rf p0 4) (ix x2)) 9) = 0 then Q2 (x2 + 1) h else if inb x2 9 = true then if (lg_cmp (h.2 (rf p0 4) (ix x2)) (((h.1 29 (ix x2)) : Int32).toInt64)) = 0 then Q2 (x2 + 1) h else some (x2, h) else none else none
def fX6_firstOtherwise_2 (p0 : Nat) : Nat → Int32 → AH → Option (Int32 × AH)
  | 0 => fun _ _ => none
  | n + 1 => fX6_firstOtherwise_2_b p0 (fX6_firstOtherwise_2 p0 n)
set_option maxRecDepth 10000 in
theorem sX6_firstOtherwise_2_b {G : GG} {E : EE} {rv : Int32} {h' : AH} (K : OK G E 0 RX6 cX6_firstOtherwise 3) (Z : RT G E (some .int) (some (.int rv)) h') (p0 : Nat) (hp0 : KD p0 = (5, 5)) (Q2 : Int32 → AH → Option (Int32 × AH)) (hQ2 : ∀ (x2 : Int32) (h : AH), Q2 x2 h = some (rv, h') → JJ G E 3 2 [(0, .ref 18), (1, .ref p0), (2, .int x2)] [] h) (x2 : Int32) (h : AH) (hf : fX6_firstOtherwise_2_b p0 Q2 x2 h = some (rv, h')) : JJ G E 3 2 [(0, .ref 18), (1, .ref p0), (2, .int x2)] [] h := by
  unfold fX6_firstOtherwise_2_b at hf
  refine r_iload_n K dX6_firstOtherwise_2 2 rfl rfl ?_
  refine r_aload_n K dX6_firstOtherwise_3 1 rfl rfl ?_
  refine r_getI K flX6_80 dX6_firstOtherwise_4 hp0 rfl ?_
  refine r_icmp_ge (tgt := 62) K dX6_firstOtherwise_7 (by decide) (fun c1_ => ?_) (fun c1_ => ?_)
  · have hf := e_t hf c1_
    refine r_bipush (v := (-2)) K dX6_firstOtherwise_62 rfl ?_
    exact r_iret K Z dX6_firstOtherwise_64 hf
  · have hf := e_f hf c1_
    refine r_iload_n K dX6_firstOtherwise_10 2 rfl rfl ?_
    refine r_bipush (v := 9) K dX6_firstOtherwise_11 rfl ?_
    refine r_icmp_ge (tgt := 62) K dX6_firstOtherwise_13 (by decide) (fun c2_ => ?_) (fun c2_ => ?_)
    · have hf := e_t hf c2_
      refine r_bipush (v := (-2)) K dX6_firstOtherwise_62 rfl ?_
      exact r_iret K Z dX6_firstOtherwise_64 hf
    · have hf := e_f hf c2_
      refine r_iload_n K dX6_firstOtherwise_16 2 rfl rfl ?_
      refine r_aload_n K dX6_firstOtherwise_17 0 rfl rfl ?_
      refine r_getI K flX6_22 dX6_firstOtherwise_18 rfl rfl ?_
      refine r_icmp_ge (tgt := 54) K dX6_firstOtherwise_21 (by decide) (fun c3_ => ?_) (fun c3_ => ?_)
      · have hf := e_t hf c3_
        refine r_iload_n K dX6_firstOtherwise_54 2 rfl rfl ?_
        exact r_iret K Z dX6_firstOtherwise_55 hf
      · have hf := e_f hf c3_
        refine r_aload_n K dX6_firstOtherwise_24 1 rfl rfl ?_
        refine r_getR (o' := (rf p0 4)) K flX6_85 dX6_firstOtherwise_25 hp0 rfl rfl ?_
        refine r_iload_n K dX6_firstOtherwise_28 2 rfl rfl ?_
        obtain ⟨g4_, hf⟩ := e_g hf
        refine r_lald K dX6_firstOtherwise_29 (kf5_4 hp0) g4_ ?_
        refine r_ldc2 (v := 9) K dX6_firstOtherwise_30 lcX6_89 ?_
        refine r_lcmp K dX6_firstOtherwise_33 ?_
        refine r_if_eq (tgt := 56) K dX6_firstOtherwise_34 (by decide) (fun c5_ => ?_) (fun c5_ => ?_)
        · have hf := e_t hf c5_
          refine r_iinc (y := 1) (lv' := [(2, .int (x2 + 1)), (0, .ref 18), (1, .ref p0)]) K dX6_firstOtherwise_56 2 rfl rfl (Nat.le_of_ble_eq_true rfl) rfl ?_
          refine r_goto (tgt := 2) K dX6_firstOtherwise_59 (by decide) ?_
          refine r_lv [1, 2, 0] rfl ?_
          exact hQ2 (x2 + 1) h hf
        · have hf := e_f hf c5_
          refine r_aload_n K dX6_firstOtherwise_37 1 rfl rfl ?_
          refine r_getR (o' := (rf p0 4)) K flX6_85 dX6_firstOtherwise_38 hp0 rfl rfl ?_
          refine r_iload_n K dX6_firstOtherwise_41 2 rfl rfl ?_
          refine r_lald K dX6_firstOtherwise_42 (kf5_4 hp0) g4_ ?_
          refine r_aload_n K dX6_firstOtherwise_43 0 rfl rfl ?_
          refine r_getR (o' := 29) K flX6_18 dX6_firstOtherwise_44 rfl rfl rfl ?_
          refine r_iload_n K dX6_firstOtherwise_47 2 rfl rfl ?_
          obtain ⟨g7_, hf⟩ := e_g hf
          refine r_iald K dX6_firstOtherwise_48 rfl g7_ ?_
          refine r_i2l K dX6_firstOtherwise_49 ?_
          refine r_lcmp K dX6_firstOtherwise_50 ?_
          refine r_if_eq (tgt := 56) K dX6_firstOtherwise_51 (by decide) (fun c8_ => ?_) (fun c8_ => ?_)
          · have hf := e_t hf c8_
            refine r_iinc (y := 1) (lv' := [(2, .int (x2 + 1)), (0, .ref 18), (1, .ref p0)]) K dX6_firstOtherwise_56 2 rfl rfl (Nat.le_of_ble_eq_true rfl) rfl ?_
            refine r_goto (tgt := 2) K dX6_firstOtherwise_59 (by decide) ?_
            refine r_lv [1, 2, 0] rfl ?_
            exact hQ2 (x2 + 1) h hf
          · have hf := e_f hf c8_
            refine r_iload_n K dX6_firstOtherwise_54 2 rfl rfl ?_
            exact r_iret K Z dX6_firstOtherwise_55 hf
theorem sX6_firstOtherwise_2 {G : GG} {E : EE} {rv : Int32} {h' : AH} (K : OK G E 0 RX6 cX6_firstOtherwise 3) (Z : RT G E (some .int) (some (.int rv)) h') (p0 : Nat) (hp0 : KD p0 = (5, 5)) : ∀ (n : Nat) (x2 : Int32) (h : AH), fX6_firstOtherwise_2 p0 n x2 h = some (rv, h') → JJ G E 3 2 [(0, .ref 18), (1, .ref p0), (2, .int x2)] [] h := by
  intro n
  induction n with
  | zero => intro x2 h hf; cases hf
  | succ n ih => intro x2 h hf; exact sX6_firstOtherwise_2_b K Z p0 hp0 _ (fun x2 h hf => ih x2 h hf) x2 h hf
def fX6_firstOtherwise (p0 : Nat) (h : AH) : Option (Int32 × AH) :=
  fX6_firstOtherwise_2 p0 FU 0 h
set_option maxRecDepth 10000 in
theorem sX6_firstOtherwise {G : GG} {E : EE} {rv : Int32} {h' : AH} (K : OK G E 0 RX6 cX6_firstOtherwise 3) (Z : RT G E (some .int) (some (.int rv)) h') (p0 : Nat) (hp0 : KD p0 = (5, 5)) (h : AH) (hf : fX6_firstOtherwise p0 h = some (rv, h')) : JJ G E 3 0 [(0, .ref 18), (1, .ref p0)] [] h := by
  unfold fX6_firstOtherwise at hf
  refine r_iconst (v := 0) K dX6_firstOtherwise_0 rfl ?_
  refine r_istore_n (lv' := [(2, .int 0), (0, .ref 18), (1, .ref p0)]) K dX6_firstOtherwise_1 rfl (Nat.le_of_ble_eq_true rfl) rfl ?_
  refine r_lv [1, 2, 0] rfl ?_
  exact sX6_firstOtherwise_2 K Z p0 hp0 FU 0 h hf
theorem conX6_firstOtherwise {G : GG} (p0 : Nat) (hp0 : KD p0 = (5, 5)) (h : AH) (rv : Int32) (h' : AH) (hf : fX6_firstOtherwise p0 h = some (rv, h')) : Con G 0 yX6_firstOtherwise cX6_firstOtherwise 3 (some .int) [.ref 18, .ref p0] h (some (.int rv)) h' := con_of mwX6_firstOtherwise (Nat.le_of_ble_eq_true rfl) (fun E K Z => sX6_firstOtherwise K Z p0 hp0 h hf)
def fX6_placeOfGoer_2_b (p0 : Int32) (Q2 : Int32 → Int32 → AH → Option (Int32 × AH)) (x1 : Int32) (x2 : Int32) (h : AH) : Option (Int32 × AH) :=
  if (h.1 18 4) ≤ x2 then some (9, h) else if inb x2 9 = true then if (h.1 29 (ix x2)) = x1 then some (x2, h) else Q2 x1 (x2 + 1) h else none
def fX6_placeOfGoer_2 (p0 : Int32) : Nat → Int32 → Int32 → AH → Option (Int32 × AH)
  | 0 => fun _ _ _ => none
  | n + 1 => fX6_placeOfGoer_2_b p0 (fX6_placeOfGoer_2 p0 n)
set_option maxRecDepth 10000 in
theorem sX6_placeOfGoer_2_b {G : GG} {E : EE} {rv : Int32} {h' : AH} (K : OK G E 0 RX6 cX6_placeOfGoer 3) (Z : RT G E (some .int) (some (.int rv)) h') (p0 : Int32) (Q2 : Int32 → Int32 → AH → Option (Int32 × AH)) (hQ2 : ∀ (x1 : Int32) (x2 : Int32) (h : AH), Q2 x1 x2 h = some (rv, h') → JJ G E 3 2 [(0, .ref 18), (1, .int x1), (2, .int x2)] [] h) (x1 : Int32) (x2 : Int32) (h : AH) (hf : fX6_placeOfGoer_2_b p0 Q2 x1 x2 h = some (rv, h')) : JJ G E 3 2 [(0, .ref 18), (1, .int x1), (2, .int x2)] [] h := by
  unfold fX6_placeOfGoer_2_b at hf
  refine r_iload_n K dX6_placeOfGoer_2 2 rfl rfl ?_
  refine r_aload_n K dX6_placeOfGoer_3 0 rfl rfl ?_
  refine r_getI K flX6_22 dX6_placeOfGoer_4 rfl rfl ?_
  refine r_icmp_ge (tgt := 28) K dX6_placeOfGoer_7 (by decide) (fun c1_ => ?_) (fun c1_ => ?_)
  · have hf := e_t hf c1_
    refine r_bipush (v := 9) K dX6_placeOfGoer_28 rfl ?_
    exact r_iret K Z dX6_placeOfGoer_30 hf
  · have hf := e_f hf c1_
    refine r_aload_n K dX6_placeOfGoer_10 0 rfl rfl ?_
    refine r_getR (o' := 29) K flX6_18 dX6_placeOfGoer_11 rfl rfl rfl ?_
    refine r_iload_n K dX6_placeOfGoer_14 2 rfl rfl ?_
    obtain ⟨g2_, hf⟩ := e_g hf
    refine r_iald K dX6_placeOfGoer_15 rfl g2_ ?_
    refine r_iload_n K dX6_placeOfGoer_16 1 rfl rfl ?_
    refine r_icmp_ne (tgt := 22) K dX6_placeOfGoer_17 (by decide) (fun c3_ => ?_) (fun c3_ => ?_)
    · have hf := e_f hf c3_
      refine r_iinc (y := 1) (lv' := [(2, .int (x2 + 1)), (0, .ref 18), (1, .int x1)]) K dX6_placeOfGoer_22 2 rfl rfl (Nat.le_of_ble_eq_true rfl) rfl ?_
      refine r_goto (tgt := 2) K dX6_placeOfGoer_25 (by decide) ?_
      refine r_lv [1, 2, 0] rfl ?_
      exact hQ2 x1 (x2 + 1) h hf
    · have hf := e_t hf c3_
      refine r_iload_n K dX6_placeOfGoer_20 2 rfl rfl ?_
      exact r_iret K Z dX6_placeOfGoer_21 hf
theorem sX6_placeOfGoer_2 {G : GG} {E : EE} {rv : Int32} {h' : AH} (K : OK G E 0 RX6 cX6_placeOfGoer 3) (Z : RT G E (some .int) (some (.int rv)) h') (p0 : Int32) : ∀ (n : Nat) (x1 : Int32) (x2 : Int32) (h : AH), fX6_placeOfGoer_2 p0 n x1 x2 h = some (rv, h') → JJ G E 3 2 [(0, .ref 18), (1, .int x1), (2, .int x2)] [] h := by
  intro n
  induction n with
  | zero => intro x1 x2 h hf; cases hf
  | succ n ih => intro x1 x2 h hf; exact sX6_placeOfGoer_2_b K Z p0 _ (fun x1 x2 h hf => ih x1 x2 h hf) x1 x2 h hf
def fX6_placeOfGoer (p0 : Int32) (h : AH) : Option (Int32 × AH) :=
  fX6_placeOfGoer_2 p0 FU p0 0 h
set_option maxRecDepth 10000 in
theorem sX6_placeOfGoer {G : GG} {E : EE} {rv : Int32} {h' : AH} (K : OK G E 0 RX6 cX6_placeOfGoer 3) (Z : RT G E (some .int) (some (.int rv)) h') (p0 : Int32) (h : AH) (hf : fX6_placeOfGoer p0 h = some (rv, h')) : JJ G E 3 0 [(0, .ref 18), (1, .int p0)] [] h := by
  unfold fX6_placeOfGoer at hf
  refine r_iconst (v := 0) K dX6_placeOfGoer_0 rfl ?_
  refine r_istore_n (lv' := [(2, .int 0), (0, .ref 18), (1, .int p0)]) K dX6_placeOfGoer_1 rfl (Nat.le_of_ble_eq_true rfl) rfl ?_
  refine r_lv [1, 2, 0] rfl ?_
  exact sX6_placeOfGoer_2 K Z p0 FU p0 0 h hf
theorem conX6_placeOfGoer {G : GG} (p0 : Int32) (h : AH) (rv : Int32) (h' : AH) (hf : fX6_placeOfGoer p0 h = some (rv, h')) : Con G 0 yX6_placeOfGoer cX6_placeOfGoer 3 (some .int) [.ref 18, .int p0] h (some (.int rv)) h' := con_of mwX6_placeOfGoer (Nat.le_of_ble_eq_true rfl) (fun E K Z => sX6_placeOfGoer K Z p0 h hf)
def fX7_addSlip (t : Nat) (p0 : Int32) (p1 : Int32) (p2 : Int32) (h : AH) : Option (Int32 × AH) :=
  if (h.1 t 10) < 13 then letV ((h.1 t 10)) fun x2_ => if inb x2_ 13 = true then letV (wI h (rf t 6) (ix x2_) p0) fun h5_ => letV (wI h5_ (rf t 7) (ix x2_) p1) fun h8_ => letV (wI h8_ (rf t 8) (ix x2_) p2) fun h11_ => letV (wI h11_ t 10 ((h11_.1 t 10) + 1)) fun h13_ => some (x2_, h13_) else none else some ((-3), h)
set_option maxRecDepth 10000 in
theorem sX7_addSlip {G : GG} {E : EE} {rv : Int32} {h' : AH} (K : OK G E 0 RX7 cX7_addSlip 5) (Z : RT G E (some .int) (some (.int rv)) h') (t : Nat) (p0 : Int32) (p1 : Int32) (p2 : Int32) (ht : KD t = (7, 12)) (h : AH) (hf : fX7_addSlip t p0 p1 p2 h = some (rv, h')) : JJ G E 5 0 [(0, .ref t), (1, .int p0), (2, .int p1), (3, .int p2)] [] h := by
  unfold fX7_addSlip at hf
  refine r_aload_n K dX7_addSlip_0 0 rfl rfl ?_
  refine r_getI K flX7_43 dX7_addSlip_1 ht rfl ?_
  refine r_aload_n K dX7_addSlip_4 0 rfl rfl ?_
  refine r_getR (o' := (rf t 6)) K flX7_30 dX7_addSlip_5 ht rfl rfl ?_
  refine r_alen (v := 13) K dX7_addSlip_8 (kf7_6 ht) rfl ?_
  refine r_icmp_lt (tgt := 15) K dX7_addSlip_9 (by decide) (fun c1_ => ?_) (fun c1_ => ?_)
  · have hf := e_t hf c1_
    refine r_aload_n K dX7_addSlip_15 0 rfl rfl ?_
    refine r_getI K flX7_43 dX7_addSlip_16 ht rfl ?_
    obtain ⟨x2_, e3_, hf⟩ := e_l hf
    refine r_nmI e3_ ?_
    refine r_istore (lv' := [(4, .int x2_), (0, .ref t), (1, .int p0), (2, .int p1), (3, .int p2)]) K dX7_addSlip_19 (Nat.le_of_ble_eq_true rfl) rfl ?_
    refine r_aload_n K dX7_addSlip_21 1 rfl rfl ?_
    refine r_getR (o' := (rf t 6)) K flX7_30 dX7_addSlip_22 ht rfl rfl ?_
    refine r_iload K dX7_addSlip_25 0 rfl ?_
    refine r_iload_n K dX7_addSlip_27 2 rfl rfl ?_
    obtain ⟨g4_, hf⟩ := e_g hf
    obtain ⟨h5_, e6_, hf⟩ := e_l hf
    refine r_iast K dX7_addSlip_28 (kf7_6 ht) g4_ e6_ ?_
    refine r_aload_n K dX7_addSlip_29 1 rfl rfl ?_
    refine r_getR (o' := (rf t 7)) K flX7_33 dX7_addSlip_30 ht rfl rfl ?_
    refine r_iload K dX7_addSlip_33 0 rfl ?_
    refine r_iload_n K dX7_addSlip_35 3 rfl rfl ?_
    obtain ⟨h8_, e9_, hf⟩ := e_l hf
    refine r_iast K dX7_addSlip_36 (kf7_7 ht) g4_ e9_ ?_
    refine r_aload_n K dX7_addSlip_37 1 rfl rfl ?_
    refine r_getR (o' := (rf t 8)) K flX7_36 dX7_addSlip_38 ht rfl rfl ?_
    refine r_iload K dX7_addSlip_41 0 rfl ?_
    refine r_iload_n K dX7_addSlip_43 4 rfl rfl ?_
    obtain ⟨h11_, e12_, hf⟩ := e_l hf
    refine r_iast K dX7_addSlip_44 (kf7_8 ht) g4_ e12_ ?_
    refine r_aload_n K dX7_addSlip_45 1 rfl rfl ?_
    refine r_dup K dX7_addSlip_46 rfl ?_
    refine r_getI K flX7_43 dX7_addSlip_47 ht rfl ?_
    refine r_iconst (v := 1) K dX7_addSlip_50 rfl ?_
    refine r_iadd K dX7_addSlip_51 ?_
    obtain ⟨h13_, e14_, hf⟩ := e_l hf
    refine r_putI K fpX7_43 dX7_addSlip_52 ht rfl e14_ ?_
    refine r_iload K dX7_addSlip_55 0 rfl ?_
    exact r_iret K Z dX7_addSlip_57 hf
  · have hf := e_f hf c1_
    refine r_bipush (v := (-3)) K dX7_addSlip_12 rfl ?_
    exact r_iret K Z dX7_addSlip_14 hf
theorem conX7_addSlip {G : GG} (t : Nat) (p0 : Int32) (p1 : Int32) (p2 : Int32) (ht : KD t = (7, 12)) (h : AH) (rv : Int32) (h' : AH) (hf : fX7_addSlip t p0 p1 p2 h = some (rv, h')) : Con G 0 yX7_addSlip cX7_addSlip 5 (some .int) [.ref t, .int p0, .int p1, .int p2] h (some (.int rv)) h' := con_of mwX7_addSlip (Nat.le_of_ble_eq_true rfl) (fun E K Z => sX7_addSlip K Z t p0 p1 p2 ht h hf)
def fX7_becomeLike (h : AH) : Option AH :=
  letV (wI h 19 9 (h.1 1 9)) fun h1_ => letV (wI h1_ 19 10 (h1_.1 1 10)) fun h3_ => letV (wI h3_ 19 11 (h3_.1 1 11)) fun h5_ => if cpOK 0 0 9 9 9 = true then letV (cpI h5_ 2 (ix 0) 20 (ix 0) (ix 9)) fun h8_ => if cpOK 0 0 9 9 9 = true then letV (cpI h8_ 3 (ix 0) 21 (ix 0) (ix 9)) fun h11_ => if cpOK 0 0 9 9 9 = true then letV (cpI h11_ 4 (ix 0) 22 (ix 0) (ix 9)) fun h14_ => if cpOK 0 0 9 9 9 = true then letV (cpI h14_ 5 (ix 0) 23 (ix 0) (ix 9)) fun h17_ => if cpOK 0 0 9 9 9 = true then letV (cpI h17_ 7 (ix 0) 25 (ix 0) (ix 9)) fun h20_ => if cpOK 0 0 12 13 13 = true then letV (cpI h20_ 8 (ix 0) 26 (ix 0) (ix 12)) fun h23_ => if cpOK 0 0 12 13 13 = true then letV (cpI h23_ 9 (ix 0) 27 (ix 0) (ix 12)) fun h26_ => if cpOK 0 0 12 13 13 = true then letV (cpI h26_ 10 (ix 0) 28 (ix 0) (ix 12)) fun h29_ => some h29_ else none else none else none else none else none else none else none else none
set_option maxRecDepth 10000 in
theorem sX7_becomeLike {G : GG} {E : EE} {h' : AH} (K : OK G E 1 RX7 cX7_becomeLike 2) (Z : RT G E none (none) h') (h : AH) (hf : fX7_becomeLike h = some h') : JJ G E 2 0 [(0, .ref 19), (1, .ref 1)] [] h := by
  unfold fX7_becomeLike at hf
  refine r_aload_n K dX7_becomeLike_0 0 rfl rfl ?_
  refine r_aload_n K dX7_becomeLike_1 1 rfl rfl ?_
  refine r_getI K flX7_39 dX7_becomeLike_2 rfl rfl ?_
  obtain ⟨h1_, e2_, hf⟩ := e_l hf
  refine r_putI K fpX7_39 dX7_becomeLike_5 rfl rfl e2_ ?_
  refine r_aload_n K dX7_becomeLike_8 0 rfl rfl ?_
  refine r_aload_n K dX7_becomeLike_9 1 rfl rfl ?_
  refine r_getI K flX7_43 dX7_becomeLike_10 rfl rfl ?_
  obtain ⟨h3_, e4_, hf⟩ := e_l hf
  refine r_putI K fpX7_43 dX7_becomeLike_13 rfl rfl e4_ ?_
  refine r_aload_n K dX7_becomeLike_16 0 rfl rfl ?_
  refine r_aload_n K dX7_becomeLike_17 1 rfl rfl ?_
  refine r_getI K flX7_46 dX7_becomeLike_18 rfl rfl ?_
  obtain ⟨h5_, e6_, hf⟩ := e_l hf
  refine r_putI K fpX7_46 dX7_becomeLike_21 rfl rfl e6_ ?_
  refine r_aload_n K dX7_becomeLike_24 1 rfl rfl ?_
  refine r_getR (o' := 2) K flX7_9 dX7_becomeLike_25 rfl rfl rfl ?_
  refine r_iconst (v := 0) K dX7_becomeLike_28 rfl ?_
  refine r_aload_n K dX7_becomeLike_29 0 rfl rfl ?_
  refine r_getR (o' := 20) K flX7_9 dX7_becomeLike_30 rfl rfl rfl ?_
  refine r_iconst (v := 0) K dX7_becomeLike_33 rfl ?_
  refine r_bipush (v := 9) K dX7_becomeLike_34 rfl ?_
  obtain ⟨g7_, hf⟩ := e_g hf
  obtain ⟨h8_, e9_, hf⟩ := e_l hf
  refine r_acopyi K lmX7_73 dX7_becomeLike_36 rfl rfl g7_ (Nat.le_of_ble_eq_true rfl) (Nat.le_of_ble_eq_true rfl) e9_ ?_
  refine r_aload_n K dX7_becomeLike_39 1 rfl rfl ?_
  refine r_getR (o' := 3) K flX7_15 dX7_becomeLike_40 rfl rfl rfl ?_
  refine r_iconst (v := 0) K dX7_becomeLike_43 rfl ?_
  refine r_aload_n K dX7_becomeLike_44 0 rfl rfl ?_
  refine r_getR (o' := 21) K flX7_15 dX7_becomeLike_45 rfl rfl rfl ?_
  refine r_iconst (v := 0) K dX7_becomeLike_48 rfl ?_
  refine r_bipush (v := 9) K dX7_becomeLike_49 rfl ?_
  obtain ⟨g10_, hf⟩ := e_g hf
  obtain ⟨h11_, e12_, hf⟩ := e_l hf
  refine r_acopyi K lmX7_73 dX7_becomeLike_51 rfl rfl g10_ (Nat.le_of_ble_eq_true rfl) (Nat.le_of_ble_eq_true rfl) e12_ ?_
  refine r_aload_n K dX7_becomeLike_54 1 rfl rfl ?_
  refine r_getR (o' := 4) K flX7_18 dX7_becomeLike_55 rfl rfl rfl ?_
  refine r_iconst (v := 0) K dX7_becomeLike_58 rfl ?_
  refine r_aload_n K dX7_becomeLike_59 0 rfl rfl ?_
  refine r_getR (o' := 22) K flX7_18 dX7_becomeLike_60 rfl rfl rfl ?_
  refine r_iconst (v := 0) K dX7_becomeLike_63 rfl ?_
  refine r_bipush (v := 9) K dX7_becomeLike_64 rfl ?_
  obtain ⟨g13_, hf⟩ := e_g hf
  obtain ⟨h14_, e15_, hf⟩ := e_l hf
  refine r_acopyi K lmX7_73 dX7_becomeLike_66 rfl rfl g13_ (Nat.le_of_ble_eq_true rfl) (Nat.le_of_ble_eq_true rfl) e15_ ?_
  refine r_aload_n K dX7_becomeLike_69 1 rfl rfl ?_
  refine r_getR (o' := 5) K flX7_21 dX7_becomeLike_70 rfl rfl rfl ?_
  refine r_iconst (v := 0) K dX7_becomeLike_73 rfl ?_
  refine r_aload_n K dX7_becomeLike_74 0 rfl rfl ?_
  refine r_getR (o' := 23) K flX7_21 dX7_becomeLike_75 rfl rfl rfl ?_
  refine r_iconst (v := 0) K dX7_becomeLike_78 rfl ?_
  refine r_bipush (v := 9) K dX7_becomeLike_79 rfl ?_
  obtain ⟨g16_, hf⟩ := e_g hf
  obtain ⟨h17_, e18_, hf⟩ := e_l hf
  refine r_acopyi K lmX7_73 dX7_becomeLike_81 rfl rfl g16_ (Nat.le_of_ble_eq_true rfl) (Nat.le_of_ble_eq_true rfl) e18_ ?_
  refine r_aload_n K dX7_becomeLike_84 1 rfl rfl ?_
  refine r_getR (o' := 7) K flX7_27 dX7_becomeLike_85 rfl rfl rfl ?_
  refine r_iconst (v := 0) K dX7_becomeLike_88 rfl ?_
  refine r_aload_n K dX7_becomeLike_89 0 rfl rfl ?_
  refine r_getR (o' := 25) K flX7_27 dX7_becomeLike_90 rfl rfl rfl ?_
  refine r_iconst (v := 0) K dX7_becomeLike_93 rfl ?_
  refine r_bipush (v := 9) K dX7_becomeLike_94 rfl ?_
  obtain ⟨g19_, hf⟩ := e_g hf
  obtain ⟨h20_, e21_, hf⟩ := e_l hf
  refine r_acopyi K lmX7_73 dX7_becomeLike_96 rfl rfl g19_ (Nat.le_of_ble_eq_true rfl) (Nat.le_of_ble_eq_true rfl) e21_ ?_
  refine r_aload_n K dX7_becomeLike_99 1 rfl rfl ?_
  refine r_getR (o' := 8) K flX7_30 dX7_becomeLike_100 rfl rfl rfl ?_
  refine r_iconst (v := 0) K dX7_becomeLike_103 rfl ?_
  refine r_aload_n K dX7_becomeLike_104 0 rfl rfl ?_
  refine r_getR (o' := 26) K flX7_30 dX7_becomeLike_105 rfl rfl rfl ?_
  refine r_iconst (v := 0) K dX7_becomeLike_108 rfl ?_
  refine r_bipush (v := 12) K dX7_becomeLike_109 rfl ?_
  obtain ⟨g22_, hf⟩ := e_g hf
  obtain ⟨h23_, e24_, hf⟩ := e_l hf
  refine r_acopyi K lmX7_73 dX7_becomeLike_111 rfl rfl g22_ (Nat.le_of_ble_eq_true rfl) (Nat.le_of_ble_eq_true rfl) e24_ ?_
  refine r_aload_n K dX7_becomeLike_114 1 rfl rfl ?_
  refine r_getR (o' := 9) K flX7_33 dX7_becomeLike_115 rfl rfl rfl ?_
  refine r_iconst (v := 0) K dX7_becomeLike_118 rfl ?_
  refine r_aload_n K dX7_becomeLike_119 0 rfl rfl ?_
  refine r_getR (o' := 27) K flX7_33 dX7_becomeLike_120 rfl rfl rfl ?_
  refine r_iconst (v := 0) K dX7_becomeLike_123 rfl ?_
  refine r_bipush (v := 12) K dX7_becomeLike_124 rfl ?_
  obtain ⟨g25_, hf⟩ := e_g hf
  obtain ⟨h26_, e27_, hf⟩ := e_l hf
  refine r_acopyi K lmX7_73 dX7_becomeLike_126 rfl rfl g25_ (Nat.le_of_ble_eq_true rfl) (Nat.le_of_ble_eq_true rfl) e27_ ?_
  refine r_aload_n K dX7_becomeLike_129 1 rfl rfl ?_
  refine r_getR (o' := 10) K flX7_36 dX7_becomeLike_130 rfl rfl rfl ?_
  refine r_iconst (v := 0) K dX7_becomeLike_133 rfl ?_
  refine r_aload_n K dX7_becomeLike_134 0 rfl rfl ?_
  refine r_getR (o' := 28) K flX7_36 dX7_becomeLike_135 rfl rfl rfl ?_
  refine r_iconst (v := 0) K dX7_becomeLike_138 rfl ?_
  refine r_bipush (v := 12) K dX7_becomeLike_139 rfl ?_
  obtain ⟨g28_, hf⟩ := e_g hf
  obtain ⟨h29_, e30_, hf⟩ := e_l hf
  refine r_acopyi K lmX7_73 dX7_becomeLike_141 rfl rfl g28_ (Nat.le_of_ble_eq_true rfl) (Nat.le_of_ble_eq_true rfl) e30_ ?_
  exact r_vret K Z dX7_becomeLike_144 hf
theorem conX7_becomeLike {G : GG} (h : AH) (h' : AH) (hf : fX7_becomeLike h = some h') : Con G 1 yX7_becomeLike cX7_becomeLike 2 none [.ref 19, .ref 1] h (none) h' := con_of mwX7_becomeLike (Nat.le_of_ble_eq_true rfl) (fun E K Z => sX7_becomeLike K Z h hf)
def fX6_placeBySlip_33_b (p0 : Int32) (p1 : Int32) (p2 : Int32) (p3 : Int32) (Q33 : Int32 → Int32 → Int32 → AH → Option (Int32 × AH)) (x1 : Int32) (x4 : Int32) (x5 : Int32) (h : AH) : Option (Int32 × AH) :=
  if x4 ≤ x5 then bindV (fX6_allGo 9 h) fun h9_ => bind2 (fX6_placeOfGoer x1 h9_) fun r11_ h12_ => some (r11_, h12_) else bindV (fX7_passMinute 19 h) fun h15_ => Q33 x1 x4 (x5 + 1) h15_
def fX6_placeBySlip_33 (p0 : Int32) (p1 : Int32) (p2 : Int32) (p3 : Int32) : Nat → Int32 → Int32 → Int32 → AH → Option (Int32 × AH)
  | 0 => fun _ _ _ _ => none
  | n + 1 => fX6_placeBySlip_33_b p0 p1 p2 p3 (fX6_placeBySlip_33 p0 p1 p2 p3 n)
set_option maxRecDepth 10000 in
theorem sX6_placeBySlip_33_b {G : GG} {E : EE} {rv : Int32} {h' : AH} (K : OK G E 5 RX6 cX6_placeBySlip 6) (Z : RT G E (some .int) (some (.int rv)) h') (p0 : Int32) (p1 : Int32) (p2 : Int32) (p3 : Int32) (Q33 : Int32 → Int32 → Int32 → AH → Option (Int32 × AH)) (hQ33 : ∀ (x1 : Int32) (x4 : Int32) (x5 : Int32) (h : AH), Q33 x1 x4 x5 h = some (rv, h') → JJ G E 6 33 [(0, .ref 18), (1, .int x1), (4, .int x4), (5, .int x5)] [] h) (x1 : Int32) (x4 : Int32) (x5 : Int32) (h : AH) (hf : fX6_placeBySlip_33_b p0 p1 p2 p3 Q33 x1 x4 x5 h = some (rv, h')) : JJ G E 6 33 [(0, .ref 18), (1, .int x1), (4, .int x4), (5, .int x5)] [] h := by
  unfold fX6_placeBySlip_33_b at hf
  refine r_iload K dX6_placeBySlip_33 3 rfl ?_
  refine r_iload K dX6_placeBySlip_35 2 rfl ?_
  refine r_icmp_ge (tgt := 53) K dX6_placeBySlip_37 (by decide) (fun c7_ => ?_) (fun c7_ => ?_)
  · have hf := e_t hf c7_
    refine r_aload_n K dX6_placeBySlip_53 0 rfl rfl ?_
    refine r_bipush (v := 9) K dX6_placeBySlip_54 rfl ?_
    obtain ⟨h9_, g10_, hf⟩ := e_v hf
    refine r_callV (av := [.int 9]) (st := []) K lkX6_69 mwX6_allGo (conX6_allGo 9 h h9_ g10_) dX6_placeBySlip_56 rfl (Nat.le_of_ble_eq_true rfl) rfl rfl (Nat.le_of_ble_eq_true rfl) ?_
    refine r_aload_n K dX6_placeBySlip_59 0 rfl rfl ?_
    refine r_iload_n K dX6_placeBySlip_60 1 rfl rfl ?_
    obtain ⟨r11_, h12_, g13_, hf⟩ := e_2 hf
    refine r_callV (av := [.int x1]) (st := []) K lkX6_73 mwX6_placeOfGoer (conX6_placeOfGoer x1 h9_ r11_ h12_ g13_) dX6_placeBySlip_61 rfl (Nat.le_of_ble_eq_true rfl) rfl rfl (Nat.le_of_ble_eq_true rfl) ?_
    exact r_iret K Z dX6_placeBySlip_64 hf
  · have hf := e_f hf c7_
    refine r_aload_n K dX6_placeBySlip_40 0 rfl rfl ?_
    refine r_getR (o' := 19) K flX6_12 dX6_placeBySlip_41 rfl rfl rfl ?_
    obtain ⟨h15_, g16_, hf⟩ := e_v hf
    refine r_callV (av := []) (st := []) K lkX6_43 mwX7_passMinute (conX7_passMinute 19 rfl h h15_ g16_) dX6_placeBySlip_44 rfl (Nat.le_of_ble_eq_true rfl) rfl rfl (Nat.le_of_ble_eq_true rfl) ?_
    refine r_iinc (y := 1) (lv' := [(5, .int (x5 + 1)), (0, .ref 18), (1, .int x1), (4, .int x4)]) K dX6_placeBySlip_47 3 rfl rfl (Nat.le_of_ble_eq_true rfl) rfl ?_
    refine r_goto (tgt := 33) K dX6_placeBySlip_50 (by decide) ?_
    refine r_lv [1, 2, 3, 0] rfl ?_
    exact hQ33 x1 x4 (x5 + 1) h15_ hf
theorem sX6_placeBySlip_33 {G : GG} {E : EE} {rv : Int32} {h' : AH} (K : OK G E 5 RX6 cX6_placeBySlip 6) (Z : RT G E (some .int) (some (.int rv)) h') (p0 : Int32) (p1 : Int32) (p2 : Int32) (p3 : Int32) : ∀ (n : Nat) (x1 : Int32) (x4 : Int32) (x5 : Int32) (h : AH), fX6_placeBySlip_33 p0 p1 p2 p3 n x1 x4 x5 h = some (rv, h') → JJ G E 6 33 [(0, .ref 18), (1, .int x1), (4, .int x4), (5, .int x5)] [] h := by
  intro n
  induction n with
  | zero => intro x1 x4 x5 h hf; cases hf
  | succ n ih => intro x1 x4 x5 h hf; exact sX6_placeBySlip_33_b K Z p0 p1 p2 p3 _ (fun x1 x4 x5 h hf => ih x1 x4 x5 h hf) x1 x4 x5 h hf
def fX6_placeBySlip (p0 : Int32) (p1 : Int32) (p2 : Int32) (p3 : Int32) (h : AH) : Option (Int32 × AH) :=
  bindV (fX7_becomeLike  h) fun h2_ => bind2 (fX7_addSlip 19 p0 ((h2_.1 1 11) + p1) p2 h2_) fun r4_ h5_ => fX6_placeBySlip_33 p0 p1 p2 p3 FU p0 p3 0 h5_
set_option maxRecDepth 10000 in
theorem sX6_placeBySlip {G : GG} {E : EE} {rv : Int32} {h' : AH} (K : OK G E 5 RX6 cX6_placeBySlip 6) (Z : RT G E (some .int) (some (.int rv)) h') (p0 : Int32) (p1 : Int32) (p2 : Int32) (p3 : Int32) (h : AH) (hf : fX6_placeBySlip p0 p1 p2 p3 h = some (rv, h')) : JJ G E 6 0 [(0, .ref 18), (1, .int p0), (2, .int p1), (3, .int p2), (4, .int p3)] [] h := by
  unfold fX6_placeBySlip at hf
  refine r_aload_n K dX6_placeBySlip_0 0 rfl rfl ?_
  refine r_getR (o' := 19) K flX6_12 dX6_placeBySlip_1 rfl rfl rfl ?_
  refine r_aload_n K dX6_placeBySlip_4 0 rfl rfl ?_
  refine r_getR (o' := 1) K flX6_32 dX6_placeBySlip_5 rfl rfl rfl ?_
  obtain ⟨h2_, g3_, hf⟩ := e_v hf
  refine r_callV (av := [.ref 1]) (st := []) K lkX6_39 mwX7_becomeLike (conX7_becomeLike  h h2_ g3_) dX6_placeBySlip_8 rfl (Nat.le_of_ble_eq_true rfl) rfl rfl (Nat.le_of_ble_eq_true rfl) ?_
  refine r_aload_n K dX6_placeBySlip_11 0 rfl rfl ?_
  refine r_getR (o' := 19) K flX6_12 dX6_placeBySlip_12 rfl rfl rfl ?_
  refine r_iload_n K dX6_placeBySlip_15 1 rfl rfl ?_
  refine r_aload_n K dX6_placeBySlip_16 0 rfl rfl ?_
  refine r_getR (o' := 1) K flX6_32 dX6_placeBySlip_17 rfl rfl rfl ?_
  refine r_getI K flX6_62 dX6_placeBySlip_20 rfl rfl ?_
  refine r_iload_n K dX6_placeBySlip_23 2 rfl rfl ?_
  refine r_iadd K dX6_placeBySlip_24 ?_
  refine r_iload_n K dX6_placeBySlip_25 3 rfl rfl ?_
  obtain ⟨r4_, h5_, g6_, hf⟩ := e_2 hf
  refine r_callV (av := [.int p0, .int ((h2_.1 1 11) + p1), .int p2]) (st := []) K lkX6_65 mwX7_addSlip (conX7_addSlip 19 p0 ((h2_.1 1 11) + p1) p2 rfl h2_ r4_ h5_ g6_) dX6_placeBySlip_26 rfl (Nat.le_of_ble_eq_true rfl) rfl rfl (Nat.le_of_ble_eq_true rfl) ?_
  refine r_pop K dX6_placeBySlip_29 rfl ?_
  refine r_iconst (v := 0) K dX6_placeBySlip_30 rfl ?_
  refine r_istore (lv' := [(5, .int 0), (0, .ref 18), (1, .int p0), (2, .int p1), (3, .int p2), (4, .int p3)]) K dX6_placeBySlip_31 (Nat.le_of_ble_eq_true rfl) rfl ?_
  refine r_lv [1, 2, 5, 0] rfl ?_
  exact sX6_placeBySlip_33 K Z p0 p1 p2 p3 FU p0 p3 0 h5_ hf
theorem conX6_placeBySlip {G : GG} (p0 : Int32) (p1 : Int32) (p2 : Int32) (p3 : Int32) (h : AH) (rv : Int32) (h' : AH) (hf : fX6_placeBySlip p0 p1 p2 p3 h = some (rv, h')) : Con G 5 yX6_placeBySlip cX6_placeBySlip 6 (some .int) [.ref 18, .int p0, .int p1, .int p2, .int p3] h (some (.int rv)) h' := con_of mwX6_placeBySlip (Nat.le_of_ble_eq_true rfl) (fun E K Z => sX6_placeBySlip K Z p0 p1 p2 p3 h hf)
def fX6_startBehind_13_b (p0 : Int32) (Q13 : Int32 → Int32 → AH → Option AH) (x1 : Int32) (x2 : Int32) (h : AH) : Option AH :=
  if x1 ≤ x2 then some h else bindV (fX7_passMinute 19 h) fun h6_ => Q13 x1 (x2 + 1) h6_
def fX6_startBehind_13 (p0 : Int32) : Nat → Int32 → Int32 → AH → Option AH
  | 0 => fun _ _ _ => none
  | n + 1 => fX6_startBehind_13_b p0 (fX6_startBehind_13 p0 n)
set_option maxRecDepth 10000 in
theorem sX6_startBehind_13_b {G : GG} {E : EE} {h' : AH} (K : OK G E 3 RX6 cX6_startBehind 3) (Z : RT G E none (none) h') (p0 : Int32) (Q13 : Int32 → Int32 → AH → Option AH) (hQ13 : ∀ (x1 : Int32) (x2 : Int32) (h : AH), Q13 x1 x2 h = some h' → JJ G E 3 13 [(0, .ref 18), (1, .int x1), (2, .int x2)] [] h) (x1 : Int32) (x2 : Int32) (h : AH) (hf : fX6_startBehind_13_b p0 Q13 x1 x2 h = some h') : JJ G E 3 13 [(0, .ref 18), (1, .int x1), (2, .int x2)] [] h := by
  unfold fX6_startBehind_13_b at hf
  refine r_iload_n K dX6_startBehind_13 2 rfl rfl ?_
  refine r_iload_n K dX6_startBehind_14 1 rfl rfl ?_
  refine r_icmp_ge (tgt := 31) K dX6_startBehind_15 (by decide) (fun c4_ => ?_) (fun c4_ => ?_)
  · have hf := e_t hf c4_
    exact r_vret K Z dX6_startBehind_31 hf
  · have hf := e_f hf c4_
    refine r_aload_n K dX6_startBehind_18 0 rfl rfl ?_
    refine r_getR (o' := 19) K flX6_12 dX6_startBehind_19 rfl rfl rfl ?_
    obtain ⟨h6_, g7_, hf⟩ := e_v hf
    refine r_callV (av := []) (st := []) K lkX6_43 mwX7_passMinute (conX7_passMinute 19 rfl h h6_ g7_) dX6_startBehind_22 rfl (Nat.le_of_ble_eq_true rfl) rfl rfl (Nat.le_of_ble_eq_true rfl) ?_
    refine r_iinc (y := 1) (lv' := [(2, .int (x2 + 1)), (0, .ref 18), (1, .int x1)]) K dX6_startBehind_25 2 rfl rfl (Nat.le_of_ble_eq_true rfl) rfl ?_
    refine r_goto (tgt := 13) K dX6_startBehind_28 (by decide) ?_
    refine r_lv [1, 2, 0] rfl ?_
    exact hQ13 x1 (x2 + 1) h6_ hf
theorem sX6_startBehind_13 {G : GG} {E : EE} {h' : AH} (K : OK G E 3 RX6 cX6_startBehind 3) (Z : RT G E none (none) h') (p0 : Int32) : ∀ (n : Nat) (x1 : Int32) (x2 : Int32) (h : AH), fX6_startBehind_13 p0 n x1 x2 h = some h' → JJ G E 3 13 [(0, .ref 18), (1, .int x1), (2, .int x2)] [] h := by
  intro n
  induction n with
  | zero => intro x1 x2 h hf; cases hf
  | succ n ih => intro x1 x2 h hf; exact sX6_startBehind_13_b K Z p0 _ (fun x1 x2 h hf => ih x1 x2 h hf) x1 x2 h hf
def fX6_startBehind (p0 : Int32) (h : AH) : Option AH :=
  bindV (fX7_becomeLike  h) fun h2_ => fX6_startBehind_13 p0 FU p0 0 h2_
set_option maxRecDepth 10000 in
theorem sX6_startBehind {G : GG} {E : EE} {h' : AH} (K : OK G E 3 RX6 cX6_startBehind 3) (Z : RT G E none (none) h') (p0 : Int32) (h : AH) (hf : fX6_startBehind p0 h = some h') : JJ G E 3 0 [(0, .ref 18), (1, .int p0)] [] h := by
  unfold fX6_startBehind at hf
  refine r_aload_n K dX6_startBehind_0 0 rfl rfl ?_
  refine r_getR (o' := 19) K flX6_12 dX6_startBehind_1 rfl rfl rfl ?_
  refine r_aload_n K dX6_startBehind_4 0 rfl rfl ?_
  refine r_getR (o' := 1) K flX6_32 dX6_startBehind_5 rfl rfl rfl ?_
  obtain ⟨h2_, g3_, hf⟩ := e_v hf
  refine r_callV (av := [.ref 1]) (st := []) K lkX6_39 mwX7_becomeLike (conX7_becomeLike  h h2_ g3_) dX6_startBehind_8 rfl (Nat.le_of_ble_eq_true rfl) rfl rfl (Nat.le_of_ble_eq_true rfl) ?_
  refine r_iconst (v := 0) K dX6_startBehind_11 rfl ?_
  refine r_istore_n (lv' := [(2, .int 0), (0, .ref 18), (1, .int p0)]) K dX6_startBehind_12 rfl (Nat.le_of_ble_eq_true rfl) rfl ?_
  refine r_lv [1, 2, 0] rfl ?_
  exact sX6_startBehind_13 K Z p0 FU p0 0 h2_ hf
theorem conX6_startBehind {G : GG} (p0 : Int32) (h : AH) (h' : AH) (hf : fX6_startBehind p0 h = some h') : Con G 3 yX6_startBehind cX6_startBehind 3 none [.ref 18, .int p0] h (none) h' := con_of mwX6_startBehind (Nat.le_of_ble_eq_true rfl) (fun E K Z => sX6_startBehind K Z p0 h hf)
def fX6_regretOfGoers (p0 : Int32) (h : AH) : Option (Int32 × AH) :=
  bindV (fX6_startBehind 0 h) fun h2_ => bindV (fX6_allGo p0 h2_) fun h5_ => some ((h5_.1 18 5), h5_)
set_option maxRecDepth 10000 in
theorem sX6_regretOfGoers {G : GG} {E : EE} {rv : Int32} {h' : AH} (K : OK G E 5 RX6 cX6_regretOfGoers 2) (Z : RT G E (some .int) (some (.int rv)) h') (p0 : Int32) (h : AH) (hf : fX6_regretOfGoers p0 h = some (rv, h')) : JJ G E 2 0 [(0, .ref 18), (1, .int p0)] [] h := by
  unfold fX6_regretOfGoers at hf
  refine r_aload_n K dX6_regretOfGoers_0 0 rfl rfl ?_
  refine r_iconst (v := 0) K dX6_regretOfGoers_1 rfl ?_
  obtain ⟨h2_, g3_, hf⟩ := e_v hf
  refine r_callV (av := [.int 0]) (st := []) K lkX6_77 mwX6_startBehind (conX6_startBehind 0 h h2_ g3_) dX6_regretOfGoers_2 rfl (Nat.le_of_ble_eq_true rfl) rfl rfl (Nat.le_of_ble_eq_true rfl) ?_
  refine r_aload_n K dX6_regretOfGoers_5 0 rfl rfl ?_
  refine r_iload_n K dX6_regretOfGoers_6 1 rfl rfl ?_
  obtain ⟨h5_, g6_, hf⟩ := e_v hf
  refine r_callV (av := [.int p0]) (st := []) K lkX6_69 mwX6_allGo (conX6_allGo p0 h2_ h5_ g6_) dX6_regretOfGoers_7 rfl (Nat.le_of_ble_eq_true rfl) rfl rfl (Nat.le_of_ble_eq_true rfl) ?_
  refine r_aload_n K dX6_regretOfGoers_10 0 rfl rfl ?_
  refine r_getI K flX6_26 dX6_regretOfGoers_11 rfl rfl ?_
  exact r_iret K Z dX6_regretOfGoers_14 hf
theorem conX6_regretOfGoers {G : GG} (p0 : Int32) (h : AH) (rv : Int32) (h' : AH) (hf : fX6_regretOfGoers p0 h = some (rv, h')) : Con G 5 yX6_regretOfGoers cX6_regretOfGoers 2 (some .int) [.ref 18, .int p0] h (some (.int rv)) h' := con_of mwX6_regretOfGoers (Nat.le_of_ble_eq_true rfl) (fun E K Z => sX6_regretOfGoers K Z p0 h hf)
def fX6_sup_128 (p0 : Int32) (p1 : Int32) (Q13 : Int32 → Int32 → Int32 → AH → Option AH) (x1 : Int32) (x2 : Int32) (x3 : Int32) (h : AH) : Option AH :=
  bindV (fX7_passMinute 19 h) fun h9_ => Q13 x1 x2 (x3 + 1) h9_
set_option maxRecDepth 10000 in
theorem sX6_sup_128 {G : GG} {E : EE} {h' : AH} (K : OK G E 3 RX6 cX6_sup 6) (Z : RT G E none (none) h') (p0 : Int32) (p1 : Int32) (Q13 : Int32 → Int32 → Int32 → AH → Option AH) (hQ13 : ∀ (x1 : Int32) (x2 : Int32) (x3 : Int32) (h : AH), Q13 x1 x2 x3 h = some h' → JJ G E 6 13 [(0, .ref 18), (1, .int x1), (2, .int x2), (3, .int x3)] [] h) (x1 : Int32) (x2 : Int32) (x3 : Int32) (h : AH) (hf : fX6_sup_128 p0 p1 Q13 x1 x2 x3 h = some h') : JJ G E 6 128 [(0, .ref 18), (1, .int x1), (2, .int x2), (3, .int x3)] [] h := by
  unfold fX6_sup_128 at hf
  refine r_aload_n K dX6_sup_128 0 rfl rfl ?_
  refine r_getR (o' := 19) K flX6_12 dX6_sup_129 rfl rfl rfl ?_
  obtain ⟨h9_, g10_, hf⟩ := e_v hf
  refine r_callV (av := []) (st := []) K lkX6_43 mwX7_passMinute (conX7_passMinute 19 rfl h h9_ g10_) dX6_sup_132 rfl (Nat.le_of_ble_eq_true rfl) rfl rfl (Nat.le_of_ble_eq_true rfl) ?_
  refine r_iinc (y := 1) (lv' := [(3, .int (x3 + 1)), (0, .ref 18), (1, .int x1), (2, .int x2)]) K dX6_sup_135 3 rfl rfl (Nat.le_of_ble_eq_true rfl) rfl ?_
  refine r_goto (tgt := 13) K dX6_sup_138 (by decide) ?_
  refine r_lv [1, 2, 3, 0] rfl ?_
  exact hQ13 x1 x2 (x3 + 1) h9_ hf
def fX6_sup_13_b (p0 : Int32) (p1 : Int32) (Q13 : Int32 → Int32 → Int32 → AH → Option AH) (x1 : Int32) (x2 : Int32) (x3 : Int32) (h : AH) : Option AH :=
  if x1 ≤ x3 then some h else letV (wI h 18 6 (((h.1 18 6) * 1103515245) + 12345)) fun h5_ => if x2 ≤ (jrem (jushr (h5_.1 18 6) 24) 12) then fX6_sup_128 p0 p1 Q13 x1 x2 x3 h5_ else if (h5_.1 19 9) ≤ 0 then fX6_sup_128 p0 p1 Q13 x1 x2 x3 h5_ else if (h5_.1 19 9) = 0 then none else letV ((jrem (jushr (h5_.1 18 6) 8) (h5_.1 19 9))) fun x13_ => bind2 (fX7_isLeft 19 x13_ h5_) fun r15_ h16_ => if r15_ = 0 then fX6_sup_128 p0 p1 Q13 x1 x2 x3 h16_ else letV ((1 + (jrem (jushr (h16_.1 18 6) 16) 20))) fun x19_ => if inb x13_ 9 = true then letV (wI h16_ 20 (ix x13_) (jmin 99 ((h16_.1 20 (ix x13_)) + x19_))) fun h23_ => fX6_sup_128 p0 p1 Q13 x1 x2 x3 h23_ else none
def fX6_sup_13 (p0 : Int32) (p1 : Int32) : Nat → Int32 → Int32 → Int32 → AH → Option AH
  | 0 => fun _ _ _ _ => none
  | n + 1 => fX6_sup_13_b p0 p1 (fX6_sup_13 p0 p1 n)
set_option maxRecDepth 10000 in
theorem sX6_sup_13_b {G : GG} {E : EE} {h' : AH} (K : OK G E 3 RX6 cX6_sup 6) (Z : RT G E none (none) h') (p0 : Int32) (p1 : Int32) (Q13 : Int32 → Int32 → Int32 → AH → Option AH) (hQ13 : ∀ (x1 : Int32) (x2 : Int32) (x3 : Int32) (h : AH), Q13 x1 x2 x3 h = some h' → JJ G E 6 13 [(0, .ref 18), (1, .int x1), (2, .int x2), (3, .int x3)] [] h) (x1 : Int32) (x2 : Int32) (x3 : Int32) (h : AH) (hf : fX6_sup_13_b p0 p1 Q13 x1 x2 x3 h = some h') : JJ G E 6 13 [(0, .ref 18), (1, .int x1), (2, .int x2), (3, .int x3)] [] h := by
  unfold fX6_sup_13_b at hf
  refine r_iload_n K dX6_sup_13 3 rfl rfl ?_
  refine r_iload_n K dX6_sup_14 1 rfl rfl ?_
  refine r_icmp_ge (tgt := 141) K dX6_sup_15 (by decide) (fun c4_ => ?_) (fun c4_ => ?_)
  · have hf := e_t hf c4_
    exact r_vret K Z dX6_sup_141 hf
  · have hf := e_f hf c4_
    refine r_aload_n K dX6_sup_18 0 rfl rfl ?_
    refine r_aload_n K dX6_sup_19 0 rfl rfl ?_
    refine r_getI K flX6_29 dX6_sup_20 rfl rfl ?_
    refine r_ldc (v := 1103515245) K dX6_sup_23 lcX6_91 ?_
    refine r_imul K dX6_sup_25 ?_
    refine r_sipush (v := 12345) K dX6_sup_26 rfl ?_
    refine r_iadd K dX6_sup_29 ?_
    obtain ⟨h5_, e6_, hf⟩ := e_l hf
    refine r_putI K fpX6_29 dX6_sup_30 rfl rfl e6_ ?_
    refine r_aload_n K dX6_sup_33 0 rfl rfl ?_
    refine r_getI K flX6_29 dX6_sup_34 rfl rfl ?_
    refine r_bipush (v := 24) K dX6_sup_37 rfl ?_
    refine r_iushr K dX6_sup_39 ?_
    refine r_bipush (v := 12) K dX6_sup_40 rfl ?_
    refine r_irem K dX6_sup_42 (by decide) ?_
    refine r_iload_n K dX6_sup_43 2 rfl rfl ?_
    refine r_icmp_ge (tgt := 128) K dX6_sup_44 (by decide) (fun c7_ => ?_) (fun c7_ => ?_)
    · have hf := e_t hf c7_
      refine r_lv [0, 1, 2, 3] rfl ?_
      exact sX6_sup_128 K Z p0 p1 Q13 hQ13 x1 x2 x3 h5_ hf
    · have hf := e_f hf c7_
      refine r_aload_n K dX6_sup_47 0 rfl rfl ?_
      refine r_getR (o' := 19) K flX6_12 dX6_sup_48 rfl rfl rfl ?_
      refine r_getI K flX6_92 dX6_sup_51 rfl rfl ?_
      refine r_if_le (tgt := 128) K dX6_sup_54 (by decide) (fun c11_ => ?_) (fun c11_ => ?_)
      · have hf := e_t hf c11_
        refine r_lv [0, 1, 2, 3] rfl ?_
        exact sX6_sup_128 K Z p0 p1 Q13 hQ13 x1 x2 x3 h5_ hf
      · have hf := e_f hf c11_
        refine r_aload_n K dX6_sup_57 0 rfl rfl ?_
        refine r_getI K flX6_29 dX6_sup_58 rfl rfl ?_
        refine r_bipush (v := 8) K dX6_sup_61 rfl ?_
        refine r_iushr K dX6_sup_63 ?_
        refine r_aload_n K dX6_sup_64 0 rfl rfl ?_
        refine r_getR (o' := 19) K flX6_12 dX6_sup_65 rfl rfl rfl ?_
        refine r_getI K flX6_92 dX6_sup_68 rfl rfl ?_
        obtain ⟨g12_, hf⟩ := e_n hf
        refine r_irem K dX6_sup_71 g12_ ?_
        obtain ⟨x13_, e14_, hf⟩ := e_l hf
        refine r_nmI e14_ ?_
        refine r_istore (lv' := [(4, .int x13_), (0, .ref 18), (1, .int x1), (2, .int x2), (3, .int x3)]) K dX6_sup_72 (Nat.le_of_ble_eq_true rfl) rfl ?_
        refine r_aload_n K dX6_sup_74 1 rfl rfl ?_
        refine r_getR (o' := 19) K flX6_12 dX6_sup_75 rfl rfl rfl ?_
        refine r_iload K dX6_sup_78 0 rfl ?_
        obtain ⟨r15_, h16_, g17_, hf⟩ := e_2 hf
        refine r_callV (av := [.int x13_]) (st := []) K lkX6_52 mwX7_isLeft (conX7_isLeft 19 x13_ rfl h5_ r15_ h16_ g17_) dX6_sup_80 rfl (Nat.le_of_ble_eq_true rfl) rfl rfl (Nat.le_of_ble_eq_true rfl) ?_
        refine r_if_eq (tgt := 128) K dX6_sup_83 (by decide) (fun c18_ => ?_) (fun c18_ => ?_)
        · have hf := e_t hf c18_
          refine r_lv [1, 2, 3, 4] rfl ?_
          exact sX6_sup_128 K Z p0 p1 Q13 hQ13 x1 x2 x3 h16_ hf
        · have hf := e_f hf c18_
          refine r_iconst (v := 1) K dX6_sup_86 rfl ?_
          refine r_aload_n K dX6_sup_87 1 rfl rfl ?_
          refine r_getI K flX6_29 dX6_sup_88 rfl rfl ?_
          refine r_bipush (v := 16) K dX6_sup_91 rfl ?_
          refine r_iushr K dX6_sup_93 ?_
          refine r_bipush (v := 20) K dX6_sup_94 rfl ?_
          refine r_irem K dX6_sup_96 (by decide) ?_
          refine r_iadd K dX6_sup_97 ?_
          obtain ⟨x19_, e20_, hf⟩ := e_l hf
          refine r_nmI e20_ ?_
          refine r_istore (lv' := [(5, .int x19_), (4, .int x13_), (0, .ref 18), (1, .int x1), (2, .int x2), (3, .int x3)]) K dX6_sup_98 (Nat.le_of_ble_eq_true rfl) rfl ?_
          refine r_aload_n K dX6_sup_100 2 rfl rfl ?_
          refine r_getR (o' := 19) K flX6_12 dX6_sup_101 rfl rfl rfl ?_
          refine r_getR (o' := 20) K flX6_56 dX6_sup_104 rfl rfl rfl ?_
          refine r_iload K dX6_sup_107 1 rfl ?_
          refine r_bipush (v := 99) K dX6_sup_109 rfl ?_
          refine r_aload_n K dX6_sup_111 2 rfl rfl ?_
          refine r_getR (o' := 19) K flX6_12 dX6_sup_112 rfl rfl rfl ?_
          refine r_getR (o' := 20) K flX6_56 dX6_sup_115 rfl rfl rfl ?_
          refine r_iload K dX6_sup_118 1 rfl ?_
          obtain ⟨g21_, hf⟩ := e_g hf
          refine r_iald K dX6_sup_120 rfl g21_ ?_
          refine r_iload K dX6_sup_121 0 rfl ?_
          refine r_iadd K dX6_sup_123 ?_
          refine r_mmin K lmX6_95 dX6_sup_124 (Nat.le_of_ble_eq_true rfl) (Nat.le_of_ble_eq_true rfl) ?_
          obtain ⟨h23_, e24_, hf⟩ := e_l hf
          refine r_iast K dX6_sup_127 rfl g21_ e24_ ?_
          refine r_lv [2, 3, 4, 5] rfl ?_
          exact sX6_sup_128 K Z p0 p1 Q13 hQ13 x1 x2 x3 h23_ hf
theorem sX6_sup_13 {G : GG} {E : EE} {h' : AH} (K : OK G E 3 RX6 cX6_sup 6) (Z : RT G E none (none) h') (p0 : Int32) (p1 : Int32) : ∀ (n : Nat) (x1 : Int32) (x2 : Int32) (x3 : Int32) (h : AH), fX6_sup_13 p0 p1 n x1 x2 x3 h = some h' → JJ G E 6 13 [(0, .ref 18), (1, .int x1), (2, .int x2), (3, .int x3)] [] h := by
  intro n
  induction n with
  | zero => intro x1 x2 x3 h hf; cases hf
  | succ n ih => intro x1 x2 x3 h hf; exact sX6_sup_13_b K Z p0 p1 _ (fun x1 x2 x3 h hf => ih x1 x2 x3 h hf) x1 x2 x3 h hf
def fX6_sup (p0 : Int32) (p1 : Int32) (h : AH) : Option AH :=
  bindV (fX7_becomeLike  h) fun h2_ => fX6_sup_13 p0 p1 FU p0 p1 0 h2_
set_option maxRecDepth 10000 in
theorem sX6_sup {G : GG} {E : EE} {h' : AH} (K : OK G E 3 RX6 cX6_sup 6) (Z : RT G E none (none) h') (p0 : Int32) (p1 : Int32) (h : AH) (hf : fX6_sup p0 p1 h = some h') : JJ G E 6 0 [(0, .ref 18), (1, .int p0), (2, .int p1)] [] h := by
  unfold fX6_sup at hf
  refine r_aload_n K dX6_sup_0 0 rfl rfl ?_
  refine r_getR (o' := 19) K flX6_12 dX6_sup_1 rfl rfl rfl ?_
  refine r_aload_n K dX6_sup_4 0 rfl rfl ?_
  refine r_getR (o' := 1) K flX6_32 dX6_sup_5 rfl rfl rfl ?_
  obtain ⟨h2_, g3_, hf⟩ := e_v hf
  refine r_callV (av := [.ref 1]) (st := []) K lkX6_39 mwX7_becomeLike (conX7_becomeLike  h h2_ g3_) dX6_sup_8 rfl (Nat.le_of_ble_eq_true rfl) rfl rfl (Nat.le_of_ble_eq_true rfl) ?_
  refine r_iconst (v := 0) K dX6_sup_11 rfl ?_
  refine r_istore_n (lv' := [(3, .int 0), (0, .ref 18), (1, .int p0), (2, .int p1)]) K dX6_sup_12 rfl (Nat.le_of_ble_eq_true rfl) rfl ?_
  refine r_lv [1, 2, 3, 0] rfl ?_
  exact sX6_sup_13 K Z p0 p1 FU p0 p1 0 h2_ hf
theorem conX6_sup {G : GG} (p0 : Int32) (p1 : Int32) (h : AH) (h' : AH) (hf : fX6_sup p0 p1 h = some h') : Con G 3 yX6_sup cX6_sup 6 none [.ref 18, .int p0, .int p1] h (none) h' := con_of mwX6_sup (Nat.le_of_ble_eq_true rfl) (fun E K Z => sX6_sup K Z p0 p1 h hf)
def fX7_addGuest (t : Nat) (p0 : Int32) (p1 : Int32) (h : AH) : Option (Int32 × AH) :=
  if (h.1 t 9) < 9 then letV ((h.1 t 9)) fun x2_ => if inb x2_ 9 = true then letV (wI h (rf t 0) (ix x2_) 0) fun h5_ => letV (wI h5_ (rf t 1) (ix x2_) 1) fun h8_ => letV (wI h8_ (rf t 2) (ix x2_) 0) fun h11_ => letV (wI h11_ (rf t 3) (ix x2_) p0) fun h14_ => letV (wI h14_ (rf t 4) (ix x2_) p1) fun h17_ => letV (wI h17_ (rf t 5) (ix x2_) 0) fun h20_ => letV (wI h20_ t 9 ((h20_.1 t 9) + 1)) fun h22_ => some (x2_, h22_) else none else some ((-3), h)
set_option maxRecDepth 10000 in
theorem sX7_addGuest {G : GG} {E : EE} {rv : Int32} {h' : AH} (K : OK G E 0 RX7 cX7_addGuest 4) (Z : RT G E (some .int) (some (.int rv)) h') (t : Nat) (p0 : Int32) (p1 : Int32) (ht : KD t = (7, 12)) (h : AH) (hf : fX7_addGuest t p0 p1 h = some (rv, h')) : JJ G E 4 0 [(0, .ref t), (1, .int p0), (2, .int p1)] [] h := by
  unfold fX7_addGuest at hf
  refine r_aload_n K dX7_addGuest_0 0 rfl rfl ?_
  refine r_getI K flX7_39 dX7_addGuest_1 ht rfl ?_
  refine r_bipush (v := 9) K dX7_addGuest_4 rfl ?_
  refine r_icmp_lt (tgt := 12) K dX7_addGuest_6 (by decide) (fun c1_ => ?_) (fun c1_ => ?_)
  · have hf := e_t hf c1_
    refine r_aload_n K dX7_addGuest_12 0 rfl rfl ?_
    refine r_getI K flX7_39 dX7_addGuest_13 ht rfl ?_
    obtain ⟨x2_, e3_, hf⟩ := e_l hf
    refine r_nmI e3_ ?_
    refine r_istore_n (lv' := [(3, .int x2_), (0, .ref t), (1, .int p0), (2, .int p1)]) K dX7_addGuest_16 rfl (Nat.le_of_ble_eq_true rfl) rfl ?_
    refine r_aload_n K dX7_addGuest_17 1 rfl rfl ?_
    refine r_getR (o' := (rf t 0)) K flX7_9 dX7_addGuest_18 ht rfl rfl ?_
    refine r_iload_n K dX7_addGuest_21 0 rfl rfl ?_
    refine r_iconst (v := 0) K dX7_addGuest_22 rfl ?_
    obtain ⟨g4_, hf⟩ := e_g hf
    obtain ⟨h5_, e6_, hf⟩ := e_l hf
    refine r_iast K dX7_addGuest_23 (kf7_0 ht) g4_ e6_ ?_
    refine r_aload_n K dX7_addGuest_24 1 rfl rfl ?_
    refine r_getR (o' := (rf t 1)) K flX7_15 dX7_addGuest_25 ht rfl rfl ?_
    refine r_iload_n K dX7_addGuest_28 0 rfl rfl ?_
    refine r_iconst (v := 1) K dX7_addGuest_29 rfl ?_
    obtain ⟨h8_, e9_, hf⟩ := e_l hf
    refine r_iast K dX7_addGuest_30 (kf7_1 ht) g4_ e9_ ?_
    refine r_aload_n K dX7_addGuest_31 1 rfl rfl ?_
    refine r_getR (o' := (rf t 2)) K flX7_18 dX7_addGuest_32 ht rfl rfl ?_
    refine r_iload_n K dX7_addGuest_35 0 rfl rfl ?_
    refine r_iconst (v := 0) K dX7_addGuest_36 rfl ?_
    obtain ⟨h11_, e12_, hf⟩ := e_l hf
    refine r_iast K dX7_addGuest_37 (kf7_2 ht) g4_ e12_ ?_
    refine r_aload_n K dX7_addGuest_38 1 rfl rfl ?_
    refine r_getR (o' := (rf t 3)) K flX7_21 dX7_addGuest_39 ht rfl rfl ?_
    refine r_iload_n K dX7_addGuest_42 0 rfl rfl ?_
    refine r_iload_n K dX7_addGuest_43 2 rfl rfl ?_
    obtain ⟨h14_, e15_, hf⟩ := e_l hf
    refine r_iast K dX7_addGuest_44 (kf7_3 ht) g4_ e15_ ?_
    refine r_aload_n K dX7_addGuest_45 1 rfl rfl ?_
    refine r_getR (o' := (rf t 4)) K flX7_24 dX7_addGuest_46 ht rfl rfl ?_
    refine r_iload_n K dX7_addGuest_49 0 rfl rfl ?_
    refine r_iload_n K dX7_addGuest_50 3 rfl rfl ?_
    obtain ⟨h17_, e18_, hf⟩ := e_l hf
    refine r_iast K dX7_addGuest_51 (kf7_4 ht) g4_ e18_ ?_
    refine r_aload_n K dX7_addGuest_52 1 rfl rfl ?_
    refine r_getR (o' := (rf t 5)) K flX7_27 dX7_addGuest_53 ht rfl rfl ?_
    refine r_iload_n K dX7_addGuest_56 0 rfl rfl ?_
    refine r_iconst (v := 0) K dX7_addGuest_57 rfl ?_
    obtain ⟨h20_, e21_, hf⟩ := e_l hf
    refine r_iast K dX7_addGuest_58 (kf7_5 ht) g4_ e21_ ?_
    refine r_aload_n K dX7_addGuest_59 1 rfl rfl ?_
    refine r_dup K dX7_addGuest_60 rfl ?_
    refine r_getI K flX7_39 dX7_addGuest_61 ht rfl ?_
    refine r_iconst (v := 1) K dX7_addGuest_64 rfl ?_
    refine r_iadd K dX7_addGuest_65 ?_
    obtain ⟨h22_, e23_, hf⟩ := e_l hf
    refine r_putI K fpX7_39 dX7_addGuest_66 ht rfl e23_ ?_
    refine r_iload_n K dX7_addGuest_69 0 rfl rfl ?_
    exact r_iret K Z dX7_addGuest_70 hf
  · have hf := e_f hf c1_
    refine r_bipush (v := (-3)) K dX7_addGuest_9 rfl ?_
    exact r_iret K Z dX7_addGuest_11 hf
theorem conX7_addGuest {G : GG} (t : Nat) (p0 : Int32) (p1 : Int32) (ht : KD t = (7, 12)) (h : AH) (rv : Int32) (h' : AH) (hf : fX7_addGuest t p0 p1 h = some (rv, h')) : Con G 0 yX7_addGuest cX7_addGuest 4 (some .int) [.ref t, .int p0, .int p1] h (some (.int rv)) h' := con_of mwX7_addGuest (Nat.le_of_ble_eq_true rfl) (fun E K Z => sX7_addGuest K Z t p0 p1 ht h hf)
def fX7_howManyGloves_5_b (t : Nat) (p0 : Int32) (p1 : Int32) (Q5 : Int32 → Int32 → Int32 → Int32 → AH → Option (Int32 × AH)) (x1 : Int32) (x2 : Int32) (x3 : Int32) (x4 : Int32) (h : AH) : Option (Int32 × AH) :=
  if (h.1 t 9) ≤ x4 then some (x3, h) else if inb x4 9 = true then if (h.1 (rf t 5) (ix x4)) = 0 then if (h.1 (rf t 3) (ix x4)) = x1 then if (h.1 (rf t 4) (ix x4)) = x2 then Q5 x1 x2 (x3 + 1) (x4 + 1) h else Q5 x1 x2 x3 (x4 + 1) h else Q5 x1 x2 x3 (x4 + 1) h else Q5 x1 x2 x3 (x4 + 1) h else none
def fX7_howManyGloves_5 (t : Nat) (p0 : Int32) (p1 : Int32) : Nat → Int32 → Int32 → Int32 → Int32 → AH → Option (Int32 × AH)
  | 0 => fun _ _ _ _ _ => none
  | n + 1 => fX7_howManyGloves_5_b t p0 p1 (fX7_howManyGloves_5 t p0 p1 n)
set_option maxRecDepth 10000 in
theorem sX7_howManyGloves_5_b {G : GG} {E : EE} {rv : Int32} {h' : AH} (K : OK G E 0 RX7 cX7_howManyGloves 5) (Z : RT G E (some .int) (some (.int rv)) h') (t : Nat) (p0 : Int32) (p1 : Int32) (ht : KD t = (7, 12)) (Q5 : Int32 → Int32 → Int32 → Int32 → AH → Option (Int32 × AH)) (hQ5 : ∀ (x1 : Int32) (x2 : Int32) (x3 : Int32) (x4 : Int32) (h : AH), Q5 x1 x2 x3 x4 h = some (rv, h') → JJ G E 5 5 [(0, .ref t), (1, .int x1), (2, .int x2), (3, .int x3), (4, .int x4)] [] h) (x1 : Int32) (x2 : Int32) (x3 : Int32) (x4 : Int32) (h : AH) (hf : fX7_howManyGloves_5_b t p0 p1 Q5 x1 x2 x3 x4 h = some (rv, h')) : JJ G E 5 5 [(0, .ref t), (1, .int x1), (2, .int x2), (3, .int x3), (4, .int x4)] [] h := by
  unfold fX7_howManyGloves_5_b at hf
  refine r_iload K dX7_howManyGloves_5 4 rfl ?_
  refine r_aload_n K dX7_howManyGloves_7 0 rfl rfl ?_
  refine r_getI K flX7_39 dX7_howManyGloves_8 ht rfl ?_
  refine r_icmp_ge (tgt := 55) K dX7_howManyGloves_11 (by decide) (fun c1_ => ?_) (fun c1_ => ?_)
  · have hf := e_t hf c1_
    refine r_iload_n K dX7_howManyGloves_55 3 rfl rfl ?_
    exact r_iret K Z dX7_howManyGloves_56 hf
  · have hf := e_f hf c1_
    refine r_aload_n K dX7_howManyGloves_14 0 rfl rfl ?_
    refine r_getR (o' := (rf t 5)) K flX7_27 dX7_howManyGloves_15 ht rfl rfl ?_
    refine r_iload K dX7_howManyGloves_18 4 rfl ?_
    obtain ⟨g2_, hf⟩ := e_g hf
    refine r_iald K dX7_howManyGloves_20 (kf7_5 ht) g2_ ?_
    refine r_if_ne (tgt := 49) K dX7_howManyGloves_21 (by decide) (fun c3_ => ?_) (fun c3_ => ?_)
    · have hf := e_f hf c3_
      refine r_iinc (y := 1) (lv' := [(4, .int (x4 + 1)), (0, .ref t), (1, .int x1), (2, .int x2), (3, .int x3)]) K dX7_howManyGloves_49 4 rfl rfl (Nat.le_of_ble_eq_true rfl) rfl ?_
      refine r_goto (tgt := 5) K dX7_howManyGloves_52 (by decide) ?_
      refine r_lv [1, 2, 3, 4, 0] rfl ?_
      exact hQ5 x1 x2 x3 (x4 + 1) h hf
    · have hf := e_t hf c3_
      refine r_aload_n K dX7_howManyGloves_24 0 rfl rfl ?_
      refine r_getR (o' := (rf t 3)) K flX7_21 dX7_howManyGloves_25 ht rfl rfl ?_
      refine r_iload K dX7_howManyGloves_28 4 rfl ?_
      refine r_iald K dX7_howManyGloves_30 (kf7_3 ht) g2_ ?_
      refine r_iload_n K dX7_howManyGloves_31 1 rfl rfl ?_
      refine r_icmp_ne (tgt := 49) K dX7_howManyGloves_32 (by decide) (fun c5_ => ?_) (fun c5_ => ?_)
      · have hf := e_f hf c5_
        refine r_iinc (y := 1) (lv' := [(4, .int (x4 + 1)), (0, .ref t), (1, .int x1), (2, .int x2), (3, .int x3)]) K dX7_howManyGloves_49 4 rfl rfl (Nat.le_of_ble_eq_true rfl) rfl ?_
        refine r_goto (tgt := 5) K dX7_howManyGloves_52 (by decide) ?_
        refine r_lv [1, 2, 3, 4, 0] rfl ?_
        exact hQ5 x1 x2 x3 (x4 + 1) h hf
      · have hf := e_t hf c5_
        refine r_aload_n K dX7_howManyGloves_35 0 rfl rfl ?_
        refine r_getR (o' := (rf t 4)) K flX7_24 dX7_howManyGloves_36 ht rfl rfl ?_
        refine r_iload K dX7_howManyGloves_39 4 rfl ?_
        refine r_iald K dX7_howManyGloves_41 (kf7_4 ht) g2_ ?_
        refine r_iload_n K dX7_howManyGloves_42 2 rfl rfl ?_
        refine r_icmp_ne (tgt := 49) K dX7_howManyGloves_43 (by decide) (fun c7_ => ?_) (fun c7_ => ?_)
        · have hf := e_f hf c7_
          refine r_iinc (y := 1) (lv' := [(4, .int (x4 + 1)), (0, .ref t), (1, .int x1), (2, .int x2), (3, .int x3)]) K dX7_howManyGloves_49 4 rfl rfl (Nat.le_of_ble_eq_true rfl) rfl ?_
          refine r_goto (tgt := 5) K dX7_howManyGloves_52 (by decide) ?_
          refine r_lv [1, 2, 3, 4, 0] rfl ?_
          exact hQ5 x1 x2 x3 (x4 + 1) h hf
        · have hf := e_t hf c7_
          refine r_iinc (y := 1) (lv' := [(3, .int (x3 + 1)), (0, .ref t), (1, .int x1), (2, .int x2), (4, .int x4)]) K dX7_howManyGloves_46 3 rfl rfl (Nat.le_of_ble_eq_true rfl) rfl ?_
          refine r_iinc (y := 1) (lv' := [(4, .int (x4 + 1)), (3, .int (x3 + 1)), (0, .ref t), (1, .int x1), (2, .int x2)]) K dX7_howManyGloves_49 4 rfl rfl (Nat.le_of_ble_eq_true rfl) rfl ?_
          refine r_goto (tgt := 5) K dX7_howManyGloves_52 (by decide) ?_
          refine r_lv [2, 3, 4, 1, 0] rfl ?_
          exact hQ5 x1 x2 (x3 + 1) (x4 + 1) h hf
theorem sX7_howManyGloves_5 {G : GG} {E : EE} {rv : Int32} {h' : AH} (K : OK G E 0 RX7 cX7_howManyGloves 5) (Z : RT G E (some .int) (some (.int rv)) h') (t : Nat) (p0 : Int32) (p1 : Int32) (ht : KD t = (7, 12)) : ∀ (n : Nat) (x1 : Int32) (x2 : Int32) (x3 : Int32) (x4 : Int32) (h : AH), fX7_howManyGloves_5 t p0 p1 n x1 x2 x3 x4 h = some (rv, h') → JJ G E 5 5 [(0, .ref t), (1, .int x1), (2, .int x2), (3, .int x3), (4, .int x4)] [] h := by
  intro n
  induction n with
  | zero => intro x1 x2 x3 x4 h hf; cases hf
  | succ n ih => intro x1 x2 x3 x4 h hf; exact sX7_howManyGloves_5_b K Z t p0 p1 ht _ (fun x1 x2 x3 x4 h hf => ih x1 x2 x3 x4 h hf) x1 x2 x3 x4 h hf
def fX7_howManyGloves (t : Nat) (p0 : Int32) (p1 : Int32) (h : AH) : Option (Int32 × AH) :=
  fX7_howManyGloves_5 t p0 p1 FU p0 p1 0 0 h
set_option maxRecDepth 10000 in
theorem sX7_howManyGloves {G : GG} {E : EE} {rv : Int32} {h' : AH} (K : OK G E 0 RX7 cX7_howManyGloves 5) (Z : RT G E (some .int) (some (.int rv)) h') (t : Nat) (p0 : Int32) (p1 : Int32) (ht : KD t = (7, 12)) (h : AH) (hf : fX7_howManyGloves t p0 p1 h = some (rv, h')) : JJ G E 5 0 [(0, .ref t), (1, .int p0), (2, .int p1)] [] h := by
  unfold fX7_howManyGloves at hf
  refine r_iconst (v := 0) K dX7_howManyGloves_0 rfl ?_
  refine r_istore_n (lv' := [(3, .int 0), (0, .ref t), (1, .int p0), (2, .int p1)]) K dX7_howManyGloves_1 rfl (Nat.le_of_ble_eq_true rfl) rfl ?_
  refine r_iconst (v := 0) K dX7_howManyGloves_2 rfl ?_
  refine r_istore (lv' := [(4, .int 0), (3, .int 0), (0, .ref t), (1, .int p0), (2, .int p1)]) K dX7_howManyGloves_3 (Nat.le_of_ble_eq_true rfl) rfl ?_
  refine r_lv [2, 3, 4, 1, 0] rfl ?_
  exact sX7_howManyGloves_5 K Z t p0 p1 ht FU p0 p1 0 0 h hf
theorem conX7_howManyGloves {G : GG} (t : Nat) (p0 : Int32) (p1 : Int32) (ht : KD t = (7, 12)) (h : AH) (rv : Int32) (h' : AH) (hf : fX7_howManyGloves t p0 p1 h = some (rv, h')) : Con G 0 yX7_howManyGloves cX7_howManyGloves 5 (some .int) [.ref t, .int p0, .int p1] h (some (.int rv)) h' := con_of mwX7_howManyGloves (Nat.le_of_ble_eq_true rfl) (fun E K Z => sX7_howManyGloves K Z t p0 p1 ht h hf)
