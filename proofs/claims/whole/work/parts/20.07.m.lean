def fX10_shift_151_b (p0 : Int32) (p1 : Int32) (p2 : Int32) (p3 : Int32) (p4 : Int32) (Q151 : Int32 → Int32 → Int32 → Int32 → AH → Option (Int32 × AH)) (x3 : Int32) (x4 : Int32) (x5 : Int32) (x6 : Int32) (h : AH) : Option (Int32 × AH) :=
  if x5 ≤ x6 then some (x5, h) else if inb x6 60 = true then if inb (((60 * x3) + x4) + x6) 360 = true then letV (wL h 77 (ix (((60 * x3) + x4) + x6)) (h.2 78 (ix x6))) fun h29_ => Q151 x3 x4 x5 (x6 + 1) h29_ else none else none
def fX10_shift_151 (p0 : Int32) (p1 : Int32) (p2 : Int32) (p3 : Int32) (p4 : Int32) : Nat → Int32 → Int32 → Int32 → Int32 → AH → Option (Int32 × AH)
  | 0 => fun _ _ _ _ _ => none
  | n + 1 => fX10_shift_151_b p0 p1 p2 p3 p4 (fX10_shift_151 p0 p1 p2 p3 p4 n)
set_option maxRecDepth 10000 in
theorem sX10_shift_151_b {G : GG} {E : EE} {rv : Int32} {h' : AH} (K : OK G E 2 RX10 cX10_shift 7) (Z : RT G E (some .int) (some (.int rv)) h') (p0 : Int32) (p1 : Int32) (p2 : Int32) (p3 : Int32) (p4 : Int32) (Q151 : Int32 → Int32 → Int32 → Int32 → AH → Option (Int32 × AH)) (hQ151 : ∀ (x3 : Int32) (x4 : Int32) (x5 : Int32) (x6 : Int32) (h : AH), Q151 x3 x4 x5 x6 h = some (rv, h') → JJ G E 7 151 [(0, .ref 59), (3, .int x3), (4, .int x4), (5, .int x5), (6, .int x6)] [] h) (x3 : Int32) (x4 : Int32) (x5 : Int32) (x6 : Int32) (h : AH) (hf : fX10_shift_151_b p0 p1 p2 p3 p4 Q151 x3 x4 x5 x6 h = some (rv, h')) : JJ G E 7 151 [(0, .ref 59), (3, .int x3), (4, .int x4), (5, .int x5), (6, .int x6)] [] h := by
  unfold fX10_shift_151_b at hf
  refine r_iload K dX10_shift_151 4 rfl ?_
  refine r_iload K dX10_shift_153 3 rfl ?_
  refine r_icmp_ge (tgt := 186) K dX10_shift_155 (by decide) (fun c26_ => ?_) (fun c26_ => ?_)
  · have hf := e_t hf c26_
    refine r_iload K dX10_shift_186 3 rfl ?_
    exact r_iret K Z dX10_shift_188 hf
  · have hf := e_f hf c26_
    refine r_aload_n K dX10_shift_158 0 rfl rfl ?_
    refine r_getR (o' := 77) K flX10_66 dX10_shift_159 rfl rfl rfl ?_
    refine r_bipush (v := 60) K dX10_shift_162 rfl ?_
    refine r_iload_n K dX10_shift_164 1 rfl rfl ?_
    refine r_imul K dX10_shift_165 ?_
    refine r_iload K dX10_shift_166 2 rfl ?_
    refine r_iadd K dX10_shift_168 ?_
    refine r_iload K dX10_shift_169 4 rfl ?_
    refine r_iadd K dX10_shift_171 ?_
    refine r_aload_n K dX10_shift_172 0 rfl rfl ?_
    refine r_getR (o' := 78) K flX10_70 dX10_shift_173 rfl rfl rfl ?_
    refine r_iload K dX10_shift_176 4 rfl ?_
    obtain ⟨g27_, hf⟩ := e_g hf
    refine r_lald K dX10_shift_178 rfl g27_ ?_
    obtain ⟨g28_, hf⟩ := e_g hf
    obtain ⟨h29_, e30_, hf⟩ := e_l hf
    refine r_last K dX10_shift_179 rfl g28_ e30_ ?_
    refine r_iinc (y := 1) (lv' := [(6, .int (x6 + 1)), (0, .ref 59), (3, .int x3), (4, .int x4), (5, .int x5)]) K dX10_shift_180 4 rfl rfl (Nat.le_of_ble_eq_true rfl) rfl ?_
    refine r_goto (tgt := 151) K dX10_shift_183 (by decide) ?_
    refine r_lv [1, 2, 3, 4, 0] rfl ?_
    exact hQ151 x3 x4 x5 (x6 + 1) h29_ hf
theorem sX10_shift_151 {G : GG} {E : EE} {rv : Int32} {h' : AH} (K : OK G E 2 RX10 cX10_shift 7) (Z : RT G E (some .int) (some (.int rv)) h') (p0 : Int32) (p1 : Int32) (p2 : Int32) (p3 : Int32) (p4 : Int32) : ∀ (n : Nat) (x3 : Int32) (x4 : Int32) (x5 : Int32) (x6 : Int32) (h : AH), fX10_shift_151 p0 p1 p2 p3 p4 n x3 x4 x5 x6 h = some (rv, h') → JJ G E 7 151 [(0, .ref 59), (3, .int x3), (4, .int x4), (5, .int x5), (6, .int x6)] [] h := by
  intro n
  induction n with
  | zero => intro x3 x4 x5 x6 h hf; cases hf
  | succ n ih => intro x3 x4 x5 x6 h hf; exact sX10_shift_151_b K Z p0 p1 p2 p3 p4 _ (fun x3 x4 x5 x6 h hf => ih x3 x4 x5 x6 h hf) x3 x4 x5 x6 h hf
def fX10_shift_114_b (p0 : Int32) (p1 : Int32) (p2 : Int32) (p3 : Int32) (p4 : Int32) (Q114 : Int32 → Int32 → Int32 → Int32 → Int32 → Int32 → AH → Option (Int32 × AH)) (x1 : Int32) (x2 : Int32) (x3 : Int32) (x4 : Int32) (x5 : Int32) (x6 : Int32) (h : AH) : Option (Int32 × AH) :=
  if x5 ≤ x6 then fX10_shift_151 p0 p1 p2 p3 p4 FU x3 x4 x5 0 h else if inb (((60 * x1) + x2) + x6) 360 = true then if inb x6 60 = true then letV (wL h 78 (ix x6) (h.2 77 (ix (((60 * x1) + x2) + x6)))) fun h33_ => Q114 x1 x2 x3 x4 x5 (x6 + 1) h33_ else none else none
def fX10_shift_114 (p0 : Int32) (p1 : Int32) (p2 : Int32) (p3 : Int32) (p4 : Int32) : Nat → Int32 → Int32 → Int32 → Int32 → Int32 → Int32 → AH → Option (Int32 × AH)
  | 0 => fun _ _ _ _ _ _ _ => none
  | n + 1 => fX10_shift_114_b p0 p1 p2 p3 p4 (fX10_shift_114 p0 p1 p2 p3 p4 n)
set_option maxRecDepth 10000 in
theorem sX10_shift_114_b {G : GG} {E : EE} {rv : Int32} {h' : AH} (K : OK G E 2 RX10 cX10_shift 7) (Z : RT G E (some .int) (some (.int rv)) h') (p0 : Int32) (p1 : Int32) (p2 : Int32) (p3 : Int32) (p4 : Int32) (Q114 : Int32 → Int32 → Int32 → Int32 → Int32 → Int32 → AH → Option (Int32 × AH)) (hQ114 : ∀ (x1 : Int32) (x2 : Int32) (x3 : Int32) (x4 : Int32) (x5 : Int32) (x6 : Int32) (h : AH), Q114 x1 x2 x3 x4 x5 x6 h = some (rv, h') → JJ G E 7 114 [(0, .ref 59), (1, .int x1), (2, .int x2), (3, .int x3), (4, .int x4), (5, .int x5), (6, .int x6)] [] h) (x1 : Int32) (x2 : Int32) (x3 : Int32) (x4 : Int32) (x5 : Int32) (x6 : Int32) (h : AH) (hf : fX10_shift_114_b p0 p1 p2 p3 p4 Q114 x1 x2 x3 x4 x5 x6 h = some (rv, h')) : JJ G E 7 114 [(0, .ref 59), (1, .int x1), (2, .int x2), (3, .int x3), (4, .int x4), (5, .int x5), (6, .int x6)] [] h := by
  unfold fX10_shift_114_b at hf
  refine r_iload K dX10_shift_114 6 rfl ?_
  refine r_iload K dX10_shift_116 5 rfl ?_
  refine r_icmp_ge (tgt := 148) K dX10_shift_118 (by decide) (fun c25_ => ?_) (fun c25_ => ?_)
  · have hf := e_t hf c25_
    refine r_iconst (v := 0) K dX10_shift_148 rfl ?_
    refine r_istore (lv' := [(6, .int 0), (0, .ref 59), (1, .int x1), (2, .int x2), (3, .int x3), (4, .int x4), (5, .int x5)]) K dX10_shift_149 (Nat.le_of_ble_eq_true rfl) rfl ?_
    refine r_lv [1, 4, 5, 6, 0] rfl ?_
    exact sX10_shift_151 K Z p0 p1 p2 p3 p4 FU x3 x4 x5 0 h hf
  · have hf := e_f hf c25_
    refine r_aload_n K dX10_shift_121 0 rfl rfl ?_
    refine r_getR (o' := 78) K flX10_70 dX10_shift_122 rfl rfl rfl ?_
    refine r_iload K dX10_shift_125 6 rfl ?_
    refine r_aload_n K dX10_shift_127 0 rfl rfl ?_
    refine r_getR (o' := 77) K flX10_66 dX10_shift_128 rfl rfl rfl ?_
    refine r_bipush (v := 60) K dX10_shift_131 rfl ?_
    refine r_iload_n K dX10_shift_133 1 rfl rfl ?_
    refine r_imul K dX10_shift_134 ?_
    refine r_iload_n K dX10_shift_135 2 rfl rfl ?_
    refine r_iadd K dX10_shift_136 ?_
    refine r_iload K dX10_shift_137 6 rfl ?_
    refine r_iadd K dX10_shift_139 ?_
    obtain ⟨g31_, hf⟩ := e_g hf
    refine r_lald K dX10_shift_140 rfl g31_ ?_
    obtain ⟨g32_, hf⟩ := e_g hf
    obtain ⟨h33_, e34_, hf⟩ := e_l hf
    refine r_last K dX10_shift_141 rfl g32_ e34_ ?_
    refine r_iinc (y := 1) (lv' := [(6, .int (x6 + 1)), (0, .ref 59), (1, .int x1), (2, .int x2), (3, .int x3), (4, .int x4), (5, .int x5)]) K dX10_shift_142 6 rfl rfl (Nat.le_of_ble_eq_true rfl) rfl ?_
    refine r_goto (tgt := 114) K dX10_shift_145 (by decide) ?_
    refine r_lv [1, 2, 3, 4, 5, 6, 0] rfl ?_
    exact hQ114 x1 x2 x3 x4 x5 (x6 + 1) h33_ hf
theorem sX10_shift_114 {G : GG} {E : EE} {rv : Int32} {h' : AH} (K : OK G E 2 RX10 cX10_shift 7) (Z : RT G E (some .int) (some (.int rv)) h') (p0 : Int32) (p1 : Int32) (p2 : Int32) (p3 : Int32) (p4 : Int32) : ∀ (n : Nat) (x1 : Int32) (x2 : Int32) (x3 : Int32) (x4 : Int32) (x5 : Int32) (x6 : Int32) (h : AH), fX10_shift_114 p0 p1 p2 p3 p4 n x1 x2 x3 x4 x5 x6 h = some (rv, h') → JJ G E 7 114 [(0, .ref 59), (1, .int x1), (2, .int x2), (3, .int x3), (4, .int x4), (5, .int x5), (6, .int x6)] [] h := by
  intro n
  induction n with
  | zero => intro x1 x2 x3 x4 x5 x6 h hf; cases hf
  | succ n ih => intro x1 x2 x3 x4 x5 x6 h hf; exact sX10_shift_114_b K Z p0 p1 p2 p3 p4 _ (fun x1 x2 x3 x4 x5 x6 h hf => ih x1 x2 x3 x4 x5 x6 h hf) x1 x2 x3 x4 x5 x6 h hf
def fX10_shift (p0 : Int32) (p1 : Int32) (p2 : Int32) (p3 : Int32) (p4 : Int32) (h : AH) : Option (Int32 × AH) :=
  bind2 (fX10_isShelf p0 h) fun r1_ h2_ => if r1_ = 0 then some ((-1), h2_) else bind2 (fX10_isShelf p2 h2_) fun r5_ h6_ => if r5_ = 0 then some ((-1), h6_) else if inb p0 6 = true then if (h6_.1 75 (ix p0)) = (-1) then some ((-11), h6_) else if inb p2 6 = true then if (h6_.1 75 (ix p2)) = (-1) then some ((-11), h6_) else if 4 < (h6_.1 75 (ix p0)) then some ((-12), h6_) else if (h6_.1 75 (ix p0)) = (h6_.1 75 (ix p2)) then if p4 < 0 then some ((-13), h6_) else if p1 < 0 then some ((-13), h6_) else if p3 < 0 then some ((-13), h6_) else if ((h6_.1 76 (ix p0)) - p1) < p4 then some ((-13), h6_) else if p4 ≤ ((h6_.1 76 (ix p2)) - p3) then fX10_shift_114 p0 p1 p2 p3 p4 FU p0 p1 p2 p3 p4 0 h6_ else some ((-13), h6_) else some ((-12), h6_) else none else none
set_option maxRecDepth 10000 in
theorem sX10_shift {G : GG} {E : EE} {rv : Int32} {h' : AH} (K : OK G E 2 RX10 cX10_shift 7) (Z : RT G E (some .int) (some (.int rv)) h') (p0 : Int32) (p1 : Int32) (p2 : Int32) (p3 : Int32) (p4 : Int32) (h : AH) (hf : fX10_shift p0 p1 p2 p3 p4 h = some (rv, h')) : JJ G E 7 0 [(0, .ref 59), (1, .int p0), (2, .int p1), (3, .int p2), (4, .int p3), (5, .int p4)] [] h := by
  unfold fX10_shift at hf
  refine r_iload_n K dX10_shift_0 1 rfl rfl ?_
  obtain ⟨r1_, h2_, g3_, hf⟩ := e_2 hf
  refine r_callS (av := [.int p0]) (st := []) K lkX10_250 mwX10_isShelf (conX10_isShelf p0 h r1_ h2_ g3_) dX10_shift_1 (Nat.le_of_ble_eq_true rfl) rfl rfl (Nat.le_of_ble_eq_true rfl) ?_
  refine r_if_eq (tgt := 14) K dX10_shift_4 (by decide) (fun c4_ => ?_) (fun c4_ => ?_)
  · have hf := e_t hf c4_
    refine r_iconst (v := (-1)) K dX10_shift_14 rfl ?_
    exact r_iret K Z dX10_shift_15 hf
  · have hf := e_f hf c4_
    refine r_iload_n K dX10_shift_7 3 rfl rfl ?_
    obtain ⟨r5_, h6_, g7_, hf⟩ := e_2 hf
    refine r_callS (av := [.int p2]) (st := []) K lkX10_250 mwX10_isShelf (conX10_isShelf p2 h2_ r5_ h6_ g7_) dX10_shift_8 (Nat.le_of_ble_eq_true rfl) rfl rfl (Nat.le_of_ble_eq_true rfl) ?_
    refine r_if_ne (tgt := 16) K dX10_shift_11 (by decide) (fun c8_ => ?_) (fun c8_ => ?_)
    · have hf := e_f hf c8_
      refine r_aload_n K dX10_shift_16 0 rfl rfl ?_
      refine r_getR (o' := 75) K flX10_60 dX10_shift_17 rfl rfl rfl ?_
      refine r_iload_n K dX10_shift_20 1 rfl rfl ?_
      obtain ⟨g9_, hf⟩ := e_g hf
      refine r_iald K dX10_shift_21 rfl g9_ ?_
      refine r_iconst (v := (-1)) K dX10_shift_22 rfl ?_
      refine r_icmp_eq (tgt := 36) K dX10_shift_23 (by decide) (fun c10_ => ?_) (fun c10_ => ?_)
      · have hf := e_t hf c10_
        refine r_bipush (v := (-11)) K dX10_shift_36 rfl ?_
        exact r_iret K Z dX10_shift_38 hf
      · have hf := e_f hf c10_
        refine r_aload_n K dX10_shift_26 0 rfl rfl ?_
        refine r_getR (o' := 75) K flX10_60 dX10_shift_27 rfl rfl rfl ?_
        refine r_iload_n K dX10_shift_30 3 rfl rfl ?_
        obtain ⟨g11_, hf⟩ := e_g hf
        refine r_iald K dX10_shift_31 rfl g11_ ?_
        refine r_iconst (v := (-1)) K dX10_shift_32 rfl ?_
        refine r_icmp_ne (tgt := 39) K dX10_shift_33 (by decide) (fun c12_ => ?_) (fun c12_ => ?_)
        · have hf := e_f hf c12_
          refine r_aload_n K dX10_shift_39 0 rfl rfl ?_
          refine r_getR (o' := 75) K flX10_60 dX10_shift_40 rfl rfl rfl ?_
          refine r_iload_n K dX10_shift_43 1 rfl rfl ?_
          refine r_iald K dX10_shift_44 rfl g9_ ?_
          refine r_iconst (v := 4) K dX10_shift_45 rfl ?_
          refine r_icmp_gt (tgt := 64) K dX10_shift_46 (by decide) (fun c14_ => ?_) (fun c14_ => ?_)
          · have hf := e_t hf c14_
            refine r_bipush (v := (-12)) K dX10_shift_64 rfl ?_
            exact r_iret K Z dX10_shift_66 hf
          · have hf := e_f hf c14_
            refine r_aload_n K dX10_shift_49 0 rfl rfl ?_
            refine r_getR (o' := 75) K flX10_60 dX10_shift_50 rfl rfl rfl ?_
            refine r_iload_n K dX10_shift_53 1 rfl rfl ?_
            refine r_iald K dX10_shift_54 rfl g9_ ?_
            refine r_aload_n K dX10_shift_55 0 rfl rfl ?_
            refine r_getR (o' := 75) K flX10_60 dX10_shift_56 rfl rfl rfl ?_
            refine r_iload_n K dX10_shift_59 3 rfl rfl ?_
            refine r_iald K dX10_shift_60 rfl g11_ ?_
            refine r_icmp_eq (tgt := 67) K dX10_shift_61 (by decide) (fun c17_ => ?_) (fun c17_ => ?_)
            · have hf := e_t hf c17_
              refine r_iload K dX10_shift_67 5 rfl ?_
              refine r_if_lt (tgt := 108) K dX10_shift_69 (by decide) (fun c18_ => ?_) (fun c18_ => ?_)
              · have hf := e_t hf c18_
                refine r_bipush (v := (-13)) K dX10_shift_108 rfl ?_
                exact r_iret K Z dX10_shift_110 hf
              · have hf := e_f hf c18_
                refine r_iload_n K dX10_shift_72 2 rfl rfl ?_
                refine r_if_lt (tgt := 108) K dX10_shift_73 (by decide) (fun c19_ => ?_) (fun c19_ => ?_)
                · have hf := e_t hf c19_
                  refine r_bipush (v := (-13)) K dX10_shift_108 rfl ?_
                  exact r_iret K Z dX10_shift_110 hf
                · have hf := e_f hf c19_
                  refine r_iload K dX10_shift_76 4 rfl ?_
                  refine r_if_lt (tgt := 108) K dX10_shift_78 (by decide) (fun c20_ => ?_) (fun c20_ => ?_)
                  · have hf := e_t hf c20_
                    refine r_bipush (v := (-13)) K dX10_shift_108 rfl ?_
                    exact r_iret K Z dX10_shift_110 hf
                  · have hf := e_f hf c20_
                    refine r_iload K dX10_shift_81 5 rfl ?_
                    refine r_aload_n K dX10_shift_83 0 rfl rfl ?_
                    refine r_getR (o' := 76) K flX10_63 dX10_shift_84 rfl rfl rfl ?_
                    refine r_iload_n K dX10_shift_87 1 rfl rfl ?_
                    refine r_iald K dX10_shift_88 rfl g9_ ?_
                    refine r_iload_n K dX10_shift_89 2 rfl rfl ?_
                    refine r_isub K dX10_shift_90 ?_
                    refine r_icmp_gt (tgt := 108) K dX10_shift_91 (by decide) (fun c22_ => ?_) (fun c22_ => ?_)
                    · have hf := e_t hf c22_
                      refine r_bipush (v := (-13)) K dX10_shift_108 rfl ?_
                      exact r_iret K Z dX10_shift_110 hf
                    · have hf := e_f hf c22_
                      refine r_iload K dX10_shift_94 5 rfl ?_
                      refine r_aload_n K dX10_shift_96 0 rfl rfl ?_
                      refine r_getR (o' := 76) K flX10_63 dX10_shift_97 rfl rfl rfl ?_
                      refine r_iload_n K dX10_shift_100 3 rfl rfl ?_
                      refine r_iald K dX10_shift_101 rfl g11_ ?_
                      refine r_iload K dX10_shift_102 4 rfl ?_
                      refine r_isub K dX10_shift_104 ?_
                      refine r_icmp_le (tgt := 111) K dX10_shift_105 (by decide) (fun c24_ => ?_) (fun c24_ => ?_)
                      · have hf := e_t hf c24_
                        refine r_iconst (v := 0) K dX10_shift_111 rfl ?_
                        refine r_istore (lv' := [(6, .int 0), (0, .ref 59), (1, .int p0), (2, .int p1), (3, .int p2), (4, .int p3), (5, .int p4)]) K dX10_shift_112 (Nat.le_of_ble_eq_true rfl) rfl ?_
                        refine r_lv [1, 2, 3, 4, 5, 6, 0] rfl ?_
                        exact sX10_shift_114 K Z p0 p1 p2 p3 p4 FU p0 p1 p2 p3 p4 0 h6_ hf
                      · have hf := e_f hf c24_
                        refine r_bipush (v := (-13)) K dX10_shift_108 rfl ?_
                        exact r_iret K Z dX10_shift_110 hf
            · have hf := e_f hf c17_
              refine r_bipush (v := (-12)) K dX10_shift_64 rfl ?_
              exact r_iret K Z dX10_shift_66 hf
        · have hf := e_t hf c12_
          refine r_bipush (v := (-11)) K dX10_shift_36 rfl ?_
          exact r_iret K Z dX10_shift_38 hf
    · have hf := e_t hf c8_
      refine r_iconst (v := (-1)) K dX10_shift_14 rfl ?_
      exact r_iret K Z dX10_shift_15 hf
theorem conX10_shift {G : GG} (p0 : Int32) (p1 : Int32) (p2 : Int32) (p3 : Int32) (p4 : Int32) (h : AH) (rv : Int32) (h' : AH) (hf : fX10_shift p0 p1 p2 p3 p4 h = some (rv, h')) : Con G 2 yX10_shift cX10_shift 7 (some .int) [.ref 59, .int p0, .int p1, .int p2, .int p3, .int p4] h (some (.int rv)) h' := con_of mwX10_shift (Nat.le_of_ble_eq_true rfl) (fun E K Z => sX10_shift K Z p0 p1 p2 p3 p4 h hf)
def fX10_slip (p0 : Int32) (p1 : Int32) (p2 : Int32) (h : AH) : Option (Int32 × AH) :=
  bind2 (fX10_isGuest p0 h) fun r1_ h2_ => if r1_ = 0 then some ((-1), h2_) else bind2 (fX10_isIn p1 0 199 h2_) fun r5_ h6_ => if r5_ = 0 then some ((-1), h6_) else bind2 (fX10_isIn p2 1 30 h6_) fun r9_ h10_ => if r9_ = 0 then some ((-1), h10_) else if (h10_.1 59 3) = 12 then some ((-3), h10_) else bind2 (fX10_addSlip p0 p1 p2 h10_) fun r14_ h15_ => some (r14_, h15_)
set_option maxRecDepth 10000 in
theorem sX10_slip {G : GG} {E : EE} {rv : Int32} {h' : AH} (K : OK G E 2 RX10 cX10_slip 4) (Z : RT G E (some .int) (some (.int rv)) h') (p0 : Int32) (p1 : Int32) (p2 : Int32) (h : AH) (hf : fX10_slip p0 p1 p2 h = some (rv, h')) : JJ G E 4 0 [(0, .ref 59), (1, .int p0), (2, .int p1), (3, .int p2)] [] h := by
  unfold fX10_slip at hf
  refine r_aload_n K dX10_slip_0 0 rfl rfl ?_
  refine r_iload_n K dX10_slip_1 1 rfl rfl ?_
  obtain ⟨r1_, h2_, g3_, hf⟩ := e_2 hf
  refine r_callV (av := [.int p0]) (st := []) K lkX10_124 mwX10_isGuest (conX10_isGuest p0 h r1_ h2_ g3_) dX10_slip_2 rfl (Nat.le_of_ble_eq_true rfl) rfl rfl (Nat.le_of_ble_eq_true rfl) ?_
  refine r_if_eq (tgt := 29) K dX10_slip_5 (by decide) (fun c4_ => ?_) (fun c4_ => ?_)
  · have hf := e_t hf c4_
    refine r_iconst (v := (-1)) K dX10_slip_29 rfl ?_
    exact r_iret K Z dX10_slip_30 hf
  · have hf := e_f hf c4_
    refine r_iload_n K dX10_slip_8 2 rfl rfl ?_
    refine r_iconst (v := 0) K dX10_slip_9 rfl ?_
    refine r_sipush (v := 199) K dX10_slip_10 rfl ?_
    obtain ⟨r5_, h6_, g7_, hf⟩ := e_2 hf
    refine r_callS (av := [.int p1, .int 0, .int 199]) (st := []) K lkX10_106 mwX10_isIn (conX10_isIn p1 0 199 h2_ r5_ h6_ g7_) dX10_slip_13 (Nat.le_of_ble_eq_true rfl) rfl rfl (Nat.le_of_ble_eq_true rfl) ?_
    refine r_if_eq (tgt := 29) K dX10_slip_16 (by decide) (fun c8_ => ?_) (fun c8_ => ?_)
    · have hf := e_t hf c8_
      refine r_iconst (v := (-1)) K dX10_slip_29 rfl ?_
      exact r_iret K Z dX10_slip_30 hf
    · have hf := e_f hf c8_
      refine r_iload_n K dX10_slip_19 3 rfl rfl ?_
      refine r_iconst (v := 1) K dX10_slip_20 rfl ?_
      refine r_bipush (v := 30) K dX10_slip_21 rfl ?_
      obtain ⟨r9_, h10_, g11_, hf⟩ := e_2 hf
      refine r_callS (av := [.int p2, .int 1, .int 30]) (st := []) K lkX10_106 mwX10_isIn (conX10_isIn p2 1 30 h6_ r9_ h10_ g11_) dX10_slip_23 (Nat.le_of_ble_eq_true rfl) rfl rfl (Nat.le_of_ble_eq_true rfl) ?_
      refine r_if_ne (tgt := 31) K dX10_slip_26 (by decide) (fun c12_ => ?_) (fun c12_ => ?_)
      · have hf := e_f hf c12_
        refine r_aload_n K dX10_slip_31 0 rfl rfl ?_
        refine r_getI K flX10_121 dX10_slip_32 rfl rfl ?_
        refine r_bipush (v := 12) K dX10_slip_35 rfl ?_
        refine r_icmp_ne (tgt := 45) K dX10_slip_37 (by decide) (fun c13_ => ?_) (fun c13_ => ?_)
        · have hf := e_f hf c13_
          refine r_aload_n K dX10_slip_45 0 rfl rfl ?_
          refine r_iload_n K dX10_slip_46 1 rfl rfl ?_
          refine r_iload_n K dX10_slip_47 2 rfl rfl ?_
          refine r_iload_n K dX10_slip_48 3 rfl rfl ?_
          obtain ⟨r14_, h15_, g16_, hf⟩ := e_2 hf
          refine r_callV (av := [.int p0, .int p1, .int p2]) (st := []) K lkX10_128 mwX10_addSlip (conX10_addSlip p0 p1 p2 h10_ r14_ h15_ g16_) dX10_slip_49 rfl (Nat.le_of_ble_eq_true rfl) rfl rfl (Nat.le_of_ble_eq_true rfl) ?_
          exact r_iret K Z dX10_slip_52 hf
        · have hf := e_t hf c13_
          refine r_bipush (v := (-3)) K dX10_slip_40 rfl ?_
          refine r_goto (tgt := 52) K dX10_slip_42 (by decide) ?_
          exact r_iret K Z dX10_slip_52 hf
      · have hf := e_t hf c12_
        refine r_iconst (v := (-1)) K dX10_slip_29 rfl ?_
        exact r_iret K Z dX10_slip_30 hf
theorem conX10_slip {G : GG} (p0 : Int32) (p1 : Int32) (p2 : Int32) (h : AH) (rv : Int32) (h' : AH) (hf : fX10_slip p0 p1 p2 h = some (rv, h')) : Con G 2 yX10_slip cX10_slip 4 (some .int) [.ref 59, .int p0, .int p1, .int p2] h (some (.int rv)) h' := con_of mwX10_slip (Nat.le_of_ble_eq_true rfl) (fun E K Z => sX10_slip K Z p0 p1 p2 h hf)
def fX10_slipWhen_125 (p0 : Int32) (p1 : Int32) (p2 : Int32) (Q74 : Int32 → Int32 → Int32 → Int32 → Int32 → Int32 → AH → Option (Int32 × AH)) (x1 : Int32) (x2 : Int32) (x3 : Int32) (x5 : Int32) (x6 : Int32) (x7 : Int32) (s0 : Int32) (h : AH) : Option (Int32 × AH) :=
  letV ((jmin x7 x5)) fun x36_ => Q74 x1 x2 x3 s0 x36_ (x6 + 1) h
set_option maxRecDepth 10000 in
theorem sX10_slipWhen_125 {G : GG} {E : EE} {rv : Int32} {h' : AH} (K : OK G E 67 RX10 cX10_slipWhen 8) (Z : RT G E (some .int) (some (.int rv)) h') (p0 : Int32) (p1 : Int32) (p2 : Int32) (Q74 : Int32 → Int32 → Int32 → Int32 → Int32 → Int32 → AH → Option (Int32 × AH)) (hQ74 : ∀ (x1 : Int32) (x2 : Int32) (x3 : Int32) (x4 : Int32) (x5 : Int32) (x6 : Int32) (h : AH), Q74 x1 x2 x3 x4 x5 x6 h = some (rv, h') → JJ G E 8 74 [(0, .ref 59), (1, .int x1), (2, .int x2), (3, .int x3), (4, .int x4), (5, .int x5), (6, .int x6)] [] h) (x1 : Int32) (x2 : Int32) (x3 : Int32) (x5 : Int32) (x6 : Int32) (x7 : Int32) (s0 : Int32) (h : AH) (hf : fX10_slipWhen_125 p0 p1 p2 Q74 x1 x2 x3 x5 x6 x7 s0 h = some (rv, h')) : JJ G E 8 125 [(0, .ref 59), (1, .int x1), (2, .int x2), (3, .int x3), (5, .int x5), (6, .int x6), (7, .int x7)] [.int s0] h := by
  unfold fX10_slipWhen_125 at hf
  refine r_istore (lv' := [(4, .int s0), (0, .ref 59), (1, .int x1), (2, .int x2), (3, .int x3), (5, .int x5), (6, .int x6), (7, .int x7)]) K dX10_slipWhen_125 (Nat.le_of_ble_eq_true rfl) rfl ?_
  refine r_iload K dX10_slipWhen_127 7 rfl ?_
  refine r_iload K dX10_slipWhen_129 5 rfl ?_
  refine r_mmin K lmX10_94 dX10_slipWhen_131 (Nat.le_of_ble_eq_true rfl) (Nat.le_of_ble_eq_true rfl) ?_
  obtain ⟨x36_, e37_, hf⟩ := e_l hf
  refine r_nmI e37_ ?_
  refine r_istore (lv' := [(5, .int x36_), (4, .int s0), (0, .ref 59), (1, .int x1), (2, .int x2), (3, .int x3), (6, .int x6), (7, .int x7)]) K dX10_slipWhen_134 (Nat.le_of_ble_eq_true rfl) rfl ?_
  refine r_iinc (y := 1) (lv' := [(6, .int (x6 + 1)), (5, .int x36_), (4, .int s0), (0, .ref 59), (1, .int x1), (2, .int x2), (3, .int x3), (7, .int x7)]) K dX10_slipWhen_136 6 rfl rfl (Nat.le_of_ble_eq_true rfl) rfl ?_
  refine r_goto (tgt := 74) K dX10_slipWhen_139 (by decide) ?_
  refine r_lv [3, 4, 5, 6, 2, 1, 0] rfl ?_
  exact hQ74 x1 x2 x3 s0 x36_ (x6 + 1) h hf
def fX10_slipWhen_74_b (p0 : Int32) (p1 : Int32) (p2 : Int32) (Q74 : Int32 → Int32 → Int32 → Int32 → Int32 → Int32 → AH → Option (Int32 × AH)) (x1 : Int32) (x2 : Int32) (x3 : Int32) (x4 : Int32) (x5 : Int32) (x6 : Int32) (h : AH) : Option (Int32 × AH) :=
  if 30 < x6 then letV (wI h 59 23 (-1)) fun h23_ => if x3 = 0 then some (x4, h23_) else some (x5, h23_) else letV (wI h 59 24 ((h.1 60 (ix 93)) + x6)) fun h27_ => bind2 (fX10_goAll (jrem x2 100) (-1) h27_) fun r29_ h30_ => bind2 (fX10_wentAs x1 r29_ h30_) fun r32_ h33_ => if x5 ≤ r32_ then fX10_slipWhen_125 p0 p1 p2 Q74 x1 x2 x3 x5 x6 r32_ x4 h33_ else fX10_slipWhen_125 p0 p1 p2 Q74 x1 x2 x3 x5 x6 r32_ x6 h33_
def fX10_slipWhen_74 (p0 : Int32) (p1 : Int32) (p2 : Int32) : Nat → Int32 → Int32 → Int32 → Int32 → Int32 → Int32 → AH → Option (Int32 × AH)
  | 0 => fun _ _ _ _ _ _ _ => none
  | n + 1 => fX10_slipWhen_74_b p0 p1 p2 (fX10_slipWhen_74 p0 p1 p2 n)
set_option maxRecDepth 10000 in
theorem sX10_slipWhen_74_b {G : GG} {E : EE} {rv : Int32} {h' : AH} (K : OK G E 67 RX10 cX10_slipWhen 8) (Z : RT G E (some .int) (some (.int rv)) h') (p0 : Int32) (p1 : Int32) (p2 : Int32) (Q74 : Int32 → Int32 → Int32 → Int32 → Int32 → Int32 → AH → Option (Int32 × AH)) (hQ74 : ∀ (x1 : Int32) (x2 : Int32) (x3 : Int32) (x4 : Int32) (x5 : Int32) (x6 : Int32) (h : AH), Q74 x1 x2 x3 x4 x5 x6 h = some (rv, h') → JJ G E 8 74 [(0, .ref 59), (1, .int x1), (2, .int x2), (3, .int x3), (4, .int x4), (5, .int x5), (6, .int x6)] [] h) (x1 : Int32) (x2 : Int32) (x3 : Int32) (x4 : Int32) (x5 : Int32) (x6 : Int32) (h : AH) (hf : fX10_slipWhen_74_b p0 p1 p2 Q74 x1 x2 x3 x4 x5 x6 h = some (rv, h')) : JJ G E 8 74 [(0, .ref 59), (1, .int x1), (2, .int x2), (3, .int x3), (4, .int x4), (5, .int x5), (6, .int x6)] [] h := by
  unfold fX10_slipWhen_74_b at hf
  refine r_iload K dX10_slipWhen_74 6 rfl ?_
  refine r_bipush (v := 30) K dX10_slipWhen_76 rfl ?_
  refine r_icmp_gt (tgt := 142) K dX10_slipWhen_78 (by decide) (fun c22_ => ?_) (fun c22_ => ?_)
  · have hf := e_t hf c22_
    refine r_aload_n K dX10_slipWhen_142 0 rfl rfl ?_
    refine r_iconst (v := (-1)) K dX10_slipWhen_143 rfl ?_
    obtain ⟨h23_, e24_, hf⟩ := e_l hf
    refine r_putI K fpX10_47 dX10_slipWhen_144 rfl rfl e24_ ?_
    refine r_iload_n K dX10_slipWhen_147 3 rfl rfl ?_
    refine r_if_ne (tgt := 156) K dX10_slipWhen_148 (by decide) (fun c25_ => ?_) (fun c25_ => ?_)
    · have hf := e_f hf c25_
      refine r_iload K dX10_slipWhen_156 5 rfl ?_
      exact r_iret K Z dX10_slipWhen_158 hf
    · have hf := e_t hf c25_
      refine r_iload K dX10_slipWhen_151 4 rfl ?_
      refine r_goto (tgt := 158) K dX10_slipWhen_153 (by decide) ?_
      exact r_iret K Z dX10_slipWhen_158 hf
  · have hf := e_f hf c22_
    refine r_aload_n K dX10_slipWhen_81 0 rfl rfl ?_
    refine r_aload_n K dX10_slipWhen_82 0 rfl rfl ?_
    refine r_getR (o' := 60) K flX10_7 dX10_slipWhen_83 rfl rfl rfl ?_
    refine r_bipush (v := 93) K dX10_slipWhen_86 rfl ?_
    refine r_iald K dX10_slipWhen_88 rfl (by decide +kernel) ?_
    refine r_iload K dX10_slipWhen_89 6 rfl ?_
    refine r_iadd K dX10_slipWhen_91 ?_
    obtain ⟨h27_, e28_, hf⟩ := e_l hf
    refine r_putI K fpX10_206 dX10_slipWhen_92 rfl rfl e28_ ?_
    refine r_aload_n K dX10_slipWhen_95 0 rfl rfl ?_
    refine r_iload_n K dX10_slipWhen_96 1 rfl rfl ?_
    refine r_aload_n K dX10_slipWhen_97 0 rfl rfl ?_
    refine r_iload_n K dX10_slipWhen_98 2 rfl rfl ?_
    refine r_bipush (v := 100) K dX10_slipWhen_99 rfl ?_
    refine r_irem K dX10_slipWhen_101 (by decide) ?_
    refine r_iconst (v := (-1)) K dX10_slipWhen_102 rfl ?_
    obtain ⟨r29_, h30_, g31_, hf⟩ := e_2 hf
    refine r_callV (av := [.int (jrem x2 100), .int (-1)]) (st := [.int x1, .ref 59]) K lkX10_241 mwX10_goAll (conX10_goAll (jrem x2 100) (-1) h27_ r29_ h30_ g31_) dX10_slipWhen_103 rfl (Nat.le_of_ble_eq_true rfl) rfl rfl (Nat.le_of_ble_eq_true rfl) ?_
    obtain ⟨r32_, h33_, g34_, hf⟩ := e_2 hf
    refine r_callV (av := [.int x1, .int r29_]) (st := []) K lkX10_244 mwX10_wentAs (conX10_wentAs x1 r29_ h30_ r32_ h33_ g34_) dX10_slipWhen_106 rfl (Nat.le_of_ble_eq_true rfl) rfl rfl (Nat.le_of_ble_eq_true rfl) ?_
    refine r_istore (lv' := [(7, .int r32_), (0, .ref 59), (1, .int x1), (2, .int x2), (3, .int x3), (4, .int x4), (5, .int x5), (6, .int x6)]) K dX10_slipWhen_109 (Nat.le_of_ble_eq_true rfl) rfl ?_
    refine r_iload K dX10_slipWhen_111 0 rfl ?_
    refine r_iload K dX10_slipWhen_113 6 rfl ?_
    refine r_icmp_ge (tgt := 123) K dX10_slipWhen_115 (by decide) (fun c35_ => ?_) (fun c35_ => ?_)
    · have hf := e_t hf c35_
      refine r_iload K dX10_slipWhen_123 5 rfl ?_
      refine r_lv [1, 2, 3, 4, 6, 7, 0] rfl ?_
      exact sX10_slipWhen_125 K Z p0 p1 p2 Q74 hQ74 x1 x2 x3 x5 x6 r32_ x4 h33_ hf
    · have hf := e_f hf c35_
      refine r_iload K dX10_slipWhen_118 7 rfl ?_
      refine r_goto (tgt := 125) K dX10_slipWhen_120 (by decide) ?_
      refine r_lv [1, 2, 3, 4, 6, 7, 0] rfl ?_
      exact sX10_slipWhen_125 K Z p0 p1 p2 Q74 hQ74 x1 x2 x3 x5 x6 r32_ x6 h33_ hf
theorem sX10_slipWhen_74 {G : GG} {E : EE} {rv : Int32} {h' : AH} (K : OK G E 67 RX10 cX10_slipWhen 8) (Z : RT G E (some .int) (some (.int rv)) h') (p0 : Int32) (p1 : Int32) (p2 : Int32) : ∀ (n : Nat) (x1 : Int32) (x2 : Int32) (x3 : Int32) (x4 : Int32) (x5 : Int32) (x6 : Int32) (h : AH), fX10_slipWhen_74 p0 p1 p2 n x1 x2 x3 x4 x5 x6 h = some (rv, h') → JJ G E 8 74 [(0, .ref 59), (1, .int x1), (2, .int x2), (3, .int x3), (4, .int x4), (5, .int x5), (6, .int x6)] [] h := by
  intro n
  induction n with
  | zero => intro x1 x2 x3 x4 x5 x6 h hf; cases hf
  | succ n ih => intro x1 x2 x3 x4 x5 x6 h hf; exact sX10_slipWhen_74_b K Z p0 p1 p2 _ (fun x1 x2 x3 x4 x5 x6 h hf => ih x1 x2 x3 x4 x5 x6 h hf) x1 x2 x3 x4 x5 x6 h hf
def fX10_slipWhen (p0 : Int32) (p1 : Int32) (p2 : Int32) (h : AH) : Option (Int32 × AH) :=
  bind2 (fX10_isGuest p0 h) fun r1_ h2_ => if r1_ = 0 then some ((-1), h2_) else bind2 (fX10_isIn p1 100 3030 h2_) fun r5_ h6_ => if r5_ = 0 then some ((-1), h6_) else if 30 < (jrem p1 100) then some ((-1), h6_) else bind2 (fX10_isIn p2 0 1 h6_) fun r10_ h11_ => if r10_ = 0 then some ((-1), h11_) else bind2 (fX10_isHere p0 h11_) fun r14_ h15_ => if r14_ = 0 then some ((-5), h15_) else letV (wI h15_ 59 23 p0) fun h18_ => letV (wI h18_ 59 25 (p1 / 100)) fun h20_ => fX10_slipWhen_74 p0 p1 p2 FU p0 p1 p2 0 9 0 h20_
set_option maxRecDepth 10000 in
theorem sX10_slipWhen {G : GG} {E : EE} {rv : Int32} {h' : AH} (K : OK G E 67 RX10 cX10_slipWhen 8) (Z : RT G E (some .int) (some (.int rv)) h') (p0 : Int32) (p1 : Int32) (p2 : Int32) (h : AH) (hf : fX10_slipWhen p0 p1 p2 h = some (rv, h')) : JJ G E 8 0 [(0, .ref 59), (1, .int p0), (2, .int p1), (3, .int p2)] [] h := by
  unfold fX10_slipWhen at hf
  refine r_aload_n K dX10_slipWhen_0 0 rfl rfl ?_
  refine r_iload_n K dX10_slipWhen_1 1 rfl rfl ?_
  obtain ⟨r1_, h2_, g3_, hf⟩ := e_2 hf
  refine r_callV (av := [.int p0]) (st := []) K lkX10_124 mwX10_isGuest (conX10_isGuest p0 h r1_ h2_ g3_) dX10_slipWhen_2 rfl (Nat.le_of_ble_eq_true rfl) rfl rfl (Nat.le_of_ble_eq_true rfl) ?_
  refine r_if_eq (tgt := 38) K dX10_slipWhen_5 (by decide) (fun c4_ => ?_) (fun c4_ => ?_)
  · have hf := e_t hf c4_
    refine r_iconst (v := (-1)) K dX10_slipWhen_38 rfl ?_
    exact r_iret K Z dX10_slipWhen_39 hf
  · have hf := e_f hf c4_
    refine r_iload_n K dX10_slipWhen_8 2 rfl rfl ?_
    refine r_bipush (v := 100) K dX10_slipWhen_9 rfl ?_
    refine r_sipush (v := 3030) K dX10_slipWhen_11 rfl ?_
    obtain ⟨r5_, h6_, g7_, hf⟩ := e_2 hf
    refine r_callS (av := [.int p1, .int 100, .int 3030]) (st := []) K lkX10_106 mwX10_isIn (conX10_isIn p1 100 3030 h2_ r5_ h6_ g7_) dX10_slipWhen_14 (Nat.le_of_ble_eq_true rfl) rfl rfl (Nat.le_of_ble_eq_true rfl) ?_
    refine r_if_eq (tgt := 38) K dX10_slipWhen_17 (by decide) (fun c8_ => ?_) (fun c8_ => ?_)
    · have hf := e_t hf c8_
      refine r_iconst (v := (-1)) K dX10_slipWhen_38 rfl ?_
      exact r_iret K Z dX10_slipWhen_39 hf
    · have hf := e_f hf c8_
      refine r_iload_n K dX10_slipWhen_20 2 rfl rfl ?_
      refine r_bipush (v := 100) K dX10_slipWhen_21 rfl ?_
      refine r_irem K dX10_slipWhen_23 (by decide) ?_
      refine r_bipush (v := 30) K dX10_slipWhen_24 rfl ?_
      refine r_icmp_gt (tgt := 38) K dX10_slipWhen_26 (by decide) (fun c9_ => ?_) (fun c9_ => ?_)
      · have hf := e_t hf c9_
        refine r_iconst (v := (-1)) K dX10_slipWhen_38 rfl ?_
        exact r_iret K Z dX10_slipWhen_39 hf
      · have hf := e_f hf c9_
        refine r_iload_n K dX10_slipWhen_29 3 rfl rfl ?_
        refine r_iconst (v := 0) K dX10_slipWhen_30 rfl ?_
        refine r_iconst (v := 1) K dX10_slipWhen_31 rfl ?_
        obtain ⟨r10_, h11_, g12_, hf⟩ := e_2 hf
        refine r_callS (av := [.int p2, .int 0, .int 1]) (st := []) K lkX10_106 mwX10_isIn (conX10_isIn p2 0 1 h6_ r10_ h11_ g12_) dX10_slipWhen_32 (Nat.le_of_ble_eq_true rfl) rfl rfl (Nat.le_of_ble_eq_true rfl) ?_
        refine r_if_ne (tgt := 40) K dX10_slipWhen_35 (by decide) (fun c13_ => ?_) (fun c13_ => ?_)
        · have hf := e_f hf c13_
          refine r_aload_n K dX10_slipWhen_40 0 rfl rfl ?_
          refine r_iload_n K dX10_slipWhen_41 1 rfl rfl ?_
          obtain ⟨r14_, h15_, g16_, hf⟩ := e_2 hf
          refine r_callV (av := [.int p0]) (st := []) K lkX10_197 mwX10_isHere (conX10_isHere p0 h11_ r14_ h15_ g16_) dX10_slipWhen_42 rfl (Nat.le_of_ble_eq_true rfl) rfl rfl (Nat.le_of_ble_eq_true rfl) ?_
          refine r_if_ne (tgt := 51) K dX10_slipWhen_45 (by decide) (fun c17_ => ?_) (fun c17_ => ?_)
          · have hf := e_f hf c17_
            refine r_iconst (v := 0) K dX10_slipWhen_51 rfl ?_
            refine r_istore (lv' := [(4, .int 0), (0, .ref 59), (1, .int p0), (2, .int p1), (3, .int p2)]) K dX10_slipWhen_52 (Nat.le_of_ble_eq_true rfl) rfl ?_
            refine r_bipush (v := 9) K dX10_slipWhen_54 rfl ?_
            refine r_istore (lv' := [(5, .int 9), (4, .int 0), (0, .ref 59), (1, .int p0), (2, .int p1), (3, .int p2)]) K dX10_slipWhen_56 (Nat.le_of_ble_eq_true rfl) rfl ?_
            refine r_aload_n K dX10_slipWhen_58 2 rfl rfl ?_
            refine r_iload_n K dX10_slipWhen_59 3 rfl rfl ?_
            obtain ⟨h18_, e19_, hf⟩ := e_l hf
            refine r_putI K fpX10_47 dX10_slipWhen_60 rfl rfl e19_ ?_
            refine r_aload_n K dX10_slipWhen_63 2 rfl rfl ?_
            refine r_iload_n K dX10_slipWhen_64 4 rfl rfl ?_
            refine r_bipush (v := 100) K dX10_slipWhen_65 rfl ?_
            refine r_idiv K dX10_slipWhen_67 (by decide) ?_
            obtain ⟨h20_, e21_, hf⟩ := e_l hf
            refine r_putI K fpX10_209 dX10_slipWhen_68 rfl rfl e21_ ?_
            refine r_iconst (v := 0) K dX10_slipWhen_71 rfl ?_
            refine r_istore (lv' := [(6, .int 0), (5, .int 9), (4, .int 0), (0, .ref 59), (1, .int p0), (2, .int p1), (3, .int p2)]) K dX10_slipWhen_72 (Nat.le_of_ble_eq_true rfl) rfl ?_
            refine r_lv [3, 4, 5, 6, 2, 1, 0] rfl ?_
            exact sX10_slipWhen_74 K Z p0 p1 p2 FU p0 p1 p2 0 9 0 h20_ hf
          · have hf := e_t hf c17_
            refine r_bipush (v := (-5)) K dX10_slipWhen_48 rfl ?_
            exact r_iret K Z dX10_slipWhen_50 hf
        · have hf := e_t hf c13_
          refine r_iconst (v := (-1)) K dX10_slipWhen_38 rfl ?_
          exact r_iret K Z dX10_slipWhen_39 hf
theorem conX10_slipWhen {G : GG} (p0 : Int32) (p1 : Int32) (p2 : Int32) (h : AH) (rv : Int32) (h' : AH) (hf : fX10_slipWhen p0 p1 p2 h = some (rv, h')) : Con G 67 yX10_slipWhen cX10_slipWhen 8 (some .int) [.ref 59, .int p0, .int p1, .int p2] h (some (.int rv)) h' := con_of mwX10_slipWhen (Nat.le_of_ble_eq_true rfl) (fun E K Z => sX10_slipWhen K Z p0 p1 p2 h hf)
def fX10_slips (p0 : Int32) (p1 : Int32) (h : AH) : Option (Int32 × AH) :=
  bind2 (fX10_isGuest p0 h) fun r1_ h2_ => if r1_ = 0 then some ((-1), h2_) else bind2 (fX10_isIn p1 1 30 h2_) fun r5_ h6_ => if r5_ = 0 then some ((-1), h6_) else if (h6_.1 59 3) = 12 then some ((-3), h6_) else bind2 (fX10_isHere p0 h6_) fun r10_ h11_ => if r10_ = 0 then some ((-5), h11_) else letV (wI h11_ 79 (ix 0) ((h11_.1 79 (ix 0)) + 1)) fun h16_ => bind2 (fX10_addSlip p0 (h16_.1 60 (ix 93)) p1 h16_) fun r19_ h20_ => some (r19_, h20_)
set_option maxRecDepth 10000 in
theorem sX10_slips {G : GG} {E : EE} {rv : Int32} {h' : AH} (K : OK G E 2 RX10 cX10_slips 3) (Z : RT G E (some .int) (some (.int rv)) h') (p0 : Int32) (p1 : Int32) (h : AH) (hf : fX10_slips p0 p1 h = some (rv, h')) : JJ G E 3 0 [(0, .ref 59), (1, .int p0), (2, .int p1)] [] h := by
  unfold fX10_slips at hf
  refine r_aload_n K dX10_slips_0 0 rfl rfl ?_
  refine r_iload_n K dX10_slips_1 1 rfl rfl ?_
  obtain ⟨r1_, h2_, g3_, hf⟩ := e_2 hf
  refine r_callV (av := [.int p0]) (st := []) K lkX10_124 mwX10_isGuest (conX10_isGuest p0 h r1_ h2_ g3_) dX10_slips_2 rfl (Nat.le_of_ble_eq_true rfl) rfl rfl (Nat.le_of_ble_eq_true rfl) ?_
  refine r_if_eq (tgt := 18) K dX10_slips_5 (by decide) (fun c4_ => ?_) (fun c4_ => ?_)
  · have hf := e_t hf c4_
    refine r_iconst (v := (-1)) K dX10_slips_18 rfl ?_
    exact r_iret K Z dX10_slips_19 hf
  · have hf := e_f hf c4_
    refine r_iload_n K dX10_slips_8 2 rfl rfl ?_
    refine r_iconst (v := 1) K dX10_slips_9 rfl ?_
    refine r_bipush (v := 30) K dX10_slips_10 rfl ?_
    obtain ⟨r5_, h6_, g7_, hf⟩ := e_2 hf
    refine r_callS (av := [.int p1, .int 1, .int 30]) (st := []) K lkX10_106 mwX10_isIn (conX10_isIn p1 1 30 h2_ r5_ h6_ g7_) dX10_slips_12 (Nat.le_of_ble_eq_true rfl) rfl rfl (Nat.le_of_ble_eq_true rfl) ?_
    refine r_if_ne (tgt := 20) K dX10_slips_15 (by decide) (fun c8_ => ?_) (fun c8_ => ?_)
    · have hf := e_f hf c8_
      refine r_aload_n K dX10_slips_20 0 rfl rfl ?_
      refine r_getI K flX10_121 dX10_slips_21 rfl rfl ?_
      refine r_bipush (v := 12) K dX10_slips_24 rfl ?_
      refine r_icmp_ne (tgt := 32) K dX10_slips_26 (by decide) (fun c9_ => ?_) (fun c9_ => ?_)
      · have hf := e_f hf c9_
        refine r_aload_n K dX10_slips_32 0 rfl rfl ?_
        refine r_iload_n K dX10_slips_33 1 rfl rfl ?_
        obtain ⟨r10_, h11_, g12_, hf⟩ := e_2 hf
        refine r_callV (av := [.int p0]) (st := []) K lkX10_197 mwX10_isHere (conX10_isHere p0 h6_ r10_ h11_ g12_) dX10_slips_34 rfl (Nat.le_of_ble_eq_true rfl) rfl rfl (Nat.le_of_ble_eq_true rfl) ?_
        refine r_if_ne (tgt := 43) K dX10_slips_37 (by decide) (fun c13_ => ?_) (fun c13_ => ?_)
        · have hf := e_f hf c13_
          refine r_aload_n K dX10_slips_43 0 rfl rfl ?_
          refine r_getR (o' := 79) K flX10_73 dX10_slips_44 rfl rfl rfl ?_
          refine r_iconst (v := 0) K dX10_slips_47 rfl ?_
          refine r_dup2 K dX10_slips_48 rfl rfl ?_
          refine r_iald K dX10_slips_49 rfl (by decide +kernel) ?_
          refine r_iconst (v := 1) K dX10_slips_50 rfl ?_
          refine r_iadd K dX10_slips_51 ?_
          obtain ⟨h16_, e17_, hf⟩ := e_l hf
          refine r_iast K dX10_slips_52 rfl (by decide +kernel) e17_ ?_
          refine r_aload_n K dX10_slips_53 0 rfl rfl ?_
          refine r_iload_n K dX10_slips_54 1 rfl rfl ?_
          refine r_aload_n K dX10_slips_55 0 rfl rfl ?_
          refine r_getR (o' := 60) K flX10_7 dX10_slips_56 rfl rfl rfl ?_
          refine r_bipush (v := 93) K dX10_slips_59 rfl ?_
          refine r_iald K dX10_slips_61 rfl (by decide +kernel) ?_
          refine r_iload_n K dX10_slips_62 2 rfl rfl ?_
          obtain ⟨r19_, h20_, g21_, hf⟩ := e_2 hf
          refine r_callV (av := [.int p0, .int (h16_.1 60 (ix 93)), .int p1]) (st := []) K lkX10_128 mwX10_addSlip (conX10_addSlip p0 (h16_.1 60 (ix 93)) p1 h16_ r19_ h20_ g21_) dX10_slips_63 rfl (Nat.le_of_ble_eq_true rfl) rfl rfl (Nat.le_of_ble_eq_true rfl) ?_
          exact r_iret K Z dX10_slips_66 hf
        · have hf := e_t hf c13_
          refine r_bipush (v := (-5)) K dX10_slips_40 rfl ?_
          exact r_iret K Z dX10_slips_42 hf
      · have hf := e_t hf c9_
        refine r_bipush (v := (-3)) K dX10_slips_29 rfl ?_
        exact r_iret K Z dX10_slips_31 hf
    · have hf := e_t hf c8_
      refine r_iconst (v := (-1)) K dX10_slips_18 rfl ?_
      exact r_iret K Z dX10_slips_19 hf
theorem conX10_slips {G : GG} (p0 : Int32) (p1 : Int32) (h : AH) (rv : Int32) (h' : AH) (hf : fX10_slips p0 p1 h = some (rv, h')) : Con G 2 yX10_slips cX10_slips 3 (some .int) [.ref 59, .int p0, .int p1] h (some (.int rv)) h' := con_of mwX10_slips (Nat.le_of_ble_eq_true rfl) (fun E K Z => sX10_slips K Z p0 p1 h hf)
def fX10_sorry_94 (p0 : Int32) (p1 : Int32) (x1 : Int32) (x3 : Int32) (x4 : Int32) (h : AH) : Option (Int32 × AH) :=
  bindV (fX10_change x1 2 x3 h) fun h14_ => some (x4, h14_)
set_option maxRecDepth 10000 in
theorem sX10_sorry_94 {G : GG} {E : EE} {rv : Int32} {h' : AH} (K : OK G E 67 RX10 cX10_sorry 6) (Z : RT G E (some .int) (some (.int rv)) h') (p0 : Int32) (p1 : Int32) (x1 : Int32) (x3 : Int32) (x4 : Int32) (h : AH) (hf : fX10_sorry_94 p0 p1 x1 x3 x4 h = some (rv, h')) : JJ G E 6 94 [(0, .ref 59), (1, .int x1), (3, .int x3), (4, .int x4)] [] h := by
  unfold fX10_sorry_94 at hf
  refine r_aload_n K dX10_sorry_94 0 rfl rfl ?_
  refine r_iload_n K dX10_sorry_95 1 rfl rfl ?_
  refine r_iconst (v := 2) K dX10_sorry_96 rfl ?_
  refine r_iload_n K dX10_sorry_97 2 rfl rfl ?_
  obtain ⟨h14_, g15_, hf⟩ := e_v hf
  refine r_callV (av := [.int x1, .int 2, .int x3]) (st := []) K lkX10_113 mwX10_change (conX10_change x1 2 x3 h h14_ g15_) dX10_sorry_98 rfl (Nat.le_of_ble_eq_true rfl) rfl rfl (Nat.le_of_ble_eq_true rfl) ?_
  refine r_iload K dX10_sorry_101 3 rfl ?_
  exact r_iret K Z dX10_sorry_103 hf
def fX10_sorry_34_b (p0 : Int32) (p1 : Int32) (Q34 : Int32 → Int32 → Int32 → Int32 → Int32 → AH → Option (Int32 × AH)) (x1 : Int32) (x2 : Int32) (x3 : Int32) (x4 : Int32) (x5 : Int32) (h : AH) : Option (Int32 × AH) :=
  if 10 ≤ x5 then fX10_sorry_94 p0 p1 x1 x3 x4 h else if x4 = (-2) then bind2 (fX10_isHere x1 h) fun r17_ h18_ => if r17_ = 0 then fX10_sorry_94 p0 p1 x1 x3 x4 h18_ else bindV (fX10_change x1 2 x5 h18_) fun h22_ => bind2 (fX10_goAll 0 (-1) h22_) fun r24_ h25_ => bind2 (fX10_wentAs x1 r24_ h25_) fun r27_ h28_ => if x2 < r27_ then Q34 x1 x2 x3 (-2) (x5 + 1) h28_ else Q34 x1 x2 x3 x5 (x5 + 1) h28_ else fX10_sorry_94 p0 p1 x1 x3 x4 h
def fX10_sorry_34 (p0 : Int32) (p1 : Int32) : Nat → Int32 → Int32 → Int32 → Int32 → Int32 → AH → Option (Int32 × AH)
  | 0 => fun _ _ _ _ _ _ => none
  | n + 1 => fX10_sorry_34_b p0 p1 (fX10_sorry_34 p0 p1 n)
set_option maxRecDepth 10000 in
theorem sX10_sorry_34_b {G : GG} {E : EE} {rv : Int32} {h' : AH} (K : OK G E 67 RX10 cX10_sorry 6) (Z : RT G E (some .int) (some (.int rv)) h') (p0 : Int32) (p1 : Int32) (Q34 : Int32 → Int32 → Int32 → Int32 → Int32 → AH → Option (Int32 × AH)) (hQ34 : ∀ (x1 : Int32) (x2 : Int32) (x3 : Int32) (x4 : Int32) (x5 : Int32) (h : AH), Q34 x1 x2 x3 x4 x5 h = some (rv, h') → JJ G E 6 34 [(0, .ref 59), (1, .int x1), (2, .int x2), (3, .int x3), (4, .int x4), (5, .int x5)] [] h) (x1 : Int32) (x2 : Int32) (x3 : Int32) (x4 : Int32) (x5 : Int32) (h : AH) (hf : fX10_sorry_34_b p0 p1 Q34 x1 x2 x3 x4 x5 h = some (rv, h')) : JJ G E 6 34 [(0, .ref 59), (1, .int x1), (2, .int x2), (3, .int x3), (4, .int x4), (5, .int x5)] [] h := by
  unfold fX10_sorry_34_b at hf
  refine r_iload K dX10_sorry_34 5 rfl ?_
  refine r_bipush (v := 10) K dX10_sorry_36 rfl ?_
  refine r_icmp_ge (tgt := 94) K dX10_sorry_38 (by decide) (fun c12_ => ?_) (fun c12_ => ?_)
  · have hf := e_t hf c12_
    refine r_lv [0, 1, 3, 4] rfl ?_
    exact sX10_sorry_94 K Z p0 p1 x1 x3 x4 h hf
  · have hf := e_f hf c12_
    refine r_iload K dX10_sorry_41 4 rfl ?_
    refine r_bipush (v := (-2)) K dX10_sorry_43 rfl ?_
    refine r_icmp_ne (tgt := 94) K dX10_sorry_45 (by decide) (fun c16_ => ?_) (fun c16_ => ?_)
    · have hf := e_f hf c16_
      refine r_lv [0, 1, 3, 4] rfl ?_
      exact sX10_sorry_94 K Z p0 p1 x1 x3 x4 h hf
    · have hf := e_t hf c16_
      refine r_aload_n K dX10_sorry_48 0 rfl rfl ?_
      refine r_iload_n K dX10_sorry_49 1 rfl rfl ?_
      obtain ⟨r17_, h18_, g19_, hf⟩ := e_2 hf
      refine r_callV (av := [.int x1]) (st := []) K lkX10_197 mwX10_isHere (conX10_isHere x1 h r17_ h18_ g19_) dX10_sorry_50 rfl (Nat.le_of_ble_eq_true rfl) rfl rfl (Nat.le_of_ble_eq_true rfl) ?_
      refine r_if_eq (tgt := 94) K dX10_sorry_53 (by decide) (fun c20_ => ?_) (fun c20_ => ?_)
      · have hf := e_t hf c20_
        refine r_lv [0, 1, 3, 4] rfl ?_
        exact sX10_sorry_94 K Z p0 p1 x1 x3 x4 h18_ hf
      · have hf := e_f hf c20_
        refine r_aload_n K dX10_sorry_56 0 rfl rfl ?_
        refine r_iload_n K dX10_sorry_57 1 rfl rfl ?_
        refine r_iconst (v := 2) K dX10_sorry_58 rfl ?_
        refine r_iload K dX10_sorry_59 5 rfl ?_
        obtain ⟨h22_, g23_, hf⟩ := e_v hf
        refine r_callV (av := [.int x1, .int 2, .int x5]) (st := []) K lkX10_113 mwX10_change (conX10_change x1 2 x5 h18_ h22_ g23_) dX10_sorry_61 rfl (Nat.le_of_ble_eq_true rfl) rfl rfl (Nat.le_of_ble_eq_true rfl) ?_
        refine r_aload_n K dX10_sorry_64 0 rfl rfl ?_
        refine r_iload_n K dX10_sorry_65 1 rfl rfl ?_
        refine r_aload_n K dX10_sorry_66 0 rfl rfl ?_
        refine r_iconst (v := 0) K dX10_sorry_67 rfl ?_
        refine r_iconst (v := (-1)) K dX10_sorry_68 rfl ?_
        obtain ⟨r24_, h25_, g26_, hf⟩ := e_2 hf
        refine r_callV (av := [.int 0, .int (-1)]) (st := [.int x1, .ref 59]) K lkX10_241 mwX10_goAll (conX10_goAll 0 (-1) h22_ r24_ h25_ g26_) dX10_sorry_69 rfl (Nat.le_of_ble_eq_true rfl) rfl rfl (Nat.le_of_ble_eq_true rfl) ?_
        obtain ⟨r27_, h28_, g29_, hf⟩ := e_2 hf
        refine r_callV (av := [.int x1, .int r24_]) (st := []) K lkX10_244 mwX10_wentAs (conX10_wentAs x1 r24_ h25_ r27_ h28_ g29_) dX10_sorry_72 rfl (Nat.le_of_ble_eq_true rfl) rfl rfl (Nat.le_of_ble_eq_true rfl) ?_
        refine r_iload_n K dX10_sorry_75 2 rfl rfl ?_
        refine r_icmp_gt (tgt := 84) K dX10_sorry_76 (by decide) (fun c30_ => ?_) (fun c30_ => ?_)
        · have hf := e_t hf c30_
          refine r_bipush (v := (-2)) K dX10_sorry_84 rfl ?_
          refine r_istore (lv' := [(4, .int (-2)), (0, .ref 59), (1, .int x1), (2, .int x2), (3, .int x3), (5, .int x5)]) K dX10_sorry_86 (Nat.le_of_ble_eq_true rfl) rfl ?_
          refine r_iinc (y := 1) (lv' := [(5, .int (x5 + 1)), (4, .int (-2)), (0, .ref 59), (1, .int x1), (2, .int x2), (3, .int x3)]) K dX10_sorry_88 5 rfl rfl (Nat.le_of_ble_eq_true rfl) rfl ?_
          refine r_goto (tgt := 34) K dX10_sorry_91 (by decide) ?_
          refine r_lv [2, 3, 4, 5, 1, 0] rfl ?_
          exact hQ34 x1 x2 x3 (-2) (x5 + 1) h28_ hf
        · have hf := e_f hf c30_
          refine r_iload K dX10_sorry_79 5 rfl ?_
          refine r_goto (tgt := 86) K dX10_sorry_81 (by decide) ?_
          refine r_istore (lv' := [(4, .int x5), (0, .ref 59), (1, .int x1), (2, .int x2), (3, .int x3), (5, .int x5)]) K dX10_sorry_86 (Nat.le_of_ble_eq_true rfl) rfl ?_
          refine r_iinc (y := 1) (lv' := [(5, .int (x5 + 1)), (4, .int x5), (0, .ref 59), (1, .int x1), (2, .int x2), (3, .int x3)]) K dX10_sorry_88 5 rfl rfl (Nat.le_of_ble_eq_true rfl) rfl ?_
          refine r_goto (tgt := 34) K dX10_sorry_91 (by decide) ?_
          refine r_lv [2, 3, 4, 5, 1, 0] rfl ?_
          exact hQ34 x1 x2 x3 x5 (x5 + 1) h28_ hf
theorem sX10_sorry_34 {G : GG} {E : EE} {rv : Int32} {h' : AH} (K : OK G E 67 RX10 cX10_sorry 6) (Z : RT G E (some .int) (some (.int rv)) h') (p0 : Int32) (p1 : Int32) : ∀ (n : Nat) (x1 : Int32) (x2 : Int32) (x3 : Int32) (x4 : Int32) (x5 : Int32) (h : AH), fX10_sorry_34 p0 p1 n x1 x2 x3 x4 x5 h = some (rv, h') → JJ G E 6 34 [(0, .ref 59), (1, .int x1), (2, .int x2), (3, .int x3), (4, .int x4), (5, .int x5)] [] h := by
  intro n
  induction n with
  | zero => intro x1 x2 x3 x4 x5 h hf; cases hf
  | succ n ih => intro x1 x2 x3 x4 x5 h hf; exact sX10_sorry_34_b K Z p0 p1 _ (fun x1 x2 x3 x4 x5 h hf => ih x1 x2 x3 x4 x5 h hf) x1 x2 x3 x4 x5 h hf
def fX10_sorry (p0 : Int32) (p1 : Int32) (h : AH) : Option (Int32 × AH) :=
  bind2 (fX10_isGuest p0 h) fun r1_ h2_ => if r1_ = 0 then some ((-1), h2_) else bind2 (fX10_isIn p1 0 8 h2_) fun r5_ h6_ => if r5_ = 0 then some ((-1), h6_) else bind2 (fX10_number p0 2 h6_) fun r9_ h10_ => fX10_sorry_34 p0 p1 FU p0 p1 r9_ (-2) 0 h10_
set_option maxRecDepth 10000 in
theorem sX10_sorry {G : GG} {E : EE} {rv : Int32} {h' : AH} (K : OK G E 67 RX10 cX10_sorry 6) (Z : RT G E (some .int) (some (.int rv)) h') (p0 : Int32) (p1 : Int32) (h : AH) (hf : fX10_sorry p0 p1 h = some (rv, h')) : JJ G E 6 0 [(0, .ref 59), (1, .int p0), (2, .int p1)] [] h := by
  unfold fX10_sorry at hf
  refine r_aload_n K dX10_sorry_0 0 rfl rfl ?_
  refine r_iload_n K dX10_sorry_1 1 rfl rfl ?_
  obtain ⟨r1_, h2_, g3_, hf⟩ := e_2 hf
  refine r_callV (av := [.int p0]) (st := []) K lkX10_124 mwX10_isGuest (conX10_isGuest p0 h r1_ h2_ g3_) dX10_sorry_2 rfl (Nat.le_of_ble_eq_true rfl) rfl rfl (Nat.le_of_ble_eq_true rfl) ?_
  refine r_if_eq (tgt := 18) K dX10_sorry_5 (by decide) (fun c4_ => ?_) (fun c4_ => ?_)
  · have hf := e_t hf c4_
    refine r_iconst (v := (-1)) K dX10_sorry_18 rfl ?_
    exact r_iret K Z dX10_sorry_19 hf
  · have hf := e_f hf c4_
    refine r_iload_n K dX10_sorry_8 2 rfl rfl ?_
    refine r_iconst (v := 0) K dX10_sorry_9 rfl ?_
    refine r_bipush (v := 8) K dX10_sorry_10 rfl ?_
    obtain ⟨r5_, h6_, g7_, hf⟩ := e_2 hf
    refine r_callS (av := [.int p1, .int 0, .int 8]) (st := []) K lkX10_106 mwX10_isIn (conX10_isIn p1 0 8 h2_ r5_ h6_ g7_) dX10_sorry_12 (Nat.le_of_ble_eq_true rfl) rfl rfl (Nat.le_of_ble_eq_true rfl) ?_
    refine r_if_ne (tgt := 20) K dX10_sorry_15 (by decide) (fun c8_ => ?_) (fun c8_ => ?_)
    · have hf := e_f hf c8_
      refine r_aload_n K dX10_sorry_20 0 rfl rfl ?_
      refine r_iload_n K dX10_sorry_21 1 rfl rfl ?_
      refine r_iconst (v := 2) K dX10_sorry_22 rfl ?_
      obtain ⟨r9_, h10_, g11_, hf⟩ := e_2 hf
      refine r_callV (av := [.int p0, .int 2]) (st := []) K lkX10_110 mwX10_number (conX10_number p0 2 h6_ r9_ h10_ g11_) dX10_sorry_23 rfl (Nat.le_of_ble_eq_true rfl) rfl rfl (Nat.le_of_ble_eq_true rfl) ?_
      refine r_istore_n (lv' := [(3, .int r9_), (0, .ref 59), (1, .int p0), (2, .int p1)]) K dX10_sorry_26 rfl (Nat.le_of_ble_eq_true rfl) rfl ?_
      refine r_bipush (v := (-2)) K dX10_sorry_27 rfl ?_
      refine r_istore (lv' := [(4, .int (-2)), (3, .int r9_), (0, .ref 59), (1, .int p0), (2, .int p1)]) K dX10_sorry_29 (Nat.le_of_ble_eq_true rfl) rfl ?_
      refine r_iconst (v := 0) K dX10_sorry_31 rfl ?_
      refine r_istore (lv' := [(5, .int 0), (4, .int (-2)), (3, .int r9_), (0, .ref 59), (1, .int p0), (2, .int p1)]) K dX10_sorry_32 (Nat.le_of_ble_eq_true rfl) rfl ?_
      refine r_lv [3, 4, 5, 2, 1, 0] rfl ?_
      exact sX10_sorry_34 K Z p0 p1 FU p0 p1 r9_ (-2) 0 h10_ hf
    · have hf := e_t hf c8_
      refine r_iconst (v := (-1)) K dX10_sorry_18 rfl ?_
      exact r_iret K Z dX10_sorry_19 hf
theorem conX10_sorry {G : GG} (p0 : Int32) (p1 : Int32) (h : AH) (rv : Int32) (h' : AH) (hf : fX10_sorry p0 p1 h = some (rv, h')) : Con G 67 yX10_sorry cX10_sorry 6 (some .int) [.ref 59, .int p0, .int p1] h (some (.int rv)) h' := con_of mwX10_sorry (Nat.le_of_ble_eq_true rfl) (fun E K Z => sX10_sorry K Z p0 p1 h hf)
def fX10_taken_90 (p0 : Int32) (p1 : Int32) (x3 : Int32) (x4 : Int32) (h : AH) : Option (Int32 × AH) :=
  if x4 = (-1) then some ((-12), h) else some (x3, h)
set_option maxRecDepth 10000 in
theorem sX10_taken_90 {G : GG} {E : EE} {rv : Int32} {h' : AH} (K : OK G E 2 RX10 cX10_taken 5) (Z : RT G E (some .int) (some (.int rv)) h') (p0 : Int32) (p1 : Int32) (x3 : Int32) (x4 : Int32) (h : AH) (hf : fX10_taken_90 p0 p1 x3 x4 h = some (rv, h')) : JJ G E 5 90 [(3, .int x3), (4, .int x4)] [] h := by
  unfold fX10_taken_90 at hf
  refine r_iload K dX10_taken_90 1 rfl ?_
  refine r_iconst (v := (-1)) K dX10_taken_92 rfl ?_
  refine r_icmp_ne (tgt := 101) K dX10_taken_93 (by decide) (fun c16_ => ?_) (fun c16_ => ?_)
  · have hf := e_f hf c16_
    refine r_iload_n K dX10_taken_101 0 rfl rfl ?_
    exact r_iret K Z dX10_taken_102 hf
  · have hf := e_t hf c16_
    refine r_bipush (v := (-12)) K dX10_taken_96 rfl ?_
    refine r_goto (tgt := 102) K dX10_taken_98 (by decide) ?_
    exact r_iret K Z dX10_taken_102 hf
def fX10_taken_66_b (p0 : Int32) (p1 : Int32) (Q66 : Int32 → Int32 → Int32 → AH → Option (Int32 × AH)) (x2 : Int32) (x3 : Int32) (x4 : Int32) (h : AH) : Option (Int32 × AH) :=
  if x4 = (-1) then fX10_taken_90 p0 p1 x3 x4 h else if x4 = x2 then fX10_taken_90 p0 p1 x3 x4 h else if inb x4 8 = true then letV ((h.1 82 (ix x4))) fun x19_ => Q66 x2 x3 x19_ h else none
def fX10_taken_66 (p0 : Int32) (p1 : Int32) : Nat → Int32 → Int32 → Int32 → AH → Option (Int32 × AH)
  | 0 => fun _ _ _ _ => none
  | n + 1 => fX10_taken_66_b p0 p1 (fX10_taken_66 p0 p1 n)
set_option maxRecDepth 10000 in
theorem sX10_taken_66_b {G : GG} {E : EE} {rv : Int32} {h' : AH} (K : OK G E 2 RX10 cX10_taken 5) (Z : RT G E (some .int) (some (.int rv)) h') (p0 : Int32) (p1 : Int32) (Q66 : Int32 → Int32 → Int32 → AH → Option (Int32 × AH)) (hQ66 : ∀ (x2 : Int32) (x3 : Int32) (x4 : Int32) (h : AH), Q66 x2 x3 x4 h = some (rv, h') → JJ G E 5 66 [(0, .ref 59), (2, .int x2), (3, .int x3), (4, .int x4)] [] h) (x2 : Int32) (x3 : Int32) (x4 : Int32) (h : AH) (hf : fX10_taken_66_b p0 p1 Q66 x2 x3 x4 h = some (rv, h')) : JJ G E 5 66 [(0, .ref 59), (2, .int x2), (3, .int x3), (4, .int x4)] [] h := by
  unfold fX10_taken_66_b at hf
  refine r_iload K dX10_taken_66 3 rfl ?_
  refine r_iconst (v := (-1)) K dX10_taken_68 rfl ?_
  refine r_icmp_eq (tgt := 90) K dX10_taken_69 (by decide) (fun c15_ => ?_) (fun c15_ => ?_)
  · have hf := e_t hf c15_
    refine r_lv [2, 3] rfl ?_
    exact sX10_taken_90 K Z p0 p1 x3 x4 h hf
  · have hf := e_f hf c15_
    refine r_iload K dX10_taken_72 3 rfl ?_
    refine r_iload_n K dX10_taken_74 1 rfl rfl ?_
    refine r_icmp_eq (tgt := 90) K dX10_taken_75 (by decide) (fun c17_ => ?_) (fun c17_ => ?_)
    · have hf := e_t hf c17_
      refine r_lv [2, 3] rfl ?_
      exact sX10_taken_90 K Z p0 p1 x3 x4 h hf
    · have hf := e_f hf c17_
      refine r_aload_n K dX10_taken_78 0 rfl rfl ?_
      refine r_getR (o' := 82) K flX10_82 dX10_taken_79 rfl rfl rfl ?_
      refine r_iload K dX10_taken_82 3 rfl ?_
      obtain ⟨g18_, hf⟩ := e_g hf
      refine r_iald K dX10_taken_84 rfl g18_ ?_
      obtain ⟨x19_, e20_, hf⟩ := e_l hf
      refine r_nmI e20_ ?_
      refine r_istore (lv' := [(4, .int x19_), (0, .ref 59), (2, .int x2), (3, .int x3)]) K dX10_taken_85 (Nat.le_of_ble_eq_true rfl) rfl ?_
      refine r_goto (tgt := 66) K dX10_taken_87 (by decide) ?_
      refine r_lv [1, 2, 3, 0] rfl ?_
      exact hQ66 x2 x3 x19_ h hf
theorem sX10_taken_66 {G : GG} {E : EE} {rv : Int32} {h' : AH} (K : OK G E 2 RX10 cX10_taken 5) (Z : RT G E (some .int) (some (.int rv)) h') (p0 : Int32) (p1 : Int32) : ∀ (n : Nat) (x2 : Int32) (x3 : Int32) (x4 : Int32) (h : AH), fX10_taken_66 p0 p1 n x2 x3 x4 h = some (rv, h') → JJ G E 5 66 [(0, .ref 59), (2, .int x2), (3, .int x3), (4, .int x4)] [] h := by
  intro n
  induction n with
  | zero => intro x2 x3 x4 h hf; cases hf
  | succ n ih => intro x2 x3 x4 h hf; exact sX10_taken_66_b K Z p0 p1 _ (fun x2 x3 x4 h hf => ih x2 x3 x4 h hf) x2 x3 x4 h hf
def fX10_taken (p0 : Int32) (p1 : Int32) (h : AH) : Option (Int32 × AH) :=
  bind2 (fX10_isShelf p0 h) fun r1_ h2_ => if r1_ = 0 then some ((-1), h2_) else bind2 (fX10_isIn p1 0 7 h2_) fun r5_ h6_ => if r5_ = 0 then some ((-1), h6_) else if inb p0 6 = true then if 10 ≤ (h6_.1 75 (ix p0)) then if inb ((h6_.1 75 (ix p0)) - 10) 50 = true then letV ((h6_.1 84 (ix ((h6_.1 75 (ix p0)) - 10)))) fun x13_ => fX10_taken_66 p0 p1 FU p1 x13_ x13_ h6_ else none else if (h6_.1 75 (ix p0)) = (-1) then some ((-11), h6_) else some ((-12), h6_) else none
set_option maxRecDepth 10000 in
theorem sX10_taken {G : GG} {E : EE} {rv : Int32} {h' : AH} (K : OK G E 2 RX10 cX10_taken 5) (Z : RT G E (some .int) (some (.int rv)) h') (p0 : Int32) (p1 : Int32) (h : AH) (hf : fX10_taken p0 p1 h = some (rv, h')) : JJ G E 5 0 [(0, .ref 59), (1, .int p0), (2, .int p1)] [] h := by
  unfold fX10_taken at hf
  refine r_iload_n K dX10_taken_0 1 rfl rfl ?_
  obtain ⟨r1_, h2_, g3_, hf⟩ := e_2 hf
  refine r_callS (av := [.int p0]) (st := []) K lkX10_250 mwX10_isShelf (conX10_isShelf p0 h r1_ h2_ g3_) dX10_taken_1 (Nat.le_of_ble_eq_true rfl) rfl rfl (Nat.le_of_ble_eq_true rfl) ?_
  refine r_if_eq (tgt := 17) K dX10_taken_4 (by decide) (fun c4_ => ?_) (fun c4_ => ?_)
  · have hf := e_t hf c4_
    refine r_iconst (v := (-1)) K dX10_taken_17 rfl ?_
    exact r_iret K Z dX10_taken_18 hf
  · have hf := e_f hf c4_
    refine r_iload_n K dX10_taken_7 2 rfl rfl ?_
    refine r_iconst (v := 0) K dX10_taken_8 rfl ?_
    refine r_bipush (v := 7) K dX10_taken_9 rfl ?_
    obtain ⟨r5_, h6_, g7_, hf⟩ := e_2 hf
    refine r_callS (av := [.int p1, .int 0, .int 7]) (st := []) K lkX10_106 mwX10_isIn (conX10_isIn p1 0 7 h2_ r5_ h6_ g7_) dX10_taken_11 (Nat.le_of_ble_eq_true rfl) rfl rfl (Nat.le_of_ble_eq_true rfl) ?_
    refine r_if_ne (tgt := 19) K dX10_taken_14 (by decide) (fun c8_ => ?_) (fun c8_ => ?_)
    · have hf := e_f hf c8_
      refine r_aload_n K dX10_taken_19 0 rfl rfl ?_
      refine r_getR (o' := 75) K flX10_60 dX10_taken_20 rfl rfl rfl ?_
      refine r_iload_n K dX10_taken_23 1 rfl rfl ?_
      obtain ⟨g9_, hf⟩ := e_g hf
      refine r_iald K dX10_taken_24 rfl g9_ ?_
      refine r_bipush (v := 10) K dX10_taken_25 rfl ?_
      refine r_icmp_ge (tgt := 48) K dX10_taken_27 (by decide) (fun c10_ => ?_) (fun c10_ => ?_)
      · have hf := e_t hf c10_
        refine r_aload_n K dX10_taken_48 0 rfl rfl ?_
        refine r_getR (o' := 84) K flX10_88 dX10_taken_49 rfl rfl rfl ?_
        refine r_aload_n K dX10_taken_52 0 rfl rfl ?_
        refine r_getR (o' := 75) K flX10_60 dX10_taken_53 rfl rfl rfl ?_
        refine r_iload_n K dX10_taken_56 1 rfl rfl ?_
        refine r_iald K dX10_taken_57 rfl g9_ ?_
        refine r_bipush (v := 10) K dX10_taken_58 rfl ?_
        refine r_isub K dX10_taken_60 ?_
        obtain ⟨g12_, hf⟩ := e_g hf
        refine r_iald K dX10_taken_61 rfl g12_ ?_
        obtain ⟨x13_, e14_, hf⟩ := e_l hf
        refine r_nmI e14_ ?_
        refine r_istore_n (lv' := [(3, .int x13_), (0, .ref 59), (1, .int p0), (2, .int p1)]) K dX10_taken_62 rfl (Nat.le_of_ble_eq_true rfl) rfl ?_
        refine r_iload_n K dX10_taken_63 0 rfl rfl ?_
        refine r_istore (lv' := [(4, .int x13_), (3, .int x13_), (0, .ref 59), (1, .int p0), (2, .int p1)]) K dX10_taken_64 (Nat.le_of_ble_eq_true rfl) rfl ?_
        refine r_lv [2, 4, 1, 0] rfl ?_
        exact sX10_taken_66 K Z p0 p1 FU p1 x13_ x13_ h6_ hf
      · have hf := e_f hf c10_
        refine r_aload_n K dX10_taken_30 0 rfl rfl ?_
        refine r_getR (o' := 75) K flX10_60 dX10_taken_31 rfl rfl rfl ?_
        refine r_iload_n K dX10_taken_34 1 rfl rfl ?_
        refine r_iald K dX10_taken_35 rfl g9_ ?_
        refine r_iconst (v := (-1)) K dX10_taken_36 rfl ?_
        refine r_icmp_ne (tgt := 45) K dX10_taken_37 (by decide) (fun c22_ => ?_) (fun c22_ => ?_)
        · have hf := e_f hf c22_
          refine r_bipush (v := (-12)) K dX10_taken_45 rfl ?_
          exact r_iret K Z dX10_taken_47 hf
        · have hf := e_t hf c22_
          refine r_bipush (v := (-11)) K dX10_taken_40 rfl ?_
          refine r_goto (tgt := 47) K dX10_taken_42 (by decide) ?_
          exact r_iret K Z dX10_taken_47 hf
    · have hf := e_t hf c8_
      refine r_iconst (v := (-1)) K dX10_taken_17 rfl ?_
      exact r_iret K Z dX10_taken_18 hf
theorem conX10_taken {G : GG} (p0 : Int32) (p1 : Int32) (h : AH) (rv : Int32) (h' : AH) (hf : fX10_taken p0 p1 h = some (rv, h')) : Con G 2 yX10_taken cX10_taken 5 (some .int) [.ref 59, .int p0, .int p1] h (some (.int rv)) h' := con_of mwX10_taken (Nat.le_of_ble_eq_true rfl) (fun E K Z => sX10_taken K Z p0 p1 h hf)
def fX10_trace (p0 : Int32) (h : AH) : Option (Int32 × AH) :=
  bind2 (fX10_isIn p0 0 ((jmin 24 (h.1 59 45)) - 1) h) fun r1_ h2_ => if r1_ = 0 then some ((-1), h2_) else if inb p0 24 = true then some ((h2_.1 85 (ix p0)), h2_) else none
set_option maxRecDepth 10000 in
theorem sX10_trace {G : GG} {E : EE} {rv : Int32} {h' : AH} (K : OK G E 1 RX10 cX10_trace 2) (Z : RT G E (some .int) (some (.int rv)) h') (p0 : Int32) (h : AH) (hf : fX10_trace p0 h = some (rv, h')) : JJ G E 2 0 [(0, .ref 59), (1, .int p0)] [] h := by
  unfold fX10_trace at hf
  refine r_iload_n K dX10_trace_0 1 rfl rfl ?_
  refine r_iconst (v := 0) K dX10_trace_1 rfl ?_
  refine r_bipush (v := 24) K dX10_trace_2 rfl ?_
  refine r_aload_n K dX10_trace_4 0 rfl rfl ?_
  refine r_getI K flX10_294 dX10_trace_5 rfl rfl ?_
  refine r_mmin K lmX10_94 dX10_trace_8 (Nat.le_of_ble_eq_true rfl) (Nat.le_of_ble_eq_true rfl) ?_
  refine r_iconst (v := 1) K dX10_trace_11 rfl ?_
  refine r_isub K dX10_trace_12 ?_
  obtain ⟨r1_, h2_, g3_, hf⟩ := e_2 hf
  refine r_callS (av := [.int p0, .int 0, .int ((jmin 24 (h.1 59 45)) - 1)]) (st := []) K lkX10_106 mwX10_isIn (conX10_isIn p0 0 ((jmin 24 (h.1 59 45)) - 1) h r1_ h2_ g3_) dX10_trace_13 (Nat.le_of_ble_eq_true rfl) rfl rfl (Nat.le_of_ble_eq_true rfl) ?_
  refine r_if_eq (tgt := 28) K dX10_trace_16 (by decide) (fun c4_ => ?_) (fun c4_ => ?_)
  · have hf := e_t hf c4_
    refine r_iconst (v := (-1)) K dX10_trace_28 rfl ?_
    exact r_iret K Z dX10_trace_29 hf
  · have hf := e_f hf c4_
    refine r_aload_n K dX10_trace_19 0 rfl rfl ?_
    refine r_getR (o' := 85) K flX10_91 dX10_trace_20 rfl rfl rfl ?_
    refine r_iload_n K dX10_trace_23 1 rfl rfl ?_
    obtain ⟨g5_, hf⟩ := e_g hf
    refine r_iald K dX10_trace_24 rfl g5_ ?_
    refine r_goto (tgt := 29) K dX10_trace_25 (by decide) ?_
    exact r_iret K Z dX10_trace_29 hf
theorem conX10_trace {G : GG} (p0 : Int32) (h : AH) (rv : Int32) (h' : AH) (hf : fX10_trace p0 h = some (rv, h')) : Con G 1 yX10_trace cX10_trace 2 (some .int) [.ref 59, .int p0] h (some (.int rv)) h' := con_of mwX10_trace (Nat.le_of_ble_eq_true rfl) (fun E K Z => sX10_trace K Z p0 h hf)
def fX10_undo (h : AH) : Option (Int32 × AH) :=
  if (h.1 59 7) = 0 then some ((-5), h) else letV (wI h 59 7 ((h.1 59 7) - 1)) fun h2_ => if inb (h2_.1 59 7) 40 = true then if inb (h2_.1 62 (ix (h2_.1 59 7))) 94 = true then letV (wI h2_ 60 (ix (h2_.1 62 (ix (h2_.1 59 7)))) (h2_.1 63 (ix (h2_.1 59 7)))) fun h7_ => some ((h7_.1 59 7), h7_) else none else none
set_option maxRecDepth 10000 in
theorem sX10_undo {G : GG} {E : EE} {rv : Int32} {h' : AH} (K : OK G E 0 RX10 cX10_undo 1) (Z : RT G E (some .int) (some (.int rv)) h') (h : AH) (hf : fX10_undo h = some (rv, h')) : JJ G E 1 0 [(0, .ref 59)] [] h := by
  unfold fX10_undo at hf
  refine r_aload_n K dX10_undo_0 0 rfl rfl ?_
  refine r_getI K flX10_135 dX10_undo_1 rfl rfl ?_
  refine r_if_ne (tgt := 10) K dX10_undo_4 (by decide) (fun c1_ => ?_) (fun c1_ => ?_)
  · have hf := e_f hf c1_
    refine r_aload_n K dX10_undo_10 0 rfl rfl ?_
    refine r_dup K dX10_undo_11 rfl ?_
    refine r_getI K flX10_135 dX10_undo_12 rfl rfl ?_
    refine r_iconst (v := 1) K dX10_undo_15 rfl ?_
    refine r_isub K dX10_undo_16 ?_
    obtain ⟨h2_, e3_, hf⟩ := e_l hf
    refine r_putI K fpX10_135 dX10_undo_17 rfl rfl e3_ ?_
    refine r_aload_n K dX10_undo_20 0 rfl rfl ?_
    refine r_getR (o' := 60) K flX10_7 dX10_undo_21 rfl rfl rfl ?_
    refine r_aload_n K dX10_undo_24 0 rfl rfl ?_
    refine r_getR (o' := 62) K flX10_16 dX10_undo_25 rfl rfl rfl ?_
    refine r_aload_n K dX10_undo_28 0 rfl rfl ?_
    refine r_getI K flX10_135 dX10_undo_29 rfl rfl ?_
    obtain ⟨g4_, hf⟩ := e_g hf
    refine r_iald K dX10_undo_32 rfl g4_ ?_
    refine r_aload_n K dX10_undo_33 0 rfl rfl ?_
    refine r_getR (o' := 63) K flX10_19 dX10_undo_34 rfl rfl rfl ?_
    refine r_aload_n K dX10_undo_37 0 rfl rfl ?_
    refine r_getI K flX10_135 dX10_undo_38 rfl rfl ?_
    refine r_iald K dX10_undo_41 rfl g4_ ?_
    obtain ⟨g6_, hf⟩ := e_g hf
    obtain ⟨h7_, e8_, hf⟩ := e_l hf
    refine r_iast K dX10_undo_42 rfl g6_ e8_ ?_
    refine r_aload_n K dX10_undo_43 0 rfl rfl ?_
    refine r_getI K flX10_135 dX10_undo_44 rfl rfl ?_
    exact r_iret K Z dX10_undo_47 hf
  · have hf := e_t hf c1_
    refine r_bipush (v := (-5)) K dX10_undo_7 rfl ?_
    exact r_iret K Z dX10_undo_9 hf
theorem conX10_undo {G : GG} (h : AH) (rv : Int32) (h' : AH) (hf : fX10_undo h = some (rv, h')) : Con G 0 yX10_undo cX10_undo 1 (some .int) [.ref 59] h (some (.int rv)) h' := con_of mwX10_undo (Nat.le_of_ble_eq_true rfl) (fun E K Z => sX10_undo K Z h hf)
def fX10_upside_110 (p0 : Int32) (Q21 : Int32 → Int32 → Int32 → Int32 → AH → Option (Int32 × AH)) (Q33 : Int32 → Int32 → Int32 → Int32 → Int32 → AH → Option (Int32 × AH)) (x1 : Int32) (x2 : Int32) (x3 : Int32) (x4 : Int32) (x5 : Int32) (s0 : Int32) (h : AH) : Option (Int32 × AH) :=
  if s0 = 0 then letV ((x3 + 0)) fun x19_ => Q33 x1 x2 x19_ x4 (x5 + 1) h else letV ((x3 + 1)) fun x21_ => Q33 x1 x2 x21_ x4 (x5 + 1) h
set_option maxRecDepth 10000 in
theorem sX10_upside_110 {G : GG} {E : EE} {rv : Int32} {h' : AH} (K : OK G E 66 RX10 cX10_upside 7) (Z : RT G E (some .int) (some (.int rv)) h') (p0 : Int32) (Q21 : Int32 → Int32 → Int32 → Int32 → AH → Option (Int32 × AH)) (hQ21 : ∀ (x1 : Int32) (x2 : Int32) (x3 : Int32) (x4 : Int32) (h : AH), Q21 x1 x2 x3 x4 h = some (rv, h') → JJ G E 7 21 [(0, .ref 59), (1, .int x1), (2, .int x2), (3, .int x3), (4, .int x4)] [] h) (Q33 : Int32 → Int32 → Int32 → Int32 → Int32 → AH → Option (Int32 × AH)) (hQ33 : ∀ (x1 : Int32) (x2 : Int32) (x3 : Int32) (x4 : Int32) (x5 : Int32) (h : AH), Q33 x1 x2 x3 x4 x5 h = some (rv, h') → JJ G E 7 33 [(0, .ref 59), (1, .int x1), (2, .int x2), (3, .int x3), (4, .int x4), (5, .int x5)] [] h) (x1 : Int32) (x2 : Int32) (x3 : Int32) (x4 : Int32) (x5 : Int32) (s0 : Int32) (h : AH) (hf : fX10_upside_110 p0 Q21 Q33 x1 x2 x3 x4 x5 s0 h = some (rv, h')) : JJ G E 7 110 [(0, .ref 59), (1, .int x1), (2, .int x2), (3, .int x3), (4, .int x4), (5, .int x5)] [.int s0] h := by
  unfold fX10_upside_110 at hf
  refine r_istore (lv' := [(6, .int s0), (0, .ref 59), (1, .int x1), (2, .int x2), (3, .int x3), (4, .int x4), (5, .int x5)]) K dX10_upside_110 (Nat.le_of_ble_eq_true rfl) rfl ?_
  refine r_iload_n K dX10_upside_112 4 rfl rfl ?_
  refine r_iload K dX10_upside_113 0 rfl ?_
  refine r_if_eq (tgt := 122) K dX10_upside_115 (by decide) (fun c18_ => ?_) (fun c18_ => ?_)
  · have hf := e_t hf c18_
    refine r_iconst (v := 0) K dX10_upside_122 rfl ?_
    refine r_iadd K dX10_upside_123 ?_
    obtain ⟨x19_, e20_, hf⟩ := e_l hf
    refine r_nmI e20_ ?_
    refine r_istore_n (lv' := [(3, .int x19_), (6, .int s0), (0, .ref 59), (1, .int x1), (2, .int x2), (4, .int x4), (5, .int x5)]) K dX10_upside_124 rfl (Nat.le_of_ble_eq_true rfl) rfl ?_
    refine r_iinc (y := 1) (lv' := [(5, .int (x5 + 1)), (3, .int x19_), (6, .int s0), (0, .ref 59), (1, .int x1), (2, .int x2), (4, .int x4)]) K dX10_upside_125 6 rfl rfl (Nat.le_of_ble_eq_true rfl) rfl ?_
    refine r_goto (tgt := 33) K dX10_upside_128 (by decide) ?_
    refine r_lv [3, 4, 5, 1, 6, 0] rfl ?_
    exact hQ33 x1 x2 x19_ x4 (x5 + 1) h hf
  · have hf := e_f hf c18_
    refine r_iconst (v := 1) K dX10_upside_118 rfl ?_
    refine r_goto (tgt := 123) K dX10_upside_119 (by decide) ?_
    refine r_iadd K dX10_upside_123 ?_
    obtain ⟨x21_, e22_, hf⟩ := e_l hf
    refine r_nmI e22_ ?_
    refine r_istore_n (lv' := [(3, .int x21_), (6, .int s0), (0, .ref 59), (1, .int x1), (2, .int x2), (4, .int x4), (5, .int x5)]) K dX10_upside_124 rfl (Nat.le_of_ble_eq_true rfl) rfl ?_
    refine r_iinc (y := 1) (lv' := [(5, .int (x5 + 1)), (3, .int x21_), (6, .int s0), (0, .ref 59), (1, .int x1), (2, .int x2), (4, .int x4)]) K dX10_upside_125 6 rfl rfl (Nat.le_of_ble_eq_true rfl) rfl ?_
    refine r_goto (tgt := 33) K dX10_upside_128 (by decide) ?_
    refine r_lv [3, 4, 5, 1, 6, 0] rfl ?_
    exact hQ33 x1 x2 x21_ x4 (x5 + 1) h hf
def fX10_upside_33_b (p0 : Int32) (Q21 : Int32 → Int32 → Int32 → Int32 → AH → Option (Int32 × AH)) (Q33 : Int32 → Int32 → Int32 → Int32 → Int32 → AH → Option (Int32 × AH)) (x1 : Int32) (x2 : Int32) (x3 : Int32) (x4 : Int32) (x5 : Int32) (h : AH) : Option (Int32 × AH) :=
  if x2 ≤ x5 then Q21 x1 x2 x3 (x4 + 1) h else if x1 = 0 then if inb x5 9 = true then bind2 (fX10_number (h.1 72 (ix x5)) 0 h) fun r24_ h25_ => if inb x4 9 = true then bind2 (fX10_number (h25_.1 72 (ix x4)) 0 h25_) fun r28_ h29_ => if r24_ ≤ r28_ then fX10_upside_110 p0 Q21 Q33 x1 x2 x3 x4 x5 0 h29_ else fX10_upside_110 p0 Q21 Q33 x1 x2 x3 x4 x5 1 h29_ else none else none else if inb x4 9 = true then if inb (h.1 72 (ix x4)) 9 = true then if inb x5 9 = true then if inb (h.1 72 (ix x5)) 9 = true then if (h.1 73 (ix (h.1 72 (ix x4)))) = (h.1 73 (ix (h.1 72 (ix x5)))) then fX10_upside_110 p0 Q21 Q33 x1 x2 x3 x4 x5 1 h else fX10_upside_110 p0 Q21 Q33 x1 x2 x3 x4 x5 0 h else none else none else none else none
def fX10_upside_33 (p0 : Int32) (Q21 : Int32 → Int32 → Int32 → Int32 → AH → Option (Int32 × AH)) : Nat → Int32 → Int32 → Int32 → Int32 → Int32 → AH → Option (Int32 × AH)
  | 0 => fun _ _ _ _ _ _ => none
  | n + 1 => fX10_upside_33_b p0 Q21 (fX10_upside_33 p0 Q21 n)
set_option maxRecDepth 10000 in
theorem sX10_upside_33_b {G : GG} {E : EE} {rv : Int32} {h' : AH} (K : OK G E 66 RX10 cX10_upside 7) (Z : RT G E (some .int) (some (.int rv)) h') (p0 : Int32) (Q21 : Int32 → Int32 → Int32 → Int32 → AH → Option (Int32 × AH)) (hQ21 : ∀ (x1 : Int32) (x2 : Int32) (x3 : Int32) (x4 : Int32) (h : AH), Q21 x1 x2 x3 x4 h = some (rv, h') → JJ G E 7 21 [(0, .ref 59), (1, .int x1), (2, .int x2), (3, .int x3), (4, .int x4)] [] h) (Q33 : Int32 → Int32 → Int32 → Int32 → Int32 → AH → Option (Int32 × AH)) (hQ33 : ∀ (x1 : Int32) (x2 : Int32) (x3 : Int32) (x4 : Int32) (x5 : Int32) (h : AH), Q33 x1 x2 x3 x4 x5 h = some (rv, h') → JJ G E 7 33 [(0, .ref 59), (1, .int x1), (2, .int x2), (3, .int x3), (4, .int x4), (5, .int x5)] [] h) (x1 : Int32) (x2 : Int32) (x3 : Int32) (x4 : Int32) (x5 : Int32) (h : AH) (hf : fX10_upside_33_b p0 Q21 Q33 x1 x2 x3 x4 x5 h = some (rv, h')) : JJ G E 7 33 [(0, .ref 59), (1, .int x1), (2, .int x2), (3, .int x3), (4, .int x4), (5, .int x5)] [] h := by
  unfold fX10_upside_33_b at hf
  refine r_iload K dX10_upside_33 5 rfl ?_
  refine r_iload_n K dX10_upside_35 2 rfl rfl ?_
  refine r_icmp_ge (tgt := 131) K dX10_upside_36 (by decide) (fun c11_ => ?_) (fun c11_ => ?_)
  · have hf := e_t hf c11_
    refine r_iinc (y := 1) (lv' := [(4, .int (x4 + 1)), (0, .ref 59), (1, .int x1), (2, .int x2), (3, .int x3), (5, .int x5)]) K dX10_upside_131 4 rfl rfl (Nat.le_of_ble_eq_true rfl) rfl ?_
    refine r_goto (tgt := 21) K dX10_upside_134 (by decide) ?_
    refine r_lv [1, 2, 3, 4, 0] rfl ?_
    exact hQ21 x1 x2 x3 (x4 + 1) h hf
  · have hf := e_f hf c11_
    refine r_iload_n K dX10_upside_39 1 rfl rfl ?_
    refine r_if_ne (tgt := 78) K dX10_upside_40 (by decide) (fun c12_ => ?_) (fun c12_ => ?_)
    · have hf := e_f hf c12_
      refine r_aload_n K dX10_upside_78 0 rfl rfl ?_
      refine r_getR (o' := 73) K flX10_54 dX10_upside_79 rfl rfl rfl ?_
      refine r_aload_n K dX10_upside_82 0 rfl rfl ?_
      refine r_getR (o' := 72) K flX10_51 dX10_upside_83 rfl rfl rfl ?_
      refine r_iload K dX10_upside_86 4 rfl ?_
      obtain ⟨g13_, hf⟩ := e_g hf
      refine r_iald K dX10_upside_88 rfl g13_ ?_
      obtain ⟨g14_, hf⟩ := e_g hf
      refine r_iald K dX10_upside_89 rfl g14_ ?_
      refine r_aload_n K dX10_upside_90 0 rfl rfl ?_
      refine r_getR (o' := 73) K flX10_54 dX10_upside_91 rfl rfl rfl ?_
      refine r_aload_n K dX10_upside_94 0 rfl rfl ?_
      refine r_getR (o' := 72) K flX10_51 dX10_upside_95 rfl rfl rfl ?_
      refine r_iload K dX10_upside_98 5 rfl ?_
      obtain ⟨g15_, hf⟩ := e_g hf
      refine r_iald K dX10_upside_100 rfl g15_ ?_
      obtain ⟨g16_, hf⟩ := e_g hf
      refine r_iald K dX10_upside_101 rfl g16_ ?_
      refine r_icmp_ne (tgt := 109) K dX10_upside_102 (by decide) (fun c17_ => ?_) (fun c17_ => ?_)
      · have hf := e_f hf c17_
        refine r_iconst (v := 0) K dX10_upside_109 rfl ?_
        refine r_lv [0, 1, 2, 3, 4, 5] rfl ?_
        exact sX10_upside_110 K Z p0 Q21 hQ21 Q33 hQ33 x1 x2 x3 x4 x5 0 h hf
      · have hf := e_t hf c17_
        refine r_iconst (v := 1) K dX10_upside_105 rfl ?_
        refine r_goto (tgt := 110) K dX10_upside_106 (by decide) ?_
        refine r_lv [0, 1, 2, 3, 4, 5] rfl ?_
        exact sX10_upside_110 K Z p0 Q21 hQ21 Q33 hQ33 x1 x2 x3 x4 x5 1 h hf
    · have hf := e_t hf c12_
      refine r_aload_n K dX10_upside_43 0 rfl rfl ?_
      refine r_aload_n K dX10_upside_44 0 rfl rfl ?_
      refine r_getR (o' := 72) K flX10_51 dX10_upside_45 rfl rfl rfl ?_
      refine r_iload K dX10_upside_48 5 rfl ?_
      obtain ⟨g23_, hf⟩ := e_g hf
      refine r_iald K dX10_upside_50 rfl g23_ ?_
      refine r_iconst (v := 0) K dX10_upside_51 rfl ?_
      obtain ⟨r24_, h25_, g26_, hf⟩ := e_2 hf
      refine r_callV (av := [.int (h.1 72 (ix x5)), .int 0]) (st := []) K lkX10_110 mwX10_number (conX10_number (h.1 72 (ix x5)) 0 h r24_ h25_ g26_) dX10_upside_52 rfl (Nat.le_of_ble_eq_true rfl) rfl rfl (Nat.le_of_ble_eq_true rfl) ?_
      refine r_aload_n K dX10_upside_55 0 rfl rfl ?_
      refine r_aload_n K dX10_upside_56 0 rfl rfl ?_
      refine r_getR (o' := 72) K flX10_51 dX10_upside_57 rfl rfl rfl ?_
      refine r_iload K dX10_upside_60 4 rfl ?_
      obtain ⟨g27_, hf⟩ := e_g hf
      refine r_iald K dX10_upside_62 rfl g27_ ?_
      refine r_iconst (v := 0) K dX10_upside_63 rfl ?_
      obtain ⟨r28_, h29_, g30_, hf⟩ := e_2 hf
      refine r_callV (av := [.int (h25_.1 72 (ix x4)), .int 0]) (st := [.int r24_]) K lkX10_110 mwX10_number (conX10_number (h25_.1 72 (ix x4)) 0 h25_ r28_ h29_ g30_) dX10_upside_64 rfl (Nat.le_of_ble_eq_true rfl) rfl rfl (Nat.le_of_ble_eq_true rfl) ?_
      refine r_icmp_le (tgt := 74) K dX10_upside_67 (by decide) (fun c31_ => ?_) (fun c31_ => ?_)
      · have hf := e_t hf c31_
        refine r_iconst (v := 0) K dX10_upside_74 rfl ?_
        refine r_goto (tgt := 110) K dX10_upside_75 (by decide) ?_
        refine r_lv [0, 1, 2, 3, 4, 5] rfl ?_
        exact sX10_upside_110 K Z p0 Q21 hQ21 Q33 hQ33 x1 x2 x3 x4 x5 0 h29_ hf
      · have hf := e_f hf c31_
        refine r_iconst (v := 1) K dX10_upside_70 rfl ?_
        refine r_goto (tgt := 110) K dX10_upside_71 (by decide) ?_
        refine r_lv [0, 1, 2, 3, 4, 5] rfl ?_
        exact sX10_upside_110 K Z p0 Q21 hQ21 Q33 hQ33 x1 x2 x3 x4 x5 1 h29_ hf
theorem sX10_upside_33 {G : GG} {E : EE} {rv : Int32} {h' : AH} (K : OK G E 66 RX10 cX10_upside 7) (Z : RT G E (some .int) (some (.int rv)) h') (p0 : Int32) (Q21 : Int32 → Int32 → Int32 → Int32 → AH → Option (Int32 × AH)) (hQ21 : ∀ (x1 : Int32) (x2 : Int32) (x3 : Int32) (x4 : Int32) (h : AH), Q21 x1 x2 x3 x4 h = some (rv, h') → JJ G E 7 21 [(0, .ref 59), (1, .int x1), (2, .int x2), (3, .int x3), (4, .int x4)] [] h) : ∀ (n : Nat) (x1 : Int32) (x2 : Int32) (x3 : Int32) (x4 : Int32) (x5 : Int32) (h : AH), fX10_upside_33 p0 Q21 n x1 x2 x3 x4 x5 h = some (rv, h') → JJ G E 7 33 [(0, .ref 59), (1, .int x1), (2, .int x2), (3, .int x3), (4, .int x4), (5, .int x5)] [] h := by
  intro n
  induction n with
  | zero => intro x1 x2 x3 x4 x5 h hf; cases hf
  | succ n ih => intro x1 x2 x3 x4 x5 h hf; exact sX10_upside_33_b K Z p0 Q21 hQ21 _ (fun x1 x2 x3 x4 x5 h hf => ih x1 x2 x3 x4 x5 h hf) x1 x2 x3 x4 x5 h hf
def fX10_upside_21_b (p0 : Int32) (Q21 : Int32 → Int32 → Int32 → Int32 → AH → Option (Int32 × AH)) (x1 : Int32) (x2 : Int32) (x3 : Int32) (x4 : Int32) (h : AH) : Option (Int32 × AH) :=
  if x2 ≤ x4 then some (x3, h) else letV ((x4 + 1)) fun x9_ => fX10_upside_33 p0 Q21 FU x1 x2 x3 x4 x9_ h
def fX10_upside_21 (p0 : Int32) : Nat → Int32 → Int32 → Int32 → Int32 → AH → Option (Int32 × AH)
  | 0 => fun _ _ _ _ _ => none
  | n + 1 => fX10_upside_21_b p0 (fX10_upside_21 p0 n)
set_option maxRecDepth 10000 in
theorem sX10_upside_21_b {G : GG} {E : EE} {rv : Int32} {h' : AH} (K : OK G E 66 RX10 cX10_upside 7) (Z : RT G E (some .int) (some (.int rv)) h') (p0 : Int32) (Q21 : Int32 → Int32 → Int32 → Int32 → AH → Option (Int32 × AH)) (hQ21 : ∀ (x1 : Int32) (x2 : Int32) (x3 : Int32) (x4 : Int32) (h : AH), Q21 x1 x2 x3 x4 h = some (rv, h') → JJ G E 7 21 [(0, .ref 59), (1, .int x1), (2, .int x2), (3, .int x3), (4, .int x4)] [] h) (x1 : Int32) (x2 : Int32) (x3 : Int32) (x4 : Int32) (h : AH) (hf : fX10_upside_21_b p0 Q21 x1 x2 x3 x4 h = some (rv, h')) : JJ G E 7 21 [(0, .ref 59), (1, .int x1), (2, .int x2), (3, .int x3), (4, .int x4)] [] h := by
  unfold fX10_upside_21_b at hf
  refine r_iload K dX10_upside_21 4 rfl ?_
  refine r_iload_n K dX10_upside_23 2 rfl rfl ?_
  refine r_icmp_ge (tgt := 137) K dX10_upside_24 (by decide) (fun c8_ => ?_) (fun c8_ => ?_)
  · have hf := e_t hf c8_
    refine r_iload_n K dX10_upside_137 3 rfl rfl ?_
    exact r_iret K Z dX10_upside_138 hf
  · have hf := e_f hf c8_
    refine r_iload K dX10_upside_27 4 rfl ?_
    refine r_iconst (v := 1) K dX10_upside_29 rfl ?_
    refine r_iadd K dX10_upside_30 ?_
    obtain ⟨x9_, e10_, hf⟩ := e_l hf
    refine r_nmI e10_ ?_
    refine r_istore (lv' := [(5, .int x9_), (0, .ref 59), (1, .int x1), (2, .int x2), (3, .int x3), (4, .int x4)]) K dX10_upside_31 (Nat.le_of_ble_eq_true rfl) rfl ?_
    refine r_lv [1, 2, 3, 4, 5, 0] rfl ?_
    exact sX10_upside_33 K Z p0 Q21 hQ21 FU x1 x2 x3 x4 x9_ h hf
theorem sX10_upside_21 {G : GG} {E : EE} {rv : Int32} {h' : AH} (K : OK G E 66 RX10 cX10_upside 7) (Z : RT G E (some .int) (some (.int rv)) h') (p0 : Int32) : ∀ (n : Nat) (x1 : Int32) (x2 : Int32) (x3 : Int32) (x4 : Int32) (h : AH), fX10_upside_21 p0 n x1 x2 x3 x4 h = some (rv, h') → JJ G E 7 21 [(0, .ref 59), (1, .int x1), (2, .int x2), (3, .int x3), (4, .int x4)] [] h := by
  intro n
  induction n with
  | zero => intro x1 x2 x3 x4 h hf; cases hf
  | succ n ih => intro x1 x2 x3 x4 h hf; exact sX10_upside_21_b K Z p0 _ (fun x1 x2 x3 x4 h hf => ih x1 x2 x3 x4 h hf) x1 x2 x3 x4 h hf
def fX10_upside (p0 : Int32) (h : AH) : Option (Int32 × AH) :=
  bind2 (fX10_isIn p0 0 1 h) fun r1_ h2_ => if r1_ = 0 then some ((-1), h2_) else bind2 (fX10_lay  h2_) fun r5_ h6_ => fX10_upside_21 p0 FU p0 r5_ 0 0 h6_
set_option maxRecDepth 10000 in
theorem sX10_upside {G : GG} {E : EE} {rv : Int32} {h' : AH} (K : OK G E 66 RX10 cX10_upside 7) (Z : RT G E (some .int) (some (.int rv)) h') (p0 : Int32) (h : AH) (hf : fX10_upside p0 h = some (rv, h')) : JJ G E 7 0 [(0, .ref 59), (1, .int p0)] [] h := by
  unfold fX10_upside at hf
  refine r_iload_n K dX10_upside_0 1 rfl rfl ?_
  refine r_iconst (v := 0) K dX10_upside_1 rfl ?_
  refine r_iconst (v := 1) K dX10_upside_2 rfl ?_
  obtain ⟨r1_, h2_, g3_, hf⟩ := e_2 hf
  refine r_callS (av := [.int p0, .int 0, .int 1]) (st := []) K lkX10_106 mwX10_isIn (conX10_isIn p0 0 1 h r1_ h2_ g3_) dX10_upside_3 (Nat.le_of_ble_eq_true rfl) rfl rfl (Nat.le_of_ble_eq_true rfl) ?_
  refine r_if_ne (tgt := 11) K dX10_upside_6 (by decide) (fun c4_ => ?_) (fun c4_ => ?_)
  · have hf := e_f hf c4_
    refine r_aload_n K dX10_upside_11 0 rfl rfl ?_
    obtain ⟨r5_, h6_, g7_, hf⟩ := e_2 hf
    refine r_callV (av := []) (st := []) K lkX10_219 mwX10_lay (conX10_lay  h2_ r5_ h6_ g7_) dX10_upside_12 rfl (Nat.le_of_ble_eq_true rfl) rfl rfl (Nat.le_of_ble_eq_true rfl) ?_
    refine r_istore_n (lv' := [(2, .int r5_), (0, .ref 59), (1, .int p0)]) K dX10_upside_15 rfl (Nat.le_of_ble_eq_true rfl) rfl ?_
    refine r_iconst (v := 0) K dX10_upside_16 rfl ?_
    refine r_istore_n (lv' := [(3, .int 0), (2, .int r5_), (0, .ref 59), (1, .int p0)]) K dX10_upside_17 rfl (Nat.le_of_ble_eq_true rfl) rfl ?_
    refine r_iconst (v := 0) K dX10_upside_18 rfl ?_
    refine r_istore (lv' := [(4, .int 0), (3, .int 0), (2, .int r5_), (0, .ref 59), (1, .int p0)]) K dX10_upside_19 (Nat.le_of_ble_eq_true rfl) rfl ?_
    refine r_lv [3, 4, 2, 1, 0] rfl ?_
    exact sX10_upside_21 K Z p0 FU p0 r5_ 0 0 h6_ hf
  · have hf := e_t hf c4_
    refine r_iconst (v := (-1)) K dX10_upside_9 rfl ?_
    exact r_iret K Z dX10_upside_10 hf
theorem conX10_upside {G : GG} (p0 : Int32) (h : AH) (rv : Int32) (h' : AH) (hf : fX10_upside p0 h = some (rv, h')) : Con G 66 yX10_upside cX10_upside 7 (some .int) [.ref 59, .int p0] h (some (.int rv)) h' := con_of mwX10_upside (Nat.le_of_ble_eq_true rfl) (fun E K Z => sX10_upside K Z p0 h hf)
def fX10_waits_21_b (p0 : Int32) (Q21 : Int32 → Int32 → Int32 → AH → Option (Int32 × AH)) (x1 : Int32) (x2 : Int32) (x3 : Int32) (h : AH) : Option (Int32 × AH) :=
  if x3 < 0 then some (x2, h) else letV ((x2 + (x1 + x3))) fun x11_ => Q21 x1 x11_ (x3 + (-1)) h
def fX10_waits_21 (p0 : Int32) : Nat → Int32 → Int32 → Int32 → AH → Option (Int32 × AH)
  | 0 => fun _ _ _ _ => none
  | n + 1 => fX10_waits_21_b p0 (fX10_waits_21 p0 n)
set_option maxRecDepth 10000 in
theorem sX10_waits_21_b {G : GG} {E : EE} {rv : Int32} {h' : AH} (K : OK G E 3 RX10 cX10_waits 4) (Z : RT G E (some .int) (some (.int rv)) h') (p0 : Int32) (Q21 : Int32 → Int32 → Int32 → AH → Option (Int32 × AH)) (hQ21 : ∀ (x1 : Int32) (x2 : Int32) (x3 : Int32) (h : AH), Q21 x1 x2 x3 h = some (rv, h') → JJ G E 4 21 [(1, .int x1), (2, .int x2), (3, .int x3)] [] h) (x1 : Int32) (x2 : Int32) (x3 : Int32) (h : AH) (hf : fX10_waits_21_b p0 Q21 x1 x2 x3 h = some (rv, h')) : JJ G E 4 21 [(1, .int x1), (2, .int x2), (3, .int x3)] [] h := by
  unfold fX10_waits_21_b at hf
  refine r_iload_n K dX10_waits_21 2 rfl rfl ?_
  refine r_if_lt (tgt := 37) K dX10_waits_22 (by decide) (fun c10_ => ?_) (fun c10_ => ?_)
  · have hf := e_t hf c10_
    refine r_iload_n K dX10_waits_37 1 rfl rfl ?_
    exact r_iret K Z dX10_waits_38 hf
  · have hf := e_f hf c10_
    refine r_iload_n K dX10_waits_25 1 rfl rfl ?_
    refine r_iload_n K dX10_waits_26 0 rfl rfl ?_
    refine r_iload_n K dX10_waits_27 2 rfl rfl ?_
    refine r_iadd K dX10_waits_28 ?_
    refine r_iadd K dX10_waits_29 ?_
    obtain ⟨x11_, e12_, hf⟩ := e_l hf
    refine r_nmI e12_ ?_
    refine r_istore_n (lv' := [(2, .int x11_), (1, .int x1), (3, .int x3)]) K dX10_waits_30 rfl (Nat.le_of_ble_eq_true rfl) rfl ?_
    refine r_iinc (y := (-1)) (lv' := [(3, .int (x3 + (-1))), (2, .int x11_), (1, .int x1)]) K dX10_waits_31 2 rfl rfl (Nat.le_of_ble_eq_true rfl) rfl ?_
    refine r_goto (tgt := 21) K dX10_waits_34 (by decide) ?_
    refine r_lv [2, 1, 0] rfl ?_
    exact hQ21 x1 x11_ (x3 + (-1)) h hf
theorem sX10_waits_21 {G : GG} {E : EE} {rv : Int32} {h' : AH} (K : OK G E 3 RX10 cX10_waits 4) (Z : RT G E (some .int) (some (.int rv)) h') (p0 : Int32) : ∀ (n : Nat) (x1 : Int32) (x2 : Int32) (x3 : Int32) (h : AH), fX10_waits_21 p0 n x1 x2 x3 h = some (rv, h') → JJ G E 4 21 [(1, .int x1), (2, .int x2), (3, .int x3)] [] h := by
  intro n
  induction n with
  | zero => intro x1 x2 x3 h hf; cases hf
  | succ n ih => intro x1 x2 x3 h hf; exact sX10_waits_21_b K Z p0 _ (fun x1 x2 x3 h hf => ih x1 x2 x3 h hf) x1 x2 x3 h hf
def fX10_waits (p0 : Int32) (h : AH) : Option (Int32 × AH) :=
  bind2 (fX10_isIn p0 0 60 h) fun r1_ h2_ => if r1_ = 0 then some ((-1), h2_) else bind2 (fX10_left  h2_) fun r5_ h6_ => letV ((r5_ - 1)) fun x8_ => fX10_waits_21 p0 FU p0 0 x8_ h6_
set_option maxRecDepth 10000 in
theorem sX10_waits {G : GG} {E : EE} {rv : Int32} {h' : AH} (K : OK G E 3 RX10 cX10_waits 4) (Z : RT G E (some .int) (some (.int rv)) h') (p0 : Int32) (h : AH) (hf : fX10_waits p0 h = some (rv, h')) : JJ G E 4 0 [(0, .ref 59), (1, .int p0)] [] h := by
  unfold fX10_waits at hf
  refine r_iload_n K dX10_waits_0 1 rfl rfl ?_
  refine r_iconst (v := 0) K dX10_waits_1 rfl ?_
  refine r_bipush (v := 60) K dX10_waits_2 rfl ?_
  obtain ⟨r1_, h2_, g3_, hf⟩ := e_2 hf
  refine r_callS (av := [.int p0, .int 0, .int 60]) (st := []) K lkX10_106 mwX10_isIn (conX10_isIn p0 0 60 h r1_ h2_ g3_) dX10_waits_4 (Nat.le_of_ble_eq_true rfl) rfl rfl (Nat.le_of_ble_eq_true rfl) ?_
  refine r_if_ne (tgt := 12) K dX10_waits_7 (by decide) (fun c4_ => ?_) (fun c4_ => ?_)
  · have hf := e_f hf c4_
    refine r_iconst (v := 0) K dX10_waits_12 rfl ?_
    refine r_istore_n (lv' := [(2, .int 0), (0, .ref 59), (1, .int p0)]) K dX10_waits_13 rfl (Nat.le_of_ble_eq_true rfl) rfl ?_
    refine r_aload_n K dX10_waits_14 1 rfl rfl ?_
    obtain ⟨r5_, h6_, g7_, hf⟩ := e_2 hf
    refine r_callV (av := []) (st := []) K lkX10_203 mwX10_left (conX10_left  h2_ r5_ h6_ g7_) dX10_waits_15 rfl (Nat.le_of_ble_eq_true rfl) rfl rfl (Nat.le_of_ble_eq_true rfl) ?_
    refine r_iconst (v := 1) K dX10_waits_18 rfl ?_
    refine r_isub K dX10_waits_19 ?_
    obtain ⟨x8_, e9_, hf⟩ := e_l hf
    refine r_nmI e9_ ?_
    refine r_istore_n (lv' := [(3, .int x8_), (2, .int 0), (0, .ref 59), (1, .int p0)]) K dX10_waits_20 rfl (Nat.le_of_ble_eq_true rfl) rfl ?_
    refine r_lv [3, 1, 0] rfl ?_
    exact sX10_waits_21 K Z p0 FU p0 0 x8_ h6_ hf
  · have hf := e_t hf c4_
    refine r_iconst (v := (-1)) K dX10_waits_10 rfl ?_
    exact r_iret K Z dX10_waits_11 hf
theorem conX10_waits {G : GG} (p0 : Int32) (h : AH) (rv : Int32) (h' : AH) (hf : fX10_waits p0 h = some (rv, h')) : Con G 3 yX10_waits cX10_waits 4 (some .int) [.ref 59, .int p0] h (some (.int rv)) h' := con_of mwX10_waits (Nat.le_of_ble_eq_true rfl) (fun E K Z => sX10_waits K Z p0 h hf)
