/-! the law's loop -/
theorem sim_case {α : Type} {f g : AH → Option (α × AH)} {K : α → α → AH → Option (Int32 × AH)} {P : Int32 × AH → Prop} (S : Sim f g) {h : AH} (I : Inv h) (hK : ∀ r h2, Inv h2 → Ok (K r r h2) P) : Ok (bind2 (f h) fun r1 h1 => bind2 (g h1) fun r2 h2 => K r1 r2 h2) P := by
  obtain ⟨r, h1, h2, e1, e2, I2⟩ := S h I
  rw [e1, b2_some, e2, b2_some]
  exact hK r h2 I2
theorem inb_k {c k L : Nat} {K : Int32} (hK : K = nI k) (h : c + k < L) (hL : L ≤ 3072) : inb (nI c + K) L = true := by
  rw [hK, nI_add]
  exact inb_nI h (by omega)
theorem case_212 {xs : Nat → Int32} {L c : Nat} {Q : Int32 → AH → Option (Int32 × AH)} {h : AH} {P : Int32 × AH → Prop} (hL : L ≤ 3072) (hc : c + 6 ≤ L) (I : Inv h) (hQ : ∀ h2, Inv h2 → Ok (fL_law_1486 xs L Q (nI c) h2) P) : Ok (fL_law_212 xs L Q (nI c) h) P := by
  unfold fL_law_212
  exact ok_t (inb_k (k := 1) rfl (by omega) hL) (ok_t (inb_k (k := 2) rfl (by omega) hL) (sim_case (op_guest _ _) I (fun r h2 I2 => ok_t rfl (hQ h2 I2))))
theorem case_245 {xs : Nat → Int32} {L c : Nat} {Q : Int32 → AH → Option (Int32 × AH)} {h : AH} {P : Int32 × AH → Prop} (hL : L ≤ 3072) (hc : c + 6 ≤ L) (I : Inv h) (hQ : ∀ h2, Inv h2 → Ok (fL_law_1486 xs L Q (nI c) h2) P) : Ok (fL_law_245 xs L Q (nI c) h) P := by
  unfold fL_law_245
  exact ok_t (inb_k (k := 1) rfl (by omega) hL) (ok_t (inb_k (k := 2) rfl (by omega) hL) (ok_t (inb_k (k := 3) rfl (by omega) hL) (sim_case (op_guests _ _ _) I (fun r h2 I2 => ok_t rfl (hQ h2 I2)))))
theorem case_288 {xs : Nat → Int32} {L c : Nat} {Q : Int32 → AH → Option (Int32 × AH)} {h : AH} {P : Int32 × AH → Prop} (hL : L ≤ 3072) (hc : c + 6 ≤ L) (I : Inv h) (hQ : ∀ h2, Inv h2 → Ok (fL_law_1486 xs L Q (nI c) h2) P) : Ok (fL_law_288 xs L Q (nI c) h) P := by
  unfold fL_law_288
  exact ok_t (inb_k (k := 1) rfl (by omega) hL) (ok_t (inb_k (k := 2) rfl (by omega) hL) (ok_t (inb_k (k := 3) rfl (by omega) hL) (sim_case (op_slip _ _ _) I (fun r h2 I2 => ok_t rfl (hQ h2 I2)))))
theorem case_331 {xs : Nat → Int32} {L c : Nat} {Q : Int32 → AH → Option (Int32 × AH)} {h : AH} {P : Int32 × AH → Prop} (hL : L ≤ 3072) (hc : c + 6 ≤ L) (I : Inv h) (hQ : ∀ h2, Inv h2 → Ok (fL_law_1486 xs L Q (nI c) h2) P) : Ok (fL_law_331 xs L Q (nI c) h) P := by
  unfold fL_law_331
  exact ok_t (inb_k (k := 1) rfl (by omega) hL) (ok_t (inb_k (k := 2) rfl (by omega) hL) (ok_t (inb_k (k := 3) rfl (by omega) hL) (sim_case (op_mend _ _ _) I (fun r h2 I2 => ok_t rfl (hQ h2 I2)))))
theorem case_374 {xs : Nat → Int32} {L c : Nat} {Q : Int32 → AH → Option (Int32 × AH)} {h : AH} {P : Int32 × AH → Prop} (hL : L ≤ 3072) (hc : c + 6 ≤ L) (I : Inv h) (hQ : ∀ h2, Inv h2 → Ok (fL_law_1486 xs L Q (nI c) h2) P) : Ok (fL_law_374 xs L Q (nI c) h) P := by
  unfold fL_law_374
  exact ok_t (inb_k (k := 1) rfl (by omega) hL) (ok_t (inb_k (k := 2) rfl (by omega) hL) (sim_case (op_of _ _) I (fun r h2 I2 => ok_t rfl (hQ h2 I2))))
theorem case_407 {xs : Nat → Int32} {L c : Nat} {Q : Int32 → AH → Option (Int32 × AH)} {h : AH} {P : Int32 × AH → Prop} (hL : L ≤ 3072) (hc : c + 6 ≤ L) (I : Inv h) (hQ : ∀ h2, Inv h2 → Ok (fL_law_1486 xs L Q (nI c) h2) P) : Ok (fL_law_407 xs L Q (nI c) h) P := by
  unfold fL_law_407
  exact ok_t (inb_k (k := 1) rfl (by omega) hL) (sim_case (op_feed _) I (fun r h2 I2 => ok_t rfl (hQ h2 I2)))
theorem case_430 {xs : Nat → Int32} {L c : Nat} {Q : Int32 → AH → Option (Int32 × AH)} {h : AH} {P : Int32 × AH → Prop} (hL : L ≤ 3072) (hc : c + 6 ≤ L) (I : Inv h) (hQ : ∀ h2, Inv h2 → Ok (fL_law_1486 xs L Q (nI c) h2) P) : Ok (fL_law_430 xs L Q (nI c) h) P := by
  unfold fL_law_430
  exact sim_case (op_law) I (fun r h2 I2 => ok_t rfl (hQ h2 I2))
theorem case_443 {xs : Nat → Int32} {L c : Nat} {Q : Int32 → AH → Option (Int32 × AH)} {h : AH} {P : Int32 × AH → Prop} (hL : L ≤ 3072) (hc : c + 6 ≤ L) (I : Inv h) (hQ : ∀ h2, Inv h2 → Ok (fL_law_1486 xs L Q (nI c) h2) P) : Ok (fL_law_443 xs L Q (nI c) h) P := by
  unfold fL_law_443
  exact ok_t (inb_k (k := 1) rfl (by omega) hL) (ok_t (inb_k (k := 2) rfl (by omega) hL) (ok_t (inb_k (k := 3) rfl (by omega) hL) (sim_case (op_later _ _ _) I (fun r h2 I2 => ok_t rfl (hQ h2 I2)))))
theorem case_486 {xs : Nat → Int32} {L c : Nat} {Q : Int32 → AH → Option (Int32 × AH)} {h : AH} {P : Int32 × AH → Prop} (hL : L ≤ 3072) (hc : c + 6 ≤ L) (I : Inv h) (hQ : ∀ h2, Inv h2 → Ok (fL_law_1486 xs L Q (nI c) h2) P) : Ok (fL_law_486 xs L Q (nI c) h) P := by
  unfold fL_law_486
  exact ok_t (inb_k (k := 1) rfl (by omega) hL) (sim_case (op_first _) I (fun r h2 I2 => ok_t rfl (hQ h2 I2)))
theorem case_509 {xs : Nat → Int32} {L c : Nat} {Q : Int32 → AH → Option (Int32 × AH)} {h : AH} {P : Int32 × AH → Prop} (hL : L ≤ 3072) (hc : c + 6 ≤ L) (I : Inv h) (hQ : ∀ h2, Inv h2 → Ok (fL_law_1486 xs L Q (nI c) h2) P) : Ok (fL_law_509 xs L Q (nI c) h) P := by
  unfold fL_law_509
  exact ok_t (inb_k (k := 1) rfl (by omega) hL) (ok_t (inb_k (k := 2) rfl (by omega) hL) (sim_case (op_peak _ _) I (fun r h2 I2 => ok_t rfl (hQ h2 I2))))
theorem case_542 {xs : Nat → Int32} {L c : Nat} {Q : Int32 → AH → Option (Int32 × AH)} {h : AH} {P : Int32 × AH → Prop} (hL : L ≤ 3072) (hc : c + 6 ≤ L) (I : Inv h) (hQ : ∀ h2, Inv h2 → Ok (fL_law_1486 xs L Q (nI c) h2) P) : Ok (fL_law_542 xs L Q (nI c) h) P := by
  unfold fL_law_542
  exact ok_t (inb_k (k := 1) rfl (by omega) hL) (ok_t (inb_k (k := 2) rfl (by omega) hL) (sim_case (op_goesAs _ _) I (fun r h2 I2 => ok_t rfl (hQ h2 I2))))
theorem case_575 {xs : Nat → Int32} {L c : Nat} {Q : Int32 → AH → Option (Int32 × AH)} {h : AH} {P : Int32 × AH → Prop} (hL : L ≤ 3072) (hc : c + 6 ≤ L) (I : Inv h) (hQ : ∀ h2, Inv h2 → Ok (fL_law_1486 xs L Q (nI c) h2) P) : Ok (fL_law_575 xs L Q (nI c) h) P := by
  unfold fL_law_575
  exact ok_t (inb_k (k := 1) rfl (by omega) hL) (ok_t (inb_k (k := 2) rfl (by omega) hL) (sim_case (op_goesWhen _ _) I (fun r h2 I2 => ok_t rfl (hQ h2 I2))))
theorem case_608 {xs : Nat → Int32} {L c : Nat} {Q : Int32 → AH → Option (Int32 × AH)} {h : AH} {P : Int32 × AH → Prop} (hL : L ≤ 3072) (hc : c + 6 ≤ L) (I : Inv h) (hQ : ∀ h2, Inv h2 → Ok (fL_law_1486 xs L Q (nI c) h2) P) : Ok (fL_law_608 xs L Q (nI c) h) P := by
  unfold fL_law_608
  exact ok_t (inb_k (k := 1) rfl (by omega) hL) (sim_case (op_waits _) I (fun r h2 I2 => ok_t rfl (hQ h2 I2)))
theorem case_631 {xs : Nat → Int32} {L c : Nat} {Q : Int32 → AH → Option (Int32 × AH)} {h : AH} {P : Int32 × AH → Prop} (hL : L ≤ 3072) (hc : c + 6 ≤ L) (I : Inv h) (hQ : ∀ h2, Inv h2 → Ok (fL_law_1486 xs L Q (nI c) h2) P) : Ok (fL_law_631 xs L Q (nI c) h) P := by
  unfold fL_law_631
  exact ok_t (inb_k (k := 1) rfl (by omega) hL) (ok_t (inb_k (k := 2) rfl (by omega) hL) (sim_case (op_sorry _ _) I (fun r h2 I2 => ok_t rfl (hQ h2 I2))))
theorem case_664 {xs : Nat → Int32} {L c : Nat} {Q : Int32 → AH → Option (Int32 × AH)} {h : AH} {P : Int32 × AH → Prop} (hL : L ≤ 3072) (hc : c + 6 ≤ L) (I : Inv h) (hQ : ∀ h2, Inv h2 → Ok (fL_law_1486 xs L Q (nI c) h2) P) : Ok (fL_law_664 xs L Q (nI c) h) P := by
  unfold fL_law_664
  exact ok_t (inb_k (k := 1) rfl (by omega) hL) (ok_t (inb_k (k := 2) rfl (by omega) hL) (ok_t (inb_k (k := 3) rfl (by omega) hL) (sim_case (op_slipWhen _ _ _) I (fun r h2 I2 => ok_t rfl (hQ h2 I2)))))
theorem case_707 {xs : Nat → Int32} {L c : Nat} {Q : Int32 → AH → Option (Int32 × AH)} {h : AH} {P : Int32 × AH → Prop} (hL : L ≤ 3072) (hc : c + 6 ≤ L) (I : Inv h) (hQ : ∀ h2, Inv h2 → Ok (fL_law_1486 xs L Q (nI c) h2) P) : Ok (fL_law_707 xs L Q (nI c) h) P := by
  unfold fL_law_707
  exact ok_t (inb_k (k := 1) rfl (by omega) hL) (sim_case (op_held _) I (fun r h2 I2 => ok_t rfl (hQ h2 I2)))
theorem case_730 {xs : Nat → Int32} {L c : Nat} {Q : Int32 → AH → Option (Int32 × AH)} {h : AH} {P : Int32 × AH → Prop} (hL : L ≤ 3072) (hc : c + 6 ≤ L) (I : Inv h) (hQ : ∀ h2, Inv h2 → Ok (fL_law_1486 xs L Q (nI c) h2) P) : Ok (fL_law_730 xs L Q (nI c) h) P := by
  unfold fL_law_730
  exact ok_t (inb_k (k := 1) rfl (by omega) hL) (sim_case (op_pairs _) I (fun r h2 I2 => ok_t rfl (hQ h2 I2)))
theorem case_753 {xs : Nat → Int32} {L c : Nat} {Q : Int32 → AH → Option (Int32 × AH)} {h : AH} {P : Int32 × AH → Prop} (hL : L ≤ 3072) (hc : c + 6 ≤ L) (I : Inv h) (hQ : ∀ h2, Inv h2 → Ok (fL_law_1486 xs L Q (nI c) h2) P) : Ok (fL_law_753 xs L Q (nI c) h) P := by
  unfold fL_law_753
  exact ok_t (inb_k (k := 1) rfl (by omega) hL) (sim_case (op_judge _) I (fun r h2 I2 => ok_t rfl (hQ h2 I2)))
theorem case_776 {xs : Nat → Int32} {L c : Nat} {Q : Int32 → AH → Option (Int32 × AH)} {h : AH} {P : Int32 × AH → Prop} (hL : L ≤ 3072) (hc : c + 6 ≤ L) (I : Inv h) (hQ : ∀ h2, Inv h2 → Ok (fL_law_1486 xs L Q (nI c) h2) P) : Ok (fL_law_776 xs L Q (nI c) h) P := by
  unfold fL_law_776
  exact ok_t (inb_k (k := 1) rfl (by omega) hL) (ok_t (inb_k (k := 2) rfl (by omega) hL) (ok_t (inb_k (k := 3) rfl (by omega) hL) (sim_case (op_fits _ _ _) I (fun r h2 I2 => ok_t rfl (hQ h2 I2)))))
theorem case_819 {xs : Nat → Int32} {L c : Nat} {Q : Int32 → AH → Option (Int32 × AH)} {h : AH} {P : Int32 × AH → Prop} (hL : L ≤ 3072) (hc : c + 6 ≤ L) (I : Inv h) (hQ : ∀ h2, Inv h2 → Ok (fL_law_1486 xs L Q (nI c) h2) P) : Ok (fL_law_819 xs L Q (nI c) h) P := by
  unfold fL_law_819
  exact ok_t (inb_k (k := 1) rfl (by omega) hL) (sim_case (op_upside _) I (fun r h2 I2 => ok_t rfl (hQ h2 I2)))
theorem case_842 {xs : Nat → Int32} {L c : Nat} {Q : Int32 → AH → Option (Int32 × AH)} {h : AH} {P : Int32 × AH → Prop} (hL : L ≤ 3072) (hc : c + 6 ≤ L) (I : Inv h) (hQ : ∀ h2, Inv h2 → Ok (fL_law_1486 xs L Q (nI c) h2) P) : Ok (fL_law_842 xs L Q (nI c) h) P := by
  unfold fL_law_842
  exact ok_t (inb_k (k := 1) rfl (by omega) hL) (ok_t (inb_k (k := 2) rfl (by omega) hL) (ok_t (inb_k (k := 3) rfl (by omega) hL) (sim_case (op_byTurns _ _ _) I (fun r h2 I2 => ok_t rfl (hQ h2 I2)))))
theorem case_885 {xs : Nat → Int32} {L c : Nat} {Q : Int32 → AH → Option (Int32 × AH)} {h : AH} {P : Int32 × AH → Prop} (hL : L ≤ 3072) (hc : c + 6 ≤ L) (I : Inv h) (hQ : ∀ h2, Inv h2 → Ok (fL_law_1486 xs L Q (nI c) h2) P) : Ok (fL_law_885 xs L Q (nI c) h) P := by
  unfold fL_law_885
  exact ok_t (inb_k (k := 1) rfl (by omega) hL) (ok_t (inb_k (k := 2) rfl (by omega) hL) (ok_t (inb_k (k := 3) rfl (by omega) hL) (sim_case (op_drawn _ _ _) I (fun r h2 I2 => ok_t rfl (hQ h2 I2)))))
theorem case_928 {xs : Nat → Int32} {L c : Nat} {Q : Int32 → AH → Option (Int32 × AH)} {h : AH} {P : Int32 × AH → Prop} (hL : L ≤ 3072) (hc : c + 6 ≤ L) (I : Inv h) (hQ : ∀ h2, Inv h2 → Ok (fL_law_1486 xs L Q (nI c) h2) P) : Ok (fL_law_928 xs L Q (nI c) h) P := by
  unfold fL_law_928
  exact ok_t (inb_k (k := 1) rfl (by omega) hL) (ok_t (inb_k (k := 2) rfl (by omega) hL) (sim_case (op_slips _ _) I (fun r h2 I2 => ok_t rfl (hQ h2 I2))))
theorem case_961 {xs : Nat → Int32} {L c : Nat} {Q : Int32 → AH → Option (Int32 × AH)} {h : AH} {P : Int32 × AH → Prop} (hL : L ≤ 3072) (hc : c + 6 ≤ L) (I : Inv h) (hQ : ∀ h2, Inv h2 → Ok (fL_law_1486 xs L Q (nI c) h2) P) : Ok (fL_law_961 xs L Q (nI c) h) P := by
  unfold fL_law_961
  exact sim_case (op_minute) I (fun r h2 I2 => ok_t rfl (hQ h2 I2))
theorem case_974 {xs : Nat → Int32} {L c : Nat} {Q : Int32 → AH → Option (Int32 × AH)} {h : AH} {P : Int32 × AH → Prop} (hL : L ≤ 3072) (hc : c + 6 ≤ L) (I : Inv h) (hQ : ∀ h2, Inv h2 → Ok (fL_law_1486 xs L Q (nI c) h2) P) : Ok (fL_law_974 xs L Q (nI c) h) P := by
  unfold fL_law_974
  exact sim_case (op_goes) I (fun r h2 I2 => ok_t rfl (hQ h2 I2))
theorem case_987 {xs : Nat → Int32} {L c : Nat} {Q : Int32 → AH → Option (Int32 × AH)} {h : AH} {P : Int32 × AH → Prop} (hL : L ≤ 3072) (hc : c + 6 ≤ L) (I : Inv h) (hQ : ∀ h2, Inv h2 → Ok (fL_law_1486 xs L Q (nI c) h2) P) : Ok (fL_law_987 xs L Q (nI c) h) P := by
  unfold fL_law_987
  exact ok_t (inb_k (k := 1) rfl (by omega) hL) (ok_t (inb_k (k := 2) rfl (by omega) hL) (sim_case (op_looks _ _) I (fun r h2 I2 => ok_t rfl (hQ h2 I2))))
theorem case_1020 {xs : Nat → Int32} {L c : Nat} {Q : Int32 → AH → Option (Int32 × AH)} {h : AH} {P : Int32 × AH → Prop} (hL : L ≤ 3072) (hc : c + 6 ≤ L) (I : Inv h) (hQ : ∀ h2, Inv h2 → Ok (fL_law_1486 xs L Q (nI c) h2) P) : Ok (fL_law_1020 xs L Q (nI c) h) P := by
  unfold fL_law_1020
  exact ok_t (inb_k (k := 1) rfl (by omega) hL) (sim_case (op_led _) I (fun r h2 I2 => ok_t rfl (hQ h2 I2)))
theorem case_1043 {xs : Nat → Int32} {L c : Nat} {Q : Int32 → AH → Option (Int32 × AH)} {h : AH} {P : Int32 × AH → Prop} (hL : L ≤ 3072) (hc : c + 6 ≤ L) (I : Inv h) (hQ : ∀ h2, Inv h2 → Ok (fL_law_1486 xs L Q (nI c) h2) P) : Ok (fL_law_1043 xs L Q (nI c) h) P := by
  unfold fL_law_1043
  exact sim_case (op_image) I (fun r h2 I2 => ok_t rfl (hQ h2 I2))
theorem case_1056 {xs : Nat → Int32} {L c : Nat} {Q : Int32 → AH → Option (Int32 × AH)} {h : AH} {P : Int32 × AH → Prop} (hL : L ≤ 3072) (hc : c + 6 ≤ L) (I : Inv h) (hQ : ∀ h2, Inv h2 → Ok (fL_law_1486 xs L Q (nI c) h2) P) : Ok (fL_law_1056 xs L Q (nI c) h) P := by
  unfold fL_law_1056
  exact sim_case (op_back) I (fun r h2 I2 => ok_t rfl (hQ h2 I2))
theorem case_1069 {xs : Nat → Int32} {L c : Nat} {Q : Int32 → AH → Option (Int32 × AH)} {h : AH} {P : Int32 × AH → Prop} (hL : L ≤ 3072) (hc : c + 6 ≤ L) (I : Inv h) (hQ : ∀ h2, Inv h2 → Ok (fL_law_1486 xs L Q (nI c) h2) P) : Ok (fL_law_1069 xs L Q (nI c) h) P := by
  unfold fL_law_1069
  exact sim_case (op_undo) I (fun r h2 I2 => ok_t rfl (hQ h2 I2))
theorem case_1082 {xs : Nat → Int32} {L c : Nat} {Q : Int32 → AH → Option (Int32 × AH)} {h : AH} {P : Int32 × AH → Prop} (hL : L ≤ 3072) (hc : c + 6 ≤ L) (I : Inv h) (hQ : ∀ h2, Inv h2 → Ok (fL_law_1486 xs L Q (nI c) h2) P) : Ok (fL_law_1082 xs L Q (nI c) h) P := by
  unfold fL_law_1082
  exact sim_case (op_redo) I (fun r h2 I2 => ok_t rfl (hQ h2 I2))
theorem case_1095 {xs : Nat → Int32} {L c : Nat} {Q : Int32 → AH → Option (Int32 × AH)} {h : AH} {P : Int32 × AH → Prop} (hL : L ≤ 3072) (hc : c + 6 ≤ L) (I : Inv h) (hQ : ∀ h2, Inv h2 → Ok (fL_law_1486 xs L Q (nI c) h2) P) : Ok (fL_law_1095 xs L Q (nI c) h) P := by
  unfold fL_law_1095
  exact ok_t (inb_k (k := 1) rfl (by omega) hL) (sim_case (op_body _) I (fun r h2 I2 => ok_t rfl (hQ h2 I2)))
theorem case_1118 {xs : Nat → Int32} {L c : Nat} {Q : Int32 → AH → Option (Int32 × AH)} {h : AH} {P : Int32 × AH → Prop} (hL : L ≤ 3072) (hc : c + 6 ≤ L) (I : Inv h) (hQ : ∀ h2, Inv h2 → Ok (fL_law_1486 xs L Q (nI c) h2) P) : Ok (fL_law_1118 xs L Q (nI c) h) P := by
  unfold fL_law_1118
  exact ok_t (inb_k (k := 1) rfl (by omega) hL) (ok_t (inb_k (k := 2) rfl (by omega) hL) (ok_t (inb_k (k := 3) rfl (by omega) hL) (sim_case (op_act _ _ _) I (fun r h2 I2 => ok_t rfl (hQ h2 I2)))))
theorem case_1161 {xs : Nat → Int32} {L c : Nat} {Q : Int32 → AH → Option (Int32 × AH)} {h : AH} {P : Int32 × AH → Prop} (hL : L ≤ 3072) (hc : c + 6 ≤ L) (I : Inv h) (hQ : ∀ h2, Inv h2 → Ok (fL_law_1486 xs L Q (nI c) h2) P) : Ok (fL_law_1161 xs L Q (nI c) h) P := by
  unfold fL_law_1161
  exact ok_t (inb_k (k := 1) rfl (by omega) hL) (sim_case (op_trace _) I (fun r h2 I2 => ok_t rfl (hQ h2 I2)))
theorem case_1184 {xs : Nat → Int32} {L c : Nat} {Q : Int32 → AH → Option (Int32 × AH)} {h : AH} {P : Int32 × AH → Prop} (hL : L ≤ 3072) (hc : c + 6 ≤ L) (I : Inv h) (hQ : ∀ h2, Inv h2 → Ok (fL_law_1486 xs L Q (nI c) h2) P) : Ok (fL_law_1184 xs L Q (nI c) h) P := by
  unfold fL_law_1184
  exact ok_t (inb_k (k := 1) rfl (by omega) hL) (ok_t (inb_k (k := 2) rfl (by omega) hL) (sim_case (op_keep _ _) I (fun r h2 I2 => ok_t rfl (hQ h2 I2))))
theorem case_1217 {xs : Nat → Int32} {L c : Nat} {Q : Int32 → AH → Option (Int32 × AH)} {h : AH} {P : Int32 × AH → Prop} (hL : L ≤ 3072) (hc : c + 6 ≤ L) (I : Inv h) (hQ : ∀ h2, Inv h2 → Ok (fL_law_1486 xs L Q (nI c) h2) P) : Ok (fL_law_1217 xs L Q (nI c) h) P := by
  unfold fL_law_1217
  exact ok_t (inb_k (k := 1) rfl (by omega) hL) (ok_t (inb_k (k := 2) rfl (by omega) hL) (ok_t (inb_k (k := 3) rfl (by omega) hL) (sim_case (op_row _ _ _) I (fun r h2 I2 => ok_t rfl (hQ h2 I2)))))
theorem case_1260 {xs : Nat → Int32} {L c : Nat} {Q : Int32 → AH → Option (Int32 × AH)} {h : AH} {P : Int32 × AH → Prop} (hL : L ≤ 3072) (hc : c + 6 ≤ L) (I : Inv h) (hQ : ∀ h2, Inv h2 → Ok (fL_law_1486 xs L Q (nI c) h2) P) : Ok (fL_law_1260 xs L Q (nI c) h) P := by
  unfold fL_law_1260
  exact ok_t (inb_k (k := 1) rfl (by omega) hL) (ok_t (inb_k (k := 2) rfl (by omega) hL) (ok_t (inb_k (k := 3) rfl (by omega) hL) (ok_t (inb_k (k := 4) rfl (by omega) hL) (sim_case (op_put _ _ _) I (fun r h2 I2 => ok_t rfl (hQ h2 I2))))))
theorem case_1333 {xs : Nat → Int32} {L c : Nat} {Q : Int32 → AH → Option (Int32 × AH)} {h : AH} {P : Int32 × AH → Prop} (hL : L ≤ 3072) (hc : c + 6 ≤ L) (I : Inv h) (hQ : ∀ h2, Inv h2 → Ok (fL_law_1486 xs L Q (nI c) h2) P) : Ok (fL_law_1333 xs L Q (nI c) h) P := by
  unfold fL_law_1333
  exact ok_t (inb_k (k := 1) rfl (by omega) hL) (ok_t (inb_k (k := 2) rfl (by omega) hL) (sim_case (op_element _ _) I (fun r h2 I2 => ok_t ((lgc r r).2 rfl) (hQ h2 I2))))
theorem case_1367 {xs : Nat → Int32} {L c : Nat} {Q : Int32 → AH → Option (Int32 × AH)} {h : AH} {P : Int32 × AH → Prop} (hL : L ≤ 3072) (hc : c + 6 ≤ L) (I : Inv h) (hQ : ∀ h2, Inv h2 → Ok (fL_law_1486 xs L Q (nI c) h2) P) : Ok (fL_law_1367 xs L Q (nI c) h) P := by
  unfold fL_law_1367
  exact ok_t (inb_k (k := 1) rfl (by omega) hL) (ok_t (inb_k (k := 2) rfl (by omega) hL) (ok_t (inb_k (k := 3) rfl (by omega) hL) (ok_t (inb_k (k := 4) rfl (by omega) hL) (ok_t (inb_k (k := 5) rfl (by omega) hL) (sim_case (op_shift _ _ _ _ _) I (fun r h2 I2 => ok_t rfl (hQ h2 I2)))))))
theorem case_1430 {xs : Nat → Int32} {L c : Nat} {Q : Int32 → AH → Option (Int32 × AH)} {h : AH} {P : Int32 × AH → Prop} (hL : L ≤ 3072) (hc : c + 6 ≤ L) (I : Inv h) (hQ : ∀ h2, Inv h2 → Ok (fL_law_1486 xs L Q (nI c) h2) P) : Ok (fL_law_1430 xs L Q (nI c) h) P := by
  unfold fL_law_1430
  exact ok_t (inb_k (k := 1) rfl (by omega) hL) (ok_t (inb_k (k := 2) rfl (by omega) hL) (sim_case (op_taken _ _) I (fun r h2 I2 => ok_t rfl (hQ h2 I2))))
theorem case_1463 {xs : Nat → Int32} {L c : Nat} {Q : Int32 → AH → Option (Int32 × AH)} {h : AH} {P : Int32 × AH → Prop} (hL : L ≤ 3072) (hc : c + 6 ≤ L) (I : Inv h) (hQ : ∀ h2, Inv h2 → Ok (fL_law_1486 xs L Q (nI c) h2) P) : Ok (fL_law_1463 xs L Q (nI c) h) P := by
  unfold fL_law_1463
  exact ok_t (inb_k (k := 1) rfl (by omega) hL) (sim_case (op_count _) I (fun r h2 I2 => ok_t rfl (hQ h2 I2)))
theorem pure_law (L : Nat) (xs : Nat → Int32) (hL : L ≤ 3072) : ∃ h', fL_law_18 xs L FU 0 h0 = some (1, h') := by
  have key : Ok (fL_law_18 xs L FU 0 h0) (fun q => q.1 = 1) := by
    refine L1 (f := fL_law_18 xs L) (b := fL_law_18_b xs L) (fun _ => rfl) (fun r x h => ∃ c, c + r = L + 6 ∧ x = nI c ∧ Inv h) ?_ (L + 6) FU 0 h0 (by unfold FU; omega) ⟨0, by omega, rfl, inv0⟩
    rintro r x h ⟨c, hr, rfl, I⟩ Q hQ
    unfold fL_law_18_b
    refine ok_if (fun d1 => ok_some rfl) (fun d1 => ?_)
    have hc : c + 6 ≤ L := by
      rw [show Int32.ofNat L = nI L from rfl, show (6 : Int32) = nI 6 from rfl, i_lt, pk_sub_toInt (by omega) (by omega), nI_toInt (by omega)] at d1
      omega
    have hQ1 : ∀ h2, Inv h2 → Ok (fL_law_1486 xs L Q (nI c) h2) (fun q => q.1 = 1) := fun h2 I2 => by
      unfold fL_law_1486
      rw [show (6 : Int32) = nI 6 from rfl, nI_add]
      exact hQ (r - 6) _ _ (by omega) ⟨c + 6, by omega, rfl, I2⟩
    refine ok_t (inb_nI (by omega) (by omega)) (ok_let ?_)
    exact ok_if (fun _ => case_212 hL hc I hQ1) (fun _ => ok_if (fun _ => case_245 hL hc I hQ1) (fun _ => ok_if (fun _ => case_288 hL hc I hQ1) (fun _ => ok_if (fun _ => case_331 hL hc I hQ1) (fun _ => ok_if (fun _ => case_374 hL hc I hQ1) (fun _ => ok_if (fun _ => case_407 hL hc I hQ1) (fun _ => ok_if (fun _ => case_430 hL hc I hQ1) (fun _ => ok_if (fun _ => case_443 hL hc I hQ1) (fun _ => ok_if (fun _ => case_486 hL hc I hQ1) (fun _ => ok_if (fun _ => case_509 hL hc I hQ1) (fun _ => ok_if (fun _ => case_542 hL hc I hQ1) (fun _ => ok_if (fun _ => case_575 hL hc I hQ1) (fun _ => ok_if (fun _ => case_608 hL hc I hQ1) (fun _ => ok_if (fun _ => case_631 hL hc I hQ1) (fun _ => ok_if (fun _ => case_664 hL hc I hQ1) (fun _ => ok_if (fun _ => case_707 hL hc I hQ1) (fun _ => ok_if (fun _ => case_730 hL hc I hQ1) (fun _ => ok_if (fun _ => case_753 hL hc I hQ1) (fun _ => ok_if (fun _ => case_776 hL hc I hQ1) (fun _ => ok_if (fun _ => case_819 hL hc I hQ1) (fun _ => ok_if (fun _ => case_842 hL hc I hQ1) (fun _ => ok_if (fun _ => case_885 hL hc I hQ1) (fun _ => ok_if (fun _ => case_928 hL hc I hQ1) (fun _ => ok_if (fun _ => case_961 hL hc I hQ1) (fun _ => ok_if (fun _ => case_974 hL hc I hQ1) (fun _ => ok_if (fun _ => case_987 hL hc I hQ1) (fun _ => ok_if (fun _ => case_1020 hL hc I hQ1) (fun _ => ok_if (fun _ => case_1043 hL hc I hQ1) (fun _ => ok_if (fun _ => case_1056 hL hc I hQ1) (fun _ => ok_if (fun _ => case_1069 hL hc I hQ1) (fun _ => ok_if (fun _ => case_1082 hL hc I hQ1) (fun _ => ok_if (fun _ => case_1095 hL hc I hQ1) (fun _ => ok_if (fun _ => case_1118 hL hc I hQ1) (fun _ => ok_if (fun _ => case_1161 hL hc I hQ1) (fun _ => ok_if (fun _ => case_1184 hL hc I hQ1) (fun _ => ok_if (fun _ => case_1217 hL hc I hQ1) (fun _ => ok_if (fun _ => case_1260 hL hc I hQ1) (fun _ => ok_if (fun _ => case_1333 hL hc I hQ1) (fun _ => ok_if (fun _ => case_1367 hL hc I hQ1) (fun _ => ok_if (fun _ => case_1430 hL hc I hQ1) (fun _ => ok_if (fun _ => case_1463 hL hc I hQ1) (fun _ => hQ1 h I)))))))))))))))))))))))))))))))))))))))))
  obtain ⟨⟨v, h'⟩, e, ev⟩ := key
  have ev : v = 1 := ev
  rw [ev] at e
  exact ⟨h', e⟩
