theorem L5 {α : Type} {f : Nat → Int32 → Int32 → Int32 → Int32 → Int32 → AH → Option α} {b : (Int32 → Int32 → Int32 → Int32 → Int32 → AH → Option α) → Int32 → Int32 → Int32 → Int32 → Int32 → AH → Option α} {P : α → Prop} (hf : ∀ F, f (F + 1) = b (f F)) (I : Nat → Int32 → Int32 → Int32 → Int32 → Int32 → AH → Prop)
    (hs : ∀ r x y z w v h, I r x y z w v h → ∀ Q : Int32 → Int32 → Int32 → Int32 → Int32 → AH → Option α, (∀ r' x' y' z' w' v' h', r' < r → I r' x' y' z' w' v' h' → Ok (Q x' y' z' w' v' h') P) → Ok (b Q x y z w v h) P) : ∀ r F x y z w v h, r < F → I r x y z w v h → Ok (f F x y z w v h) P := by
  intro r
  induction r using Nat.strongRecOn with
  | _ r ih =>
    intro F x y z w v h hF hI
    obtain ⟨F, rfl⟩ : ∃ F', F = F' + 1 := ⟨F - 1, by omega⟩
    rw [hf F]
    exact hs r x y z w v h hI (f F) (fun r' x' y' z' w' v' h' hr hi => ih r' hr F x' y' z' w' v' h' (by omega) hi)
/-! waits -/
def wsum (p : Int32) : Nat → Int32
  | 0 => 0
  | c + 1 => wsum p c + (p + nI c)
theorem op_waits (p : Int32) : Sim (fX9_waits p) (fX10_waits p) := by
  have e0 : (0 : Int32).toInt = 0 := by decide
  have e6 : (60 : Int32).toInt = 60 := by decide
  refine sim_think (fun n m num sl mn Λ => if 0 ≤ p.toInt ∧ p.toInt ≤ 60 then wsum p (lftN num n) else -1) (fun n m B num sl mn Λ h T O => ?_) (fun n m B num sl mn Λ h T O => ?_)
  · unfold fX9_waits
    rw [c_isThought, b2_some]
    by_cases c : 0 ≤ p.toInt ∧ p.toInt ≤ 60
    · rw [if_pos c, if_pos c]
      refine ok_f (by decide) ?_
      have hn9 := T.n9
      have hl := lftN_le num n
      rw [c_left (Or.inl rfl) hn9 T.gone T.c, b2_some]
      refine L4 (f := fX9_waits_22 p) (b := fX9_waits_22_b p) (fun _ => rfl) (fun r x y z w h' => ∃ c, c + r = lftN num n ∧ x = p ∧ y = wsum p c ∧ z = nI (lftN num n) ∧ w = nI c ∧ h' = h) ?_ (lftN num n) FU p 0 _ 0 h (by unfold FU; omega) ⟨0, by omega, rfl, rfl, rfl, rfl, rfl⟩
      rintro r x y z w h' ⟨j, hc, rfl, rfl, rfl, rfl, rfl⟩ Q hQ
      unfold fX9_waits_22_b
      refine ok_if (fun c1 => ?_) (fun c1 => ?_)
      · rw [nI_leI (by omega) (by omega)] at c1
        have e9 : j = lftN num n := by omega
        rw [e9]
        exact ok_some ⟨rfl, Fr.rf⟩
      · rw [nI_leI (by omega) (by omega)] at c1
        rw [nI_1]
        exact ok_let (hQ (r - 1) _ _ _ _ _ (by omega) ⟨j + 1, by omega, rfl, rfl, rfl, rfl, rfl⟩)
    · rw [if_neg c, if_neg c]
      exact ok_t rfl (ok_some ⟨rfl, Fr.rf⟩)
  · unfold fX10_waits
    rw [m_isIn, b2_some, e0, e6]
    by_cases c : 0 ≤ p.toInt ∧ p.toInt ≤ 60
    · rw [if_pos c, if_pos c]
      refine ok_f (by decide) ?_
      have hn9 := T.n9
      have hl := lftN_le num n
      rw [m_left hn9 T.m, b2_some]
      refine ok_let ?_
      refine L3 (f := fX10_waits_21 p) (b := fX10_waits_21_b p) (fun _ => rfl) (fun r x y z h' => r ≤ lftN num n ∧ x = p ∧ y + wsum p r = wsum p (lftN num n) ∧ z = nI r - 1 ∧ h' = h) ?_ (lftN num n) FU p 0 _ h (by unfold FU; omega) ⟨Nat.le_refl _, rfl, by simp, rfl, rfl⟩
      rintro r x y z h' ⟨hr, rfl, hy, rfl, rfl⟩ Q hQ
      unfold fX10_waits_21_b
      cases r with
      | zero =>
        refine ok_t (by decide) (ok_some ⟨?_, Fr.rf⟩)
        rw [← hy]
        show y = y + 0
        simp
      | succ r =>
        rw [nI_pred]
        refine ok_f (nI_pos (by omega)) (ok_let (hQ r _ _ _ _ (by omega) ⟨by omega, rfl, ?_, ?_, rfl⟩))
        · rw [← hy]
          show y + (x + nI r) + wsum x r = y + (wsum x r + (x + nI r))
          rw [Int32.add_assoc, Int32.add_comm (wsum x r)]
        · rw [Int32.sub_eq_add_neg]
    · rw [if_neg c, if_neg c]
      exact ok_t rfl (ok_some ⟨rfl, Fr.rf⟩)
/-! later -/
def befC (f : Nat → Int32) (g c : Nat) : Bool := decide ((f g).toInt < (f c).toInt ∨ ((f c).toInt = (f g).toInt ∧ c < g))
theorem befC_iff {f : Nat → Int32} {g c : Nat} : befC f g c = true ↔ bef f c g := by
  unfold befC bef
  rw [decide_eq_true_eq]
def cntB (f : Nat → Int32) (num : Nat → Nat → Int32) (g : Nat) : Nat → Nat
  | 0 => 0
  | c + 1 => cntB f num g c + (if num c 5 = 0 ∧ befC f g c = true then 1 else 0)
theorem cntB_le (f : Nat → Int32) (num : Nat → Nat → Int32) (g : Nat) : ∀ c, cntB f num g c ≤ c
  | 0 => Nat.le_refl 0
  | c + 1 => by
    have := cntB_le f num g c
    show cntB f num g c + _ ≤ _
    split <;> omega
theorem cntP_ins (f : Nat → Int32) (c : Nat) (p : Nat → Bool) : ∀ L : List Nat, (insL f c L).countP p = L.countP p + (if p c = true then 1 else 0)
  | [] => by
    unfold insL
    by_cases h : p c = true
    · simp [h]
    · simp [h]
  | x :: xs => by
    unfold insL
    split
    · by_cases h : p c = true
      · rw [List.countP_cons_of_pos h, if_pos h]
      · rw [List.countP_cons_of_neg h, if_neg h]; rfl
    · rw [List.countP_cons, cntP_ins f c p xs, List.countP_cons]
      omega
theorem cnt_ord (f : Nat → Int32) (num : Nat → Nat → Int32) (g : Nat) : ∀ c, (ordL f num c).countP (befC f g) = cntB f num g c
  | 0 => rfl
  | c + 1 => by
    show (if num c 5 = 0 then insL f c (ordL f num c) else ordL f num c).countP _ = cntB f num g c + (if num c 5 = 0 ∧ befC f g c = true then 1 else 0)
    by_cases h : num c 5 = 0
    · rw [if_pos h, cntP_ins, cnt_ord f num g c]
      by_cases h2 : befC f g c = true
      · rw [if_pos h2, if_pos ⟨h, h2⟩]
      · rw [if_neg h2, if_neg (fun q => h2 q.2)]
    · rw [if_neg h, cnt_ord f num g c, if_neg (fun q => h q.1)]; rfl
theorem cnt_idx {f : Nat → Int32} {g : Nat} : ∀ {L : List Nat} {k : Nat}, L.Pairwise (bef f) → k < L.length → L.getD k 0 = g → L.countP (befC f g) = k
  | [], k, _, hk, _ => by simp at hk
  | x :: xs, 0, hp, _, e => by
    have e : x = g := e
    subst e
    have hp' := List.pairwise_cons.mp hp
    rw [List.countP_cons_of_neg, List.countP_eq_zero]
    · intro y hy q
      exact bef_asym (befC_iff.mp q) (hp'.1 y hy)
    · intro q
      have := befC_iff.mp q
      unfold bef at this
      omega
  | x :: xs, k + 1, hp, hk, e => by
    have hp' := List.pairwise_cons.mp hp
    have hk' : k < xs.length := by simpa using hk
    have e' : xs.getD k 0 = g := e
    rw [List.countP_cons_of_pos, cnt_idx hp'.2 hk' e']
    rw [befC_iff, ← e']
    exact hp'.1 _ (getD_mem hk')
theorem c_placeIn {n m g : Nat} {sl : Nat → Nat → Int32} {mn : Int32} {num : Nat → Nat → Int32} {h : AH} {Λ : LawF} (hn9 : n ≤ 9) (hg : goneOK n num) (hgn : g < n) (C : CRep 19 h n m num sl mn) (hL : CL h Λ) : Ok (fX3_placeInOrder 19 (nI g) h) (fun q => q.1 = (if num g 5 = 0 then nI (cntB (rd Λ n num mn) num g n) else -2) ∧ Fr Sr h q.2) := by
  have ht : isT 19 := Or.inr rfl
  unfold fX3_placeInOrder
  rw [c_isLeft ht hn9 C hgn, b2_some]
  by_cases c : num g 5 = 0
  · rw [if_pos c, if_pos c]
    refine ok_f (by decide) ?_
    refine ok_b2 (hL 19 n m num sl mn h ht hn9 hg C rfl rfl g hgn) (fun v h1 hv => ?_)
    obtain ⟨ev, F1⟩ := hv
    have ev : v = rd Λ n num mn g := ev
    rw [ev]
    refine L4 (f := fX3_placeInOrder_24 19 (nI g)) (b := fX3_placeInOrder_24_b 19 (nI g)) (fun _ => rfl) (fun r x y z w h' => ∃ c, c + r = n ∧ x = nI g ∧ y = rd Λ n num mn g ∧ z = nI (cntB (rd Λ n num mn) num g c) ∧ w = nI c ∧ Fr Sr h h') ?_ n FU _ _ 0 0 h1 (by unfold FU; omega) ⟨0, by omega, rfl, rfl, rfl, rfl, F1⟩
    rintro r x y z w h' ⟨c, hc, rfl, rfl, rfl, rfl, hF⟩ Q hQ
    have C' : CRep 19 h' n m num sl mn := C.fr hF (fun o k h1 h2 q => by unfold Sr at q; omega)
    unfold fX3_placeInOrder_24_b
    have hcb := cntB_le (rd Λ n num mn) num g c
    have es : cntB (rd Λ n num mn) num g (c + 1) = cntB (rd Λ n num mn) num g c + (if num c 5 = 0 ∧ befC (rd Λ n num mn) g c = true then 1 else 0) := rfl
    rw [C'.1]
    refine ok_if (fun c1 => ?_) (fun c1 => ?_)
    · rw [nI_leI (by omega) (by omega)] at c1
      have : c = n := by omega
      subst this
      exact ok_some ⟨rfl, hF⟩
    · rw [nI_leI (by omega) (by omega)] at c1
      refine ok_t (inb_nI (by omega) (by decide)) ?_
      rw [ix_nI (show c < 2 ^ 31 by omega), (rfT ht).2.2.2.2.2.1, (C'.2.2.2.1 c (by omega)).2.2.2.2, nI_1, nI_1]
      have skip : ∀ h2, Fr Sr h h2 → ¬ (num c 5 = 0 ∧ befC (rd Λ n num mn) g c = true) → Ok (Q (nI g) (rd Λ n num mn g) (nI (cntB (rd Λ n num mn) num g c)) (nI (c + 1)) h2) (fun q => q.1 = nI (cntB (rd Λ n num mn) num g n) ∧ Fr Sr h q.2) := fun h2 F2 q => hQ (r - 1) _ _ _ _ _ (by omega) ⟨c + 1, by omega, rfl, rfl, by rw [es, if_neg q]; rfl, rfl, F2⟩
      have take : ∀ h2, Fr Sr h h2 → (num c 5 = 0 ∧ befC (rd Λ n num mn) g c = true) → Ok (Q (nI g) (rd Λ n num mn g) (nI (cntB (rd Λ n num mn) num g c + 1)) (nI (c + 1)) h2) (fun q => q.1 = nI (cntB (rd Λ n num mn) num g n) ∧ Fr Sr h q.2) := fun h2 F2 q => hQ (r - 1) _ _ _ _ _ (by omega) ⟨c + 1, by omega, rfl, rfl, by rw [es, if_pos q], rfl, F2⟩
      refine ok_if (fun c2 => ?_) (fun c2 => ?_)
      · refine ok_if (fun c3 => ?_) (fun c3 => ?_)
        · have e := nI_inj (by omega) (by omega) c3
          refine skip h' hF (fun q => ?_)
          have := befC_iff.mp q.2
          subst e
          unfold bef at this
          omega
        · have hne : c ≠ g := fun e => c3 (by rw [e])
          refine ok_b2 (hL 19 n m num sl mn h' ht hn9 hg C' (hF.1 15 1 (by unfold Sr; omega)) (by funext k; exact hF.1 16 k (by unfold Sr; omega)) c (by omega)) (fun v h2 hv => ?_)
          obtain ⟨ev, F2⟩ := hv
          have ev : v = rd Λ n num mn c := ev
          have F2 : Fr Sr h h2 := hF.tr F2
          rw [ev]
          refine ok_if (fun c4 => ?_) (fun c4 => ?_)
          · rw [i_lt] at c4
            exact take h2 F2 ⟨c2, befC_iff.mpr (Or.inl c4)⟩
          · rw [i_lt] at c4
            refine ok_if (fun c5 => ?_) (fun c5 => ?_)
            · rw [i_eq] at c5
              refine ok_if (fun c6 => ?_) (fun c6 => ?_)
              · rw [nI_leI (by omega) (by omega)] at c6
                refine skip h2 F2 (fun q => ?_)
                have := befC_iff.mp q.2
                unfold bef at this
                omega
              · rw [nI_leI (by omega) (by omega)] at c6
                exact take h2 F2 ⟨c2, befC_iff.mpr (Or.inr ⟨c5, by omega⟩)⟩
            · rw [i_eq] at c5
              refine skip h2 F2 (fun q => ?_)
              have := befC_iff.mp q.2
              unfold bef at this
              omega
      · exact skip h' hF (fun q => c2 q.1)
  · rw [if_neg c, if_neg c]
    exact ok_t rfl (ok_some ⟨rfl, Fr.rf⟩)
theorem m_placeOf {n m g : Nat} {sl : Nat → Nat → Int32} {mn : Int32} {num : Nat → Nat → Int32} {h : AH} {Λ : LawF} (hn9 : n ≤ 9) (hgn : g < n) (M : MRep h n m num sl mn) (hL : ML h Λ) : Ok (fX10_placeOf (nI g) h) (fun q => q.1 = (if num g 5 = 0 then nI (cntB (rd Λ n num mn) num g n) else -2) ∧ Fr Sl h q.2) := by
  unfold fX10_placeOf
  refine ok_b2 (m_lay hn9 M hL) (fun v h2 hv => ?_)
  obtain ⟨ev, hO, -, F⟩ := hv
  have ev : v = nI (lftN num n) := ev
  have hl := lftN_le num n
  have hlen := ordL_len (rd Λ n num mn) num n
  rw [ev]
  refine L3 (f := fX10_placeOf_7 (nI g)) (b := fX10_placeOf_7_b (nI g)) (fun _ => rfl) (fun r x y z h' => ∃ c, c + r = lftN num n ∧ (∀ j, j < c → (ordL (rd Λ n num mn) num n).getD j 0 ≠ g) ∧ x = nI g ∧ y = nI (lftN num n) ∧ z = nI c ∧ h' = h2) ?_ (lftN num n) FU _ _ 0 h2 (by unfold FU; omega) ⟨0, by omega, fun j hj => by omega, rfl, rfl, rfl, rfl⟩
  rintro r x y z h' ⟨c, hc, hne, rfl, rfl, rfl, rfl⟩ Q hQ
  unfold fX10_placeOf_7_b
  refine ok_if (fun c1 => ?_) (fun c1 => ?_)
  · rw [nI_leI (by omega) (by omega)] at c1
    refine ok_some ⟨?_, F⟩
    rw [if_neg]
    intro q
    obtain ⟨k, hk, ek⟩ := mem_getD ((ordL_mem (rd Λ n num mn) num n g).mpr ⟨hgn, q⟩)
    exact hne k (by omega) ek
  · rw [nI_leI (by omega) (by omega)] at c1
    refine ok_t (inb_nI (by omega) (by decide)) ?_
    rw [ix_nI (show c < 2 ^ 31 by omega), hO c (by omega), nI_1]
    have hm := (ordL_mem _ num n _).mp (getD_mem (show c < (ordL (rd Λ n num mn) num n).length by omega))
    refine ok_if (fun c2 => ?_) (fun c2 => ?_)
    · have e := nI_inj (by omega) (by omega) c2
      refine ok_some ⟨?_, F⟩
      have := cnt_idx (ordL_srt (rd Λ n num mn) num n) (show c < (ordL (rd Λ n num mn) num n).length by omega) e
      rw [cnt_ord] at this
      rw [e] at hm
      rw [if_pos hm.2, this]
    · refine hQ (r - 1) _ _ _ _ (by omega) ⟨c + 1, by omega, fun j hj => ?_, rfl, rfl, rfl, rfl⟩
      by_cases e : j = c
      · subst e; intro z; exact c2 (by rw [z])
      · exact hne j (by omega)
theorem op_later (p g w : Int32) : Sim (fX9_later p g w) (fX10_later p g w) := by
  have e0 : (0 : Int32).toInt = 0 := by decide
  have e1 : (1 : Int32).toInt = 1 := by decide
  have e2 : (2 : Int32).toInt = 2 := by decide
  have e6 : (60 : Int32).toInt = 60 := by decide
  refine sim_think (fun n m num sl mn Λ => if 0 ≤ p.toInt ∧ p.toInt ≤ 60 then if 0 ≤ g.toInt ∧ g.toInt < n then if 0 ≤ w.toInt ∧ w.toInt ≤ 2 then
    (if w = 0 then rd Λ n (itP n m sl p.toInt.toNat (num, mn)).1 (itP n m sl p.toInt.toNat (num, mn)).2 g.toInt.toNat else if w = 1 then (itP n m sl p.toInt.toNat (num, mn)).1 g.toInt.toNat 0 else
      if (itP n m sl p.toInt.toNat (num, mn)).1 g.toInt.toNat 5 = 0 then nI (cntB (rd Λ n (itP n m sl p.toInt.toNat (num, mn)).1 (itP n m sl p.toInt.toNat (num, mn)).2) (itP n m sl p.toInt.toNat (num, mn)).1 g.toInt.toNat n) else -2) else -1 else -1 else -1) (fun n m B num sl mn Λ h T O => ?_) (fun n m B num sl mn Λ h T O => ?_)
  · unfold fX9_later
    rw [c_isThought, b2_some]
    by_cases c : 0 ≤ p.toInt ∧ p.toInt ≤ 60
    · rw [if_pos c, if_pos c]
      refine ok_f (by decide) ?_
      rw [c_hasGuest T.c.1 T.n9, b2_some]
      by_cases c2 : 0 ≤ g.toInt ∧ g.toInt < n
      · rw [if_pos c2, if_pos c2]
        refine ok_f (by decide) ?_
        have hn9 := T.n9
        obtain ⟨eg, hg⟩ := nI_of_rg (a := 9) c2.1 (by omega) (by decide)
        obtain ⟨j, ej⟩ : ∃ j, j = g.toInt.toNat := ⟨_, rfl⟩
        rw [← ej] at eg hg ⊢
        have hj : j < n := by omega
        by_cases c3 : 0 ≤ w.toInt ∧ w.toInt ≤ 2
        · rw [if_pos c3]
          refine ok_f (by rw [i_lt, e0]; omega) (ok_t (by rw [i_le, e2]; omega) ?_)
          obtain ⟨ep, hp⟩ := nI_of_rg (a := 60) c.1 c.2 (by decide)
          obtain ⟨k, ek⟩ : ∃ k, k = p.toInt.toNat := ⟨_, rfl⟩
          rw [← ek] at ep hp ⊢
          rw [ep, eg]
          refine ok_bV (c_start hn9 T.m12 T.by (by omega) T.c) (fun h1 hh => ?_)
          obtain ⟨C1, F1⟩ := hh
          have F1 := F1.mono St_scr
          generalize hq : itP n m sl k (num, mn) = q0 at C1 ⊢
          have hg0 : goneOK n q0.1 := by rw [← hq]; exact it_gone k _ T.gone
          by_cases d0 : w = 0
          · rw [if_pos d0, if_pos d0]
            refine ok_b2 (O.cl.scr F1 19 n m q0.1 sl q0.2 h1 (Or.inr rfl) hn9 hg0 C1 rfl rfl j hj) (fun v h2 hv => ok_some ⟨hv.1, F1.tr (hv.2.mono (fun o k q => St_scr o k (Or.inl q)))⟩)
          · rw [if_neg d0, if_neg d0]
            by_cases d1 : w = 1
            · rw [if_pos d1, if_pos d1]
              refine ok_t (inb_nI (by omega) (by decide)) (ok_some ⟨?_, F1⟩)
              rw [ix_nI (show j < 2 ^ 31 by omega)]
              exact (C1.2.2.2.1 j hj).1
            · rw [if_neg d1, if_neg d1]
              exact ok_b2 (c_placeIn hn9 hg0 hj C1 (O.cl.scr F1)) (fun v h2 hv => ok_some ⟨hv.1, F1.tr (hv.2.mono (fun o k q => St_scr o k (Or.inl q)))⟩)
        · rw [if_neg c3]
          refine ok_if (fun c4 => ok_some ⟨rfl, Fr.rf⟩) (fun c4 => ?_)
          rw [i_lt, e0] at c4
          exact ok_f (by rw [i_le, e2]; omega) (ok_some ⟨rfl, Fr.rf⟩)
      · rw [if_neg c2, if_neg c2]
        exact ok_t rfl (ok_some ⟨rfl, Fr.rf⟩)
    · rw [if_neg c, if_neg c]
      exact ok_t rfl (ok_some ⟨rfl, Fr.rf⟩)
  · unfold fX10_later
    rw [m_isIn, b2_some, e0, e6]
    by_cases c : 0 ≤ p.toInt ∧ p.toInt ≤ 60
    · rw [if_pos c, if_pos c]
      refine ok_f (by decide) ?_
      rw [m_isGuest T.m.1 T.n9, b2_some]
      by_cases c2 : 0 ≤ g.toInt ∧ g.toInt < n
      · rw [if_pos c2, if_pos c2]
        refine ok_f (by decide) ?_
        have hn9 := T.n9
        obtain ⟨eg, hg⟩ := nI_of_rg (a := 9) c2.1 (by omega) (by decide)
        obtain ⟨j, ej⟩ : ∃ j, j = g.toInt.toNat := ⟨_, rfl⟩
        rw [← ej] at eg hg ⊢
        have hj : j < n := by omega
        rw [m_isIn, b2_some, e0, e2]
        by_cases c3 : 0 ≤ w.toInt ∧ w.toInt ≤ 2
        · rw [if_pos c3, if_pos c3]
          refine ok_f (by decide) ?_
          obtain ⟨ep, hp⟩ := nI_of_rg (a := 60) c.1 c.2 (by decide)
          obtain ⟨k, ek⟩ : ∃ k, k = p.toInt.toNat := ⟨_, rfl⟩
          rw [← ek] at ep hp ⊢
          rw [ep, eg]
          refine m_think hn9 T.mok (by omega) T.m (fun h2 M2 k61 F2 => ?_)
          generalize hq : itP n m sl k (num, mn) = q0 at M2 ⊢
          have hS2 : ∀ o k, (o = 61 ∨ (o = 60 ∧ k < 94)) → Scr o k ∨ (o = 60 ∧ k < 94) := fun o k q => by unfold Scr; omega
          have hL2 := O.ml.scr F2 hS2
          have fin : ∀ (v : Int32) (h3 : AH), Fr Sl h2 h3 → Ok (fX10_later_70 (nI k) (nI j) w v h3) (fun q => q.1 = v ∧ Fr Scr h q.2) := by
            intro v h3 F3
            unfold fX10_later_70
            have F03 : Fr (fun o k => Scr o k ∨ (o = 60 ∧ k < 94)) h h3 := (F2.mono hS2).tr (F3.mono (fun o k q => Or.inl (Sq_scr o k (Or.inl q))))
            refine ok_bV (m_wake (h := h) (S := fun o k => Scr o k ∨ (o = 60 ∧ k < 94)) (P := fun h5 => Fr Scr h h5) (fun o k q => q) (fun k hk => ?_) F03 (fun h5 F5 _ => F5)) (fun h5 F5 => ok_some ⟨rfl, F5⟩)
            rw [F3.1 61 k (fun q => by unfold Sl Sg at q; omega)]
            exact k61 k hk
          by_cases d0 : w = 0
          · rw [if_pos d0, if_pos d0]
            refine ok_b2 (hL2 n m q0.1 sl q0.2 h2 hn9 M2 rfl rfl rfl rfl j hj) (fun v h3 hv => ?_)
            refine ok_mono (fin v h3 (hv.2.mono (fun o k q => Or.inl q))) (fun q hq => ⟨hq.1.trans hv.1, hq.2⟩)
          · rw [if_neg d0, if_neg d0]
            by_cases d1 : w = 1
            · rw [if_pos d1, if_pos d1, m_number (K := 0) (k := 0) rfl (show j < 9 by omega) (by decide), b2_some]
              refine ok_mono (fin _ h2 Fr.rf) (fun q hq => ⟨hq.1.trans ?_, hq.2⟩)
              exact M2.2.1 j hj 0 (by decide)
            · rw [if_neg d1, if_neg d1]
              refine ok_b2 (m_placeOf hn9 hj M2 hL2) (fun v h3 hv => ?_)
              exact ok_mono (fin v h3 hv.2) (fun q hq => ⟨hq.1.trans hv.1, hq.2⟩)
        · rw [if_neg c3, if_neg c3]
          exact ok_t rfl (ok_some ⟨rfl, Fr.rf⟩)
      · rw [if_neg c2, if_neg c2]
        exact ok_t rfl (ok_some ⟨rfl, Fr.rf⟩)
    · rw [if_neg c, if_neg c]
      exact ok_t rfl (ok_some ⟨rfl, Fr.rf⟩)
