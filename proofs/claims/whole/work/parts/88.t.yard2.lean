/-! the yard reads what the descent reads -/
theorem numb_go {t : Nat → Int32} {L : Nat} {W V : List Int32} {d : Int32} {κ : Bool} (C : List Int32) : ∀ (k a : Nat) (x : Int32), a ≤ L → ∃ k', RY t L a (C ++ (x :: V), W, d, k, C.length, false, κ) = RY t L (numb t L k a x).2 (C ++ ((numb t L k a x).1 :: V), W, d, k', C.length, false, κ) ∧ ((numb t L k a x).2 < L → isDg (t (numb t L k a x).2) → k' = 0)
  | 0, a, x, h => ⟨0, rfl, fun _ _ => rfl⟩
  | k + 1, a, x, h => by
    by_cases c : a < L ∧ isDg (t a)
    · have e : numb t L (k + 1) a x = numb t L k (a + 1) (10 * x + t a - 48) := if_pos c
      rw [e]
      obtain ⟨k', i1, i2⟩ := numb_go (t := t) (L := L) (W := W) (V := V) (d := d) (κ := κ) C k (a + 1) (10 * x + t a - 48) (by omega)
      refine ⟨k', ?_, i2⟩
      rw [← i1]
      refine RY_some c.1 ?_
      show ySgn (t a) (C ++ (x :: V)) W d (k + 1) C.length κ = _
      unfold ySgn
      rw [if_pos c.2, if_neg (by omega)]
      have e1 : (C ++ (x :: V)).getD C.length 0 = x := by
        rw [List.getD_eq_getElem?_getD, List.getElem?_append_right (Nat.le_refl _), Nat.sub_self]
        rfl
      have e2 : (C ++ (x :: V)).set C.length (x * 10 + (t a - 48)) = C ++ ((10 * x + t a - 48) :: V) := by
        rw [List.set_append_right _ _ (Nat.le_refl _), Nat.sub_self]
        show C ++ ((x * 10 + (t a - 48)) :: V) = _
        rw [Int32.mul_comm x 10, Int32.sub_eq_add_neg, Int32.sub_eq_add_neg, Int32.add_assoc]
      rw [e1, e2]
      rfl
    · have e : numb t L (k + 1) a x = (x, a) := if_neg c
      rw [e]
      exact ⟨k + 1, rfl, fun q1 q2 => absurd ⟨q1, q2⟩ c⟩
def AOne (t : Nat → Int32) (L g : Nat) : Prop := ∀ (a : Nat) (C U W : List Int32) (d k j : Nat) (κ : Bool), a ≤ L → (∀ x, x ∈ U → rk x = 6) → topN 6 W → d + g = 6 → U.length ≤ d →
  (∀ c v a2, one t L g a = (some (c, v), a2) → ∃ k' j', RY t L a (C, U ++ W, nI d, k, j, true, κ) = RY t L a2 (C ++ (c ++ ng U), W, nI (d - U.length), k', j', false, κ) ∧ (a2 < L → isDg (t a2) → k' = 0)) ∧
  (∀ a2, one t L g a = (none, a2) → RY t L a (C, U ++ W, nI d, k, j, true, κ) = (none, a2))
def ALv (t : Nat → Int32) (L g w : Nat) : Prop := ∀ (a : Nat) (C W : List Int32) (d k j : Nat) (κ : Bool), a ≤ L → topN (6 - w) W → d + g = 6 →
  (∀ c v a2, lv t L (one t L g) w a = (some (c, v), a2) → ∃ C' Q k' j', RY t L a (C, W, nI d, k, j, true, κ) = RY t L a2 (C', Q ++ W, nI d, k', j', false, κ) ∧ C' ++ ng Q = C ++ c ∧ (∀ x, x ∈ Q → 6 - w ≤ rk x) ∧ Fol t L w a2 Q k') ∧
  (∀ a2, lv t L (one t L g) w a = (none, a2) → RY t L a (C, W, nI d, k, j, true, κ) = (none, a2))
theorem onOk_none {r : PR} {f : List Int32 → Wrt → Nat → PR} {a : Nat} (h : onOk r f = (none, a)) : r = (none, a) ∨ ∃ c1 v1 a1, r = (some (c1, v1), a1) ∧ f c1 v1 a1 = (none, a) := by
  rcases r with ⟨_ | ⟨c1, v1⟩, a1⟩
  · exact Or.inl h
  · exact Or.inr ⟨c1, v1, a1, rfl, h⟩
theorem ng_app (P Q : List Int32) : ng (P ++ Q) = ng P ++ ng Q := List.map_append ..
/-- a sign between two is taken -/
theorem y_sign {t : Nat → Int32} {L a k j w : Nat} {C C' Q W c : List Int32} {d : Int32} {κ : Bool} (ha : a < L) (hl : lev (t a) = w + 1) (hQ : ∀ x, x ∈ Q → (if w + 1 = 3 then 4 else 5 - w) ≤ rk x) (hW : topN (5 - w) W) (e : C' ++ ng Q = C ++ c) : RY t L a (C', Q ++ W, d, k, j, false, κ) = RY t L (a + 1) (C ++ c, t a :: W, d, k, j, true, κ) := by
  obtain ⟨h1, h2, h3, h4, h5, h6⟩ := lev_rk (b := t a) (by omega)
  refine RY_some ha ?_
  show ySgn (t a) C' (Q ++ W) d k j κ = _
  unfold ySgn
  have er : rk' (t a) = if w + 1 = 3 then 4 else 5 - w := by
    unfold rk'
    by_cases c : w + 1 = 3
    · rw [if_pos c, if_pos (by omega)]
    · rw [if_neg c, if_neg (by omega)]
      omega
  have hW2 : topN (if w + 1 = 3 then 4 else 5 - w) W := top_le hW (by split <;> omega)
  obtain ⟨o1, o2⟩ := out_app Q W hQ
  rw [if_neg h3, if_neg h4, if_neg h5, if_neg h6, if_pos (by omega), er, o1, o2, (out_top hW2).1, (out_top hW2).2, List.append_nil, e]
  refine if_neg (fun z => ?_)
  have c : w + 1 = 3 := by omega
  rw [if_pos c] at o2 hW2
  rw [o2, (out_top hW2).2] at z
  cases W with
  | nil => exact absurd z.2 (by decide)
  | cons x Z =>
    have := hW x Z rfl
    have z2 : (rk x == 3) = true := z.2
    have := eq_of_beq z2
    omega
theorem fol_up {t : Nat → Int32} {L w a k : Nat} {Q : List Int32} (F : Fol t L w a Q k) (h : ¬ (a < L ∧ lev (t a) = w + 1)) : Fol t L (w + 1) a Q k := fun ha => ⟨(F ha).1, fun q1 q2 => (F ha).2 q1 (by omega)⟩
theorem fol_app {t : Nat → Int32} {L w a k : Nat} {Q : List Int32} {b : Int32} (F : Fol t L w a Q k) : Fol t L w a (Q ++ [b]) k := fun ha => ⟨(F ha).1, fun q1 q2 => by
  obtain ⟨f1, x, Z, f2, f3⟩ := (F ha).2 q1 q2
  exact ⟨f1, x, Z ++ [b], rst_app Q [b] f2, f3⟩⟩
theorem a_lp {t : Nat → Int32} {L g w d : Nat} {C W : List Int32} {κ : Bool} (hw : w + 1 ≤ 5) (hw3 : w + 1 ≠ 3) (H : ALv t L g w) (hd : d + g = 6) (hW : topN (5 - w) W) : ∀ (n : Nat) (c : List Int32) (v : Wrt) (a : Nat) (C' Q : List Int32) (k j : Nat), a ≤ L → L < a + n → C' ++ ng Q = C ++ c → (∀ x, x ∈ Q → 5 - w ≤ rk x) → Fol t L w a Q k →
  (∀ c2 v2 a2, lp t L (lv t L (one t L g) w) (w + 1) n c v a = (some (c2, v2), a2) → ∃ C2 Q2 k' j', RY t L a (C', Q ++ W, nI d, k, j, false, κ) = RY t L a2 (C2, Q2 ++ W, nI d, k', j', false, κ) ∧ C2 ++ ng Q2 = C ++ c2 ∧ (∀ x, x ∈ Q2 → 5 - w ≤ rk x) ∧ Fol t L (w + 1) a2 Q2 k') ∧
  (∀ a2, lp t L (lv t L (one t L g) w) (w + 1) n c v a = (none, a2) → RY t L a (C', Q ++ W, nI d, k, j, false, κ) = (none, a2))
  | 0, c, v, a, C', Q, k, j, h1, h2, e, hQ, F => by omega
  | n + 1, c, v, a, C', Q, k, j, h1, h2, e, hQ, F => by
    by_cases q : a < L ∧ lev (t a) = w + 1
    · have el : lp t L (lv t L (one t L g) w) (w + 1) (n + 1) c v a = onOk (lv t L (one t L g) w (a + 1)) (fun c2 v2 a2 => lp t L (lv t L (one t L g) w) (w + 1) n (c ++ (c2 ++ [-t a])) (fun e => two (t a) (v e) (v2 e)) a2) := if_pos q
      rw [el]
      have ey := y_sign (κ := κ) (d := nI d) (k := k) (j := j) q.1 q.2 (Q := Q) (by rw [if_neg hw3]; exact hQ) hW e
      rw [ey]
      have hrk := (lev_rk (b := t a) (by omega)).1
      obtain ⟨i1, i2⟩ := H (a + 1) (C ++ c) (t a :: W) d k j κ (by omega) (top_cons (by omega)) hd
      have fw := lv_fw (t := t) (one_fw t L g) w
      have next : ∀ c1 v1 a1, lv t L (one t L g) w (a + 1) = (some (c1, v1), a1) → ∃ C3 Q3 k3 j3, RY t L (a + 1) (C ++ c, t a :: W, nI d, k, j, true, κ) = RY t L a1 (C3, Q3 ++ W, nI d, k3, j3, false, κ) ∧ C3 ++ ng Q3 = C ++ (c ++ (c1 ++ [-t a])) ∧ (∀ x, x ∈ Q3 → 5 - w ≤ rk x) ∧ Fol t L w a1 Q3 k3 := by
        intro c1 v1 a1 e1
        obtain ⟨C3, Q3, k3, j3, s1, s2, s3, s4⟩ := i1 c1 v1 a1 e1
        refine ⟨C3, Q3 ++ [t a], k3, j3, ?_, ?_, ?_, fol_app s4⟩
        · rw [s1, List.append_assoc]
          rfl
        · rw [ng_app, ← List.append_assoc, s2]
          show C ++ c ++ c1 ++ [-t a] = _
          simp only [List.append_assoc]
        · intro x hx
          rcases List.mem_append.1 hx with y | y
          · have := s3 x y; omega
          · rw [List.mem_singleton.1 y]; omega
      constructor
      · intro c2 v2 a2 e2
        obtain ⟨c1, v1, a1, e3, e4⟩ := onOk_some e2
        obtain ⟨C3, Q3, k3, j3, s1, s2, s3, s4⟩ := next c1 v1 a1 e3
        have := fw _ _ _ _ e3
        rw [s1]
        exact (a_lp hw hw3 H hd hW n _ _ a1 C3 Q3 k3 j3 (by omega) (by omega) s2 s3 s4).1 c2 v2 a2 e4
      · intro a2 e2
        rcases onOk_none e2 with e3 | ⟨c1, v1, a1, e3, e4⟩
        · exact i2 a2 e3
        · obtain ⟨C3, Q3, k3, j3, s1, s2, s3, s4⟩ := next c1 v1 a1 e3
          have := fw _ _ _ _ e3
          rw [s1]
          exact (a_lp hw hw3 H hd hW n _ _ a1 C3 Q3 k3 j3 (by omega) (by omega) s2 s3 s4).2 a2 e4
    · have el : lp t L (lv t L (one t L g) w) (w + 1) (n + 1) c v a = (some (c, v), a) := if_neg q
      rw [el]
      constructor
      · intro c2 v2 a2 e2
        cases e2
        exact ⟨C', Q, k, j, rfl, e, hQ, fol_up F q⟩
      · intro a2 e2
        cases e2
theorem a_lv0 {t : Nat → Int32} {L g : Nat} (H : AOne t L g) : ALv t L g 0 := by
  intro a C W d k j κ ha hW hd
  obtain ⟨i1, i2⟩ := H a C [] W d k j κ ha (fun x hx => by cases hx) hW hd (Nat.zero_le d)
  constructor
  · intro c v a2 e
    obtain ⟨k', j', s1, s2⟩ := i1 c v a2 e
    refine ⟨C ++ c, [], k', j', ?_, List.append_nil _, (fun x hx => by cases hx), fun q => ⟨s2 q, fun q1 q2 => by omega⟩⟩
    have s1 : RY t L a (C, W, nI d, k, j, true, κ) = RY t L a2 (C ++ (c ++ []), W, nI d, k', j', false, κ) := s1
    rw [List.append_nil] at s1
    exact s1
  · exact i2
theorem a_lvs {t : Nat → Int32} {L g w : Nat} (hL : L ≤ 120) (hw : w + 1 ≤ 5) (H : ALv t L g w) : ALv t L g (w + 1) := by
  intro a C W d k j κ ha hW hd
  have hW5 : topN (5 - w) W := by
    have : 6 - (w + 1) = 5 - w := by omega
    rw [this] at hW
    exact hW
  obtain ⟨i1, i2⟩ := H a C W d k j κ ha (top_le hW (by omega)) hd
  have el : lv t L (one t L g) (w + 1) a = onOk (lv t L (one t L g) w a) (fun c v a => lp t L (lv t L (one t L g) w) (w + 1) (lvN (w + 1)) c v a) := rfl
  have fw := lv_fw (t := t) (one_fw t L g) w
  have key : ∀ c1 v1 a1 C1 Q1 k1 j1, a < a1 → a1 ≤ L → C1 ++ ng Q1 = C ++ c1 → (∀ x, x ∈ Q1 → 6 - w ≤ rk x) → Fol t L w a1 Q1 k1 →
      (∀ c2 v2 a2, lp t L (lv t L (one t L g) w) (w + 1) (lvN (w + 1)) c1 v1 a1 = (some (c2, v2), a2) → ∃ C2 Q2 k' j', RY t L a1 (C1, Q1 ++ W, nI d, k1, j1, false, κ) = RY t L a2 (C2, Q2 ++ W, nI d, k', j', false, κ) ∧ C2 ++ ng Q2 = C ++ c2 ∧ (∀ x, x ∈ Q2 → 6 - (w + 1) ≤ rk x) ∧ Fol t L (w + 1) a2 Q2 k') ∧
      (∀ a2, lp t L (lv t L (one t L g) w) (w + 1) (lvN (w + 1)) c1 v1 a1 = (none, a2) → RY t L a1 (C1, Q1 ++ W, nI d, k1, j1, false, κ) = (none, a2)) := by
    intro c1 v1 a1 C1 Q1 k1 j1 f1 f2 e hQ F
    by_cases w3 : w + 1 = 3
    · have eN : lvN (w + 1) = 1 := if_pos w3
      rw [eN]
      by_cases q : a1 < L ∧ lev (t a1) = w + 1
      · have el : lp t L (lv t L (one t L g) w) (w + 1) 1 c1 v1 a1 = onOk (lv t L (one t L g) w (a1 + 1)) (fun c2 v2 a2 => (some ((c1 ++ (c2 ++ [-t a1])), (fun e => two (t a1) (v1 e) (v2 e))), a2)) := if_pos q
        rw [el, y_sign (κ := κ) (d := nI d) (k := k1) (j := j1) q.1 q.2 (Q := Q1) (by rw [if_pos w3]; intro x hx; have := hQ x hx; omega) hW5 e]
        have hrk := (lev_rk (b := t a1) (by omega)).1
        obtain ⟨n1, n2⟩ := H (a1 + 1) (C ++ c1) (t a1 :: W) d k1 j1 κ (by omega) (top_cons (by omega)) hd
        constructor
        · intro c2 v2 a2 e2
          obtain ⟨c3, v3, a3, e3, e4⟩ := onOk_some e2
          cases e4
          obtain ⟨C3, Q3, k3, j3, s1, s2, s3, s4⟩ := n1 _ _ _ e3
          refine ⟨C3, Q3 ++ [t a1], k3, j3, ?_, ?_, ?_, fun z => ⟨(s4 z).1, fun z1 z2 => ?_⟩⟩
          · rw [s1, List.append_assoc]
            rfl
          · rw [ng_app, ← List.append_assoc, s2]
            show C ++ c1 ++ c3 ++ [-t a1] = _
            simp only [List.append_assoc]
          · intro x hx
            rcases List.mem_append.1 hx with y | y
            · have := s3 x y; omega
            · rw [List.mem_singleton.1 y]; omega
          · have l3 : lev (t a2) = 3 := by
              rcases Nat.lt_or_ge (lev (t a2)) 3 with y | y
              · exact ((s4 z).2 z1 (by omega)).1
              · omega
            refine ⟨l3, t a1, [], ?_, by omega⟩
            rw [(out_app Q3 [t a1] (fun x hx => by have := s3 x hx; omega)).2]
            exact (out_top (top_cons (by omega))).2
        · intro a2 e2
          rcases onOk_none e2 with e3 | ⟨c3, v3, a3, e3, e4⟩
          · exact n2 a2 e3
          · cases e4
      · have el : lp t L (lv t L (one t L g) w) (w + 1) 1 c1 v1 a1 = (some (c1, v1), a1) := if_neg q
        rw [el]
        constructor
        · intro c2 v2 a2 e2
          cases e2
          exact ⟨C1, Q1, k1, j1, rfl, e, fun x hx => by have := hQ x hx; omega, fol_up F q⟩
        · intro a2 e2
          cases e2
    · have eN : lvN (w + 1) = 200 := if_neg w3
      rw [eN]
      have := a_lp (κ := κ) (C := C) hw w3 H hd hW5 200 c1 v1 a1 C1 Q1 k1 j1 f2 (by omega) e (fun x hx => by have := hQ x hx; omega) F
      rw [show 6 - (w + 1) = 5 - w by omega]
      exact this
  rw [el]
  constructor
  · intro c v a2 e
    obtain ⟨c1, v1, a1, e1, e2⟩ := onOk_some e
    obtain ⟨C1, Q1, k1, j1, s1, s2, s3, s4⟩ := i1 _ _ _ e1
    have := fw _ _ _ _ e1
    rw [s1]
    exact (key c1 v1 a1 C1 Q1 k1 j1 this.1 this.2 s2 s3 s4).1 c v a2 e2
  · intro a2 e
    rcases onOk_none e with e1 | ⟨c1, v1, a1, e1, e2⟩
    · exact i2 a2 e1
    · obtain ⟨C1, Q1, k1, j1, s1, s2, s3, s4⟩ := i1 _ _ _ e1
      have := fw _ _ _ _ e1
      rw [s1]
      exact (key c1 v1 a1 C1 Q1 k1 j1 this.1 this.2 s2 s3 s4).2 a2 e2
theorem a_lv {t : Nat → Int32} {L g : Nat} (hL : L ≤ 120) (H : AOne t L g) : ∀ w, w ≤ 5 → ALv t L g w
  | 0, _ => a_lv0 H
  | w + 1, h => a_lvs hL h (a_lv hL H w (by omega))
