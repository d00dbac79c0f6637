/-! the code of a law: what it is worth -/
def wrk2 (op r : Int32) : List Int32 → Option (List Int32)
  | [] => none
  | a :: s2 => some (two op a r :: s2)
def wrk (op : Int32) : List Int32 → Option (List Int32)
  | [] => none
  | r :: st => if op = 33 then some ((if r = 0 then 1 else 0) :: st) else if op = 126 then some (-r :: st) else wrk2 op r st
def exs (e : Int32 → Int32) (x : Int32) (st : List Int32) : Option (List Int32) :=
  if x.toInt < 0 then (if isNm (-x) then some (e (-x) :: st) else wrk (-x) st) else some (x :: st)
def ex (e : Int32 → Int32) : List Int32 → List Int32 → Option (List Int32)
  | [], st => some st
  | x :: c, st => (exs e x st).bind (ex e c)
theorem ex_app (e : Int32 → Int32) : ∀ (c d st : List Int32), ex e (c ++ d) st = (ex e c st).bind (ex e d)
  | [], d, st => rfl
  | x :: c, d, st => by
    show (exs e x st).bind (ex e (c ++ d)) = ((exs e x st).bind (ex e c)).bind (ex e d)
    cases exs e x st with
    | none => rfl
    | some s => exact ex_app e c d s
def GdC (c : List Int32) (v : Wrt) : Prop := (∀ x, x ∈ c → x ≠ -59) ∧ ∀ e st, ex e c st = some (v e :: st)
def Gd (sub : Nat → PR) : Prop := ∀ a c v a2, sub a = (some (c, v), a2) → GdC c v
theorem exs_op {b : Int32} (h : 1 ≤ lev b) (e : Int32 → Int32) (x y : Int32) (st : List Int32) : exs e (-b) (y :: x :: st) = some (two b x y :: st) ∧ -b ≠ -59 := by
  have key : (-b).toInt < 0 ∧ ¬ isNm (- -b) ∧ - -b = b ∧ ¬ b = 33 ∧ ¬ b = 126 ∧ -b ≠ -59 := by
    rcases lev_cs h with rfl | rfl | rfl | rfl | rfl | rfl | rfl | rfl | rfl | rfl <;> decide
  obtain ⟨k1, k2, k3, k4, k5, k6⟩ := key
  refine ⟨?_, k6⟩
  unfold exs
  rw [if_pos k1, if_neg k2, k3]
  show (if b = 33 then some ((if y = 0 then 1 else 0) :: x :: st) else if b = 126 then some (-y :: x :: st) else wrk2 b y (x :: st)) = _
  rw [if_neg k4, if_neg k5]
  rfl
theorem gd_two {c c2 : List Int32} {v v2 : Wrt} {b : Int32} (h : 1 ≤ lev b) (H : GdC c v) (H2 : GdC c2 v2) : GdC (c ++ (c2 ++ [-b])) (fun e => two b (v e) (v2 e)) := by
  refine ⟨fun x hx => ?_, fun e st => ?_⟩
  · rcases List.mem_append.1 hx with q | q
    · exact H.1 x q
    · rcases List.mem_append.1 q with q | q
      · exact H2.1 x q
      · rw [List.mem_singleton.1 q]; exact (exs_op h (fun x => x) 0 0 []).2
  · rw [ex_app, H.2 e st]
    show ex e (c2 ++ [-b]) (v e :: st) = _
    rw [ex_app, H2.2 e (v e :: st)]
    show (exs e (-b) (v2 e :: v e :: st)).bind (ex e []) = _
    rw [(exs_op h e (v e) (v2 e) st).1]
    rfl
theorem gd_lp {t : Nat → Int32} {L w : Nat} {sub : Nat → PR} (hw : 1 ≤ w) (H : Gd sub) : ∀ (n : Nat) (c : List Int32) (v : Wrt) (a : Nat) (c2 : List Int32) (v2 : Wrt) (a2 : Nat), GdC c v → lp t L sub w n c v a = (some (c2, v2), a2) → GdC c2 v2
  | 0, c, v, a, c2, v2, a2, h, e => by cases e; exact h
  | n + 1, c, v, a, c2, v2, a2, h, e => by
    unfold lp at e
    by_cases q : a < L ∧ lev (t a) = w
    · rw [if_pos q] at e
      obtain ⟨c1, v1, a1, e1, e2⟩ := onOk_some e
      exact gd_lp hw H n _ _ _ _ _ _ (gd_two (by omega) h (H _ _ _ _ e1)) e2
    · rw [if_neg q] at e
      cases e
      exact h
theorem gd_lv {t : Nat → Int32} {L : Nat} {sub : Nat → PR} (H : Gd sub) : ∀ w, Gd (lv t L sub w)
  | 0 => H
  | w + 1 => fun a c v a2 e => by
    unfold lv at e
    obtain ⟨c1, v1, a1, e1, e2⟩ := onOk_some e
    exact gd_lp (by omega) (gd_lv H w) _ _ _ _ _ _ _ (gd_lv H w _ _ _ _ e1) e2
theorem numb_rg (t : Nat → Int32) (L : Nat) : ∀ (k a m : Nat), (m + 1) * 10 ^ k ≤ 10000 → ∃ m', (numb t L k a (nI m)).1 = nI m' ∧ m' < 10000
  | 0, a, m, h => ⟨m, rfl, by rw [Nat.pow_zero, Nat.mul_one] at h; omega⟩
  | k + 1, a, m, h => by
    unfold numb
    by_cases c : a < L ∧ isDg (t a)
    · rw [if_pos c]
      have hp : 1 ≤ 10 ^ k := Nat.one_le_pow _ _ (by omega)
      have hm : m + 1 ≤ 10000 := Nat.le_trans (by rw [Nat.pow_succ]; exact Nat.le_mul_of_pos_right _ (by omega)) h
      obtain ⟨ed, hd⟩ := nI_of_rg (p := t a) (a := 57) (by omega) (by omega) (by decide)
      obtain ⟨z, hz⟩ : ∃ z, z = (t a).toInt.toNat := ⟨_, rfl⟩
      rw [← hz] at ed hd
      have h48 : 48 ≤ z := by omega
      have e1 : 10 * nI m + t a - 48 = nI (10 * m + (z - 48)) := by
        rw [ed, show (10 : Int32) = nI 10 from rfl, pk_mul, nI_add, show (48 : Int32) = nI 48 from rfl, nI_subN (by omega) (by omega)]
        congr 1
        omega
      rw [e1]
      refine numb_rg t L k (a + 1) (10 * m + (z - 48)) ?_
      rw [Nat.pow_succ, Nat.mul_comm (10 ^ k) 10, ← Nat.mul_assoc] at h
      exact Nat.le_trans (Nat.mul_le_mul_right _ (by omega)) h
    · rw [if_neg c]
      have hp : 1 ≤ 10 ^ (k + 1) := Nat.one_le_pow _ _ (by omega)
      exact ⟨m, rfl, Nat.le_trans (Nat.le_mul_of_pos_right _ hp) h⟩
theorem gd_one (t : Nat → Int32) (L : Nat) : ∀ g, Gd (one t L g) := by
  have key : ∀ o : Option (Nat → PR), (∀ f, o = some f → Gd f) → Gd (oneB t L o) := by
    intro o H a c v a2 e
    unfold oneB at e
    by_cases c0 : a < L
    · rw [if_pos c0] at e
      by_cases c1 : isDg (t a)
      · rw [if_pos c1] at e
        cases e
        obtain ⟨m, em, hm⟩ := numb_rg t L 4 a 0 (by decide)
        have em : (numb t L 4 a 0).1 = nI m := em
        rw [em]
        have nn : ¬ (nI m).toInt < 0 := by rw [nI_toInt (by omega)]; omega
        refine ⟨fun x hx => ?_, fun e st => ?_⟩
        · rw [List.mem_singleton.1 hx]
          intro z
          rw [z] at nn
          exact nn (by decide)
        · show (exs e (nI m) st).bind (ex e []) = _
          unfold exs
          rw [if_neg nn]
          rfl
      · rw [if_neg c1] at e
        by_cases c2 : t a = 33 ∨ t a = 45
        · rw [if_pos c2] at e
          cases o with
          | none => cases e
          | some f =>
            obtain ⟨c3, v3, a3, e3, e4⟩ := onOk_some (r := f (a + 1)) e
            have h3 := H f rfl _ _ _ _ e3
            cases e4
            refine ⟨fun x hx => ?_, fun e st => ?_⟩
            · rcases List.mem_append.1 hx with q | q
              · exact h3.1 x q
              · rw [List.mem_singleton.1 q]
                rcases c2 with q | q <;> rw [q] <;> decide
            · rw [ex_app, h3.2 e st]
              show (exs e (-unc (t a)) (v3 e :: st)).bind (ex e []) = _
              rcases c2 with q | q
              · rw [q]; rfl
              · rw [q]; rfl
        · rw [if_neg c2] at e
          by_cases c3 : t a = 40
          · rw [if_pos c3] at e
            cases o with
            | none => cases e
            | some f =>
              obtain ⟨c3, v3, a3, e3, e4⟩ := onOk_some (r := lv t L f 5 (a + 1)) e
              have h3 := gd_lv (t := t) (L := L) (H f rfl) 5 _ _ _ _ e3
              by_cases q : a3 < L ∧ t a3 = 41
              · rw [if_pos q] at e4; cases e4; exact h3
              · rw [if_neg q] at e4; cases e4
          · rw [if_neg c3] at e
            by_cases c4 : isNm (t a)
            · rw [if_pos c4] at e
              cases e
              have key : (-t a).toInt < 0 ∧ isNm (- -t a) ∧ - -t a = t a ∧ -t a ≠ -59 := by
                rcases c4 with q | q | q | q | q | q <;> rw [q] <;> decide
              obtain ⟨k1, k2, k3, k4⟩ := key
              refine ⟨fun x hx => ?_, fun e st => ?_⟩
              · rw [List.mem_singleton.1 hx]; exact k4
              · show (exs e (-t a) st).bind (ex e []) = _
                unfold exs
                rw [if_pos k1, if_pos k2, k3]
                rfl
            · rw [if_neg c4] at e; cases e
    · rw [if_neg c0] at e; cases e
  intro g
  induction g with
  | zero => exact key none (fun f e => by cases e)
  | succ g ih => exact key (some (one t L g)) (fun f e => by cases e; exact ih)
theorem gd_exp (t : Nat → Int32) (L : Nat) : Gd (tExp t L) := gd_lv (gd_one t L 6) 5
/-! the stack -/
def SR (h : AH) (st : List Int32) : Prop := h.1 15 3 = nI st.length ∧ ∀ i, i < st.length → h.1 17 i = st.getD (st.length - 1 - i) 0
theorem c_pop {h : AH} {x : Int32} {st : List Int32} (T : SR h (x :: st)) (hs : st.length < 121) : Ok (fX3_pop h) (fun q => q.1 = x ∧ SR q.2 st ∧ Fr Sr h q.2) := by
  obtain ⟨t1, t2⟩ := T
  have hl : (x :: st).length = st.length + 1 := rfl
  unfold fX3_pop
  rw [t1, hl]
  refine ok_t (by rw [show (0 : Int32) = nI 0 from rfl, nI_ltI (by omega) (by omega)]; omega) (ok_let ?_)
  rw [nI_s1 (by omega)]
  have r3 : (wI h 15 3 (nI st.length)).1 15 3 = nI st.length := by rw [wI_rd, if_pos ⟨rfl, rfl⟩]
  rw [r3]
  refine ok_t (inb_nI hs (by decide)) (ok_some ⟨?_, ⟨r3, fun i hi => ?_⟩, Fr.rf.w (Or.inr ⟨rfl, rfl⟩)⟩)
  · show (wI h 15 3 (nI st.length)).1 17 (ix (nI st.length)) = x
    rw [ix_nI (by omega), wI_rd, if_neg (by omega), t2 st.length (by omega), hl, show st.length + 1 - 1 - st.length = 0 by omega]
    rfl
  · show (wI h 15 3 (nI st.length)).1 17 i = _
    rw [wI_rd, if_neg (by omega), t2 i (by omega), hl, show st.length + 1 - 1 - i = (st.length - 1 - i) + 1 by omega]
    rfl
theorem c_push {h : AH} {x : Int32} {st : List Int32} (T : SR h st) (hs : st.length < 121) : Ok (fX3_push x h) (fun h' => SR h' (x :: st) ∧ Fr Sr h h') := by
  obtain ⟨t1, t2⟩ := T
  unfold fX3_push
  rw [t1]
  refine ok_f (by rw [show (121 : Int32) = nI 121 from rfl, nI_leI (by omega) (by omega)]; omega) (ok_t (inb_nI hs (by decide)) (ok_let (ok_let (ok_some ?_))))
  have r3 : (wI h 17 st.length x).1 15 3 = nI st.length := by rw [wI_rd, if_neg (by omega)]; exact t1
  rw [ix_nI (by omega), r3, nI_1]
  refine ⟨⟨?_, fun i hi => ?_⟩, (Fr.rf.w (Or.inl rfl)).w (Or.inr ⟨rfl, rfl⟩)⟩
  · rw [wI_rd, if_pos ⟨rfl, rfl⟩]; rfl
  · have hi : i < st.length + 1 := hi
    rw [wI_rd, if_neg (by omega), wI_rd]
    by_cases e : i = st.length
    · rw [if_pos ⟨rfl, e⟩, e]
      show x = (x :: st).getD (st.length + 1 - 1 - st.length) 0
      rw [show st.length + 1 - 1 - st.length = 0 by omega]
      rfl
    · rw [if_neg (fun z => e z.2), t2 i (by omega)]
      show _ = (x :: st).getD (st.length + 1 - 1 - i) 0
      rw [show st.length + 1 - 1 - i = (st.length - 1 - i) + 1 by omega]
      rfl
theorem c_two (op a b : Int32) (h : AH) : fX3_worthOfTwo op a b h = some (two op a b, h) := by
  unfold fX3_worthOfTwo two
  by_cases c38 : op = 38
  · rw [if_pos c38, if_pos c38]
    by_cases a0 : a = 0
    · rw [if_pos a0, if_pos a0]
    · rw [if_neg a0, if_neg a0]
      by_cases b0 : b = 0
      · rw [if_pos b0, if_pos b0]
      · rw [if_neg b0, if_neg b0]
  rw [if_neg c38, if_neg c38]
  by_cases c42 : op = 42
  · rw [if_pos c42, if_pos c42]
  rw [if_neg c42, if_neg c42]
  by_cases c43 : op = 43
  · rw [if_pos c43, if_pos c43]
  rw [if_neg c43, if_neg c43]
  by_cases c45 : op = 45
  · rw [if_pos c45, if_pos c45]
  rw [if_neg c45, if_neg c45]
  by_cases c47 : op = 47
  · rw [if_pos c47, if_pos c47]
    by_cases b0 : b = 0
    · rw [if_pos b0, if_pos b0]
    · rw [if_neg b0, if_neg b0, if_neg b0]
  rw [if_neg c47, if_neg c47]
  by_cases c60 : op = 60
  · rw [if_pos c60, if_pos c60]
    by_cases b0 : b ≤ a
    · rw [if_pos b0, if_pos b0]
    · rw [if_neg b0, if_neg b0]
  rw [if_neg c60, if_neg c60]
  by_cases c61 : op = 61
  · rw [if_pos c61, if_pos c61]
    by_cases b0 : a = b
    · rw [if_pos b0, if_pos b0]
    · rw [if_neg b0, if_neg b0]
  rw [if_neg c61, if_neg c61]
  by_cases c62 : op = 62
  · rw [if_pos c62, if_pos c62]
    by_cases b0 : a ≤ b
    · rw [if_pos b0, if_pos b0]
    · rw [if_neg b0, if_neg b0]
  rw [if_neg c62, if_neg c62]
  by_cases c124 : op = 124
  · rw [if_pos c124, if_pos c124]
    by_cases a0 : a = 0
    · rw [if_pos a0, if_pos a0]
      by_cases b0 : b = 0
      · rw [if_pos b0, if_pos b0]
      · rw [if_neg b0, if_neg b0]
    · rw [if_neg a0, if_neg a0]
  rw [if_neg c124, if_neg c124]
  by_cases b0 : b = 0
  · rw [if_pos b0, if_pos b0]
  · rw [if_neg b0, if_neg b0, if_neg b0]
theorem c_work {h : AH} {op : Int32} {st st' : List Int32} (T : SR h st) (hs : st.length ≤ 121) (hw : wrk op st = some st') : Ok (fX3_workOut op h) (fun h' => SR h' st' ∧ Fr Sr h h') := by
  unfold fX3_workOut
  cases st with
  | nil => cases hw
  | cons r st =>
    have hl : (r :: st).length = st.length + 1 := rfl
    refine ok_b2 (c_pop T (by omega)) (fun v h1 hh => ?_)
    obtain ⟨e1, T1, F1⟩ := hh
    have e1 : v = r := e1
    subst e1
    have hw : (if op = 33 then some ((if v = 0 then 1 else 0) :: st) else if op = 126 then some (-v :: st) else wrk2 op v st) = some st' := hw
    by_cases c1 : op = 33
    · rw [if_pos c1] at hw
      cases hw
      refine ok_t c1 ?_
      unfold fX3_workOut_21
      by_cases c2 : v = 0
      · have ez : (if v = 0 then 1 else 0 : Int32) = 1 := if_pos c2
        rw [ez]
        exact ok_t c2 (ok_bV (c_push T1 (by omega)) (fun h2 hh => ok_some ⟨hh.1, Fr.tr F1 hh.2⟩))
      · have ez : (if v = 0 then 1 else 0 : Int32) = 0 := if_neg c2
        rw [ez]
        exact ok_f c2 (ok_bV (c_push T1 (by omega)) (fun h2 hh => ok_some ⟨hh.1, Fr.tr F1 hh.2⟩))
    · rw [if_neg c1] at hw
      refine ok_f c1 ?_
      by_cases c2 : op = 126
      · rw [if_pos c2] at hw
        cases hw
        exact ok_t c2 (ok_bV (c_push T1 (by omega)) (fun h2 hh => ok_some ⟨hh.1, Fr.tr F1 hh.2⟩))
      · rw [if_neg c2] at hw
        refine ok_f c2 ?_
        cases st with
        | nil => cases hw
        | cons a s2 =>
          cases hw
          have hl2 : (a :: s2).length = s2.length + 1 := rfl
          refine ok_b2 (c_pop T1 (by omega)) (fun v2 h2 hh => ?_)
          obtain ⟨e2, T2, F2⟩ := hh
          have e2 : v2 = a := e2
          subst e2
          rw [c_two, b2_some]
          exact ok_bV (c_push T2 (by omega)) (fun h3 hh => ok_some ⟨hh.1, (Fr.tr F1 F2).tr hh.2⟩)
