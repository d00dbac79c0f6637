theorem SYz (o k : Nat) (q : Zr o k) : SY o k := by unfold SY; unfold Zr at q; omega
theorem c_endsE {h : AH} {C W : List Int32} (T : CodeR h C) (e3 : h.1 12 3 = nI W.length) (V : WtR h W) (hb : C.length + W.length ≤ 121) (hW : W.length ≤ 120) : Ok (fX4_endsE h) (fun q => q.1 = (if rst 1 W = [] then 1 else 0) ∧ CodeR q.2 (C ++ out 1 W) ∧ q.2.1 12 3 = nI (rst 1 W).length ∧ Fr Zr h q.2) := by
  unfold fX4_endsE
  refine ok_b2 (c_release (r := 1) (by omega) T e3 V hb hW) (fun v h1 hh => ?_)
  obtain ⟨g1, g2, g3, g4, F1⟩ := hh
  have hl := out_len 1 W
  have g3 : h1.1 12 3 = nI (rst 1 W).length := g3
  rw [g3]
  by_cases c : rst 1 W = []
  · refine ok_t (by rw [c]; rfl) (ok_some ⟨by rw [if_pos c], g2, g3, F1⟩)
  · have : 0 < (rst 1 W).length := List.length_pos_iff.2 c
    refine ok_f (nI_ne0 (by omega) (by omega)) (ok_some ⟨by rw [if_neg c], g2, g3, F1⟩)
theorem c_part {h : AH} {C W : List Int32} {d b : Int32} {k j : Nat} {κ : Bool} (H : YR h (C, W, d, k, j, false, κ)) (hb : C.length + W.length < 120) (h63 : b = 63 ∨ b = 59) : Ok (fX4_endsPart b h) (fun q => YS (if b = 63 then (if rst 1 W = [] ∧ κ = false then some (C ++ out 1 W, [], d, k, j, true, true) else none) else (if rst 1 W = [] then some (C ++ out 1 W ++ [-59], [], d, k, j, true, false) else none)) q ∧ Fr SY h q.2) := by
  obtain ⟨T, e3, V, e4, e5, e6, e7, e8, hk⟩ := H
  unfold fX4_endsPart
  have hl := out_len 1 W
  refine ok_b2 (c_endsE T e3 V (by omega) (by omega)) (fun v h1 hh => ?_)
  obtain ⟨g1, g2, g3, F1⟩ := hh
  have g1 : v = if rst 1 W = [] then 1 else 0 := g1
  have g2 : CodeR h1 (C ++ out 1 W) := g2
  have g3 : h1.1 12 3 = nI (rst 1 W).length := g3
  have F1 : Fr Zr h h1 := F1
  have f8 : h1.1 12 8 = bI κ := by rw [F1.1 12 8 (by unfold Zr; omega)]; exact e8
  rw [g1]
  by_cases c : rst 1 W = []
  · rw [if_pos c]
    refine ok_f (by decide) ?_
    have g3 : h1.1 12 3 = nI 0 := by rw [g3, c]; rfl
    -- the rest, told what is noted and what is given out
    have fin : ∀ (h2 : AH) (D : List Int32) (κ' : Bool), CodeR h2 D → C.length ≤ D.length → h2.1 12 8 = bI κ' → Fr (fun o k => (o = 12 ∧ (k = 1 ∨ k = 8)) ∨ o = 13) h1 h2 → Ok (fX4_endsPart_49 b h2) (fun q => YS (some (D, [], d, k, j, true, κ')) q ∧ Fr SY h q.2) := by
      intro h2 D κ' T2 hD v8 F2
      unfold fX4_endsPart_49
      have G : Fr (fun o k => o = 12 ∧ k = 7) h2 (wI h2 12 7 1) := Fr.rf.w ⟨rfl, rfl⟩
      refine ok_let (ok_some ⟨⟨rfl, T2.fr G (fun o k q => by omega), ?_, fun i hi => absurd hi (Nat.not_lt_zero i), ?_, ?_, fun hk => ⟨?_, Nat.lt_of_lt_of_le (e6 hk).2 hD⟩, ?_, ?_, hk⟩, ((F1.mono SYz).tr (F2.mono (fun o k q => by unfold SY; omega))).tr (G.mono (fun o k q => by unfold SY; omega))⟩)
      · rw [G.1 12 3 (by omega), F2.1 12 3 (by omega)]; exact g3
      · rw [G.1 12 4 (by omega), F2.1 12 4 (by omega), F1.1 12 4 (by unfold Zr; omega)]; exact e4
      · rw [G.1 12 5 (by omega), F2.1 12 5 (by omega), F1.1 12 5 (by unfold Zr; omega)]; exact e5
      · rw [G.1 12 6 (by omega), F2.1 12 6 (by omega), F1.1 12 6 (by unfold Zr; omega)]; exact (e6 hk).1
      · show (wI h2 12 7 1).1 12 7 = _
        rw [wI_rd, if_pos ⟨rfl, rfl⟩]; rfl
      · rw [G.1 12 8 (by omega)]; exact v8
    have hlen : C.length ≤ (C ++ out 1 W).length := by rw [List.length_append]; omega
    rcases h63 with hb63 | hb59
    · have ey : ∀ (x y : Option Y), (if b = 63 then x else y) = x := fun x y => if_pos hb63
      rw [ey]
      refine ok_t hb63 ?_
      rw [f8]
      cases κ with
      | true =>
        have ez : ∀ (x y : Option Y), (if rst 1 W = [] ∧ true = false then x else y) = y := fun x y => if_neg (fun z => absurd z.2 (by decide))
        rw [ez]
        exact ok_f (by decide) (ok_some ⟨rfl, F1.mono SYz⟩)
      | false =>
        have ez : ∀ (x y : Option Y), (if rst 1 W = [] ∧ false = false then x else y) = x := fun x y => if_pos ⟨c, rfl⟩
        rw [ez]
        refine ok_t rfl ?_
        unfold fX4_endsPart_22
        refine ok_t hb63 ?_
        unfold fX4_endsPart_34
        refine ok_t (by decide) (ok_let (ok_f (by rw [hb63]; decide) ?_))
        have G : Fr (fun o k => o = 12 ∧ k = 8) h1 (wI h1 12 8 1) := Fr.rf.w ⟨rfl, rfl⟩
        exact fin _ _ true (g2.fr G (fun o k q => by omega)) hlen (by rw [wI_rd, if_pos ⟨rfl, rfl⟩]; rfl) (G.mono (fun o k q => by omega))
    · have n63 : ¬ b = 63 := by rw [hb59]; decide
      have ey : ∀ (x y : Option Y), (if b = 63 then x else y) = y := fun x y => if_neg n63
      have ez : ∀ (x y : Option Y), (if rst 1 W = [] then x else y) = x := fun x y => if_pos c
      rw [ey, ez]
      refine ok_f n63 ?_
      unfold fX4_endsPart_22
      refine ok_f n63 ?_
      unfold fX4_endsPart_34
      refine ok_t (by decide) (ok_let (ok_t hb59 ?_))
      have G : Fr (fun o k => o = 12 ∧ k = 8) h1 (wI h1 12 8 0) := Fr.rf.w ⟨rfl, rfl⟩
      have v8 : (wI h1 12 8 0).1 12 8 = 0 := by rw [wI_rd, if_pos ⟨rfl, rfl⟩]
      revert G v8
      generalize wI h1 12 8 0 = h2
      intro G v8
      refine ok_bV (c_emit (g2.fr G (fun o k q => by omega)) (by rw [List.length_append]; omega)) (fun h3 hh => ?_)
      exact fin h3 _ false hh.1 (by rw [List.length_append]; omega) (by rw [hh.2.1 12 8 (by omega)]; exact v8) ((G.mono (fun o k q => by omega)).tr (hh.2.mono (fun o k q => by omega)))
  · rw [if_neg c]
    refine ok_t rfl (ok_some ⟨?_, F1.mono SYz⟩)
    rcases h63 with rfl | rfl
    · rw [if_pos (show (63 : Int32) = 63 from rfl), if_neg (fun z => c z.1)]
      rfl
    · rw [if_neg (show ¬ (59 : Int32) = 63 by decide), if_neg c]
      rfl
theorem c_sgn {h : AH} {b : Int32} {C W : List Int32} {d : Int32} {k j : Nat} {κ : Bool} (H : YR h (C, W, d, k, j, false, κ)) (hb : C.length + W.length < 120) : Ok (fX4_takesSign b h) (fun q => YS (ySgn b C W d k j κ) q ∧ Fr SY h q.2) := by
  have H0 := H
  obtain ⟨T, e3, V, e4, e5, e6, e7, e8, hk⟩ := H
  unfold fX4_takesSign
  rw [c_isDg, b2_some]
  unfold ySgn
  by_cases c1 : isDg b
  · rw [if_pos c1, if_pos c1]
    exact ok_f (by decide) (ok_isB (ok_mono (c_dig H0 hb) (fun q hq => ⟨YS01 hq.1, hq⟩)))
  rw [if_neg c1, if_neg c1]
  refine ok_t rfl ?_
  by_cases c2 : b = 41
  · have ey : ∀ (x : Option Y), (if b = 41 then yCls C W d j κ (rst 1 W) else x) = yCls C W d j κ (rst 1 W) := fun x => if_pos c2
    rw [ey]
    exact ok_t c2 (ok_isB (ok_mono (c_cls H0 hb) (fun q hq => ⟨YS01 hq.1, hq⟩)))
  have ey : ∀ (x y : Option Y), (if b = 41 then x else y) = y := fun x y => if_neg c2
  rw [ey]
  refine ok_f c2 ?_
  by_cases c3 : b = 63
  · have hp := c_part H0 hb (Or.inl c3)
    rw [if_pos c3] at hp
    have ey : ∀ (x y : Option Y), (if b = 63 then x else y) = x := fun x y => if_pos c3
    rw [ey]
    refine ok_t c3 ?_
    unfold fX4_takesSign_36
    exact ok_isB (ok_mono hp (fun q hq => ⟨YS01 hq.1, hq⟩))
  have ey : ∀ (x y : Option Y), (if b = 63 then x else y) = y := fun x y => if_neg c3
  rw [ey]
  refine ok_f c3 ?_
  by_cases c4 : b = 59
  · have hp := c_part H0 hb (Or.inr c4)
    rw [if_neg c3] at hp
    have ey : ∀ (x y : Option Y), (if b = 59 then x else y) = x := fun x y => if_pos c4
    rw [ey]
    refine ok_t c4 ?_
    unfold fX4_takesSign_36
    exact ok_isB (ok_mono hp (fun q hq => ⟨YS01 hq.1, hq⟩))
  have ey : ∀ (x y : Option Y), (if b = 59 then x else y) = y := fun x y => if_neg c4
  rw [ey]
  refine ok_f c4 ?_
  rw [c_rank, b2_some]
  have hr6 := rk_le b
  refine ok_if (fun d1 => ?_) (fun d1 => ?_)
  · rw [show (1 : Int32) = nI 1 from rfl, nI_ltI (by omega) (by omega)] at d1
    rw [if_neg (by omega)]
    exact ok_some ⟨rfl, Fr.rf⟩
  rw [show (1 : Int32) = nI 1 from rfl, nI_ltI (by omega) (by omega)] at d1
  rcases Nat.lt_or_ge 5 (rk b) with d2 | d2
  · rw [if_neg (show ¬ (1 ≤ rk b ∧ rk b ≤ 5) by omega)]
    exact ok_f (by rw [show (5 : Int32) = nI 5 from rfl, nI_leI (by omega) (by omega)]; omega) (ok_some ⟨rfl, Fr.rf⟩)
  rw [if_pos (show 1 ≤ rk b ∧ rk b ≤ 5 by omega)]
  refine ok_t (by rw [show (5 : Int32) = nI 5 from rfl, nI_leI (by omega) (by omega)]; omega) ?_
  -- the sign waits
  have key : Ok (fX4_takesSign_72 b b (nI (rk b)) (nI (rk' b)) h) (fun q => YS (if rk b = 3 ∧ hd3 (rst 4 W) = true then none else some (C ++ out (rk' b) W, b :: rst (rk' b) W, d, k, j, true, κ)) q ∧ Fr SY h q.2) := by
    unfold fX4_takesSign_72
    have hrk' : rk' b ≤ 6 := by unfold rk'; split <;> omega
    refine ok_b2 (c_release (r := rk' b) hrk' T e3 V (by omega) (by omega)) (fun v h1 hh => ?_)
    obtain ⟨g1, g2, g3, g4, F1⟩ := hh
    have hl := out_len (rk' b) W
    have g2 : CodeR h1 (C ++ out (rk' b) W) := g2
    have g3 : h1.1 12 3 = nI (rst (rk' b) W).length := g3
    have g4 : WtR h1 (rst (rk' b) W) := g4
    have F1 : Fr Zr h h1 := F1
    have fin : Ok (fX4_takesSign_108 b b h1) (fun q => YS (some (C ++ out (rk' b) W, b :: rst (rk' b) W, d, k, j, true, κ)) q ∧ Fr SY h q.2) := by
      unfold fX4_takesSign_108
      refine ok_bV (c_await g3 g4 (by omega)) (fun h2 hh => ?_)
      obtain ⟨a1, a2, F2⟩ := hh
      have G : Fr (fun o k => o = 12 ∧ k = 7) h2 (wI h2 12 7 1) := Fr.rf.w ⟨rfl, rfl⟩
      refine ok_let (ok_some ⟨⟨rfl, (g2.fr F2 (fun o k q => by omega)).fr G (fun o k q => by omega), ?_, a2.fr G (fun o k q => by omega), ?_, ?_, fun hk => ⟨?_, ?_⟩, ?_, ?_, hk⟩, ((F1.mono SYz).tr (F2.mono (fun o k q => by unfold SY; omega))).tr (G.mono (fun o k q => by unfold SY; omega))⟩)
      · rw [G.1 12 3 (by omega)]; exact a1
      · rw [G.1 12 4 (by omega), F2.1 12 4 (by omega), F1.1 12 4 (by unfold Zr; omega)]; exact e4
      · rw [G.1 12 5 (by omega), F2.1 12 5 (by omega), F1.1 12 5 (by unfold Zr; omega)]; exact e5
      · rw [G.1 12 6 (by omega), F2.1 12 6 (by omega), F1.1 12 6 (by unfold Zr; omega)]; exact (e6 hk).1
      · rw [List.length_append]; have := (e6 hk).2; omega
      · show (wI h2 12 7 1).1 12 7 = _
        rw [wI_rd, if_pos ⟨rfl, rfl⟩]; rfl
      · rw [G.1 12 8 (by omega), F2.1 12 8 (by omega), F1.1 12 8 (by unfold Zr; omega)]; exact e8
    by_cases r3 : rk b = 3
    · have e4r : rk' b = 4 := if_pos r3
      rw [e4r] at g3 g4 hl
      refine ok_t (by rw [r3]; rfl) ?_
      rw [g3]
      obtain ⟨Z, hZ⟩ : ∃ Z, Z = rst 4 W := ⟨_, rfl⟩
      rw [← hZ] at g3 g4 hl ⊢
      cases Z with
      | nil =>
        have ez : ∀ (x y : Option Y), (if rk b = 3 ∧ hd3 [] = true then x else y) = y := fun x y => if_neg (fun z => absurd z.2 (by decide))
        rw [ez]
        exact ok_t ((nI_0lt (k := 0) (by omega)).2 rfl) fin
      | cons x Z =>
        have hz : (x :: Z).length = Z.length + 1 := rfl
        rw [hz] at hl ⊢
        refine ok_f (fun z => by have := (nI_0lt (by omega)).1 z; omega) ?_
        rw [nI_s1 (by omega)]
        have ex : h1.1 14 Z.length = x := by
          rw [g4 Z.length (by omega)]
          show (x :: Z).getD (Z.length + 1 - 1 - Z.length) 0 = x
          rw [show Z.length + 1 - 1 - Z.length = 0 by omega]
          rfl
        refine ok_t (inb_nI (by omega) (by decide)) ?_
        rw [ix_nI (by omega), ex, c_rank, b2_some]
        have := rk_le x
        by_cases x3 : rk x = 3
        · have ez : ∀ (u y : Option Y), (if rk b = 3 ∧ hd3 (x :: Z) = true then u else y) = u := fun u y => if_pos ⟨r3, by show (rk x == 3) = true; rw [x3]; rfl⟩
          rw [ez]
          exact ok_t (by rw [x3]; rfl) (ok_some ⟨rfl, F1.mono SYz⟩)
        · have ez : ∀ (u y : Option Y), (if rk b = 3 ∧ hd3 (x :: Z) = true then u else y) = y := fun u y => if_neg (fun z => x3 (eq_of_beq (show (rk x == 3) = true from z.2)))
          rw [ez]
          exact ok_f (by rw [show (3 : Int32) = nI 3 from rfl, nI_eq (by omega) (by omega)]; exact x3) fin
    · have ez : ∀ (u y : Option Y), (if rk b = 3 ∧ hd3 (rst 4 W) = true then u else y) = y := fun u y => if_neg (fun z => r3 z.1)
      rw [ez]
      exact ok_f (by rw [show (3 : Int32) = nI 3 from rfl, nI_eq (by omega) (by omega)]; exact r3) fin
  by_cases r3 : rk b = 3
  · have e4r : rk' b = 4 := if_pos r3
    refine ok_t (by rw [r3]; rfl) ?_
    rw [e4r] at key
    have : nI (rk b) + 1 = nI 4 := by rw [r3]; rfl
    rw [e4r, this]
    exact key
  · have e4r : rk' b = rk b := if_neg r3
    refine ok_f (by rw [show (3 : Int32) = nI 3 from rfl, nI_eq (by omega) (by omega)]; exact r3) ?_
    rw [e4r] at key ⊢
    exact key
/-! the whole text -/
def yLen : Y → Nat
  | (C, W, _) => C.length + W.length
theorem yEnd_len (C W : List Int32) (d : Int32) (k j : Nat) (κ : Bool) : yLen (yEnd C W d k j κ) = C.length + W.length := by
  have := out_len 6 W
  show (C ++ out 6 W).length + (rst 6 W).length = _
  rw [List.length_append]
  omega
theorem yStep_len {b : Int32} {y y' : Y} (h : yStep b y = some y') : yLen y' ≤ yLen y + 1 := by
  obtain ⟨C, W, d, k, j, wn, κ⟩ := y
  have o1 := out_len 1 W
  cases wn with
  | true =>
    have h : yOpd b C W d k j κ = some y' := h
    show yLen y' ≤ C.length + W.length + 1
    unfold yOpd at h
    by_cases c1 : isDg b
    · rw [if_pos c1] at h
      cases h
      rw [yEnd_len, List.length_append]
      show C.length + 1 + _ ≤ _
      omega
    rw [if_neg c1] at h
    by_cases c2 : isNm b
    · rw [if_pos c2] at h
      cases h
      rw [yEnd_len, List.length_append]
      show C.length + 1 + _ ≤ _
      omega
    rw [if_neg c2] at h
    by_cases c3 : b = 40 ∨ b = 33 ∨ b = 45
    · rw [if_pos c3] at h
      by_cases c4 : d < 6
      · rw [if_pos c4] at h
        cases h
        exact Nat.le_refl _
      · rw [if_neg c4] at h
        cases h
    · rw [if_neg c3] at h
      cases h
  | false =>
    have h : ySgn b C W d k j κ = some y' := h
    show yLen y' ≤ C.length + W.length + 1
    unfold ySgn at h
    by_cases c1 : isDg b
    · rw [if_pos c1] at h
      by_cases c2 : k = 0
      · rw [if_pos c2] at h; cases h
      · rw [if_neg c2] at h
        cases h
        show (C.set _ _).length + W.length ≤ _
        rw [List.length_set]
        omega
    rw [if_neg c1] at h
    by_cases c2 : b = 41
    · rw [if_pos c2] at h
      obtain ⟨Z, hZ⟩ : ∃ Z, Z = rst 1 W := ⟨_, rfl⟩
      rw [← hZ] at h o1
      cases Z with
      | nil => cases h
      | cons x Z =>
        cases h
        rw [yEnd_len, List.length_append]
        have : (x :: Z).length = Z.length + 1 := rfl
        omega
    rw [if_neg c2] at h
    by_cases c3 : b = 63
    · rw [if_pos c3] at h
      by_cases c4 : rst 1 W = [] ∧ κ = false
      · rw [if_pos c4] at h
        cases h
        show (C ++ out 1 W).length + 0 ≤ _
        rw [List.length_append]
        omega
      · rw [if_neg c4] at h; cases h
    rw [if_neg c3] at h
    by_cases c3 : b = 59
    · rw [if_pos c3] at h
      by_cases c4 : rst 1 W = []
      · rw [if_pos c4] at h
        cases h
        show (C ++ out 1 W ++ [-59]).length + 0 ≤ _
        rw [List.length_append, List.length_append]
        show _ + 1 + 0 ≤ _
        omega
      · rw [if_neg c4] at h; cases h
    rw [if_neg c3] at h
    by_cases c4 : 1 ≤ rk b ∧ rk b ≤ 5
    · rw [if_pos c4] at h
      by_cases c5 : rk b = 3 ∧ hd3 (rst 4 W) = true
      · rw [if_pos c5] at h; cases h
      · rw [if_neg c5] at h
        cases h
        have o2 := out_len (rk' b) W
        show (C ++ out (rk' b) W).length + ((rst (rk' b) W).length + 1) ≤ _
        rw [List.length_append]
        omega
    · rw [if_neg c4] at h; cases h
def YF : Option (List Int32) × Nat → Int32 × AH → Prop
  | (none, a), q => q.1 = nI a ∧ a ≤ 120
  | (some c, _), q => q.1 = -1 ∧ CodeR q.2 c ∧ c.length ≤ 121
theorem c_fin {h : AH} {y : Y} {L : Nat} {P1 : Int32} (hL : L ≤ 120) (H : YR h y) (hb : yLen y ≤ L) : Ok (fX4_faultOf_55 P1 (nI L) h) (fun q => YF (yFin L y) q ∧ Fr SY h q.2) := by
  obtain ⟨C, W, d, k, j, wn, κ⟩ := y
  have hb : C.length + W.length ≤ L := hb
  obtain ⟨T, e3, V, e4, e5, e6, e7, e8, hk⟩ := H
  unfold fX4_faultOf_55
  rw [e7]
  cases wn with
  | true => exact ok_f (by decide) (ok_some ⟨⟨rfl, hL⟩, Fr.rf⟩)
  | false =>
    refine ok_t rfl (ok_b2 (c_endsE T e3 V (by omega) (by omega)) (fun v h1 hh => ?_))
    obtain ⟨g1, g2, g3, F1⟩ := hh
    have g1 : v = if rst 1 W = [] then 1 else 0 := g1
    have hl := out_len 1 W
    rw [g1]
    show Ok _ (fun q => YF (if rst 1 W = [] then (some (C ++ out 1 W ++ [-59]), L) else (none, L)) q ∧ _)
    by_cases c : rst 1 W = []
    · rw [if_pos c, if_pos c]
      refine ok_f (by decide) (ok_bV (c_emit g2 (by rw [List.length_append]; omega)) (fun h2 hh => ok_some ⟨⟨rfl, hh.1, ?_⟩, (Fr.mono F1 SYz).tr (hh.2.mono (fun o k q => by unfold SY; omega))⟩))
      rw [List.length_append, List.length_append]
      show _ + 1 ≤ _
      omega
    · rw [if_neg c, if_neg c]
      exact ok_t rfl (ok_some ⟨⟨rfl, hL⟩, Fr.mono F1 SYz⟩)
theorem c_text {h : AH} {t : Nat → Int32} {L : Nat} {P1 : Int32} (hL : L ≤ 120) (ht : ∀ i, i < L → h.1 11 i = t i) {y : Y} (H : YR h y) (hb : yLen y ≤ 0) : Ok (fX4_faultOf_6 P1 FU (nI L) 0 h) (fun q => YF (RY t L 0 y) q ∧ Fr SY h q.2) := by
  refine L2 (f := fX4_faultOf_6 P1) (b := fX4_faultOf_6_b P1) (fun _ => rfl) (fun r x2 x3 h' => ∃ a y', a + r = L ∧ x2 = nI L ∧ x3 = nI a ∧ YR h' y' ∧ yLen y' ≤ a ∧ RY t L a y' = RY t L 0 y ∧ Fr SY h h') ?_ L FU (nI L) 0 h (by unfold FU; omega) ⟨0, y, by omega, rfl, rfl, H, hb, rfl, Fr.rf⟩
  rintro r x2 x3 h' ⟨a, y', hr, rfl, rfl, H', hb', ey, F⟩ Q hQ
  unfold fX4_faultOf_6_b
  by_cases c : a < L
  · refine ok_f (by rw [nI_leI (by omega) (by omega)]; omega) (ok_f (by rw [show (120 : Int32) = nI 120 from rfl, nI_leI (by omega) (by omega)]; omega) ?_)
    have ex : h'.1 11 a = t a := by rw [F.1 11 a (by unfold SY; omega)]; exact ht a c
    rw [RY_st c] at ey
    have H0 := H'
    obtain ⟨C, W, d, k, j, wn, κ⟩ := y'
    have hb' : C.length + W.length ≤ a := hb'
    have e7 : h'.1 12 7 = bI wn := H'.2.2.2.2.2.2.1
    rw [e7]
    have go : ∀ (o : Option Y) (v : Int32) (h2 : AH), yStep (t a) (C, W, d, k, j, wn, κ) = o → YS o (v, h2) → Fr SY h' h2 → Ok (if v = 0 then some (nI a, h2) else Q (nI L) (nI a + 1) h2) (fun q => YF (RY t L 0 y) q ∧ Fr SY h q.2) := by
      intro o v h2 eo hs F2
      rw [eo] at ey
      cases o with
      | none =>
        have hv : v = 0 := hs
        refine ok_t hv (ok_some ⟨?_, F.tr F2⟩)
        rw [← ey]
        exact ⟨rfl, by omega⟩
      | some y2 =>
        have hv : v = 1 := hs.1
        refine ok_f (by rw [hv]; decide) ?_
        rw [nI_1]
        have hlen := yStep_len eo
        have : yLen (C, W, d, k, j, wn, κ) = C.length + W.length := rfl
        exact hQ (r - 1) _ _ _ (by omega) ⟨a + 1, y2, by omega, rfl, rfl, hs.2, by omega, ey, F.tr F2⟩
    cases wn with
    | true =>
      refine ok_f (by decide) (ok_t (inb_nI (by omega) (by decide)) ?_)
      rw [ix_nI (by omega), ex]
      exact ok_b2 (c_opd (b := t a) H0 (by omega)) (fun v h2 hh => go _ v h2 rfl hh.1 hh.2)
    | false =>
      refine ok_t rfl (ok_t (inb_nI (by omega) (by decide)) ?_)
      rw [ix_nI (by omega), ex]
      exact ok_b2 (c_sgn (b := t a) H0 (by omega)) (fun v h2 hh => go _ v h2 rfl hh.1 hh.2)
  · have : a = L := by omega
    subst this
    refine ok_t (by rw [nI_leI (by omega) (by omega)]; omega) ?_
    rw [RY_end (Nat.le_refl a)] at ey
    rw [← ey]
    exact ok_mono (c_fin hL H' hb') (fun q hq => ⟨hq.1, F.tr hq.2⟩)
theorem c_fault {h : AH} {t : Nat → Int32} {L : Nat} (hL : L ≤ 120) (ht : ∀ i, i < L → h.1 11 i = t i) : Ok (fX4_faultOf (nI L) h) (fun q => YF (resY [] (tGv t L 200 0)) q ∧ Fr SY h q.2) := by
  unfold fX4_faultOf fX4_begin
  refine ok_bV (Q := fun h1 => YR h1 ([], [], 0, 0, 0, true, false) ∧ Fr SY h h1) (ok_let (ok_let (ok_let (ok_let (ok_let (ok_let (ok_some ⟨⟨⟨?_, ?_⟩, ?_, ?_, ?_, ?_, ?_, ?_, ?_, ?_⟩, ?_⟩))))))) (fun h1 hh => ?_)
  · rw [wI_rd, if_neg (by omega), wI_rd, if_neg (by omega), wI_rd, if_neg (by omega), wI_rd, if_neg (by omega), wI_rd, if_neg (by omega), wI_rd, if_pos ⟨rfl, rfl⟩]; rfl
  · intro i hi; exact absurd hi (Nat.not_lt_zero i)
  · rw [wI_rd, if_neg (by omega), wI_rd, if_neg (by omega), wI_rd, if_neg (by omega), wI_rd, if_neg (by omega), wI_rd, if_pos ⟨rfl, rfl⟩]; rfl
  · intro i hi; exact absurd hi (Nat.not_lt_zero i)
  · rw [wI_rd, if_neg (by omega), wI_rd, if_neg (by omega), wI_rd, if_neg (by omega), wI_rd, if_pos ⟨rfl, rfl⟩]
  · rw [wI_rd, if_neg (by omega), wI_rd, if_neg (by omega), wI_rd, if_pos ⟨rfl, rfl⟩]; rfl
  · intro q; exact absurd q (Nat.lt_irrefl 0)
  · rw [wI_rd, if_neg (by omega), wI_rd, if_pos ⟨rfl, rfl⟩]; rfl
  · rw [wI_rd, if_pos ⟨rfl, rfl⟩]; rfl
  · exact Nat.zero_le 3
  · exact (((((Fr.rf.w (Or.inl rfl)).w (Or.inl rfl)).w (Or.inl rfl)).w (Or.inl rfl)).w (Or.inl rfl)).w (Or.inl rfl)
  · obtain ⟨H1, F1⟩ := hh
    have := c_text (t := t) (P1 := nI L) hL (fun i hi => by rw [F1.1 11 i (by unfold SY; omega)]; exact ht i hi) H1 (Nat.le_refl 0)
    rw [a_gv hL 200 0 [] 0 0 (Nat.zero_le L) (by omega)] at this
    exact ok_mono this (fun q hq => ⟨hq.1, F1.tr hq.2⟩)
