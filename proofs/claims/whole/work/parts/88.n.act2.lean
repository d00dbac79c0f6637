theorem c_note {h : AH} {R c : Nat} (hR : h.1 43 3 = nI R) (hb : R < 2 ^ 20) : Ok (fX1_note (nI c) h) (fun h' => TrR 43 3 45 h h' R [c]) := by
  unfold fX1_note
  rw [hR]
  have fin : ∀ h1 : AH, h1.1 43 3 = nI R → (∀ i, i < 24 → h1.1 45 i = if R ≤ i ∧ i < R + 1 then nI c else h.1 45 i) → Fr (fun o k => (o = 43 ∧ k = 3) ∨ o = 45) h h1 → Ok (fX1_note_19 (nI c) h1) (fun h' => TrR 43 3 45 h h' R [c]) := by
    intro h1 e1 e2 F
    unfold fX1_note_19
    rw [e1, nI_1]
    refine ok_let (ok_some ⟨by rw [wI_rd, if_pos ⟨rfl, rfl⟩]; rfl, fun i hi => ?_, F.w (Or.inl ⟨rfl, rfl⟩)⟩)
    rw [wI_rd, if_neg (by omega), e2 i hi]
    by_cases q : R ≤ i ∧ i < R + 1
    · rw [if_pos q, if_pos (show R ≤ i ∧ i < R + [c].length from q), show i - R = 0 by omega]
      rfl
    · rw [if_neg q, if_neg (show ¬ (R ≤ i ∧ i < R + [c].length) from q)]
  refine ok_if (fun d1 => ?_) (fun d1 => ?_)
  · rw [show (24 : Int32) = nI 24 from rfl, nI_leI (by omega) (by omega)] at d1
    exact fin h hR (fun i hi => by rw [if_neg (by omega)]) Fr.rf
  · rw [show (24 : Int32) = nI 24 from rfl, nI_leI (by omega) (by omega)] at d1
    refine ok_t (inb_nI (by omega) (by decide)) (ok_let ?_)
    rw [ix_nI (by omega)]
    refine fin _ (by rw [wI_rd, if_neg (by omega)]; exact hR) (fun i hi => ?_) (Fr.rf.w (Or.inr rfl))
    rw [wI_rd]
    by_cases q : i = R
    · rw [if_pos ⟨rfl, q⟩, if_pos (by omega)]
    · rw [if_neg (fun z => q z.2), if_neg (by omega)]
theorem RGH_0 (n : Nat) (a : List Int32) (h : AH) : RGH (n + 1) 0 a h = fX1_run (RGH n) (a.getD 0 0) (a.getD 1 0) (a.getD 2 0) (a.getD 3 0) (a.getD 4 0) h := rfl
theorem RGH_1 (n : Nat) (a : List Int32) (h : AH) : RGH (n + 1) 1 a h = fX1_own (RGH n) (a.getD 0 0) (a.getD 1 0) (a.getD 2 0) (a.getD 3 0) h := rfl
theorem RGH_2 (n : Nat) (a : List Int32) (h : AH) : RGH (n + 1) 2 a h = fX1_above (RGH n) (a.getD 0 0) (a.getD 1 0) (a.getD 2 0) (a.getD 3 0) (a.getD 4 0) h := rfl
/-- what a run in the class does, with fuel f -/
def RunC (f bk b : Nat) : Prop := ∀ (N D R k a : Nat) (x : Int32) (h : AH), 2 * f < N → D + f ≤ 21 → R + (codA f bk k a).length ≤ 1000 → k < 8 → a < 4 → depA f bk k a = true → h.1 44 b = nI bk → h.1 43 3 = nI R → Ok (RGH N 0 [nI b, nI k, nI a, x, nI D] h) (fun q => q.1 = actV f bk (nI b) k a x ∧ TrR 43 3 45 h q.2 R (codA f bk k a))
theorem c_own {f bk b N D R a : Nat} {x : Int32} {h : AH} (H : RunC f bk b) (hb : b < 50) (hbk : bk < 8) (hN : 2 * f + 1 < N) (hD : D + 1 + f ≤ 21) (hR : R + (codA f bk bk a).length ≤ 1000) (ha : a < 4) (hd : depA f bk bk a = true) (e44 : h.1 44 b = nI bk) (e43 : h.1 43 3 = nI R) : Ok (RGH N 1 [nI b, nI a, x, nI D] h) (fun q => q.1 = actV f bk (nI b) bk a x ∧ TrR 43 3 45 h q.2 R (codA f bk bk a)) := by
  obtain ⟨N, rfl⟩ : ∃ N', N = N' + 1 := ⟨N - 1, by omega⟩
  rw [RGH_1]
  unfold fX1_own
  show Ok (if inb (nI b) 50 = true then bind2 (RGH N 0 [nI b, h.1 44 (ix (nI b)), nI a, x, nI D + 1] h) fun r2_ h3_ => some (r2_, h3_) else none) _
  refine ok_t (inb_nI hb (by decide)) ?_
  rw [ix_nI (by omega), e44, nI_1]
  exact ok_b2 (H N (D + 1) R bk a x h (by omega) hD hR hbk ha hd e44 e43) (fun v h2 hh => ok_some hh)
theorem c_abv {f bk b N D R κ a : Nat} {x : Int32} {h : AH} (H : RunC f bk b) (hk : κ < 8) (hN : 2 * f + 1 < N) (hD : D + 1 + f ≤ 21) (hR : R + (codA f bk (upK κ) a).length ≤ 1000) (ha : a < 4) (hd : depA f bk (upK κ) a = true) (e44 : h.1 44 b = nI bk) (e43 : h.1 43 3 = nI R) : Ok (RGH N 2 [nI b, nI κ, nI a, x, nI D] h) (fun q => q.1 = actV f bk (nI b) (upK κ) a x ∧ TrR 43 3 45 h q.2 R (codA f bk (upK κ) a)) := by
  obtain ⟨N, rfl⟩ : ∃ N', N = N' + 1 := ⟨N - 1, by omega⟩
  rw [RGH_2]
  unfold fX1_above
  show Ok (if inb (nI κ) 8 = true then bind2 (RGH N 0 [nI b, ST 202 (ix (nI κ)), nI a, x, nI D + 1] h) fun r2_ h3_ => some (r2_, h3_) else none) _
  refine ok_t (inb_nI hk (by decide)) ?_
  rw [ix_nI (by omega), upK_ST κ hk, nI_1]
  exact ok_b2 (H N (D + 1) R (upK κ) a x h (by omega) hD hR (upK_lt κ hk).1 ha hd e44 e43) (fun v h2 hh => ok_some hh)
theorem c_49 {f bk b N D R k a : Nat} {x P0 P1 P2 P3 P4 : Int32} {h : AH} (H : RunC f bk b) (hb : b < 50) (hbk : bk < 8) (hk : k < 8) (ha : a < 4) (hN : 2 * f + 1 < N) (hD : D + 1 + f ≤ 21) (hR : R + (codA (f + 1) bk k a).length ≤ 1000) (hd : depA (f + 1) bk k a = true) (e44 : h.1 44 b = nI bk) (e43 : h.1 43 3 = nI R) : Ok (fX1_run_49 (RGH N) P0 P1 P2 P3 P4 (nI b) (nI a) x (nI D) (nI (kap k a)) h) (fun q => q.1 = actV (f + 1) bk (nI b) k a x ∧ TrR 43 3 45 h q.2 R (codA (f + 1) bk k a)) := by
  have hκ := (kap_ok k hk a ha).1
  have ed : depA (f + 1) bk k a = (callsC (ownC (kap k a) a)).all (fun w => depA f bk (if w.1 then bk else upK (kap k a)) w.2) := rfl
  have ec : codA (f + 1) bk k a = ownC (kap k a) a :: (callsC (ownC (kap k a) a)).flatMap (fun w => codA f bk (if w.1 then bk else upK (kap k a)) w.2) := rfl
  have cs := own_cs k hk a ha
  have ev : ∀ x, actV (f + 1) bk (nI b) k a x = if ownC (kap k a) a = 1 then x + nI b
    else if ownC (kap k a) a = 2 then actV f bk (nI b) bk 1 x - actV f bk (nI b) bk 2 1
    else if ownC (kap k a) a = 10 then actV f bk (nI b) bk 0 x * 2
    else if ownC (kap k a) a = 11 then x ^^^ nI b
    else if ownC (kap k a) a = 20 then actV f bk (nI b) (upK (kap k a)) 0 x + 3
    else if ownC (kap k a) a = 30 then -actV f bk (nI b) (upK (kap k a)) 1 x
    else if ownC (kap k a) a = 40 then actV f bk (nI b) (upK (kap k a)) 2 x * 3
    else if ownC (kap k a) a = 41 then actV f bk (nI b) (upK (kap k a)) 1 (x + 1)
    else if ownC (kap k a) a = 50 then actV f bk (nI b) (upK (kap k a)) 2 x - actV f bk (nI b) bk 0 2
    else if ownC (kap k a) a = 60 then actV f bk (nI b) (upK (kap k a)) 3 x ^^^ 5
    else if ownC (kap k a) a = 70 then actV f bk (nI b) (upK (kap k a)) 0 x * 2
    else if ownC (kap k a) a = 80 then actV f bk (nI b) (upK (kap k a)) 1 x + actV f bk (nI b) bk 2 2
    else actV f bk (nI b) (upK (kap k a)) 3 x - 1 := fun x => rfl
  have est := own_ST (kap k a) hκ a ha
  rw [ed] at hd
  rw [ec] at hR
  rw [ec, ev]
  obtain ⟨c, hc⟩ : ∃ c, c = ownC (kap k a) a := ⟨_, rfl⟩
  rw [← hc] at cs est hd hR ⊢
  clear ed ec ev
  obtain ⟨κ, hκe⟩ : ∃ κ, κ = kap k a := ⟨_, rfl⟩
  rw [← hκe] at est hκ hd hR ⊢
  clear hc hκe
  unfold fX1_run_49
  have ex : nI κ * 4 + nI a = nI (4 * κ + a) := by rw [show (4 : Int32) = nI 4 from rfl, pk_mul, nI_add, Nat.mul_comm]
  rw [ex]
  refine ok_t (inb_nI (by omega) (by decide)) ?_
  rw [ix_nI (by omega), est]
  refine ok_let (ok_bV (c_note e43 (by simp at hR; omega)) (fun h1 T1 => ?_))
  have f44 : h1.1 44 b = nI bk := by rw [T1.2.2.1 44 b (by omega)]; exact e44
  have f43 : h1.1 43 3 = nI (R + 1) := T1.1
  -- one call, two calls
  have one : ∀ (cs : List Nat) (v : Int32) (h2 : AH), TrR 43 3 45 h1 h2 (R + 1) cs → TrR 43 3 45 h h2 R (c :: cs) := fun cs v h2 t => T1.tr (cs := [c]) t
  have two : ∀ (cs ds : List Nat) (h2 h3 : AH), TrR 43 3 45 h1 h2 (R + 1) cs → TrR 43 3 45 h2 h3 (R + 1 + cs.length) ds → TrR 43 3 45 h h3 R (c :: (cs ++ ds)) := fun cs ds h2 h3 t u => T1.tr (cs := [c]) (t.tr u)
  rcases cs with rfl | rfl | rfl | rfl | rfl | rfl | rfl | rfl | rfl | rfl | rfl | rfl | rfl
  · exact ok_t (by decide) (ok_some ⟨rfl, T1⟩)
  · have hd' : (depA f bk bk 1 && (depA f bk bk 2 && true)) = true := hd
    rw [Bool.and_true, Bool.and_eq_true] at hd'
    have hR' : R + ((codA f bk bk 1 ++ (codA f bk bk 2 ++ [])).length + 1) ≤ 1000 := hR
    rw [List.append_nil, List.length_append] at hR'
    refine ok_f (by decide) (ok_t (by decide) (ok_b2 (c_own (a := 1) H hb hbk hN hD (by omega) (by decide) hd'.1 f44 f43) (fun v h2 hh => ?_)))
    have i44 : h2.1 44 b = nI bk := by rw [hh.2.2.2.1 44 b (by omega)]; exact f44
    have i43 : h2.1 43 3 = nI (R + 1 + (codA f bk bk 1).length) := hh.2.1
    refine ok_b2 (c_own (a := 2) H hb hbk hN hD (by omega) (by decide) hd'.2 i44 i43) (fun v2 h3 hh2 => ok_some ⟨?_, ?_⟩)
    · show v - v2 = actV f bk (nI b) bk 1 x - actV f bk (nI b) bk 2 1
      rw [show v = _ from hh.1, show v2 = _ from hh2.1]
    · show TrR 43 3 45 h h3 R (2 :: (codA f bk bk 1 ++ (codA f bk bk 2 ++ [])))
      rw [List.append_nil]
      exact two _ _ h2 h3 hh.2 hh2.2
  · have hd' : (depA f bk bk 0 && true) = true := hd
    rw [Bool.and_true] at hd'
    have hR' : R + ((codA f bk bk 0 ++ []).length + 1) ≤ 1000 := hR
    rw [List.append_nil] at hR'
    refine ok_f (by decide) (ok_f (by decide) (ok_t (by decide) (ok_b2 (c_own (a := 0) H hb hbk hN hD (by omega) (by decide) hd' f44 f43) (fun v h2 hh => ok_some ⟨?_, ?_⟩))))
    · show v * 2 = actV f bk (nI b) bk 0 x * 2
      rw [show v = _ from hh.1]
    · show TrR 43 3 45 h h2 R (10 :: (codA f bk bk 0 ++ []))
      rw [List.append_nil]
      exact one _ v h2 hh.2
  · exact ok_f (by decide) (ok_f (by decide) (ok_f (by decide) (ok_t (by decide) (ok_some ⟨rfl, T1⟩))))
  · have hd' : (depA f bk (upK κ) 0 && true) = true := hd
    rw [Bool.and_true] at hd'
    have hR' : R + ((codA f bk (upK κ) 0 ++ []).length + 1) ≤ 1000 := hR
    rw [List.append_nil] at hR'
    refine ok_f (by decide) (ok_f (by decide) (ok_f (by decide) (ok_f (by decide) (ok_t (by decide) (ok_b2 (c_abv (a := 0) H hκ hN hD (by omega) (by decide) hd' f44 f43) (fun v h2 hh => ok_some ⟨?_, ?_⟩))))))
    · show v + 3 = actV f bk (nI b) (upK κ) 0 x + 3
      rw [show v = _ from hh.1]
    · show TrR 43 3 45 h h2 R (20 :: (codA f bk (upK κ) 0 ++ []))
      rw [List.append_nil]
      exact one _ v h2 hh.2
  · have hd' : (depA f bk (upK κ) 1 && true) = true := hd
    rw [Bool.and_true] at hd'
    have hR' : R + ((codA f bk (upK κ) 1 ++ []).length + 1) ≤ 1000 := hR
    rw [List.append_nil] at hR'
    refine ok_f (by decide) (ok_f (by decide) (ok_f (by decide) (ok_f (by decide) (ok_f (by decide) (ok_t (by decide) (ok_b2 (c_abv (a := 1) H hκ hN hD (by omega) (by decide) hd' f44 f43) (fun v h2 hh => ok_some ⟨?_, ?_⟩)))))))
    · show -v = -actV f bk (nI b) (upK κ) 1 x
      rw [show v = _ from hh.1]
    · show TrR 43 3 45 h h2 R (30 :: (codA f bk (upK κ) 1 ++ []))
      rw [List.append_nil]
      exact one _ v h2 hh.2
  · have hd' : (depA f bk (upK κ) 2 && true) = true := hd
    rw [Bool.and_true] at hd'
    have hR' : R + ((codA f bk (upK κ) 2 ++ []).length + 1) ≤ 1000 := hR
    rw [List.append_nil] at hR'
    refine ok_f (by decide) (ok_f (by decide) (ok_f (by decide) (ok_f (by decide) (ok_f (by decide) (ok_f (by decide) (ok_t (by decide) (ok_b2 (c_abv (a := 2) H hκ hN hD (by omega) (by decide) hd' f44 f43) (fun v h2 hh => ok_some ⟨?_, ?_⟩))))))))
    · show v * 3 = actV f bk (nI b) (upK κ) 2 x * 3
      rw [show v = _ from hh.1]
    · show TrR 43 3 45 h h2 R (40 :: (codA f bk (upK κ) 2 ++ []))
      rw [List.append_nil]
      exact one _ v h2 hh.2
  · have hd' : (depA f bk (upK κ) 1 && true) = true := hd
    rw [Bool.and_true] at hd'
    have hR' : R + ((codA f bk (upK κ) 1 ++ []).length + 1) ≤ 1000 := hR
    rw [List.append_nil] at hR'
    refine ok_f (by decide) (ok_f (by decide) (ok_f (by decide) (ok_f (by decide) (ok_f (by decide) (ok_f (by decide) (ok_f (by decide) (ok_t (by decide) (ok_b2 (c_abv (a := 1) H hκ hN hD (by omega) (by decide) hd' f44 f43) (fun v h2 hh => ok_some ⟨?_, ?_⟩)))))))))
    · show v = actV f bk (nI b) (upK κ) 1 (x + 1)
      rw [show v = _ from hh.1]
    · show TrR 43 3 45 h h2 R (41 :: (codA f bk (upK κ) 1 ++ []))
      rw [List.append_nil]
      exact one _ v h2 hh.2
  · have hd' : (depA f bk (upK κ) 2 && (depA f bk bk 0 && true)) = true := hd
    rw [Bool.and_true, Bool.and_eq_true] at hd'
    have hR' : R + ((codA f bk (upK κ) 2 ++ (codA f bk bk 0 ++ [])).length + 1) ≤ 1000 := hR
    rw [List.append_nil, List.length_append] at hR'
    refine ok_f (by decide) (ok_f (by decide) (ok_f (by decide) (ok_f (by decide) (ok_f (by decide) (ok_f (by decide) (ok_f (by decide) (ok_f (by decide) (ok_t (by decide) (ok_b2 (c_abv (a := 2) H hκ hN hD (by omega) (by decide) hd'.1 f44 f43) (fun v h2 hh => ?_))))))))))
    have i44 : h2.1 44 b = nI bk := by rw [hh.2.2.2.1 44 b (by omega)]; exact f44
    have i43 : h2.1 43 3 = nI (R + 1 + (codA f bk (upK κ) 2).length) := hh.2.1
    refine ok_b2 (c_own (a := 0) H hb hbk hN hD (by omega) (by decide) hd'.2 i44 i43) (fun v2 h3 hh2 => ok_some ⟨?_, ?_⟩)
    · show v - v2 = actV f bk (nI b) (upK κ) 2 x - actV f bk (nI b) bk 0 2
      rw [show v = _ from hh.1, show v2 = _ from hh2.1]
    · show TrR 43 3 45 h h3 R (50 :: (codA f bk (upK κ) 2 ++ (codA f bk bk 0 ++ [])))
      rw [List.append_nil]
      exact two _ _ h2 h3 hh.2 hh2.2
  · have hd' : (depA f bk (upK κ) 3 && true) = true := hd
    rw [Bool.and_true] at hd'
    have hR' : R + ((codA f bk (upK κ) 3 ++ []).length + 1) ≤ 1000 := hR
    rw [List.append_nil] at hR'
    refine ok_f (by decide) (ok_f (by decide) (ok_f (by decide) (ok_f (by decide) (ok_f (by decide) (ok_f (by decide) (ok_f (by decide) (ok_f (by decide) (ok_f (by decide) (ok_t (by decide) (ok_b2 (c_abv (a := 3) H hκ hN hD (by omega) (by decide) hd' f44 f43) (fun v h2 hh => ok_some ⟨?_, ?_⟩)))))))))))
    · show v ^^^ 5 = actV f bk (nI b) (upK κ) 3 x ^^^ 5
      rw [show v = _ from hh.1]
    · show TrR 43 3 45 h h2 R (60 :: (codA f bk (upK κ) 3 ++ []))
      rw [List.append_nil]
      exact one _ v h2 hh.2
  · have hd' : (depA f bk (upK κ) 0 && true) = true := hd
    rw [Bool.and_true] at hd'
    have hR' : R + ((codA f bk (upK κ) 0 ++ []).length + 1) ≤ 1000 := hR
    rw [List.append_nil] at hR'
    refine ok_f (by decide) (ok_f (by decide) (ok_f (by decide) (ok_f (by decide) (ok_f (by decide) (ok_f (by decide) (ok_f (by decide) (ok_f (by decide) (ok_f (by decide) (ok_f (by decide) (ok_t (by decide) (ok_b2 (c_abv (a := 0) H hκ hN hD (by omega) (by decide) hd' f44 f43) (fun v h2 hh => ok_some ⟨?_, ?_⟩))))))))))))
    · show v * 2 = actV f bk (nI b) (upK κ) 0 x * 2
      rw [show v = _ from hh.1]
    · show TrR 43 3 45 h h2 R (70 :: (codA f bk (upK κ) 0 ++ []))
      rw [List.append_nil]
      exact one _ v h2 hh.2
  · have hd' : (depA f bk (upK κ) 1 && (depA f bk bk 2 && true)) = true := hd
    rw [Bool.and_true, Bool.and_eq_true] at hd'
    have hR' : R + ((codA f bk (upK κ) 1 ++ (codA f bk bk 2 ++ [])).length + 1) ≤ 1000 := hR
    rw [List.append_nil, List.length_append] at hR'
    refine ok_f (by decide) (ok_f (by decide) (ok_f (by decide) (ok_f (by decide) (ok_f (by decide) (ok_f (by decide) (ok_f (by decide) (ok_f (by decide) (ok_f (by decide) (ok_f (by decide) (ok_f (by decide) (ok_t (by decide) (ok_b2 (c_abv (a := 1) H hκ hN hD (by omega) (by decide) hd'.1 f44 f43) (fun v h2 hh => ?_)))))))))))))
    have i44 : h2.1 44 b = nI bk := by rw [hh.2.2.2.1 44 b (by omega)]; exact f44
    have i43 : h2.1 43 3 = nI (R + 1 + (codA f bk (upK κ) 1).length) := hh.2.1
    refine ok_b2 (c_own (a := 2) H hb hbk hN hD (by omega) (by decide) hd'.2 i44 i43) (fun v2 h3 hh2 => ok_some ⟨?_, ?_⟩)
    · show v + v2 = actV f bk (nI b) (upK κ) 1 x + actV f bk (nI b) bk 2 2
      rw [show v = _ from hh.1, show v2 = _ from hh2.1]
    · show TrR 43 3 45 h h3 R (80 :: (codA f bk (upK κ) 1 ++ (codA f bk bk 2 ++ [])))
      rw [List.append_nil]
      exact two _ _ h2 h3 hh.2 hh2.2
  · have hd' : (depA f bk (upK κ) 3 && true) = true := hd
    rw [Bool.and_true] at hd'
    have hR' : R + ((codA f bk (upK κ) 3 ++ []).length + 1) ≤ 1000 := hR
    rw [List.append_nil] at hR'
    refine ok_f (by decide) (ok_f (by decide) (ok_f (by decide) (ok_f (by decide) (ok_f (by decide) (ok_f (by decide) (ok_f (by decide) (ok_f (by decide) (ok_f (by decide) (ok_f (by decide) (ok_f (by decide) (ok_f (by decide) (ok_t (by decide) (ok_b2 (c_abv (a := 3) H hκ hN hD (by omega) (by decide) hd' f44 f43) (fun v h2 hh => ok_some ⟨?_, ?_⟩))))))))))))))
    · show v - 1 = actV f bk (nI b) (upK κ) 3 x - 1
      rw [show v = _ from hh.1]
    · show TrR 43 3 45 h h2 R (81 :: (codA f bk (upK κ) 3 ++ []))
      rw [List.append_nil]
      exact one _ v h2 hh.2
