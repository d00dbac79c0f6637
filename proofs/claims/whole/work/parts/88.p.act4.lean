/-! act: what the model does -/
theorem RGK_0 (n : Nat) (a : List Int32) (h : AH) : RGK (n + 1) 0 a h = fX10_byKind (RGK n) (a.getD 0 0) (a.getD 1 0) (a.getD 2 0) (a.getD 3 0) h := by
  conv => lhs; unfold RGK
  rw [if_pos (show (0 : Nat) = 0 from rfl)]
theorem RGK_1 (n : Nat) (a : List Int32) (h : AH) : RGK (n + 1) 1 a h = fX10_does (RGK n) (a.getD 0 0) (a.getD 1 0) (a.getD 2 0) h := rfl
def MCs (h : AH) : Prop := (∀ k, k < 8 → h.1 82 k = mAbv.getD k 0) ∧ (∀ k, k < 32 → h.1 83 k = ST 203 k)
theorem MCs.tr {h h' : AH} {R : Nat} {cs : List Nat} (C : MCs h) (T : TrR 59 45 85 h h' R cs) : MCs h' := ⟨fun k hk => by rw [T.2.2.1 82 k (by omega)]; exact C.1 k hk, fun k hk => by rw [T.2.2.1 83 k (by omega)]; exact C.2 k hk⟩
def RunM (f bk b : Nat) : Prop := ∀ (N R k a : Nat) (x : Int32) (h : AH), 2 * f < N → R + (codA f bk k a).length ≤ 1000 → k < 8 → a < 4 → depA f bk k a = true → h.1 84 b = nI bk → MCs h → h.1 59 45 = nI R → Ok (RGK N 0 [nI k, nI b, nI a, x] h) (fun q => q.1 = actV f bk (nI b) k a x ∧ TrR 59 45 85 h q.2 R (codA f bk k a))
theorem m_own {f bk b N R a : Nat} {x : Int32} {h : AH} (H : RunM f bk b) (hb : b < 50) (hbk : bk < 8) (hN : 2 * f + 1 < N) (hR : R + (codA f bk bk a).length ≤ 1000) (ha : a < 4) (hd : depA f bk bk a = true) (e84 : h.1 84 b = nI bk) (C : MCs h) (e59 : h.1 59 45 = nI R) : Ok (RGK N 1 [nI b, nI a, x] h) (fun q => q.1 = actV f bk (nI b) bk a x ∧ TrR 59 45 85 h q.2 R (codA f bk bk a)) := by
  obtain ⟨N, rfl⟩ : ∃ N', N = N' + 1 := ⟨N - 1, by omega⟩
  rw [RGK_1]
  unfold fX10_does
  show Ok (if inb (nI b) 50 = true then bind2 (RGK N 0 [h.1 84 (ix (nI b)), nI b, nI a, x] h) fun r2_ h3_ => some (r2_, h3_) else none) _
  refine ok_t (inb_nI hb (by decide)) ?_
  rw [ix_nI (by omega), e84]
  exact ok_b2 (H N R bk a x h (by omega) hR hbk ha hd e84 C e59) (fun v h2 hh => ok_some hh)
theorem m_abv {f bk b N R κ a : Nat} {x x6 : Int32} {h : AH} (H : RunM f bk b) (hx6 : x6 = nI (upK κ)) (hk : κ < 8) (hN : 2 * f + 1 < N) (hR : R + (codA f bk (upK κ) a).length ≤ 1000) (ha : a < 4) (hd : depA f bk (upK κ) a = true) (e84 : h.1 84 b = nI bk) (C : MCs h) (e59 : h.1 59 45 = nI R) : Ok (RGK N 0 [x6, nI b, nI a, x] h) (fun q => q.1 = actV f bk (nI b) (upK κ) a x ∧ TrR 59 45 85 h q.2 R (codA f bk (upK κ) a)) := by
  rw [hx6]
  exact H N R (upK κ) a x h (by omega) hR (upK_lt κ hk).1 ha hd e84 C e59
theorem own_0 : ∀ a, a < 4 → ownC 0 a ≠ 1 → ownC 0 a ≠ 2 → ownC 0 a ≠ 10 → ownC 0 a ≠ 11 → False := by decide +kernel
theorem own_00 : ∀ a, a < 4 → ownC 0 a ≠ 0 := by decide +kernel
theorem m_71 {f bk b N R k a : Nat} {x x6 P0 P1 P2 P3 : Int32} {h g : AH} (H : RunM f bk b) (hb : b < 50) (hbk : bk < 8) (hk : k < 8) (ha : a < 4) (hN : 2 * f + 1 < N) (hR : R + (codA (f + 1) bk k a).length ≤ 1000) (hd : depA (f + 1) bk k a = true) (e84 : g.1 84 b = nI bk) (C : MCs g) (e59 : g.1 59 45 = nI R) (eg : ∀ i, i < 24 → g.1 85 i = if R ≤ i ∧ i < R + 1 then nI (ownC (kap k a) a) else h.1 85 i) (F : Fr (fun o k => (o = 59 ∧ k = 45) ∨ o = 85) h g) (hx6 : kap k a ≠ 0 → x6 = nI (upK (kap k a))) : Ok (fX10_byKind_71 (RGK N) P0 P1 P2 P3 (nI b) x x6 (nI (ownC (kap k a) a)) g) (fun q => q.1 = actV (f + 1) bk (nI b) k a x ∧ TrR 59 45 85 h q.2 R (codA (f + 1) bk k a)) := by
  have hκ := (kap_ok k hk a ha).1
  have ed : depA (f + 1) bk k a = (callsC (ownC (kap k a) a)).all (fun w => depA f bk (if w.1 then bk else upK (kap k a)) w.2) := rfl
  have ec : codA (f + 1) bk k a = ownC (kap k a) a :: (callsC (ownC (kap k a) a)).flatMap (fun w => codA f bk (if w.1 then bk else upK (kap k a)) w.2) := rfl
  have cs := own_cs k hk a ha
  have ev : ∀ x, actV (f + 1) bk (nI b) k a x = if ownC (kap k a) a = 1 then x + nI b
    else if ownC (kap k a) a = 2 then actV f bk (nI b) bk 1 x - actV f bk (nI b) bk 2 1
    else if ownC (kap k a) a = 10 then actV f bk (nI b) bk 0 x * 2
    else if ownC (kap k a) a = 11 then x ^^^ nI b
    else if ownC (kap k a) a = 20 then actV f bk (nI b) (upK (kap k a)) 0 x + 3
    else if ownC (kap k a) a = 30 then -actV f bk (nI b) (upK (kap k a)) 1 x
    else if ownC (kap k a) a = 40 then actV f bk (nI b) (upK (kap k a)) 2 x * 3
    else if ownC (kap k a) a = 41 then actV f bk (nI b) (upK (kap k a)) 1 (x + 1)
    else if ownC (kap k a) a = 50 then actV f bk (nI b) (upK (kap k a)) 2 x - actV f bk (nI b) bk 0 2
    else if ownC (kap k a) a = 60 then actV f bk (nI b) (upK (kap k a)) 3 x ^^^ 5
    else if ownC (kap k a) a = 70 then actV f bk (nI b) (upK (kap k a)) 0 x * 2
    else if ownC (kap k a) a = 80 then actV f bk (nI b) (upK (kap k a)) 1 x + actV f bk (nI b) bk 2 2
    else actV f bk (nI b) (upK (kap k a)) 3 x - 1 := fun x => rfl
  have hx : ownC (kap k a) a ≠ 1 → ownC (kap k a) a ≠ 2 → ownC (kap k a) a ≠ 10 → ownC (kap k a) a ≠ 11 → x6 = nI (upK (kap k a)) := fun a1 a2 a3 a4 => hx6 (fun z => by
    rw [z] at a1 a2 a3 a4
    exact own_0 a ha a1 a2 a3 a4)
  clear hx6
  rw [ed] at hd
  rw [ec] at hR
  rw [ec, ev]
  obtain ⟨c, hc⟩ : ∃ c, c = ownC (kap k a) a := ⟨_, rfl⟩
  rw [← hc] at cs hx eg hd hR ⊢
  clear ed ec ev
  obtain ⟨κ, hκe⟩ : ∃ κ, κ = kap k a := ⟨_, rfl⟩
  rw [← hκe] at hx hκ hd hR ⊢
  clear hc hκe
  unfold fX10_byKind_71
  rw [e59, nI_1]
  refine ok_let ?_
  have T1 : TrR 59 45 85 h (wI g 59 45 (nI (R + 1))) R [c] := by
    refine ⟨by rw [wI_rd, if_pos ⟨rfl, rfl⟩]; rfl, fun i hi => ?_, F.w (Or.inl ⟨rfl, rfl⟩)⟩
    rw [wI_rd, if_neg (by omega), eg i hi]
    by_cases q : R ≤ i ∧ i < R + 1
    · rw [if_pos q, if_pos (show R ≤ i ∧ i < R + [c].length from q), show i - R = 0 by omega]
      rfl
    · rw [if_neg q, if_neg (show ¬ (R ≤ i ∧ i < R + [c].length) from q)]
  have f84 : (wI g 59 45 (nI (R + 1))).1 84 b = nI bk := by rw [wI_rd, if_neg (by omega)]; exact e84
  have f59 : (wI g 59 45 (nI (R + 1))).1 59 45 = nI (R + 1) := by rw [wI_rd, if_pos ⟨rfl, rfl⟩]
  have D1 : MCs (wI g 59 45 (nI (R + 1))) := ⟨fun k hk => by rw [wI_rd, if_neg (by omega)]; exact C.1 k hk, fun k hk => by rw [wI_rd, if_neg (by omega)]; exact C.2 k hk⟩
  obtain ⟨h1, eh1⟩ : ∃ h1, h1 = wI g 59 45 (nI (R + 1)) := ⟨_, rfl⟩
  rw [← eh1] at T1 f84 f59 D1 ⊢
  clear eh1
  -- one call, two calls
  have one : ∀ (cs : List Nat) (v : Int32) (h2 : AH), TrR 59 45 85 h1 h2 (R + 1) cs → TrR 59 45 85 h h2 R (c :: cs) := fun cs v h2 t => T1.tr (cs := [c]) t
  have two : ∀ (cs ds : List Nat) (h2 h3 : AH), TrR 59 45 85 h1 h2 (R + 1) cs → TrR 59 45 85 h2 h3 (R + 1 + cs.length) ds → TrR 59 45 85 h h3 R (c :: (cs ++ ds)) := fun cs ds h2 h3 t u => T1.tr (cs := [c]) (t.tr u)
  rcases cs with rfl | rfl | rfl | rfl | rfl | rfl | rfl | rfl | rfl | rfl | rfl | rfl | rfl
  · exact ok_t (by decide) (ok_some ⟨rfl, T1⟩)
  · have hd' : (depA f bk bk 1 && (depA f bk bk 2 && true)) = true := hd
    rw [Bool.and_true, Bool.and_eq_true] at hd'
    have hR' : R + ((codA f bk bk 1 ++ (codA f bk bk 2 ++ [])).length + 1) ≤ 1000 := hR
    rw [List.append_nil, List.length_append] at hR'
    refine ok_f (by decide) (ok_t (by decide) (ok_b2 (m_own (a := 1) H hb hbk hN (by omega) (by decide) hd'.1 f84 D1 f59) (fun v h2 hh => ?_)))
    have i84 : h2.1 84 b = nI bk := by rw [hh.2.2.2.1 84 b (by omega)]; exact f84
    have i59 : h2.1 59 45 = nI (R + 1 + (codA f bk bk 1).length) := hh.2.1
    refine ok_b2 (m_own (a := 2) H hb hbk hN (by omega) (by decide) hd'.2 i84 (D1.tr hh.2) i59) (fun v2 h3 hh2 => ok_some ⟨?_, ?_⟩)
    · show v - v2 = actV f bk (nI b) bk 1 x - actV f bk (nI b) bk 2 1
      rw [show v = _ from hh.1, show v2 = _ from hh2.1]
    · show TrR 59 45 85 h h3 R (2 :: (codA f bk bk 1 ++ (codA f bk bk 2 ++ [])))
      rw [List.append_nil]
      exact two _ _ h2 h3 hh.2 hh2.2
  · have hd' : (depA f bk bk 0 && true) = true := hd
    rw [Bool.and_true] at hd'
    have hR' : R + ((codA f bk bk 0 ++ []).length + 1) ≤ 1000 := hR
    rw [List.append_nil] at hR'
    refine ok_f (by decide) (ok_f (by decide) (ok_t (by decide) (ok_b2 (m_own (a := 0) H hb hbk hN (by omega) (by decide) hd' f84 D1 f59) (fun v h2 hh => ok_some ⟨?_, ?_⟩))))
    · show v * 2 = actV f bk (nI b) bk 0 x * 2
      rw [show v = _ from hh.1]
    · show TrR 59 45 85 h h2 R (10 :: (codA f bk bk 0 ++ []))
      rw [List.append_nil]
      exact one _ v h2 hh.2
  · exact ok_f (by decide) (ok_f (by decide) (ok_f (by decide) (ok_t (by decide) (ok_some ⟨rfl, T1⟩))))
  · have hd' : (depA f bk (upK κ) 0 && true) = true := hd
    rw [Bool.and_true] at hd'
    have hR' : R + ((codA f bk (upK κ) 0 ++ []).length + 1) ≤ 1000 := hR
    rw [List.append_nil] at hR'
    refine ok_f (by decide) (ok_f (by decide) (ok_f (by decide) (ok_f (by decide) (ok_t (by decide) (ok_b2 (m_abv (a := 0) H (hx (by decide) (by decide) (by decide) (by decide)) hκ hN (by omega) (by decide) hd' f84 D1 f59) (fun v h2 hh => ok_some ⟨?_, ?_⟩))))))
    · show v + 3 = actV f bk (nI b) (upK κ) 0 x + 3
      rw [show v = _ from hh.1]
    · show TrR 59 45 85 h h2 R (20 :: (codA f bk (upK κ) 0 ++ []))
      rw [List.append_nil]
      exact one _ v h2 hh.2
  · have hd' : (depA f bk (upK κ) 1 && true) = true := hd
    rw [Bool.and_true] at hd'
    have hR' : R + ((codA f bk (upK κ) 1 ++ []).length + 1) ≤ 1000 := hR
    rw [List.append_nil] at hR'
    refine ok_f (by decide) (ok_f (by decide) (ok_f (by decide) (ok_f (by decide) (ok_f (by decide) (ok_t (by decide) (ok_b2 (m_abv (a := 1) H (hx (by decide) (by decide) (by decide) (by decide)) hκ hN (by omega) (by decide) hd' f84 D1 f59) (fun v h2 hh => ok_some ⟨?_, ?_⟩)))))))
    · show -v = -actV f bk (nI b) (upK κ) 1 x
      rw [show v = _ from hh.1]
    · show TrR 59 45 85 h h2 R (30 :: (codA f bk (upK κ) 1 ++ []))
      rw [List.append_nil]
      exact one _ v h2 hh.2
  · have hd' : (depA f bk (upK κ) 2 && true) = true := hd
    rw [Bool.and_true] at hd'
    have hR' : R + ((codA f bk (upK κ) 2 ++ []).length + 1) ≤ 1000 := hR
    rw [List.append_nil] at hR'
    refine ok_f (by decide) (ok_f (by decide) (ok_f (by decide) (ok_f (by decide) (ok_f (by decide) (ok_f (by decide) (ok_t (by decide) (ok_b2 (m_abv (a := 2) H (hx (by decide) (by decide) (by decide) (by decide)) hκ hN (by omega) (by decide) hd' f84 D1 f59) (fun v h2 hh => ok_some ⟨?_, ?_⟩))))))))
    · show v * 3 = actV f bk (nI b) (upK κ) 2 x * 3
      rw [show v = _ from hh.1]
    · show TrR 59 45 85 h h2 R (40 :: (codA f bk (upK κ) 2 ++ []))
      rw [List.append_nil]
      exact one _ v h2 hh.2
  · have hd' : (depA f bk (upK κ) 1 && true) = true := hd
    rw [Bool.and_true] at hd'
    have hR' : R + ((codA f bk (upK κ) 1 ++ []).length + 1) ≤ 1000 := hR
    rw [List.append_nil] at hR'
    refine ok_f (by decide) (ok_f (by decide) (ok_f (by decide) (ok_f (by decide) (ok_f (by decide) (ok_f (by decide) (ok_f (by decide) (ok_t (by decide) (ok_b2 (m_abv (a := 1) H (hx (by decide) (by decide) (by decide) (by decide)) hκ hN (by omega) (by decide) hd' f84 D1 f59) (fun v h2 hh => ok_some ⟨?_, ?_⟩)))))))))
    · show v = actV f bk (nI b) (upK κ) 1 (x + 1)
      rw [show v = _ from hh.1]
    · show TrR 59 45 85 h h2 R (41 :: (codA f bk (upK κ) 1 ++ []))
      rw [List.append_nil]
      exact one _ v h2 hh.2
  · have hd' : (depA f bk (upK κ) 2 && (depA f bk bk 0 && true)) = true := hd
    rw [Bool.and_true, Bool.and_eq_true] at hd'
    have hR' : R + ((codA f bk (upK κ) 2 ++ (codA f bk bk 0 ++ [])).length + 1) ≤ 1000 := hR
    rw [List.append_nil, List.length_append] at hR'
    refine ok_f (by decide) (ok_f (by decide) (ok_f (by decide) (ok_f (by decide) (ok_f (by decide) (ok_f (by decide) (ok_f (by decide) (ok_f (by decide) (ok_t (by decide) (ok_b2 (m_abv (a := 2) H (hx (by decide) (by decide) (by decide) (by decide)) hκ hN (by omega) (by decide) hd'.1 f84 D1 f59) (fun v h2 hh => ?_))))))))))
    have i84 : h2.1 84 b = nI bk := by rw [hh.2.2.2.1 84 b (by omega)]; exact f84
    have i59 : h2.1 59 45 = nI (R + 1 + (codA f bk (upK κ) 2).length) := hh.2.1
    refine ok_b2 (m_own (a := 0) H hb hbk hN (by omega) (by decide) hd'.2 i84 (D1.tr hh.2) i59) (fun v2 h3 hh2 => ok_some ⟨?_, ?_⟩)
    · show v - v2 = actV f bk (nI b) (upK κ) 2 x - actV f bk (nI b) bk 0 2
      rw [show v = _ from hh.1, show v2 = _ from hh2.1]
    · show TrR 59 45 85 h h3 R (50 :: (codA f bk (upK κ) 2 ++ (codA f bk bk 0 ++ [])))
      rw [List.append_nil]
      exact two _ _ h2 h3 hh.2 hh2.2
  · have hd' : (depA f bk (upK κ) 3 && true) = true := hd
    rw [Bool.and_true] at hd'
    have hR' : R + ((codA f bk (upK κ) 3 ++ []).length + 1) ≤ 1000 := hR
    rw [List.append_nil] at hR'
    refine ok_f (by decide) (ok_f (by decide) (ok_f (by decide) (ok_f (by decide) (ok_f (by decide) (ok_f (by decide) (ok_f (by decide) (ok_f (by decide) (ok_f (by decide) (ok_t (by decide) (ok_b2 (m_abv (a := 3) H (hx (by decide) (by decide) (by decide) (by decide)) hκ hN (by omega) (by decide) hd' f84 D1 f59) (fun v h2 hh => ok_some ⟨?_, ?_⟩)))))))))))
    · show v ^^^ 5 = actV f bk (nI b) (upK κ) 3 x ^^^ 5
      rw [show v = _ from hh.1]
    · show TrR 59 45 85 h h2 R (60 :: (codA f bk (upK κ) 3 ++ []))
      rw [List.append_nil]
      exact one _ v h2 hh.2
  · have hd' : (depA f bk (upK κ) 0 && true) = true := hd
    rw [Bool.and_true] at hd'
    have hR' : R + ((codA f bk (upK κ) 0 ++ []).length + 1) ≤ 1000 := hR
    rw [List.append_nil] at hR'
    refine ok_f (by decide) (ok_f (by decide) (ok_f (by decide) (ok_f (by decide) (ok_f (by decide) (ok_f (by decide) (ok_f (by decide) (ok_f (by decide) (ok_f (by decide) (ok_f (by decide) (ok_t (by decide) (ok_b2 (m_abv (a := 0) H (hx (by decide) (by decide) (by decide) (by decide)) hκ hN (by omega) (by decide) hd' f84 D1 f59) (fun v h2 hh => ok_some ⟨?_, ?_⟩))))))))))))
    · show v * 2 = actV f bk (nI b) (upK κ) 0 x * 2
      rw [show v = _ from hh.1]
    · show TrR 59 45 85 h h2 R (70 :: (codA f bk (upK κ) 0 ++ []))
      rw [List.append_nil]
      exact one _ v h2 hh.2
  · have hd' : (depA f bk (upK κ) 1 && (depA f bk bk 2 && true)) = true := hd
    rw [Bool.and_true, Bool.and_eq_true] at hd'
    have hR' : R + ((codA f bk (upK κ) 1 ++ (codA f bk bk 2 ++ [])).length + 1) ≤ 1000 := hR
    rw [List.append_nil, List.length_append] at hR'
    refine ok_f (by decide) (ok_f (by decide) (ok_f (by decide) (ok_f (by decide) (ok_f (by decide) (ok_f (by decide) (ok_f (by decide) (ok_f (by decide) (ok_f (by decide) (ok_f (by decide) (ok_f (by decide) (ok_t (by decide) (ok_b2 (m_abv (a := 1) H (hx (by decide) (by decide) (by decide) (by decide)) hκ hN (by omega) (by decide) hd'.1 f84 D1 f59) (fun v h2 hh => ?_)))))))))))))
    have i84 : h2.1 84 b = nI bk := by rw [hh.2.2.2.1 84 b (by omega)]; exact f84
    have i59 : h2.1 59 45 = nI (R + 1 + (codA f bk (upK κ) 1).length) := hh.2.1
    refine ok_b2 (m_own (a := 2) H hb hbk hN (by omega) (by decide) hd'.2 i84 (D1.tr hh.2) i59) (fun v2 h3 hh2 => ok_some ⟨?_, ?_⟩)
    · show v + v2 = actV f bk (nI b) (upK κ) 1 x + actV f bk (nI b) bk 2 2
      rw [show v = _ from hh.1, show v2 = _ from hh2.1]
    · show TrR 59 45 85 h h3 R (80 :: (codA f bk (upK κ) 1 ++ (codA f bk bk 2 ++ [])))
      rw [List.append_nil]
      exact two _ _ h2 h3 hh.2 hh2.2
  · have hd' : (depA f bk (upK κ) 3 && true) = true := hd
    rw [Bool.and_true] at hd'
    have hR' : R + ((codA f bk (upK κ) 3 ++ []).length + 1) ≤ 1000 := hR
    rw [List.append_nil] at hR'
    refine ok_f (by decide) (ok_f (by decide) (ok_f (by decide) (ok_f (by decide) (ok_f (by decide) (ok_f (by decide) (ok_f (by decide) (ok_f (by decide) (ok_f (by decide) (ok_f (by decide) (ok_f (by decide) (ok_f (by decide) (ok_b2 (m_abv (a := 3) H (hx (by decide) (by decide) (by decide) (by decide)) hκ hN (by omega) (by decide) hd' f84 D1 f59) (fun v h2 hh => ok_some ⟨?_, ?_⟩)))))))))))))
    · show v - 1 = actV f bk (nI b) (upK κ) 3 x - 1
      rw [show v = _ from hh.1]
    · show TrR 59 45 85 h h2 R (81 :: (codA f bk (upK κ) 3 ++ []))
      rw [List.append_nil]
      exact one _ v h2 hh.2
theorem m_find {f bk b N R k a : Nat} {x P0 P1 P2 P3 : Int32} {h : AH} (H : RunM f bk b) (hb : b < 50) (hbk : bk < 8) (hk : k < 8) (ha : a < 4) (hN : 2 * f + 1 < N) (hR : R + (codA (f + 1) bk k a).length ≤ 1000) (hd : depA (f + 1) bk k a = true) (e84 : h.1 84 b = nI bk) (C : MCs h) (e59 : h.1 59 45 = nI R) : Ok (fX10_byKind_3 (RGK N) P0 P1 P2 P3 FU (nI b) (nI a) x (nI k) h) (fun q => q.1 = actV (f + 1) bk (nI b) k a x ∧ TrR 59 45 85 h q.2 R (codA (f + 1) bk k a)) := by
  have hκ := kap_ok k hk a ha
  refine L4 (f := fX10_byKind_3 (RGK N) P0 P1 P2 P3) (b := fX10_byKind_3_b (RGK N) P0 P1 P2 P3) (fun _ => rfl) (fun r x2 x3 x4 x5 h' => ∃ j, j < 8 ∧ kapF r j a = kap k a ∧ x2 = nI b ∧ x3 = nI a ∧ x4 = x ∧ x5 = nI j ∧ h' = h) ?_ 8 FU (nI b) (nI a) x (nI k) h (by unfold FU; omega) ⟨k, hk, rfl, rfl, rfl, rfl, rfl, rfl⟩
  rintro r x2 x3 x4 x5 h' ⟨j, hj, hkap, rfl, rfl, rfl, rfl, rfl⟩ Q hQ
  unfold fX10_byKind_3_b
  have ex : 4 * nI j + nI a = nI (4 * j + a) := by rw [show (4 : Int32) = nI 4 from rfl, pk_mul, nI_add]
  rw [ex]
  refine ok_t (inb_nI (by omega) (by decide)) ?_
  have ho := own_z j hj a ha
  have um := upK_m j hj
  rw [ix_nI (by omega), ix_nI (by omega), C.2 (4 * j + a) (by omega), own_ST j hj a ha, C.1 j hj, um]
  by_cases q : ownC j a = 0
  · have j0 : j ≠ 0 := fun z => by rw [z] at q; exact own_00 a ha q
    refine ok_t (by rw [q]; rfl) (ok_t (inb_nI hj (by decide)) (ok_let ?_))
    rw [if_neg j0]
    cases r with
    | zero =>
      have e : j = kap k a := hkap
      exact absurd (e ▸ q) hκ.2
    | succ r =>
      have hkap : (if ownC j a = 0 then kapF r (upK j) a else j) = kap k a := hkap
      rw [if_pos q] at hkap
      exact hQ r _ _ _ _ _ (by omega) ⟨upK j, (upK_lt j hj).1, hkap, rfl, rfl, rfl, rfl, rfl⟩
  · have e : j = kap k a := by
      cases r with
      | zero => exact hkap
      | succ r =>
        have hkap : (if ownC j a = 0 then kapF r (upK j) a else j) = kap k a := hkap
        rwa [if_neg q] at hkap
    refine ok_f (nI_ne0 (by omega) (by omega)) (ok_t (inb_nI hj (by decide)) (ok_let (ok_let ?_)))
    have hx : kap k a ≠ 0 → (if j = 0 then (-1 : Int32) else nI (upK j)) = nI (upK (kap k a)) := fun z => by rw [← e] at z ⊢; rw [if_neg z]
    obtain ⟨x6, ex6⟩ : ∃ x6, x6 = (if j = 0 then (-1 : Int32) else nI (upK j)) := ⟨_, rfl⟩
    rw [← ex6] at hx ⊢
    rw [e, e59]
    have hR1 : R < 1000 := by
      have : (codA (f + 1) bk k a).length = ((callsC (ownC (kap k a) a)).flatMap (fun w => codA f bk (if w.1 then bk else upK (kap k a)) w.2)).length + 1 := rfl
      omega
    refine ok_if (fun d1 => ?_) (fun d1 => ?_)
    · rw [show (24 : Int32) = nI 24 from rfl, nI_leI (by omega) (by omega)] at d1
      exact m_71 H hb hbk hk ha hN hR hd e84 C e59 (fun i hi => by rw [if_neg (by omega)]) Fr.rf hx
    · rw [show (24 : Int32) = nI 24 from rfl, nI_leI (by omega) (by omega)] at d1
      refine ok_t (inb_nI (by omega) (by decide)) (ok_let ?_)
      rw [ix_nI (by omega)]
      refine m_71 H hb hbk hk ha hN hR hd (by rw [wI_rd, if_neg (by omega)]; exact e84) ⟨fun k hk => by rw [wI_rd, if_neg (by omega)]; exact C.1 k hk, fun k hk => by rw [wI_rd, if_neg (by omega)]; exact C.2 k hk⟩ (by rw [wI_rd, if_neg (by omega)]; exact e59) (fun i hi => ?_) (Fr.rf.w (Or.inr rfl)) hx
      rw [wI_rd]
      by_cases q : i = R
      · rw [if_pos ⟨rfl, q⟩, if_pos (by omega)]
      · rw [if_neg (fun z => q z.2), if_neg (by omega)]
theorem m_run {bk b : Nat} (hb : b < 50) (hbk : bk < 8) : ∀ f, RunM f bk b
  | 0 => fun N R k a x h _ _ _ _ hd _ _ _ => absurd hd (by show ¬ false = true; decide)
  | f + 1 => fun N R k a x h hN hR hk ha hd e84 C e59 => by
    obtain ⟨N, rfl⟩ : ∃ N', N = N' + 1 := ⟨N - 1, by omega⟩
    rw [RGK_0]
    unfold fX10_byKind
    exact m_find (m_run hb hbk f) hb hbk hk ha (by omega) hR hd e84 C e59
