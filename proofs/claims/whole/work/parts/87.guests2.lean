theorem c_comes {n m c s z : Nat} {num sl : Nat → Nat → Int32} {mn p : Int32} {E : Nat → Int32} {h : AH} (hs : s < 6) (hm : m ≤ 12) (hc : c ≤ 8) (hn : n + c ≤ 9) (hz : z ≤ 60) (ez : h.1 (47 + 2 * s) 3 = nI z) (hE : ∀ k, k < 60 → (h.2 (48 + 2 * s) k).toInt32 = E k) (p0 : 0 ≤ p.toInt) (C : CT h (n + c) m num sl mn) : Ok (fX9_guestComes (47 + 2 * s) (adr64 p (nI c)) h) (fun q => (gOk E p.toInt.toNat z n c ∧ q.1 = 1 ∧ CT q.2 (n + c + 1) m (nu5 num (n + c) (E (p.toInt.toNat + 4 * c)) (E (p.toInt.toNat + 4 * c + 1)) (E (p.toInt.toNat + 4 * c + 2)) (E (p.toInt.toNat + 4 * c + 3)) 7) sl mn ∧ Fr (fun o k => 1 ≤ o ∧ o ≤ 10) h q.2) ∨ (¬ gOk E p.toInt.toNat z n c ∧ q.1 = 0 ∧ q.2 = h)) := by
  obtain ⟨t1, t2⟩ := adr_toInt (p := p) (c := c) (by omega)
  have e0 : (0 : Int64).toInt = 0 := by decide
  have rS := rfS s hs
  have ezz : ((nI z).toInt64).toInt = z := by rw [Int32.toInt_toInt64, nI_toInt (by omega)]
  unfold fX9_guestComes
  rw [ez, C.1.1]
  refine ok_f (by rw [lg_lt, t1, e0]; omega) ?_
  refine ok_if (fun d1 => ?_) (fun d1 => ?_)
  · rw [lg_ge, t2, ezz] at d1
    exact ok_some (Or.inr ⟨fun q => by have := q.1; omega, rfl, rfl⟩)
  · rw [lg_ge, t2, ezz] at d1
    refine ok_if (fun d2 => ?_) (fun d2 => ?_)
    · rw [show (9 : Int32) = nI 9 from rfl, nI_ltI (by omega) (by omega)] at d2
      refine ok_let ?_
      rw [adr_32 (by omega) p0 (by omega)]
      obtain ⟨A, eA⟩ : ∃ A, A = p.toInt.toNat + 4 * c := ⟨_, rfl⟩
      rw [← eA]
      have hA : A + 3 < z := by omega
      refine L2 (f := fX9_guestComes_41 (47 + 2 * s) (adr64 p (nI c))) (b := fX9_guestComes_41_b (47 + 2 * s) (adr64 p (nI c))) (fun _ => rfl) (fun r x y h' => ∃ k, k + r = 4 ∧ x = nI A ∧ y = nI k ∧ h' = h ∧ ∀ i, i < k → rgK i (E (A + i))) ?_ 4 FU (nI A) 0 h (by unfold FU; omega) ⟨0, by omega, rfl, rfl, rfl, fun i hi => by omega⟩
      rintro r x y h' ⟨k, hk, rfl, rfl, rfl, hr⟩ Q hQ
      unfold fX9_guestComes_41_b
      rw [rS.2]
      refine ok_if (fun d3 => ?_) (fun d3 => ?_)
      · rw [show (3 : Int32) = nI 3 from rfl, nI_ltI (by omega) (by omega)] at d3
        have k4 : k = 4 := by omega
        subst k4
        have g : gOk E p.toInt.toNat z n c := by
          unfold gOk
          rw [← eA]
          exact ⟨hA, d2, hr 0 (by omega), hr 1 (by omega), hr 2 (by omega), hr 3 (by omega)⟩
        have ex : nI A + 3 = nI (A + 3) := by rw [show (3 : Int32) = nI 3 from rfl, nI_add]
        rw [ex]
        refine ok_t (inb_nI (by omega) (by decide)) ?_
        rw [ix_nI (by omega), hE (A + 3) (by omega)]
        refine ok_bv (v := nI (n + c)) (S := fun h2 => CT h2 (n + c + 1) m (nuG num (n + c) (E (A + 3)) 7) sl mn ∧ Fr (fun o k => (o = 1 ∧ k = 9) ∨ (2 ≤ o ∧ o ≤ 7)) h' h2) (c_addGuest d2 C) (fun h1 hh => ?_)
        obtain ⟨C1, F1⟩ := hh
        -- three numbers are laid
        have step : ∀ (k : Nat) (nu : Nat → Nat → Int32) (h2 : AH) (v : Int32), k < 3 → CT h2 (n + c + 1) m nu sl mn → CT (cput h2 (n + c) k v) (n + c + 1) m (setN nu (n + c) k v) sl mn := by
          intro k nu h2 v hk C2
          have := CT_put (a := n + c) (w := k) (v := v) C2 (by unfold vld; omega)
          have e1 : nuP nu (n + c) k v = setN nu (n + c) k v := by unfold nuP; rw [if_pos (by omega)]
          have e2 : slP sl (n + c) k v = sl := by unfold slP; rw [if_neg (by omega)]
          have e3 : mnP mn k v = mn := by unfold mnP; rw [if_neg (by omega)]
          rw [e1, e2, e3] at this
          exact this
        refine L3 (f := fX9_guestComes_98 (47 + 2 * s) (adr64 p (nI c))) (b := fX9_guestComes_98_b (47 + 2 * s) (adr64 p (nI c))) (fun _ => rfl) (fun r x y w h2 => ∃ k, k + r = 3 ∧ x = nI A ∧ y = nI (n + c) ∧ w = nI k ∧ CT h2 (n + c + 1) m (if k = 0 then nuG num (n + c) (E (A + 3)) 7 else if k = 1 then setN (nuG num (n + c) (E (A + 3)) 7) (n + c) 0 (E A) else if k = 2 then setN (setN (nuG num (n + c) (E (A + 3)) 7) (n + c) 0 (E A)) (n + c) 1 (E (A + 1)) else setN (setN (setN (nuG num (n + c) (E (A + 3)) 7) (n + c) 0 (E A)) (n + c) 1 (E (A + 1))) (n + c) 2 (E (A + 2))) sl mn ∧ Fr (fun o k => 1 ≤ o ∧ o ≤ 10) h' h2) ?_ 3 FU (nI A) (nI (n + c)) 0 h1 (by unfold FU; omega) ⟨0, by omega, rfl, rfl, rfl, by rw [if_pos rfl]; exact C1, F1.mono (fun o k q => by omega)⟩
        rintro r2 x y w h2 ⟨k, hk, rfl, rfl, rfl, C2, F2⟩ Q2 hQ2
        unfold fX9_guestComes_98_b
        rw [rS.2]
        refine ok_if (fun d4 => ?_) (fun d4 => ?_)
        · rw [show (3 : Int32) = nI 3 from rfl, nI_leI (by omega) (by omega)] at d4
          rw [if_neg (by omega), if_neg (by omega), if_neg (by omega), nu5_eq] at C2
          exact ok_some (Or.inl ⟨g, rfl, C2, F2⟩)
        · rw [show (3 : Int32) = nI 3 from rfl, nI_leI (by omega) (by omega)] at d4
          rw [nI_add]
          refine ok_t (inb_nI (by omega) (by decide)) ?_
          rw [ix_nI (by omega), F2.2, hE (A + k) (by omega), c_setN (by omega) hm C2 (show vld (n + c + 1) m (n + c) k by unfold vld; omega), bV_some, nI_1]
          refine hQ2 (r2 - 1) _ _ _ _ (by omega) ⟨k + 1, by omega, rfl, rfl, rfl, ?_, cput_fr F2 (fun o k q => q) (by omega)⟩
          have C3 := step k _ h2 (E (A + k)) (by omega) C2
          have kc : k = 0 ∨ k = 1 ∨ k = 2 := by omega
          rcases kc with rfl | rfl | rfl
          · exact C3
          · exact C3
          · exact C3
      · rw [show (3 : Int32) = nI 3 from rfl, nI_ltI (by omega) (by omega)] at d3
        rw [nI_add]
        refine ok_t (inb_nI (by omega) (by decide)) ?_
        rw [ix_nI (by omega), hE (A + k) (by omega), c_isWithin (K := nI k) (k := k) rfl (by omega), b2_some]
        by_cases q : (ST 200 k).toInt ≤ (E (A + k)).toInt ∧ (E (A + k)).toInt ≤ (ST 201 k).toInt
        · rw [if_pos q]
          refine ok_f (by decide) ?_
          rw [nI_1]
          refine hQ (r - 1) _ _ _ (by omega) ⟨k + 1, by omega, rfl, rfl, rfl, fun i hi => ?_⟩
          by_cases e : i = k
          · rw [e]; exact q
          · exact hr i (by omega)
        · rw [if_neg q]
          refine ok_t rfl (ok_some (Or.inr ⟨fun g => q ?_, rfl, rfl⟩))
          unfold gOk at g
          rw [← eA] at g
          have kc : k = 0 ∨ k = 1 ∨ k = 2 ∨ k = 3 := by omega
          rcases kc with rfl | rfl | rfl | rfl
          · exact g.2.2.1
          · exact g.2.2.2.1
          · exact g.2.2.2.2.1
          · exact g.2.2.2.2.2
    · rw [show (9 : Int32) = nI 9 from rfl, nI_ltI (by omega) (by omega)] at d2
      exact ok_some (Or.inr ⟨fun q => by have := q.2.1; omega, rfl, rfl⟩)
