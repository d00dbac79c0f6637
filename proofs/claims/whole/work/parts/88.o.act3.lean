theorem own_z : ∀ k, k < 8 → ∀ a, a < 4 → ownC k a < 100 := by decide +kernel
theorem c_find {f bk b N D R k a : Nat} {x P0 P1 P2 P3 P4 : Int32} {h : AH} (H : RunC f bk b) (hb : b < 50) (hbk : bk < 8) (hk : k < 8) (ha : a < 4) (hN : 2 * f + 1 < N) (hD : D + 1 + f ≤ 21) (hR : R + (codA (f + 1) bk k a).length ≤ 1000) (hd : depA (f + 1) bk k a = true) (e44 : h.1 44 b = nI bk) (e43 : h.1 43 3 = nI R) : Ok (fX1_run_15 (RGH N) P0 P1 P2 P3 P4 FU (nI b) (nI a) x (nI D) (nI k) 0 h) (fun q => q.1 = actV (f + 1) bk (nI b) k a x ∧ TrR 43 3 45 h q.2 R (codA (f + 1) bk k a)) := by
  have fin := fun P0 P1 P2 P3 P4 => c_49 (x := x) (P0 := P0) (P1 := P1) (P2 := P2) (P3 := P3) (P4 := P4) H hb hbk hk ha hN hD hR hd e44 e43
  refine L6 (f := fX1_run_15 (RGH N) P0 P1 P2 P3 P4) (b := fX1_run_15_b (RGH N) P0 P1 P2 P3 P4) (fun _ => rfl) (fun r x1 x3 x4 x5 x6 x7 h' => ∃ c j, c + r = 8 ∧ j < 8 ∧ kapF r j a = kap k a ∧ x1 = nI b ∧ x3 = nI a ∧ x4 = x ∧ x5 = nI D ∧ x6 = nI j ∧ x7 = nI c ∧ h' = h) ?_ 8 FU (nI b) (nI a) x (nI D) (nI k) 0 h (by unfold FU; omega) ⟨0, k, by omega, hk, rfl, rfl, rfl, rfl, rfl, rfl, rfl, rfl⟩
  rintro r x1 x3 x4 x5 x6 x7 h' ⟨c, j, hc, hj, hkap, rfl, rfl, rfl, rfl, rfl, rfl, rfl⟩ Q hQ
  unfold fX1_run_15_b
  refine ok_if (fun d1 => ?_) (fun d1 => ?_)
  · rw [show (8 : Int32) = nI 8 from rfl, nI_leI (by omega) (by omega)] at d1
    have r0 : r = 0 := by omega
    subst r0
    have e : j = kap k a := hkap
    rw [e]
    exact fin _ _ _ _ _
  · rw [show (8 : Int32) = nI 8 from rfl, nI_leI (by omega) (by omega)] at d1
    obtain ⟨r, rfl⟩ : ∃ r', r = r' + 1 := ⟨r - 1, by omega⟩
    have ex : nI j * 4 + nI a = nI (4 * j + a) := by rw [show (4 : Int32) = nI 4 from rfl, pk_mul, nI_add, Nat.mul_comm]
    rw [ex]
    refine ok_t (inb_nI (by omega) (by decide)) ?_
    rw [ix_nI (by omega), own_ST j hj a ha]
    have hkap : (if ownC j a = 0 then kapF r (upK j) a else j) = kap k a := hkap
    have ho := own_z j hj a ha
    by_cases q : ownC j a = 0
    · rw [if_pos q] at hkap
      refine ok_t (by rw [q]; rfl) (ok_t (inb_nI hj (by decide)) (ok_let ?_))
      rw [ix_nI (by omega), upK_ST j hj, nI_1]
      exact hQ r _ _ _ _ _ _ _ (by omega) ⟨c + 1, upK j, by omega, (upK_lt j hj).1, hkap, rfl, rfl, rfl, rfl, rfl, rfl, rfl⟩
    · rw [if_neg q] at hkap
      refine ok_f (nI_ne0 (by omega) (by omega)) ?_
      rw [hkap]
      exact fin _ _ _ _ _
theorem c_run {bk b : Nat} (hb : b < 50) (hbk : bk < 8) : ∀ f, RunC f bk b
  | 0 => fun N D R k a x h _ _ _ _ _ hd _ _ => absurd hd (by show ¬ false = true; decide)
  | f + 1 => fun N D R k a x h hN hD hR hk ha hd e44 e43 => by
    obtain ⟨N, rfl⟩ : ∃ N', N = N' + 1 := ⟨N - 1, by omega⟩
    rw [RGH_0]
    unfold fX1_run
    show Ok (if nI D ≤ 20 then fX1_run_15 (RGH N) (nI b) (nI k) (nI a) x (nI D) FU (nI b) (nI a) x (nI D) (nI k) 0 h else some (0, h)) _
    refine ok_t (by rw [show (20 : Int32) = nI 20 from rfl, nI_leI (by omega) (by omega)]; omega) ?_
    exact c_find (c_run hb hbk f) hb hbk hk ha (by omega) (by omega) hR hd e44 e43
