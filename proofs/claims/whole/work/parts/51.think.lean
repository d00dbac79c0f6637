/-! ===== guards ===== -/
theorem lit_toInt {a : Nat} (h : a < 2 ^ 31) : (Int32.ofNat a).toInt = a := nI_toInt h
theorem c_isThought (p : Int32) (h : AH) : fX9_isThought p h = some (if 0 ≤ p.toInt ∧ p.toInt ≤ 60 then 1 else 0, h) := by
  unfold fX9_isThought
  simp only [i_lt]
  have e0 : (0 : Int32).toInt = 0 := by decide
  have e6 : (60 : Int32).toInt = 60 := by decide
  rw [e0, e6]
  by_cases h1 : p.toInt < 0
  · rw [if_pos h1, if_neg (by omega)]
  · rw [if_neg h1]
    by_cases h2 : 60 < p.toInt
    · rw [if_pos h2, if_neg (by omega)]
    · rw [if_neg h2, if_pos (by omega)]
theorem c_choice (p : Int32) (h : AH) : fX9_isChoiceOfTwo p h = some (if 0 ≤ p.toInt ∧ p.toInt ≤ 1 then 1 else 0, h) := by
  unfold fX9_isChoiceOfTwo
  simp only [i_eq]
  have e0 : (0 : Int32).toInt = 0 := by decide
  have e1 : (1 : Int32).toInt = 1 := by decide
  rw [e0, e1]
  by_cases h1 : p.toInt = 0
  · rw [if_pos h1, if_pos (by omega)]
  · rw [if_neg h1]
    by_cases h2 : p.toInt = 1
    · rw [if_pos h2, if_pos (by omega)]
    · rw [if_neg h2, if_neg (by omega)]
theorem m_isGuest {h : AH} {n : Nat} (hn : h.1 59 2 = nI n) (hn9 : n ≤ 9) (g : Int32) : fX10_isGuest g h = some (if 0 ≤ g.toInt ∧ g.toInt < n then 1 else 0, h) := by
  unfold fX10_isGuest
  rw [m_isIn, b2_some, hn, show (1 : Int32) = nI 1 from rfl, pk_sub_toInt (by omega) (by omega)]
  have e0 : (0 : Int32).toInt = 0 := by decide
  rw [e0]
  by_cases c : 0 ≤ g.toInt ∧ g.toInt < n
  · rw [if_pos (show 0 ≤ g.toInt ∧ g.toInt ≤ (n : Int) - ((1 : Nat) : Int) by omega), if_pos c]; rfl
  · rw [if_neg (show ¬ (0 ≤ g.toInt ∧ g.toInt ≤ (n : Int) - ((1 : Nat) : Int)) by omega), if_neg c]; rfl
theorem sim_think {f g : AH → Option (Int32 × AH)} (A : Nat → Nat → (Nat → Nat → Int32) → (Nat → Nat → Int32) → Int32 → LawF → Int32)
    (hc : ∀ (n m B : Nat) (num sl : Nat → Nat → Int32) (mn : Int32) (Λ : LawF) (h : AH), TI h n m num sl mn → Oth h n m B Λ → Ok (f h) (fun q => q.1 = A n m num sl mn Λ ∧ Fr Scr h q.2))
    (hm : ∀ (n m B : Nat) (num sl : Nat → Nat → Int32) (mn : Int32) (Λ : LawF) (h : AH), TI h n m num sl mn → Oth h n m B Λ → Ok (g h) (fun q => q.1 = A n m num sl mn Λ ∧ Fr Scr h q.2)) : Sim f g := by
  refine sim_of (fun n m B num sl mn Λ h T O => ?_)
  refine ok_mono (hc n m B num sl mn Λ h T O) (fun q hq => ?_)
  obtain ⟨T1, O1⟩ := scr_t T O hq.2
  refine ok_mono (hm n m B num sl mn Λ q.2 T1 O1) (fun q2 hq2 => ?_)
  obtain ⟨T2, O2⟩ := scr_t T1 O1 hq2.2
  exact ⟨by rw [hq.1, hq2.1], n, m, B, num, sl, mn, Λ, T2, O2⟩
theorem Oth.cl {h : AH} {n m B : Nat} {Λ : LawF} (O : Oth h n m B Λ) : CL h Λ := O.2.2.2.2.2.2.2.1
theorem Oth.ml {h : AH} {n m B : Nat} {Λ : LawF} (O : Oth h n m B Λ) : ML h Λ := O.2.2.2.2.2.2.2.2.1
theorem Oth.ir {h : AH} {n m B : Nat} {Λ : LawF} (O : Oth h n m B Λ) : inR Λ := O.2.2.2.2.2.2.2.2.2
theorem TI.mok {h : AH} {n m : Nat} {num sl : Nat → Nat → Int32} {mn : Int32} (T : TI h n m num sl mn) : mOK h m := Or.inl T.m12
/-- a thought: BEHIND k minutes something is looked at, then all is laid back -/
theorem m_think {β : Type} {n m k : Nat} {sl : Nat → Nat → Int32} {mn : Int32} {num : Nat → Nat → Int32} {h : AH} {f : AH → Option β} {P : β → Prop} (hn9 : n ≤ 9) (hm : mOK h m) (hk : k ≤ 100) (M : MRep h n m num sl mn)
    (hf : ∀ h2, MRep h2 n m (itP n m sl k (num, mn)).1 sl (itP n m sl k (num, mn)).2 → (∀ k, k < 94 → h2.1 61 k = h.1 60 k) → Fr (fun o k => o = 61 ∨ (o = 60 ∧ k < 94)) h h2 → Ok (f h2) P) : Ok (bindV (fX10_keepAll 0 h) fun h1 => bindV (fX10_goMinutes (nI k) h1) fun h2 => f h2) P := by
  refine ok_bV m_keep (fun h1 hh => ?_)
  obtain ⟨k1, F1⟩ := hh
  have M1 : MRep h1 n m num sl mn := M.fr F1 (fun k q => by omega) (fun q => by omega) (fun q => by omega) (fun q => by omega) (fun q => by omega) (fun q => by omega)
  have hm1 : mOK h1 m := by unfold mOK; rw [F1.1 59 3 (by omega)]; exact hm
  refine ok_bV (m_minutes hn9 hm1 hk M1) (fun h2 hh => ?_)
  obtain ⟨M2, F2⟩ := hh
  exact hf h2 M2 (fun k hk => by rw [F2.1 61 k (by omega)]; exact k1 k hk) ((F1.mono (fun o k q => Or.inl q)).tr (F2.mono (fun o k q => Or.inr q)))
/-- the end of a thought -/
theorem m_wake {h h' : AH} {S : Nat → Nat → Prop} {P : AH → Prop} (hS : ∀ o k, S o k → Scr o k ∨ (o = 60 ∧ k < 94)) (k61 : ∀ k, k < 94 → h'.1 61 k = h.1 60 k) (F : Fr S h h') (hP : ∀ h2, Fr Scr h h2 → (∀ o k, ¬ (o = 60 ∧ k < 94) → h2.1 o k = h'.1 o k) → P h2) : Ok (fX10_layAll 0 h') P := by
  refine ok_mono m_layb (fun h2 hh => ?_)
  obtain ⟨k5, F5⟩ := hh
  refine hP h2 ⟨fun o k hs => ?_, F5.2.trans F.2⟩ (fun o k q => F5.1 o k q)
  by_cases e : o = 60 ∧ k < 94
  · rw [e.1, k5 k e.2, k61 k e.2]
  · rw [F5.1 o k e]
    exact F.1 o k (fun q => (hS o k q).elim hs e)
theorem ML.scr {S : Nat → Nat → Prop} {h h' : AH} {Λ : LawF} (hL : ML h Λ) (F : Fr S h h') (hS : ∀ o k, S o k → Scr o k ∨ (o = 60 ∧ k < 94)) : ML h' Λ := hL.fr F (fun o k q z => by
  have := hS o k z
  unfold Scr at this
  omega)
theorem CL.scr {h h' : AH} {Λ : LawF} (hL : CL h Λ) (F : Fr Scr h h') : CL h' Λ := hL.fr F (fun o k q z => by unfold Scr at z; omega)
theorem nI_of_rg {p : Int32} {a : Nat} (h0 : 0 ≤ p.toInt) (h1 : p.toInt ≤ a) (ha : a < 2 ^ 30) : p = nI p.toInt.toNat ∧ p.toInt.toNat ≤ a := ⟨i_eq.mpr (by rw [nI_toInt (by omega)]; omega), by omega⟩
def fstA (Λ : LawF) (n : Nat) (num : Nat → Nat → Int32) (mn : Int32) : Int32 := (srtG (rd Λ n num mn) num 9 n).1
theorem fstA_eq {Λ : LawF} {n : Nat} {num : Nat → Nat → Int32} {mn : Int32} (hn9 : n ≤ 9) (hΛ : inR Λ) : fstA Λ n num mn = if lftN num n = 0 then -2 else nI ((ordL (rd Λ n num mn) num n).getD 0 0) := by
  have hf : ∀ i, 0 ≤ (rd Λ n num mn i).toInt := fun i => (hΛ _ _ _ _ _ _).1
  unfold fstA
  by_cases c : lftN num n = 0
  · rw [if_pos c, srt_none hf]
    intro i hi q
    have := (ordL_mem (rd Λ n num mn) num n i).mpr ⟨hi, q.1⟩
    rw [ordL_nil.mpr c] at this
    exact absurd this List.not_mem_nil
  · rw [if_neg c]
    have hlen := ordL_len (rd Λ n num mn) num n
    have hm := (ordL_mem _ num n _).mp (getD_mem (show 0 < (ordL (rd Λ n num mn) num n).length by omega))
    rw [srt_nxt hn9 hf hm.1 ⟨hm.2, lt9 hm.1 hn9⟩]
    unfold nxt
    rw [if_neg (fun q => lt9 hm.1 hn9 q.1)]
theorem m_firstNow {n m : Nat} {sl : Nat → Nat → Int32} {mn : Int32} {num : Nat → Nat → Int32} {h : AH} {Λ : LawF} (hn9 : n ≤ 9) (hΛ : inR Λ) (M : MRep h n m num sl mn) (hL : ML h Λ) : Ok (fX10_firstNow h) (fun q => q.1 = fstA Λ n num mn ∧ Fr Sl h q.2) := by
  unfold fX10_firstNow
  refine ok_b2 (m_lay hn9 M hL) (fun v h2 hv => ?_)
  obtain ⟨ev, hO, -, F⟩ := hv
  have ev : v = nI (lftN num n) := ev
  have := lftN_le num n
  have i0 : ix (0 : Int32) = 0 := by decide
  rw [fstA_eq hn9 hΛ, ev, i0]
  by_cases c : lftN num n = 0
  · rw [if_pos c, c]
    exact ok_t rfl (ok_some ⟨rfl, F⟩)
  · rw [if_neg c]
    refine ok_f (nI_ne0 (by omega) (by omega)) (ok_some ⟨?_, F⟩)
    exact hO 0 (by rw [ordL_len]; omega)
theorem op_first (p : Int32) : Sim (fX9_first p) (fX10_first p) := by
  refine sim_think (fun n m num sl mn Λ => if 0 ≤ p.toInt ∧ p.toInt ≤ 60 then fstA Λ n (itP n m sl p.toInt.toNat (num, mn)).1 (itP n m sl p.toInt.toNat (num, mn)).2 else -1) (fun n m B num sl mn Λ h T O => ?_) (fun n m B num sl mn Λ h T O => ?_)
  · unfold fX9_first
    rw [c_isThought, b2_some]
    by_cases c : 0 ≤ p.toInt ∧ p.toInt ≤ 60
    · rw [if_pos c, if_pos c]
      refine ok_f (by decide) ?_
      obtain ⟨ep, hp⟩ := nI_of_rg (a := 60) c.1 c.2 (by decide)
      obtain ⟨k, ek⟩ : ∃ k, k = p.toInt.toNat := ⟨_, rfl⟩
      rw [← ek] at ep hp ⊢
      rw [ep]
      refine ok_bV (c_start T.n9 T.m12 T.by (by omega) T.c) (fun h1 hh => ?_)
      obtain ⟨C1, F1⟩ := hh
      have F1 := F1.mono St_scr
      refine ok_b2 (c_sorriest (Or.inr rfl) T.n9 (it_gone k _ T.gone) C1 (O.cl.scr F1)) (fun v h2 hv => ?_)
      exact ok_some ⟨hv.1, F1.tr (hv.2.mono (fun o k q => St_scr o k (Or.inl q)))⟩
    · rw [if_neg c, if_neg c]
      exact ok_t rfl (ok_some ⟨rfl, Fr.rf⟩)
  · unfold fX10_first
    rw [m_isIn, b2_some]
    have e0 : (0 : Int32).toInt = 0 := by decide
    have e6 : (60 : Int32).toInt = 60 := by decide
    rw [e0, e6]
    by_cases c : 0 ≤ p.toInt ∧ p.toInt ≤ 60
    · rw [if_pos c, if_pos c]
      refine ok_f (by decide) ?_
      obtain ⟨ep, hp⟩ := nI_of_rg (a := 60) c.1 c.2 (by decide)
      obtain ⟨k, ek⟩ : ∃ k, k = p.toInt.toNat := ⟨_, rfl⟩
      rw [← ek] at ep hp ⊢
      rw [ep]
      refine m_think T.n9 T.mok (by omega) T.m (fun h2 M2 k61 F2 => ?_)
      have hS2 : ∀ o k, (o = 61 ∨ (o = 60 ∧ k < 94)) → Scr o k ∨ (o = 60 ∧ k < 94) := fun o k q => by unfold Scr; omega
      refine ok_b2 (m_firstNow T.n9 O.ir M2 (O.ml.scr F2 hS2)) (fun v h3 hv => ?_)
      have F3 : Fr (fun o k => Scr o k ∨ (o = 60 ∧ k < 94)) h h3 := (F2.mono hS2).tr (hv.2.mono (fun o k q => Or.inl (Sq_scr o k (Or.inl q))))
      refine ok_bV (m_wake (h := h) (S := fun o k => Scr o k ∨ (o = 60 ∧ k < 94)) (P := fun h5 => Fr Scr h h5) (fun o k q => q) (fun k hk => ?_) F3 (fun h5 F5 _ => F5)) (fun h5 F5 => ok_some ⟨hv.1, F5⟩)
      rw [hv.2.1 61 k (fun q => by unfold Sl Sg at q; omega)]
      exact k61 k hk
    · rw [if_neg c, if_neg c]
      exact ok_t rfl (ok_some ⟨rfl, Fr.rf⟩)
