/-! ===== the order as a list ===== -/
def bef (f : Nat → Int32) (a b : Nat) : Prop := (f b).toInt < (f a).toInt ∨ ((f a).toInt = (f b).toInt ∧ a < b)
def insL (f : Nat → Int32) (c : Nat) : List Nat → List Nat
  | [] => [c]
  | x :: xs => if (f x).toInt < (f c).toInt then c :: x :: xs else x :: insL f c xs
def ordL (f : Nat → Int32) (num : Nat → Nat → Int32) : Nat → List Nat
  | 0 => []
  | i + 1 => if num i 5 = 0 then insL f i (ordL f num i) else ordL f num i
theorem insL_len (f : Nat → Int32) (c : Nat) : ∀ L : List Nat, (insL f c L).length = L.length + 1
  | [] => rfl
  | x :: xs => by
    unfold insL
    split
    · rfl
    · show (insL f c xs).length + 1 = _
      rw [insL_len f c xs]; rfl
theorem insL_mem (f : Nat → Int32) (c z : Nat) : ∀ L : List Nat, z ∈ insL f c L ↔ z = c ∨ z ∈ L
  | [] => by simp [insL]
  | x :: xs => by
    unfold insL
    split
    · simp
    · rw [List.mem_cons, insL_mem f c z xs, List.mem_cons]
      constructor
      · rintro (h | h | h)
        · exact Or.inr (Or.inl h)
        · exact Or.inl h
        · exact Or.inr (Or.inr h)
      · rintro (h | h | h)
        · exact Or.inr (Or.inl h)
        · exact Or.inl h
        · exact Or.inr (Or.inr h)
theorem bef_tr {f : Nat → Int32} {a b c : Nat} (h1 : bef f a b) (h2 : bef f b c) : bef f a c := by
  unfold bef at *
  omega
theorem insL_srt (f : Nat → Int32) (c : Nat) : ∀ L : List Nat, (∀ z ∈ L, z < c) → L.Pairwise (bef f) → (insL f c L).Pairwise (bef f)
  | [], _, _ => by simp [insL]
  | x :: xs, hlt, hp => by
    have hp' := List.pairwise_cons.mp hp
    unfold insL
    split
    · rename_i h1
      refine List.pairwise_cons.mpr ⟨fun z hz => ?_, hp⟩
      have hcx : bef f c x := Or.inl h1
      rcases List.mem_cons.mp hz with rfl | hz
      · exact hcx
      · exact bef_tr hcx (hp'.1 z hz)
    · rename_i h1
      refine List.pairwise_cons.mpr ⟨fun z hz => ?_, insL_srt f c xs (fun z hz => hlt z (List.mem_cons_of_mem _ hz)) hp'.2⟩
      rcases (insL_mem f c z xs).mp hz with rfl | hz
      · have := hlt x List.mem_cons_self
        unfold bef
        omega
      · exact hp'.1 z hz
theorem ordL_mem (f : Nat → Int32) (num : Nat → Nat → Int32) : ∀ (c z : Nat), z ∈ ordL f num c ↔ z < c ∧ num z 5 = 0
  | 0, z => by simp [ordL]
  | c + 1, z => by
    unfold ordL
    split
    · rename_i h1
      rw [insL_mem, ordL_mem f num c z]
      constructor
      · rintro (rfl | ⟨a, b⟩)
        · exact ⟨by omega, h1⟩
        · exact ⟨by omega, b⟩
      · rintro ⟨a, b⟩
        by_cases h : z = c
        · exact Or.inl h
        · exact Or.inr ⟨by omega, b⟩
    · rename_i h1
      rw [ordL_mem f num c z]
      constructor
      · rintro ⟨a, b⟩
        exact ⟨by omega, b⟩
      · rintro ⟨a, b⟩
        refine ⟨?_, b⟩
        by_cases h : z = c
        · subst h; exact absurd b h1
        · omega
theorem ordL_srt (f : Nat → Int32) (num : Nat → Nat → Int32) : ∀ c : Nat, (ordL f num c).Pairwise (bef f)
  | 0 => by simp [ordL]
  | c + 1 => by
    unfold ordL
    split
    · exact insL_srt f c _ (fun z hz => ((ordL_mem f num c z).mp hz).1) (ordL_srt f num c)
    · exact ordL_srt f num c
theorem ordL_len (f : Nat → Int32) (num : Nat → Nat → Int32) : ∀ c : Nat, (ordL f num c).length = lftN num c
  | 0 => rfl
  | c + 1 => by
    show (if num c 5 = 0 then insL f c (ordL f num c) else ordL f num c).length = lftN num c + (if num c 5 = 0 then 1 else 0)
    split
    · rw [insL_len, ordL_len f num c]
    · rw [ordL_len f num c]; rfl
theorem insL_eq (f : Nat → Int32) (c : Nat) : ∀ (L : List Nat) (k : Nat), k ≤ L.length → (∀ j, j < k → ¬ (f (L.getD j 0)).toInt < (f c).toInt) → (∀ j, k ≤ j → j < L.length → (f (L.getD j 0)).toInt < (f c).toInt) → insL f c L = L.take k ++ c :: L.drop k
  | [], k, hk, _, _ => by
    have : k = 0 := by simpa using hk
    subst this
    rfl
  | x :: xs, 0, _, _, h2 => by
    have := h2 0 (Nat.le_refl 0) (by simp)
    have : (f x).toInt < (f c).toInt := this
    unfold insL
    rw [if_pos this]
    rfl
  | x :: xs, k + 1, hk, h1, h2 => by
    have := h1 0 (by omega)
    have : ¬ (f x).toInt < (f c).toInt := this
    unfold insL
    rw [if_neg this, insL_eq f c xs k (by simpa using hk) (fun j hj => h1 (j + 1) (by omega)) (fun j hj hl => h2 (j + 1) (by omega) (by simpa using hl))]
    rfl
theorem ins_getD (L : List Nat) (c k j : Nat) (hk : k ≤ L.length) : (L.take k ++ c :: L.drop k).getD j 0 = if j < k then L.getD j 0 else if j = k then c else L.getD (j - 1) 0 := by
  have hl : (L.take k).length = k := by simp; omega
  rw [List.getD_eq_getElem?_getD]
  by_cases h1 : j < k
  · rw [if_pos h1, List.getElem?_append_left (by omega), List.getElem?_take_of_lt h1, List.getD_eq_getElem?_getD]
  · rw [if_neg h1, List.getElem?_append_right (by omega), hl]
    by_cases h2 : j = k
    · subst h2
      rw [if_pos rfl, Nat.sub_self]
      rfl
    · rw [if_neg h2]
      have e : j - k = (j - 1 - k) + 1 := by omega
      rw [e, List.getElem?_cons_succ, List.getElem?_drop, List.getD_eq_getElem?_getD]
      have e2 : k + (j - 1 - k) = j - 1 := by omega
      rw [e2]
theorem pw_getD {f : Nat → Int32} : ∀ {L : List Nat} {a b : Nat}, L.Pairwise (bef f) → a < b → b < L.length → bef f (L.getD a 0) (L.getD b 0)
  | [], _, _, _, _, h => by simp at h
  | x :: xs, 0, b + 1, hp, _, hb => by
    have hb' : b < xs.length := by simpa using hb
    have e : (x :: xs).getD (b + 1) 0 = xs.getD b 0 := rfl
    rw [e]
    refine (List.pairwise_cons.mp hp).1 _ ?_
    rw [List.getD_eq_getElem?_getD, List.getElem?_eq_getElem hb']
    exact List.getElem_mem hb'
  | x :: xs, a + 1, b + 1, hp, hab, hb => by
    show bef f (xs.getD a 0) (xs.getD b 0)
    exact pw_getD (List.pairwise_cons.mp hp).2 (by omega) (by simpa using hb)
theorem getD_mem {L : List Nat} {k : Nat} (hk : k < L.length) : L.getD k 0 ∈ L := by
  rw [List.getD_eq_getElem?_getD, List.getElem?_eq_getElem hk]
  exact List.getElem_mem hk
def Sl (o k : Nat) : Prop := Sg o k ∨ o = 72 ∨ o = 73
def OrdA (h : AH) (L : List Nat) : Prop := ∀ k, k < L.length → h.1 72 k = nI (L.getD k 0)
theorem MRep.fr {S : Nat → Nat → Prop} {h h' : AH} {n m : Nat} {num sl : Nat → Nat → Int32} {mn : Int32} (M : MRep h n m num sl mn) (F : Fr S h h') (hS : ∀ k, ¬ S 60 k) (h2 : ¬ S 59 2) (h3 : ¬ S 59 3) (h23 : ¬ S 59 23) (h24 : ¬ S 59 24) (h25 : ¬ S 59 25) : MRep h' n m num sl mn := by
  obtain ⟨a, b, c, d⟩ := M
  have e60 : ∀ k, h'.1 60 k = h.1 60 k := fun k => F.1 60 k (hS k)
  refine ⟨(F.1 _ _ h2).trans a, fun i hi k hk => (e60 _).trans (b i hi k hk), (e60 _).trans c, ?_⟩
  rcases d with ⟨d1, d2, d3⟩ | ⟨m', d1, d2, d3, d4, d5, d6⟩
  · exact Or.inl ⟨(F.1 _ _ h23).trans d1, (F.1 _ _ h3).trans d2, fun s hs j hj => (e60 _).trans (d3 s hs j hj)⟩
  · exact Or.inr ⟨m', d1, (F.1 _ _ h3).trans d2, fun s hs j hj => (e60 _).trans (d3 s hs j hj), by rw [F.1 _ _ h23]; exact d4, by rw [F.1 _ _ h24]; exact d5, by rw [F.1 _ _ h25]; exact d6⟩
theorem m_layin {c : Nat} {f : Nat → Int32} {num : Nat → Nat → Int32} {h0 : AH} {Q : Int32 → Int32 → AH → Option (Int32 × AH)} {P : Int32 × AH → Prop} (hc : c < 9) (hlc : ∀ z ∈ ordL f num c, z < c)
    (hQ : ∀ h, OrdA h (insL f c (ordL f num c)) → (∀ i, i ≤ c → h.1 73 i = f i) → Fr Sl h0 h → Ok (Q (nI ((ordL f num c).length + 1)) (nI (c + 1)) h) P) :
    ∀ (k F : Nat) (h : AH), k < F → k ≤ (ordL f num c).length → (∀ j, j < k → h.1 72 j = nI ((ordL f num c).getD j 0)) → (∀ j, k ≤ j → j < (ordL f num c).length → h.1 72 (j + 1) = nI ((ordL f num c).getD j 0) ∧ (f ((ordL f num c).getD j 0)).toInt < (f c).toInt) → (∀ i, i ≤ c → h.1 73 i = f i) → Fr Sl h0 h → Ok (fX10_lay_33 Q F (nI (ordL f num c).length) (nI c) (nI k) h) P := by
  have hlen : (ordL f num c).length ≤ c := by rw [ordL_len]; exact lftN_le num c
  have fin : ∀ (k : Nat) (h : AH), k ≤ (ordL f num c).length → (∀ j, j < k → h.1 72 j = nI ((ordL f num c).getD j 0)) → (∀ j, k ≤ j → j < (ordL f num c).length → h.1 72 (j + 1) = nI ((ordL f num c).getD j 0) ∧ (f ((ordL f num c).getD j 0)).toInt < (f c).toInt) → (∀ i, i ≤ c → h.1 73 i = f i) → Fr Sl h0 h → (∀ j, j < k → ¬ (f ((ordL f num c).getD j 0)).toInt < (f c).toInt) → Ok (fX10_lay_79 Q (nI (ordL f num c).length) (nI c) (nI k) h) P := by
    intro k h hk h1 h2 h3 hF h4
    unfold fX10_lay_79
    refine ok_t (inb_nI (by omega) (by decide)) (ok_let ?_)
    rw [ix_nI (show k < 2 ^ 31 by omega), nI_1, nI_1]
    refine hQ _ ?_ (fun i hi => ?_) (hF.w (Or.inr (Or.inl rfl)))
    · intro j hj
      rw [insL_eq f c _ k hk h4 (fun j h5 h6 => (h2 j h5 h6).2), ins_getD _ _ _ _ hk, wI_rd]
      rw [insL_len] at hj
      by_cases e1 : j = k
      · subst e1
        rw [if_pos ⟨rfl, rfl⟩, if_neg (by omega), if_pos rfl]
      · rw [if_neg (by omega)]
        by_cases e2 : j < k
        · rw [if_pos e2]; exact h1 j e2
        · rw [if_neg e2, if_neg e1]
          have := (h2 (j - 1) (by omega) (by omega)).1
          rw [show j - 1 + 1 = j by omega] at this
          exact this
    · rw [wI_rd, if_neg (by omega)]; exact h3 i hi
  intro k
  induction k with
  | zero =>
    intro F h hF hk h1 h2 h3 hFr
    obtain ⟨F, rfl⟩ : ∃ F', F = F' + 1 := ⟨F - 1, by omega⟩
    show Ok (fX10_lay_33_b Q (fX10_lay_33 Q F) _ _ _ h) P
    unfold fX10_lay_33_b
    exact ok_t (by decide) (fin 0 h hk h1 h2 h3 hFr (fun j hj => by omega))
  | succ k ih =>
    intro F h hF hk h1 h2 h3 hFr
    obtain ⟨F, rfl⟩ : ∃ F', F = F' + 1 := ⟨F - 1, by omega⟩
    show Ok (fX10_lay_33_b Q (fX10_lay_33 Q F) _ _ _ h) P
    unfold fX10_lay_33_b
    refine ok_f (nI_nle (by omega) (by omega)) ?_
    have hkl : k < (ordL f num c).length := by omega
    have hz := hlc _ (getD_mem hkl)
    have e72 := h1 k (by omega)
    rw [nI_pred, pk_m1, ix_nI (show k < 2 ^ 31 by omega), ix_nI (show k + 1 < 2 ^ 31 by omega), ix_nI (show c < 2 ^ 31 by omega), e72, ix_nI (show (ordL f num c).getD k 0 < 2 ^ 31 by omega), h3 c (Nat.le_refl c), h3 _ (Nat.le_of_lt hz)]
    refine ok_t (inb_nI (by omega) (by decide)) (ok_t (inb_nI (by omega) (by decide)) (ok_t (inb_nI (by omega) (by decide)) ?_))
    refine ok_if (fun c1 => ?_) (fun c1 => ?_)
    · rw [i_le] at c1
      refine fin (k + 1) h hk h1 h2 h3 hFr (fun j hj => ?_)
      by_cases e : j = k
      · subst e; omega
      · have := pw_getD (ordL_srt f num c) (show j < k by omega) hkl
        unfold bef at this
        omega
    · rw [i_le] at c1
      refine ok_t (inb_nI (by omega) (by decide)) (ok_let ?_)
      refine ih F _ (by omega) (by omega) (fun j hj => ?_) (fun j hj hl => ?_) (fun i hi => ?_) (hFr.w (Or.inr (Or.inl rfl)))
      · rw [wI_rd, if_neg (by omega)]; exact h1 j (by omega)
      · by_cases e : j = k
        · subst e
          rw [wI_rd, if_pos ⟨rfl, rfl⟩]
          exact ⟨rfl, by omega⟩
        · rw [wI_rd, if_neg (by omega)]; exact h2 j (by omega) hl
      · rw [wI_rd, if_neg (by omega)]; exact h3 i hi
/-- the model's order is laid -/
theorem m_lay {n m : Nat} {sl : Nat → Nat → Int32} {mn : Int32} {num : Nat → Nat → Int32} {h : AH} {Λ : LawF} (hn9 : n ≤ 9) (M : MRep h n m num sl mn) (hL : ML h Λ) : Ok (fX10_lay h) (fun q => q.1 = nI (lftN num n) ∧ OrdA q.2 (ordL (rd Λ n num mn) num n) ∧ (∀ i, i < n → q.2.1 73 i = rd Λ n num mn i) ∧ Fr Sl h q.2) := by
  unfold fX10_lay
  refine L2 (f := fX10_lay_4) (b := fX10_lay_4_b) (fun _ => rfl) (fun r x y h' => ∃ c, c + r = n ∧ x = nI (ordL (rd Λ n num mn) num c).length ∧ y = nI c ∧ OrdA h' (ordL (rd Λ n num mn) num c) ∧ (∀ i, i < c → h'.1 73 i = rd Λ n num mn i) ∧ Fr Sl h h') ?_ n FU 0 0 h (by unfold FU; omega) ⟨0, by omega, rfl, rfl, fun k hk => by simp [ordL] at hk, fun i hi => by omega, Fr.rf⟩
  rintro r x y h' ⟨c, hc, rfl, rfl, hO, h73, hF⟩ Q hQ
  have M' : MRep h' n m num sl mn := M.fr hF (fun k q => by unfold Sl Sg at q; omega) (fun q => by unfold Sl Sg at q; omega) (fun q => by unfold Sl Sg at q; omega) (fun q => by unfold Sl Sg at q; omega) (fun q => by unfold Sl Sg at q; omega) (fun q => by unfold Sl Sg at q; omega)
  unfold fX10_lay_4_b
  rw [M'.1]
  refine ok_if (fun c1 => ?_) (fun c1 => ?_)
  · rw [nI_leI (by omega) (by omega)] at c1
    have : c = n := by omega
    subst this
    exact ok_some ⟨by rw [ordL_len], hO, h73, hF⟩
  · rw [nI_leI (by omega) (by omega)] at c1
    have fs : ∀ o k, (o = 59 ∧ (k = 14 ∨ k = 15)) ∨ o = 68 ∨ o = 71 → h'.1 o k = h.1 o k := fun o k q => hF.1 o k (fun z => by unfold Sl Sg at z; omega)
    refine ok_b2 (hL n m num sl mn h' hn9 M' (fs 59 14 (by omega)) (fs 59 15 (by omega)) (by funext k; exact fs 68 k (by omega)) (by funext k; exact fs 71 k (by omega)) c (by omega)) (fun v h2 hv => ?_)
    obtain ⟨e1, F2⟩ := hv
    have e1 : v = rd Λ n num mn c := e1
    have F2g : Fr Sg h' h2 := F2
    have F2 : Fr Sl h' h2 := F2.mono (fun o k q => Or.inl q)
    refine ok_t (inb_nI (by omega) (by decide)) (ok_let ?_)
    rw [ix_nI (show c < 2 ^ 31 by omega), m_isHere (by omega), b2_some, wI_rd, if_neg (show ¬ (60 = 73 ∧ 6 * c + 5 = c) by omega)]
    have e60 : h2.1 60 (6 * c + 5) = num c 5 := by
      rw [F2.1 60 _ (fun z => by unfold Sl Sg at z; omega)]
      exact M'.2.1 c (by omega) 5 (by decide)
    rw [e60, e1]
    have F3 : Fr Sl h (wI h2 73 c (rd Λ n num mn c)) := (hF.tr F2).w (Or.inr (Or.inr rfl))
    have g73 : ∀ i, i ≤ c → (wI h2 73 c (rd Λ n num mn c)).1 73 i = rd Λ n num mn i := by
      intro i hi
      rw [wI_rd]
      by_cases e : i = c
      · rw [if_pos ⟨rfl, e⟩, e]
      · rw [if_neg (by omega), F2g.1 73 i (fun z => by unfold Sg at z; omega), h73 i (by omega)]
    have g72 : OrdA (wI h2 73 c (rd Λ n num mn c)) (ordL (rd Λ n num mn) num c) := by
      intro k hk
      rw [wI_rd, if_neg (by omega), F2g.1 72 k (fun z => by unfold Sg at z; omega)]
      exact hO k hk
    by_cases q : num c 5 = 0
    · rw [if_pos q]
      refine ok_f (by decide) ?_
      have eo : ordL (rd Λ n num mn) num (c + 1) = insL (rd Λ n num mn) c (ordL (rd Λ n num mn) num c) := by
        show (if num c 5 = 0 then _ else _) = _
        rw [if_pos q]
      refine m_layin (h0 := h) (by omega) (fun z hz => ((ordL_mem _ num c z).mp hz).1) (fun h4 hO4 h73' hF4 => ?_) _ FU _ ?_ (Nat.le_refl _) g72 (fun j h5 h6 => by omega) g73 F3
      · refine hQ (r - 1) _ _ _ (by omega) ⟨c + 1, by omega, by rw [eo, insL_len], rfl, by rw [eo]; exact hO4, fun i hi => h73' i (by omega), hF4⟩
      · rw [ordL_len]
        have := lftN_le num c
        unfold FU
        omega
    · rw [if_neg q]
      refine ok_t rfl ?_
      rw [nI_1]
      have eo : ordL (rd Λ n num mn) num (c + 1) = ordL (rd Λ n num mn) num c := by
        show (if num c 5 = 0 then _ else _) = _
        rw [if_neg q]
      exact hQ (r - 1) _ _ _ (by omega) ⟨c + 1, by omega, by rw [eo], rfl, by rw [eo]; exact g72, fun i hi => g73 i (by omega), F3⟩
