/-! ===== who goes next ===== -/
theorem srt_spec {f : Nat → Int32} {num : Nat → Nat → Int32} {ov : Int32} (hf : ∀ i, 0 ≤ (f i).toInt) : ∀ c : Nat,
    ((∀ i, i < c → ¬ (num i 5 = 0 ∧ ¬ nI i = ov)) ∧ srtG f num ov c = (-2, -1)) ∨ (∃ a, a < c ∧ (num a 5 = 0 ∧ ¬ nI a = ov) ∧ srtG f num ov c = (nI a, f a) ∧ ∀ b, b < c → (num b 5 = 0 ∧ ¬ nI b = ov) → b ≠ a → bef f a b)
  | 0 => Or.inl ⟨fun i hi => by omega, rfl⟩
  | c + 1 => by
    have es : srtG f num ov (c + 1) = if num c 5 = 0 ∧ ¬ nI c = ov ∧ ¬ f c ≤ (srtG f num ov c).2 then (nI c, f c) else srtG f num ov c := rfl
    rcases srt_spec (ov := ov) (num := num) hf c with ⟨h1, h2⟩ | ⟨a, h1, h2, h3, h4⟩
    · by_cases q : num c 5 = 0 ∧ ¬ nI c = ov
      · right
        refine ⟨c, by omega, q, ?_, fun b hb h5 h6 => absurd h5 (h1 b (by omega))⟩
        rw [es, if_pos]
        refine ⟨q.1, q.2, ?_⟩
        rw [h2, i_le]
        have := hf c
        have e : (-1 : Int32).toInt = -1 := by decide
        show ¬ (f c).toInt ≤ (-1 : Int32).toInt
        rw [e]; omega
      · left
        refine ⟨fun i hi => ?_, ?_⟩
        · by_cases e : i = c
          · rw [e]; exact q
          · exact h1 i (by omega)
        · rw [es, if_neg (fun z => q ⟨z.1, z.2.1⟩), h2]
    · right
      by_cases q : num c 5 = 0 ∧ ¬ nI c = ov ∧ ¬ f c ≤ (srtG f num ov c).2
      · refine ⟨c, by omega, ⟨q.1, q.2.1⟩, by rw [es, if_pos q], fun b hb h5 h6 => ?_⟩
        have q3 := q.2.2
        rw [h3, i_le] at q3
        have q3 : ¬ (f c).toInt ≤ (f a).toInt := q3
        by_cases e : b = a
        · subst e; left; omega
        · have := h4 b (by omega) h5 e
          unfold bef at *
          omega
      · refine ⟨a, by omega, h2, by rw [es, if_neg q, h3], fun b hb h5 h6 => ?_⟩
        by_cases e : b = c
        · subst e
          have : f b ≤ f a := by
            apply Classical.byContradiction
            intro z
            exact q ⟨h5.1, h5.2, by rw [h3]; exact z⟩
          rw [i_le] at this
          unfold bef
          omega
        · exact h4 b (by omega) h5 h6
def nxt (L : List Nat) (ov : Int32) : Nat := if nI (L.getD 0 0) = ov ∧ 1 < L.length then L.getD 1 0 else L.getD 0 0
theorem nxt_mem {L : List Nat} {ov : Int32} (h : L ≠ []) : nxt L ov ∈ L := by
  have h0 : 0 < L.length := List.length_pos_iff.mpr h
  unfold nxt
  split
  · rename_i q; exact getD_mem q.2
  · exact getD_mem h0
theorem mem_getD {L : List Nat} {z : Nat} (h : z ∈ L) : ∃ k, k < L.length ∧ L.getD k 0 = z := by
  obtain ⟨k, hk, e⟩ := List.getElem_of_mem h
  exact ⟨k, hk, by rw [List.getD_eq_getElem?_getD, List.getElem?_eq_getElem hk, e]; rfl⟩
theorem bef_asym {f : Nat → Int32} {a b : Nat} (h1 : bef f a b) (h2 : bef f b a) : False := by
  unfold bef at *
  omega
theorem lt9 {i n : Nat} (h : i < n) (hn : n ≤ 9) : ¬ nI i = (9 : Int32) := by
  rw [show (9 : Int32) = nI 9 from rfl, nI_eq (by omega) (by omega)]
  omega
/-- the class's choice is the model's: some one else is left than the one held over -/
theorem srt_nxt {f : Nat → Int32} {num : Nat → Nat → Int32} {ov : Int32} {n : Nat} (hn : n ≤ 9) (hf : ∀ i, 0 ≤ (f i).toInt) {b : Nat} (hb : b < n) (hb2 : num b 5 = 0 ∧ ¬ nI b = ov) : (srtG f num ov n).1 = nI (nxt (ordL f num n) ov) := by
  rcases srt_spec (num := num) (ov := ov) hf n with ⟨h1, h2⟩ | ⟨a, h1, h2, h3, h4⟩
  · exact absurd hb2 (h1 b hb)
  · rw [h3]
    show nI a = _
    have ha : a ∈ ordL f num n := (ordL_mem f num n a).mpr ⟨h1, h2.1⟩
    obtain ⟨k, hk, ek⟩ := mem_getD ha
    have key : ∀ j, j < (ordL f num n).length → ¬ nI ((ordL f num n).getD j 0) = ov → k ≤ j := by
      intro j hj hjo
      apply Classical.byContradiction
      intro q
      have m1 := (ordL_mem f num n _).mp (getD_mem hj)
      have b1 := pw_getD (ordL_srt f num n) (show j < k by omega) hk
      rw [ek] at b1
      have hne : (ordL f num n).getD j 0 ≠ a := fun z => by rw [z] at b1; unfold bef at b1; omega
      exact bef_asym b1 (h4 _ m1.1 ⟨m1.2, hjo⟩ hne)
    unfold nxt
    by_cases c1 : nI ((ordL f num n).getD 0 0) = ov ∧ 1 < (ordL f num n).length
    · rw [if_pos c1]
      have k0 : k ≠ 0 := fun z => by rw [z] at ek; rw [ek] at c1; exact h2.2 c1.1
      have n1 : ¬ nI ((ordL f num n).getD 1 0) = ov := by
        intro z
        have m0 := (ordL_mem f num n _).mp (getD_mem (show 0 < (ordL f num n).length by omega))
        have m1 := (ordL_mem f num n _).mp (getD_mem c1.2)
        have := nI_inj (by omega) (by omega) (c1.1.trans z.symm)
        have b1 := pw_getD (ordL_srt f num n) (show 0 < 1 by omega) c1.2
        rw [this] at b1
        unfold bef at b1
        omega
      have := key 1 c1.2 n1
      have : k = 1 := by omega
      rw [this] at ek
      rw [ek]
    · rw [if_neg c1]
      have n0 : ¬ nI ((ordL f num n).getD 0 0) = ov := by
        intro z
        have l1 : (ordL f num n).length ≤ 1 := by
          apply Classical.byContradiction
          intro w
          exact c1 ⟨z, by omega⟩
        have : k = 0 := by omega
        rw [this] at ek
        rw [ek] at z
        exact h2.2 z
      have := key 0 (by omega) n0
      have : k = 0 := by omega
      rw [this] at ek
      rw [ek]
theorem srt_none {f : Nat → Int32} {num : Nat → Nat → Int32} {ov : Int32} {n : Nat} (hf : ∀ i, 0 ≤ (f i).toInt) (h : ∀ i, i < n → ¬ (num i 5 = 0 ∧ ¬ nI i = ov)) : (srtG f num ov n).1 = -2 := by
  rcases srt_spec (num := num) (ov := ov) hf n with ⟨h1, h2⟩ | ⟨a, h1, h2, h3, h4⟩
  · rw [h2]
  · exact absurd h2 (h a h1)
def setN (num : Nat → Nat → Int32) (w q : Nat) (v : Int32) : Nat → Nat → Int32 := fun i k => if i = w ∧ k = q then v else num i k
def goS (Λ : LawF) (n m : Nat) (sl : Nat → Nat → Int32) (ov : Int32) : Nat → (Nat → Nat → Int32) → Int32 → List (Nat × Int32)
  | 0, _, _ => []
  | F + 1, num, mn => if ordL (rd Λ n num mn) num n = [] then [] else
    (nxt (ordL (rd Λ n num mn) num n) ov, num (nxt (ordL (rd Λ n num mn) num n) ov) 0) :: goS Λ n m sl ov F (pmN n m sl mn (setN num (nxt (ordL (rd Λ n num mn) num n) ov) 5 1)) (pmM mn)
def sumR : List (Nat × Int32) → Int32 → Int32
  | [], a => a
  | x :: xs, a => sumR xs (a + x.2)
theorem pmN_5 {n m : Nat} {sl : Nat → Nat → Int32} {mn : Int32} {num : Nat → Nat → Int32} {i k : Nat} (hk : k ≠ 0) : pmN n m sl mn num i k = num i k := by
  unfold pmN
  rw [if_neg (fun z => hk z.1)]
theorem pmN_gone {n m : Nat} {sl : Nat → Nat → Int32} {mn : Int32} {num : Nat → Nat → Int32} (h : goneOK n num) : goneOK n (pmN n m sl mn num) := fun i hi => by rw [pmN_5 (by decide)]; exact h i hi
theorem set_gone {n w : Nat} {num : Nat → Nat → Int32} (h : goneOK n num) : goneOK n (setN num w 5 1) := fun i hi => by
  unfold setN
  split
  · exact Or.inr rfl
  · exact h i hi
theorem lftN_congr {num num' : Nat → Nat → Int32} : ∀ c : Nat, (∀ i, i < c → num' i 5 = num i 5) → lftN num' c = lftN num c
  | 0, _ => rfl
  | c + 1, h => by
    show lftN num' c + _ = lftN num c + _
    rw [lftN_congr c (fun i hi => h i (by omega)), h c (by omega)]
theorem lftN_set {num : Nat → Nat → Int32} {w : Nat} : ∀ c : Nat, w < c → num w 5 = 0 → lftN (setN num w 5 1) c + 1 = lftN num c
  | 0, h, _ => by omega
  | c + 1, h, h0 => by
    show lftN (setN num w 5 1) c + (if setN num w 5 1 c 5 = 0 then 1 else 0) + 1 = lftN num c + (if num c 5 = 0 then 1 else 0)
    by_cases e : w = c
    · subst e
      have e1 : setN num w 5 1 w 5 = 1 := by unfold setN; rw [if_pos ⟨rfl, rfl⟩]
      rw [e1, if_neg (by decide), if_pos h0, lftN_congr w (fun i hi => by unfold setN; rw [if_neg (by omega)])]
    · have e1 : setN num w 5 1 c 5 = num c 5 := by unfold setN; rw [if_neg (by omega)]
      rw [e1, ← lftN_set c (by omega) h0]
      omega
theorem ordL_nil {f : Nat → Int32} {num : Nat → Nat → Int32} {n : Nat} : ordL f num n = [] ↔ lftN num n = 0 := by
  rw [← ordL_len f num n]
  exact List.length_eq_zero_iff.symm
theorem goS_len {Λ : LawF} {n m : Nat} {sl : Nat → Nat → Int32} {ov : Int32} : ∀ (F : Nat) (num : Nat → Nat → Int32) (mn : Int32), lftN num n ≤ F → (goS Λ n m sl ov F num mn).length = lftN num n
  | 0, num, mn, h => by
    show 0 = _
    omega
  | F + 1, num, mn, h => by
    unfold goS
    split
    · rename_i q
      rw [ordL_nil] at q
      rw [q]; rfl
    · rename_i q
      have hm := (ordL_mem _ num n _).mp (nxt_mem (ov := ov) q)
      have e1 := lftN_set n hm.1 hm.2
      have e2 := lftN_congr (num := setN num (nxt (ordL (rd Λ n num mn) num n) ov) 5 1) (num' := pmN n m sl mn (setN num (nxt (ordL (rd Λ n num mn) num n) ov) 5 1)) n (fun i hi => pmN_5 (by decide))
      show (goS Λ n m sl ov F _ _).length + 1 = _
      rw [goS_len F _ _ (by omega), e2, e1]
