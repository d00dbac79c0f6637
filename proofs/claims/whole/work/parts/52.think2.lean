theorem goS_ov {Λ : LawF} {n m : Nat} {sl : Nat → Nat → Int32} {o1 o2 : Int32} (h1 : ∀ i, i < n → ¬ nI i = o1) (h2 : ∀ i, i < n → ¬ nI i = o2) : ∀ (F : Nat) (num : Nat → Nat → Int32) (mn : Int32), goS Λ n m sl o1 F num mn = goS Λ n m sl o2 F num mn
  | 0, _, _ => rfl
  | F + 1, num, mn => by
    unfold goS
    by_cases c : ordL (rd Λ n num mn) num n = []
    · rw [if_pos c, if_pos c]
    · rw [if_neg c, if_neg c]
      have hm := (ordL_mem _ num n _).mp (getD_mem (List.length_pos_iff.mpr c))
      have e : nxt (ordL (rd Λ n num mn) num n) o1 = nxt (ordL (rd Λ n num mn) num n) o2 := by
        unfold nxt
        rw [if_neg (fun q => h1 _ hm.1 q.1), if_neg (fun q => h2 _ hm.1 q.1)]
      rw [e, goS_ov h1 h2 F]
theorem goS_m1 {Λ : LawF} {n m : Nat} {sl : Nat → Nat → Int32} (hn9 : n ≤ 9) (F : Nat) (num : Nat → Nat → Int32) (mn : Int32) : goS Λ n m sl (-1) F num mn = goS Λ n m sl 9 F num mn :=
  goS_ov (fun i hi q => nI_nm1 (show i < 2 ^ 31 by omega) q.symm) (fun i hi => lt9 hi hn9) F num mn
theorem goS_mem {Λ : LawF} {n m : Nat} {sl : Nat → Nat → Int32} {ov : Int32} {g : Nat} : ∀ (F : Nat) (num : Nat → Nat → Int32) (mn : Int32), lftN num n ≤ F → ((∃ x, x ∈ goS Λ n m sl ov F num mn ∧ x.1 = g) ↔ (g < n ∧ num g 5 = 0))
  | 0, num, mn, h => by
    constructor
    · rintro ⟨x, hx, _⟩
      exact absurd hx List.not_mem_nil
    · intro q
      have := (ordL_mem (rd Λ n num mn) num n g).mpr q
      rw [ordL_nil.mpr (by omega)] at this
      exact absurd this List.not_mem_nil
  | F + 1, num, mn, h => by
    unfold goS
    by_cases c : ordL (rd Λ n num mn) num n = []
    · rw [if_pos c]
      constructor
      · rintro ⟨x, hx, _⟩
        exact absurd hx List.not_mem_nil
      · intro q
        have := (ordL_mem (rd Λ n num mn) num n g).mpr q
        rw [c] at this
        exact absurd this List.not_mem_nil
    · rw [if_neg c]
      have hm := (ordL_mem _ num n _).mp (nxt_mem (ov := ov) c)
      obtain ⟨w, ew⟩ : ∃ w, w = nxt (ordL (rd Λ n num mn) num n) ov := ⟨_, rfl⟩
      rw [← ew] at hm ⊢
      have e1 := lftN_set n hm.1 hm.2
      have e2 := lftN_congr (num := setN num w 5 1) (num' := pmN n m sl mn (setN num w 5 1)) n (fun i hi => pmN_5 (by decide))
      have ih := goS_mem (Λ := Λ) (n := n) (m := m) (sl := sl) (ov := ov) (g := g) F (pmN n m sl mn (setN num w 5 1)) (pmM mn) (by omega)
      rw [pmN_5 (by decide)] at ih
      constructor
      · rintro ⟨x, hx, ex⟩
        rcases List.mem_cons.mp hx with rfl | hx
        · rw [← ex]; exact hm
        · have := ih.mp ⟨x, hx, ex⟩
          refine ⟨this.1, ?_⟩
          have t2 := this.2
          unfold setN at t2
          by_cases e : g = w ∧ 5 = 5
          · rw [if_pos e] at t2; exact absurd t2 (by decide)
          · rw [if_neg e] at t2; exact t2
      · intro q
        by_cases e : g = w
        · exact ⟨_, List.mem_cons_self, e.symm⟩
        · have t2 : setN num w 5 1 g 5 = 0 := by unfold setN; rw [if_neg (fun z => e z.1)]; exact q.2
          obtain ⟨x, hx, ex⟩ := ih.mpr ⟨q.1, t2⟩
          exact ⟨x, List.mem_cons_of_mem _ hx, ex⟩
def posG (g : Nat) : List (Nat × Int32) → Nat
  | [] => 0
  | x :: xs => if x.1 = g then 0 else posG g xs + 1
theorem posG_lt {g : Nat} : ∀ {l : List (Nat × Int32)}, posG g l < l.length ↔ ∃ x, x ∈ l ∧ x.1 = g
  | [] => by simp [posG]
  | x :: xs => by
    unfold posG
    by_cases c : x.1 = g
    · rw [if_pos c]
      exact ⟨fun _ => ⟨x, List.mem_cons_self, c⟩, fun _ => by simp⟩
    · rw [if_neg c]
      have ih := posG_lt (g := g) (l := xs)
      constructor
      · intro h
        obtain ⟨y, hy, ey⟩ := ih.mp (by simpa using h)
        exact ⟨y, List.mem_cons_of_mem _ hy, ey⟩
      · rintro ⟨y, hy, ey⟩
        rcases List.mem_cons.mp hy with rfl | hy
        · exact absurd ey c
        · have := ih.mpr ⟨y, hy, ey⟩
          simpa using this
theorem posG_le {g : Nat} : ∀ {l : List (Nat × Int32)}, posG g l ≤ l.length
  | [] => Nat.le_refl 0
  | x :: xs => by
    unfold posG
    have := posG_le (g := g) (l := xs)
    split
    · exact Nat.zero_le _
    · simpa using this
theorem posG_ne {g : Nat} : ∀ {l : List (Nat × Int32)} {c : Nat}, c < posG g l → (l.getD c (0, 0)).1 ≠ g
  | [], c, h => by simp [posG] at h
  | x :: xs, c, h => by
    unfold posG at h
    by_cases q : x.1 = g
    · rw [if_pos q] at h; omega
    · rw [if_neg q] at h
      cases c with
      | zero => exact q
      | succ c => exact posG_ne (l := xs) (by omega)
theorem posG_eq {g : Nat} : ∀ {l : List (Nat × Int32)}, posG g l < l.length → (l.getD (posG g l) (0, 0)).1 = g
  | [], h => by simp [posG] at h
  | x :: xs, h => by
    unfold posG at h ⊢
    by_cases q : x.1 = g
    · rw [if_pos q]; exact q
    · rw [if_neg q] at h ⊢
      exact posG_eq (l := xs) (by simpa using h)
theorem getD_memP {l : List (Nat × Int32)} {k : Nat} (hk : k < l.length) : l.getD k (0, 0) ∈ l := by
  rw [List.getD_eq_getElem?_getD, List.getElem?_eq_getElem hk]
  exact List.getElem_mem hk
theorem c_place {g : Nat} {l : List (Nat × Int32)} {h : AH} (hg : g < 2 ^ 31) (hl : l.length ≤ 9) (hb : ∀ x, x ∈ l → x.1 < 9) (G : GoA h l) : fX6_placeOfGoer (nI g) h = some (if posG g l < l.length then nI (posG g l) else 9, h) := by
  have key : Ok (fX6_placeOfGoer (nI g) h) (fun q => q = (if posG g l < l.length then nI (posG g l) else 9, h)) := by
    unfold fX6_placeOfGoer
    refine L2 (f := fX6_placeOfGoer_2 (nI g)) (b := fX6_placeOfGoer_2_b (nI g)) (fun _ => rfl) (fun r x y h' => ∃ c, c + r = l.length ∧ c ≤ posG g l ∧ x = nI g ∧ y = nI c ∧ h' = h) ?_ l.length FU (nI g) 0 h (by unfold FU; omega) ⟨0, by omega, Nat.zero_le _, rfl, rfl, rfl⟩
    rintro r x y h' ⟨c, hc, hp, rfl, rfl, rfl⟩ Q hQ
    unfold fX6_placeOfGoer_2_b
    rw [G.1]
    refine ok_if (fun c1 => ?_) (fun c1 => ?_)
    · rw [nI_leI (by omega) (by omega)] at c1
      exact ok_some (by rw [if_neg (by omega)])
    · rw [nI_leI (by omega) (by omega)] at c1
      refine ok_t (inb_nI (by omega) (by decide)) ?_
      rw [ix_nI (show c < 2 ^ 31 by omega), G.2.1 c (by omega), nI_1]
      have hb' := hb _ (getD_memP (show c < l.length by omega))
      refine ok_if (fun c2 => ?_) (fun c2 => ?_)
      · have e := nI_inj (by omega) hg c2
        have : c = posG g l := by
          apply Classical.byContradiction
          intro z
          exact posG_ne (show c < posG g l by omega) e
        exact ok_some (by rw [if_pos (by omega), this])
      · refine hQ (r - 1) _ _ _ (by omega) ⟨c + 1, by omega, ?_, rfl, rfl, rfl⟩
        apply Classical.byContradiction
        intro z
        have e : c = posG g l := by omega
        have := posG_eq (g := g) (l := l) (by omega)
        rw [← e] at this
        exact c2 (by rw [this])
  obtain ⟨x, e, rfl⟩ := key
  exact e
theorem m_went {g : Nat} {l : List (Nat × Int32)} {h : AH} (hg : g < 2 ^ 31) (hl : l.length ≤ 9) (hb : ∀ x, x ∈ l → x.1 < 9) (G : GoM h l) : fX10_wentAs (nI g) (nI l.length) h = some (if posG g l < l.length then nI (posG g l) else -2, h) := by
  have key : Ok (fX10_wentAs (nI g) (nI l.length) h) (fun q => q = (if posG g l < l.length then nI (posG g l) else -2, h)) := by
    unfold fX10_wentAs
    refine L3 (f := fX10_wentAs_2 (nI g) (nI l.length)) (b := fX10_wentAs_2_b (nI g) (nI l.length)) (fun _ => rfl) (fun r x y z h' => ∃ c, c + r = l.length ∧ c ≤ posG g l ∧ x = nI g ∧ y = nI l.length ∧ z = nI c ∧ h' = h) ?_ l.length FU (nI g) (nI l.length) 0 h (by unfold FU; omega) ⟨0, by omega, Nat.zero_le _, rfl, rfl, rfl, rfl⟩
    rintro r x y z h' ⟨c, hc, hp, rfl, rfl, rfl, rfl⟩ Q hQ
    unfold fX10_wentAs_2_b
    refine ok_if (fun c1 => ?_) (fun c1 => ?_)
    · rw [nI_leI (by omega) (by omega)] at c1
      exact ok_some (by rw [if_neg (by omega)])
    · rw [nI_leI (by omega) (by omega)] at c1
      refine ok_t (inb_nI (by omega) (by decide)) ?_
      rw [ix_nI (show c < 2 ^ 31 by omega), G.1 c (by omega), nI_1]
      have hb' := hb _ (getD_memP (show c < l.length by omega))
      refine ok_if (fun c2 => ?_) (fun c2 => ?_)
      · have e := nI_inj (by omega) hg c2
        have : c = posG g l := by
          apply Classical.byContradiction
          intro z
          exact posG_ne (show c < posG g l by omega) e
        exact ok_some (by rw [if_pos (by omega), this])
      · refine hQ (r - 1) _ _ _ _ (by omega) ⟨c + 1, by omega, ?_, rfl, rfl, rfl, rfl⟩
        apply Classical.byContradiction
        intro z
        have e : c = posG g l := by omega
        have := posG_eq (g := g) (l := l) (by omega)
        rw [← e] at this
        exact c2 (by rw [this])
  obtain ⟨x, e, rfl⟩ := key
  exact e
/-- who goes, in their order, if they begin with the state q -/
def GL (Λ : LawF) (n m : Nat) (sl : Nat → Nat → Int32) (q : (Nat → Nat → Int32) × Int32) : List (Nat × Int32) := goS Λ n m sl 9 n q.1 q.2
theorem GL_len {Λ : LawF} {n m : Nat} {sl : Nat → Nat → Int32} {q : (Nat → Nat → Int32) × Int32} : (GL Λ n m sl q).length = lftN q.1 n := goS_len n q.1 q.2 (lftN_le _ _)
theorem GL_b {Λ : LawF} {n m : Nat} {sl : Nat → Nat → Int32} {q : (Nat → Nat → Int32) × Int32} (hn9 : n ≤ 9) : ∀ x, x ∈ GL Λ n m sl q → x.1 < 9 := fun x hx => by
  have := (goS_mem (g := x.1) n q.1 q.2 (lftN_le _ _)).mp ⟨x, hx, rfl⟩
  omega
theorem GL_pos {Λ : LawF} {n m g : Nat} {sl : Nat → Nat → Int32} {q : (Nat → Nat → Int32) × Int32} : posG g (GL Λ n m sl q) < (GL Λ n m sl q).length ↔ (g < n ∧ q.1 g 5 = 0) := by
  rw [posG_lt]
  exact goS_mem n q.1 q.2 (lftN_le _ _)
theorem it_5 {n m : Nat} {sl : Nat → Nat → Int32} : ∀ (k : Nat) (q : (Nat → Nat → Int32) × Int32) (i j : Nat), j ≠ 0 → (itP n m sl k q).1 i j = q.1 i j
  | 0, _, _, _, _ => rfl
  | k + 1, q, i, j, hj => by
    show (itP n m sl k _).1 i j = _
    rw [it_5 k _ i j hj]
    exact pmN_5 hj
/-- the class, in thought: behind k minutes all go -/
theorem c_thinkGo {n m B k : Nat} {num sl : Nat → Nat → Int32} {mn : Int32} {Λ : LawF} {h : AH} (T : TI h n m num sl mn) (O : Oth h n m B Λ) (hk : k ≤ 100) {β : Type} {f : AH → Option β} {P : β → Prop} (hf : ∀ h2, GoA h2 (GL Λ n m sl (itP n m sl k (num, mn))) → Fr Scr h h2 → Ok (f h2) P) : Ok (bindV (fX6_startBehind (nI k) h) fun h1 => bindV (fX6_allGo 9 h1) fun h2 => f h2) P := by
  refine ok_bV (c_start T.n9 T.m12 T.by hk T.c) (fun h1 hh => ?_)
  obtain ⟨C1, F1⟩ := hh
  have F1 := F1.mono St_scr
  refine ok_bV (c_allGo T.n9 (by have := T.m12; omega) T.by (it_gone k _ T.gone) O.ir C1 (O.cl.scr F1)) (fun h2 hh => ?_)
  exact hf h2 hh.1 (F1.tr (hh.2.mono St_scr))
theorem m_thinkGo {n m B k : Nat} {num sl : Nat → Nat → Int32} {mn : Int32} {Λ : LawF} {h : AH} (T : TI h n m num sl mn) (O : Oth h n m B Λ) (hk : k ≤ 100) : Ok (fX10_goAll (nI k) (-1) h) (fun q => q.1 = nI (GL Λ n m sl (itP n m sl k (num, mn))).length ∧ GoM q.2 (GL Λ n m sl (itP n m sl k (num, mn))) ∧ Fr Scr h q.2) := by
  refine ok_mono (m_goAll T.n9 T.mok hk T.m O.ml) (fun q hq => ?_)
  rw [goS_m1 T.n9] at hq
  exact ⟨hq.1, hq.2.1, hq.2.2.mono Sq_scr⟩
theorem op_goesAs (p w : Int32) : Sim (fX9_goesAs p w) (fX10_goesAs p w) := by
  have e0 : (0 : Int32).toInt = 0 := by decide
  have e6 : (60 : Int32).toInt = 60 := by decide
  refine sim_think (fun n m num sl mn Λ => if 0 ≤ p.toInt ∧ p.toInt ≤ 60 then if 0 ≤ w then if nI (GL Λ n m sl (itP n m sl p.toInt.toNat (num, mn))).length ≤ w then -2 else nI ((GL Λ n m sl (itP n m sl p.toInt.toNat (num, mn))).getD (ix w) (0, 0)).1 else -1 else -1) (fun n m B num sl mn Λ h T O => ?_) (fun n m B num sl mn Λ h T O => ?_)
  · unfold fX9_goesAs
    rw [c_isThought, b2_some]
    by_cases c : 0 ≤ p.toInt ∧ p.toInt ≤ 60
    · rw [if_pos c, if_pos c]
      refine ok_f (by decide) ?_
      obtain ⟨ep, hp⟩ := nI_of_rg (a := 60) c.1 c.2 (by decide)
      obtain ⟨k, ek⟩ : ∃ k, k = p.toInt.toNat := ⟨_, rfl⟩
      rw [← ek] at ep hp ⊢
      rw [ep]
      by_cases c2 : 0 ≤ w
      · rw [if_pos c2, if_pos c2]
        refine c_thinkGo T O (by omega) (fun h2 G F => ?_)
        have hl : (GL Λ n m sl (itP n m sl k (num, mn))).length ≤ 9 := by rw [GL_len]; have := lftN_le (itP n m sl k (num, mn)).1 n; have := T.n9; omega
        rw [G.1]
        by_cases c3 : nI (GL Λ n m sl (itP n m sl k (num, mn))).length ≤ w
        · rw [if_pos c3, if_pos c3]; exact ok_some ⟨rfl, F⟩
        · rw [if_neg c3, if_neg c3]
          rw [i_le, nI_toInt (by omega)] at c3
          rw [i_le, e0] at c2
          refine ok_t (inb_iff.mpr (by omega)) (ok_some ⟨?_, F⟩)
          exact G.2.1 _ (by rw [ix_eq]; omega)
      · rw [if_neg c2, if_neg c2]; exact ok_some ⟨rfl, Fr.rf⟩
    · rw [if_neg c, if_neg c]
      exact ok_t rfl (ok_some ⟨rfl, Fr.rf⟩)
  · unfold fX10_goesAs
    rw [m_isIn, b2_some, e0, e6]
    by_cases c : 0 ≤ p.toInt ∧ p.toInt ≤ 60
    · rw [if_pos c, if_pos c]
      refine ok_f (by decide) ?_
      obtain ⟨ep, hp⟩ := nI_of_rg (a := 60) c.1 c.2 (by decide)
      obtain ⟨k, ek⟩ : ∃ k, k = p.toInt.toNat := ⟨_, rfl⟩
      rw [← ek] at ep hp ⊢
      rw [ep]
      by_cases c2 : 0 ≤ w
      · rw [if_pos c2, if_pos c2]
        refine ok_b2 (m_thinkGo T O (by omega)) (fun v h2 hv => ?_)
        obtain ⟨ev, G, F⟩ := hv
        have ev : v = _ := ev
        have hl : (GL Λ n m sl (itP n m sl k (num, mn))).length ≤ 9 := by rw [GL_len]; have := lftN_le (itP n m sl k (num, mn)).1 n; have := T.n9; omega
        rw [ev]
        by_cases c3 : nI (GL Λ n m sl (itP n m sl k (num, mn))).length ≤ w
        · rw [if_pos c3, if_pos c3]; exact ok_some ⟨rfl, F⟩
        · rw [if_neg c3, if_neg c3]
          rw [i_le, nI_toInt (by omega)] at c3
          rw [i_le, e0] at c2
          refine ok_t (inb_iff.mpr (by omega)) (ok_some ⟨?_, F⟩)
          exact G.1 _ (by rw [ix_eq]; omega)
      · rw [if_neg c2, if_neg c2]; exact ok_some ⟨rfl, Fr.rf⟩
    · rw [if_neg c, if_neg c]
      exact ok_t rfl (ok_some ⟨rfl, Fr.rf⟩)
theorem op_goesWhen (p g : Int32) : Sim (fX9_goesWhen p g) (fX10_goesWhen p g) := by
  have e0 : (0 : Int32).toInt = 0 := by decide
  have e6 : (60 : Int32).toInt = 60 := by decide
  refine sim_think (fun n m num sl mn Λ => if 0 ≤ p.toInt ∧ p.toInt ≤ 60 then if 0 ≤ g.toInt ∧ g.toInt < n then if num g.toInt.toNat 5 = 0 then p + nI (posG g.toInt.toNat (GL Λ n m sl (itP n m sl p.toInt.toNat (num, mn)))) else -2 else -1 else -1) (fun n m B num sl mn Λ h T O => ?_) (fun n m B num sl mn Λ h T O => ?_)
  · unfold fX9_goesWhen
    rw [c_isThought, b2_some]
    by_cases c : 0 ≤ p.toInt ∧ p.toInt ≤ 60
    · rw [if_pos c, if_pos c]
      refine ok_f (by decide) ?_
      rw [c_hasGuest T.c.1 T.n9, b2_some]
      by_cases c2 : 0 ≤ g.toInt ∧ g.toInt < n
      · rw [if_pos c2, if_pos c2]
        refine ok_f (by decide) ?_
        have hn9 := T.n9
        obtain ⟨eg, hg⟩ := nI_of_rg (a := 9) c2.1 (by omega) (by decide)
        obtain ⟨j, ej⟩ : ∃ j, j = g.toInt.toNat := ⟨_, rfl⟩
        rw [← ej] at eg hg ⊢
        have hj : j < n := by omega
        rw [eg, c_isLeft (Or.inl rfl) hn9 T.c hj, b2_some]
        by_cases c3 : num j 5 = 0
        · rw [if_pos c3, if_pos c3]
          refine ok_f (by decide) ?_
          obtain ⟨ep, hp⟩ := nI_of_rg (a := 60) c.1 c.2 (by decide)
          obtain ⟨k, ek⟩ : ∃ k, k = p.toInt.toNat := ⟨_, rfl⟩
          rw [← ek] at ep hp ⊢
          rw [ep]
          refine c_thinkGo T O (by omega) (fun h2 G F => ?_)
          have hl : (GL Λ n m sl (itP n m sl k (num, mn))).length ≤ 9 := by rw [GL_len]; have := lftN_le (itP n m sl k (num, mn)).1 n; omega
          rw [c_place (by omega) hl (GL_b hn9) G, b2_some, if_pos (GL_pos.mpr ⟨hj, by rw [it_5 k _ j 5 (by decide)]; exact c3⟩)]
          exact ok_some ⟨rfl, F⟩
        · rw [if_neg c3, if_neg c3]
          exact ok_t rfl (ok_some ⟨rfl, Fr.rf⟩)
      · rw [if_neg c2, if_neg c2]
        exact ok_t rfl (ok_some ⟨rfl, Fr.rf⟩)
    · rw [if_neg c, if_neg c]
      exact ok_t rfl (ok_some ⟨rfl, Fr.rf⟩)
  · unfold fX10_goesWhen
    rw [m_isIn, b2_some, e0, e6]
    by_cases c : 0 ≤ p.toInt ∧ p.toInt ≤ 60
    · rw [if_pos c, if_pos c]
      refine ok_f (by decide) ?_
      rw [m_isGuest T.m.1 T.n9, b2_some]
      by_cases c2 : 0 ≤ g.toInt ∧ g.toInt < n
      · rw [if_pos c2, if_pos c2]
        refine ok_f (by decide) ?_
        have hn9 := T.n9
        obtain ⟨eg, hg⟩ := nI_of_rg (a := 9) c2.1 (by omega) (by decide)
        obtain ⟨j, ej⟩ : ∃ j, j = g.toInt.toNat := ⟨_, rfl⟩
        rw [← ej] at eg hg ⊢
        have hj : j < n := by omega
        obtain ⟨ep, hp⟩ := nI_of_rg (a := 60) c.1 c.2 (by decide)
        obtain ⟨k, ek⟩ : ∃ k, k = p.toInt.toNat := ⟨_, rfl⟩
        rw [← ek] at ep hp ⊢
        rw [eg, ep]
        refine ok_b2 (m_thinkGo T O (by omega)) (fun v h2 hv => ?_)
        obtain ⟨ev, G, F⟩ := hv
        have ev : v = _ := ev
        have hl : (GL Λ n m sl (itP n m sl k (num, mn))).length ≤ 9 := by rw [GL_len]; have := lftN_le (itP n m sl k (num, mn)).1 n; omega
        rw [ev, m_went (by omega) hl (GL_b hn9) G, b2_some]
        have hpl := posG_le (g := j) (l := GL Λ n m sl (itP n m sl k (num, mn)))
        by_cases c3 : num j 5 = 0
        · rw [if_pos (GL_pos.mpr ⟨hj, by rw [it_5 k _ j 5 (by decide)]; exact c3⟩), if_pos c3]
          refine ok_f ?_ (ok_some ⟨rfl, F⟩)
          rw [i_eq, nI_toInt (by omega)]
          have : (-2 : Int32).toInt = -2 := by decide
          rw [this]; omega
        · have hnp : ¬ posG j (GL Λ n m sl (itP n m sl k (num, mn))) < (GL Λ n m sl (itP n m sl k (num, mn))).length := fun q => c3 (by have := (GL_pos.mp q).2; rw [it_5 k _ j 5 (by decide)] at this; exact this)
          rw [if_neg hnp, if_neg c3]
          exact ok_t rfl (ok_some ⟨rfl, F⟩)
      · rw [if_neg c2, if_neg c2]
        exact ok_t rfl (ok_some ⟨rfl, Fr.rf⟩)
    · rw [if_neg c, if_neg c]
      exact ok_t rfl (ok_some ⟨rfl, Fr.rf⟩)
