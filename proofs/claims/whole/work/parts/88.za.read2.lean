/-! how one is read by a code -/
def envN (r l hd mn lf g : Int32) (b : Int32) : Int32 := if b = 104 then hd else if b = 108 then l else if b = 109 then mn else if b = 110 then lf else if b = 114 then r else g
theorem c_name {t n m : Nat} {sl : Nat → Nat → Int32} {mn b : Int32} {num : Nat → Nat → Int32} {h : AH} {i : Nat} (ht : isT t) (hn9 : n ≤ 9) (hg : goneOK n num) (C : CRep t h n m num sl mn) (hi : i < n) (hb : isNm b) : fX3_worthOfName b t (nI i) h = some (envN (num i 0) (num i 2) (num i 3) mn (nI (lftN num n)) (nI i) b, h) := by
  have q := C.2.2.2.1 i hi
  have r := rfT ht
  unfold fX3_worthOfName
  rcases hb with rfl | rfl | rfl | rfl | rfl | rfl
  · rw [if_neg (by decide), if_neg (by decide), if_neg (by decide), if_neg (by decide), if_neg (by decide), if_neg (by decide), if_neg (by decide), if_neg (by decide), if_neg (by decide), if_neg (by decide), if_pos rfl, if_pos (inb_nI (by omega) (by decide)), ix_nI (by omega), r.1, q.1]
    rfl
  · rw [if_neg (by decide), if_neg (by decide), if_neg (by decide), if_neg (by decide), if_pos rfl, if_pos (inb_nI (by omega) (by decide)), ix_nI (by omega), r.2.2.1, q.2.2.1]
    rfl
  · rw [if_pos rfl, if_pos (inb_nI (by omega) (by decide)), ix_nI (by omega), r.2.2.2.1, q.2.2.2.1]
    rfl
  · rw [if_neg (by decide), if_neg (by decide), if_neg (by decide), if_neg (by decide), if_neg (by decide), if_pos rfl, C.2.2.1]
    rfl
  · rw [if_neg (by decide), if_neg (by decide), if_neg (by decide), if_neg (by decide), if_neg (by decide), if_neg (by decide), if_pos rfl, c_left ht hn9 hg C, b2_some]
    rfl
  · rw [if_neg (by decide), if_neg (by decide), if_neg (by decide), if_neg (by decide), if_neg (by decide), if_neg (by decide), if_neg (by decide), if_neg (by decide), if_neg (by decide), if_neg (by decide), if_neg (by decide)]
    rfl
theorem wrk_len {op : Int32} {st s : List Int32} (h : wrk op st = some s) : s.length ≤ st.length + 1 := by
  cases st with
  | nil => cases h
  | cons r st =>
    have h : (if op = 33 then some ((if r = 0 then 1 else 0) :: st) else if op = 126 then some (-r :: st) else wrk2 op r st) = some s := h
    by_cases c1 : op = 33
    · rw [if_pos c1] at h; cases h; exact Nat.le_succ _
    rw [if_neg c1] at h
    by_cases c2 : op = 126
    · rw [if_pos c2] at h; cases h; exact Nat.le_succ _
    rw [if_neg c2] at h
    cases st with
    | nil => cases h
    | cons a s2 =>
      cases h
      show s2.length + 1 ≤ s2.length + 1 + 1 + 1
      omega
theorem exs_len {e : Int32 → Int32} {x : Int32} {st s : List Int32} (h : exs e x st = some s) : s.length ≤ st.length + 1 := by
  unfold exs at h
  by_cases c : x.toInt < 0
  · rw [if_pos c] at h
    by_cases c2 : isNm (-x)
    · rw [if_pos c2] at h; cases h; exact Nat.le_refl _
    · rw [if_neg c2] at h; exact wrk_len h
  · rw [if_neg c] at h; cases h; exact Nat.le_refl _
/-- what stays while one is read -/
def RC (t : Nat) (e : Int32 → Int32) (x2 : Int32) (F : List Int32) (h0 : AH) : Prop := F.length ≤ 121 ∧ ∀ h, Fr Sr h0 h → h.1 15 1 = nI F.length ∧ (∀ i, i < F.length → h.1 16 i = F.getD i 0) ∧ ∀ b, isNm b → fX3_worthOfName b t x2 h = some (e b, h)
theorem rd_seg {t : Nat} {P1 x2 x3 : Int32} {e : Int32 → Int32} {F : List Int32} {h0 : AH} {P : Int32 × AH → Prop} (R : RC t e x2 F h0) {st' : List Int32} {n : Nat} : ∀ (c : List Int32) (p : Nat) (st : List Int32) (h : AH), (∀ i, i < c.length → F.getD (p + i) 0 = c.getD i 0) → p + c.length ≤ F.length → st.length ≤ p → (∀ x, x ∈ c → x ≠ -59) → ex e c st = some st' → SR h st → Fr Sr h0 h → (∀ h', SR h' st' → st'.length ≤ p + c.length → Fr Sr h0 h' → Ok (fX3_readOf_38 t P1 n x2 x3 0 (nI (p + c.length)) h') P) → Ok (fX3_readOf_38 t P1 (n + c.length) x2 x3 0 (nI p) h) P
  | [], p, st, h, _, _, hs, _, e1, S, G, K => by
    cases e1
    exact K h S hs G
  | x :: c, p, st, h, hF, hp, hs, hx, e1, S, G, K => by
    have hl : (x :: c).length = c.length + 1 := rfl
    obtain ⟨R0, R1⟩ := R
    obtain ⟨f1, f2, f3⟩ := R1 h G
    show Ok (fX3_readOf_38_b t P1 (fX3_readOf_38 t P1 (n + c.length)) x2 x3 0 (nI p) h) P
    unfold fX3_readOf_38_b
    rw [f1]
    refine ok_f (by rw [nI_leI (by omega) (by omega)]; omega) (ok_t rfl (ok_t (inb_nI (by omega) (by decide)) (ok_let ?_)))
    have ex0 : h.1 16 p = x := by
      rw [f2 p (by omega)]
      exact hF 0 (by omega)
    rw [ix_nI (by omega), ex0, nI_1]
    have e1 : (exs e x st).bind (ex e c) = some st' := e1
    -- the rest
    have go : ∀ (s : List Int32) (h2 : AH), exs e x st = some s → SR h2 s → Fr Sr h h2 → Ok (fX3_readOf_38 t P1 (n + c.length) x2 x3 0 (nI (p + 1)) h2) P := by
      intro s h2 es S2 G2
      rw [es] at e1
      have := exs_len es
      refine rd_seg ⟨R0, R1⟩ c (p + 1) s h2 (fun i hi => ?_) (by omega) (by omega) (fun y hy => hx y (List.mem_cons_of_mem _ hy)) e1 S2 (G.tr G2) (fun h' S' hs' G' => ?_)
      · rw [show p + 1 + i = p + (i + 1) by omega, hF (i + 1) (by omega)]
        rfl
      · rw [show p + 1 + c.length = p + (x :: c).length by omega] at hs' ⊢
        exact K h' S' hs' G'
    have x59 := hx x (List.mem_cons_self ..)
    have e0 : (0 : Int32).toInt = 0 := by decide
    refine ok_if (fun d1 => ?_) (fun d1 => ?_)
    · rw [i_lt, e0] at d1
      rw [c_isNm, b2_some]
      by_cases q : isNm (-x)
      · rw [if_pos q]
        refine ok_f (by decide) ?_
        rw [f3 (-x) q, b2_some]
        refine ok_bV (c_push S (by omega)) (fun h2 hh => go _ h2 ?_ hh.1 hh.2)
        unfold exs
        rw [if_pos d1, if_pos q]
      · rw [if_neg q]
        refine ok_t rfl (ok_f x59 ?_)
        have es : exs e x st = wrk (-x) st := by unfold exs; rw [if_pos d1, if_neg q]
        rcases hw : wrk (-x) st with _ | s
        · rw [es, hw] at e1
          cases e1
        · exact ok_bV (c_work S (by omega) hw) (fun h2 hh => go s h2 (by rw [es, hw]) hh.1 hh.2)
    · rw [i_lt, e0] at d1
      refine ok_bV (c_push S (by omega)) (fun h2 hh => go _ h2 ?_ hh.1 hh.2)
      unfold exs
      rw [if_neg d1]
def clp (x : Int32) : Int32 := jmax 0 (jmin 99 x)
theorem rd_end {t : Nat} {P1 x2 x3 x4 x5 : Int32} {h0 h : AH} {n : Nat} (G : Fr Sr h0 h) (hc : h.1 15 1 ≤ x5 ∨ ¬ x4 = 0) : Ok (fX3_readOf_38 t P1 (n + 1) x2 x3 x4 x5 h) (fun q => q.1 = clp x3 ∧ Fr Sr h0 q.2) := by
  show Ok (fX3_readOf_38_b t P1 (fX3_readOf_38 t P1 n) x2 x3 x4 x5 h) _
  unfold fX3_readOf_38_b
  refine ok_if (fun d1 => ok_some ⟨rfl, G⟩) (fun d1 => ?_)
  rcases hc with q | q
  · exact absurd q d1
  · exact ok_f q (ok_some ⟨rfl, G⟩)
/-- a part of the text: its worth stands, or the next is read -/
theorem rd_tail {t : Nat} {P1 x2 w vv qq : Int32} {e : Int32 → Int32} {F : List Int32} {h0 h : AH} {n p : Nat} (S : List Int32) (R : RC t e x2 F h0) (hF : ∀ i, i < S.length → F.getD (p + i) 0 = S.getD i 0) (h59 : F.getD (p + S.length) 0 = -59) (hp : p + S.length < F.length) (hx : ∀ x, x ∈ S → x ≠ -59) (hs : (ex e S [] = some [vv] ∧ ¬ qq = 0) ∨ ex e S [] = some [vv, qq]) (S0 : SR h []) (G : Fr Sr h0 h) (K : qq = 0 → ∀ h', SR h' [] → Fr Sr h0 h' → Ok (fX3_readOf_38 t P1 (n + 1) x2 0 0 (nI (p + S.length + 1)) h') (fun q => q.1 = clp w ∧ Fr Sr h0 q.2)) : Ok (fX3_readOf_38 t P1 (n + 2 + S.length) x2 0 0 (nI p) h) (fun q => q.1 = clp (if qq = 0 then w else vv) ∧ Fr Sr h0 q.2) := by
  have R0 := R.1
  have hit : ∀ h', Fr Sr h0 h' → ¬ qq = 0 → Ok (fX3_readOf_38 t P1 (n + 1) x2 vv 1 (nI (p + S.length + 1)) h') (fun q => q.1 = clp (if qq = 0 then w else vv) ∧ Fr Sr h0 q.2) := fun h' G' q => by
    rw [if_neg q]
    exact rd_end G' (Or.inr (by decide))
  have at59 : ∀ (h1 : AH), Fr Sr h0 h1 → ∀ P : Int32 × AH → Prop, Ok (bind2 (fX3_pop h1) fun r19_ h20_ => if (h20_.1 15 3) = 0 then fX3_readOf_136 t P1 (fX3_readOf_38 t P1 (n + 1)) x2 (nI (p + S.length)) r19_ h20_ else bind2 (fX3_pop h20_) fun r24_ h25_ => if r24_ = 0 then fX3_readOf_141 t P1 (fX3_readOf_38 t P1 (n + 1)) x2 (nI (p + S.length)) r19_ 0 h25_ else fX3_readOf_136 t P1 (fX3_readOf_38 t P1 (n + 1)) x2 (nI (p + S.length)) r19_ h25_) P → Ok (fX3_readOf_38 t P1 (n + 2) x2 0 0 (nI (p + S.length)) h1) P := by
    intro h1 G1 P K1
    obtain ⟨f1, f2, f3⟩ := R.2 h1 G1
    show Ok (fX3_readOf_38_b t P1 (fX3_readOf_38 t P1 (n + 1)) x2 0 0 (nI (p + S.length)) h1) P
    unfold fX3_readOf_38_b
    rw [f1]
    refine ok_f (by rw [nI_leI (by omega) (by omega)]; omega) (ok_t rfl (ok_t (inb_nI (by omega) (by decide)) (ok_let ?_)))
    have ex0 : h1.1 16 (p + S.length) = -59 := by rw [f2 _ hp]; exact h59
    rw [ix_nI (by omega), ex0]
    refine ok_t (by decide) ?_
    rw [c_isNm, b2_some]
    exact ok_t (by decide) (ok_t rfl K1)
  have f136 : ∀ (v : Int32) (h' : AH), fX3_readOf_136 t P1 (fX3_readOf_38 t P1 (n + 1)) x2 (nI (p + S.length)) v h' = fX3_readOf_38 t P1 (n + 1) x2 v 1 (nI (p + S.length + 1)) h' := fun v h' => by
    unfold fX3_readOf_136 fX3_readOf_141
    rw [if_neg (by decide), nI_1]
  have f141 : ∀ (v : Int32) (h' : AH), fX3_readOf_141 t P1 (fX3_readOf_38 t P1 (n + 1)) x2 (nI (p + S.length)) v 0 h' = fX3_readOf_38 t P1 (n + 1) x2 0 0 (nI (p + S.length + 1)) h' := fun v h' => by
    unfold fX3_readOf_141
    rw [if_pos rfl, nI_1]
  rcases hs with ⟨hs, hq⟩ | hs
  · refine rd_seg (n := n + 2) R S p [] h hF (by omega) (Nat.zero_le _) hx hs S0 G (fun h1 S1 _ G1 => at59 h1 G1 _ ?_)
    refine ok_b2 (c_pop S1 (by show 0 < 121; omega)) (fun v h2 hh => ?_)
    obtain ⟨e2, S2, G2⟩ := hh
    have e2 : v = vv := e2
    subst e2
    have s3 : h2.1 15 3 = nI 0 := S2.1
    rw [s3]
    refine ok_t rfl ?_
    rw [f136]
    exact hit h2 (G1.tr G2) hq
  · refine rd_seg (n := n + 2) R S p [] h hF (by omega) (Nat.zero_le _) hx hs S0 G (fun h1 S1 _ G1 => at59 h1 G1 _ ?_)
    refine ok_b2 (c_pop S1 (by show 1 < 121; omega)) (fun v h2 hh => ?_)
    obtain ⟨e2, S2, G2⟩ := hh
    have e2 : v = vv := e2
    subst e2
    have s3 : h2.1 15 3 = nI 1 := S2.1
    rw [s3]
    refine ok_f (by decide) (ok_b2 (c_pop S2 (by show 0 < 121; omega)) (fun v3 h3 hh => ?_))
    obtain ⟨e3, S3, G3⟩ := hh
    have e3 : v3 = qq := e3
    subst e3
    have G3 : Fr Sr h0 h3 := (G1.tr G2).tr G3
    rw [f136, f141]
    by_cases q : v3 = 0
    · refine ok_t q ?_
      have ez : (if v3 = 0 then w else v) = w := if_pos q
      rw [ez]
      exact K q h3 S3 G3
    · exact ok_f q (hit h3 G3 q)
theorem gD_pre {F c d : List Int32} {p : Nat} (h : ∀ i, i < (c ++ d).length → F.getD (p + i) 0 = (c ++ d).getD i 0) : (∀ i, i < c.length → F.getD (p + i) 0 = c.getD i 0) ∧ ∀ i, i < d.length → F.getD (p + c.length + i) 0 = d.getD i 0 := by
  rw [List.length_append] at h
  refine ⟨fun i hi => ?_, fun i hi => ?_⟩
  · rw [h i (by omega), gD_app_l hi]
  · rw [show p + c.length + i = p + (c.length + i) by omega, h _ (by omega), List.getD_eq_getElem?_getD, List.getElem?_append_right (by omega), List.getD_eq_getElem?_getD, show c.length + i - c.length = i by omega]
theorem rd_gv {t : Nat} {tx : Nat → Int32} {L : Nat} {P1 x2 : Int32} {e : Int32 → Int32} {F : List Int32} {h0 : AH} (R : RC t e x2 F h0) : ∀ (k a : Nat) (c : List Int32) (v : Wrt) (a2 p : Nat) (h : AH) (n : Nat), tGv tx L k a = (some (c, v), a2) → (∀ i, i < c.length → F.getD (p + i) 0 = c.getD i 0) → p + c.length = F.length → SR h [] → Fr Sr h0 h → c.length < n → Ok (fX3_readOf_38 t P1 n x2 0 0 (nI p) h) (fun q => q.1 = clp (v e) ∧ Fr Sr h0 q.2)
  | 0, a, c, v, a2, p, h, n, e1, _, _, _, _, _ => by cases e1
  | k + 1, a, c, v, a2, p, h, n, e1, hF, hp, S0, G, hn => by
    have tail : ∀ (S : List Int32) (qw vw : Wrt) (a1 : Nat), (∀ x, x ∈ S → x ≠ -59) → ((ex e S [] = some [vw e] ∧ ¬ qw e = 0) ∨ ex e S [] = some [vw e, qw e]) → (if a1 < L ∧ tx a1 = 59 then onOk (tGv tx L k (a1 + 1)) (fun c2 v2 a2 => (some (S ++ (-59 :: c2), fun e => if qw e = 0 then v2 e else vw e), a2)) else if a1 < L then (none, a1) else (some (S ++ [-59], fun e => if qw e = 0 then 0 else vw e), a1)) = (some (c, v), a2) → Ok (fX3_readOf_38 t P1 n x2 0 0 (nI p) h) (fun q => q.1 = clp (v e) ∧ Fr Sr h0 q.2) := by
      intro S qw vw a1 hx hs eq
      by_cases z : a1 < L ∧ tx a1 = 59
      · rw [if_pos z] at eq
        obtain ⟨c2, v2, a3, e2, e3⟩ := onOk_some eq
        cases e3
        obtain ⟨g1, g2⟩ := gD_pre hF
        rw [List.length_append] at hp hn
        have hc : (-59 :: c2).length = c2.length + 1 := rfl
        obtain ⟨n, rfl⟩ : ∃ n', n = n' + 2 + S.length := ⟨n - 2 - S.length, by omega⟩
        refine rd_tail (w := v2 e) S R g1 (g2 0 (by omega)) (by omega) hx hs S0 G (fun _ h' S' G' => ?_)
        refine rd_gv R k (a1 + 1) c2 v2 _ (p + S.length + 1) h' (n + 1) e2 (fun i hi => ?_) (by omega) S' G' (by omega)
        rw [show p + S.length + 1 + i = p + S.length + (i + 1) by omega, g2 (i + 1) (by omega)]
        rfl
      · rw [if_neg z] at eq
        by_cases z2 : a1 < L
        · rw [if_pos z2] at eq; cases eq
        · rw [if_neg z2] at eq
          cases eq
          obtain ⟨g1, g2⟩ := gD_pre hF
          rw [List.length_append] at hp hn
          have hc : [(-59 : Int32)].length = 1 := rfl
          obtain ⟨n, rfl⟩ : ∃ n', n = n' + 2 + S.length := ⟨n - 2 - S.length, by omega⟩
          refine rd_tail (w := 0) S R g1 (g2 0 (by omega)) (by omega) hx hs S0 G (fun _ h' S' G' => rd_end G' (Or.inl ?_))
          have R0 := R.1
          rw [(R.2 h' G').1, nI_leI (by omega) (by omega)]
          omega
    have e1 : onOk (tExp tx L a) (fun c v a1 => if a1 < L ∧ tx a1 = 63 then onOk (tExp tx L (a1 + 1)) (fun c2 v2 a2 => _) else _) = (some (c, v), a2) := e1
    obtain ⟨c1, v1, a1, f1, f2⟩ := onOk_some e1
    have h1 := gd_exp tx L _ _ _ _ f1
    by_cases z : a1 < L ∧ tx a1 = 63
    · rw [if_pos z] at f2
      obtain ⟨c3, v3, a3, f3, f4⟩ := onOk_some f2
      have h3 := gd_exp tx L _ _ _ _ f3
      refine tail (c1 ++ c3) v1 v3 a3 (fun x hx => ?_) (Or.inr ?_) f4
      · rcases List.mem_append.1 hx with q | q
        · exact h1.1 x q
        · exact h3.1 x q
      · rw [ex_app, h1.2 e []]
        exact h3.2 e [v1 e]
    · rw [if_neg z] at f2
      exact tail c1 (fun _ => 1) v1 a1 h1.1 (Or.inl ⟨h1.2 e [], by decide⟩) f2
def lawOf (v : Wrt) : LawF := fun r l hd mn lf g => clp (v (envN r l hd mn lf g))
theorem law_in (v : Wrt) : inR (lawOf v) := by
  intro a b c d e f
  unfold lawOf clp
  rw [jmax_toInt, jmin_toInt, show (0 : Int32).toInt = 0 by decide, show (99 : Int32).toInt = 99 by decide]
  omega
theorem gv_len {tx : Nat → Int32} {L : Nat} : ∀ (k a : Nat) (c : List Int32) (v : Wrt) (a2 : Nat), tGv tx L k a = (some (c, v), a2) → 1 ≤ c.length
  | 0, a, c, v, a2, e => by cases e
  | k + 1, a, c, v, a2, e => by
    have tail : ∀ (S : List Int32) (qw vw : Wrt) (a1 : Nat), (if a1 < L ∧ tx a1 = 59 then onOk (tGv tx L k (a1 + 1)) (fun c2 v2 a2 => (some (S ++ (-59 :: c2), fun e => if qw e = 0 then v2 e else vw e), a2)) else if a1 < L then (none, a1) else (some (S ++ [-59], fun e => if qw e = 0 then 0 else vw e), a1)) = (some (c, v), a2) → 1 ≤ c.length := by
      intro S qw vw a1 eq
      by_cases z : a1 < L ∧ tx a1 = 59
      · rw [if_pos z] at eq
        obtain ⟨c2, v2, a3, e2, e3⟩ := onOk_some eq
        cases e3
        rw [List.length_append]
        show 1 ≤ _ + (_ + 1)
        omega
      · rw [if_neg z] at eq
        by_cases z2 : a1 < L
        · rw [if_pos z2] at eq; cases eq
        · rw [if_neg z2] at eq
          cases eq
          rw [List.length_append]
          show 1 ≤ _ + 1
          omega
    have e1 : onOk (tExp tx L a) (fun c v a1 => if a1 < L ∧ tx a1 = 63 then onOk (tExp tx L (a1 + 1)) (fun c2 v2 a2 => _) else _) = (some (c, v), a2) := e
    obtain ⟨c1, v1, a1, f1, f2⟩ := onOk_some e1
    by_cases z : a1 < L ∧ tx a1 = 63
    · rw [if_pos z] at f2
      obtain ⟨c3, v3, a3, f3, f4⟩ := onOk_some f2
      exact tail (c1 ++ c3) v1 v3 a3 f4
    · rw [if_neg z] at f2
      exact tail c1 (fun _ => 1) v1 a1 f2
theorem cl_of {h : AH} {tx : Nat → Int32} {L k a2 : Nat} {c : List Int32} {v : Wrt} (eg : tGv tx L k 0 = (some (c, v), a2)) (hc : c.length ≤ 121) (h1 : h.1 15 1 = nI c.length) (h16 : ∀ i, i < c.length → h.1 16 i = c.getD i 0) : CL h (lawOf v) := by
  intro t n m num sl mn h' ht hn9 hg C e15 e16 i hi
  have hlen := gv_len k 0 c v a2 eg
  unfold fX3_readOf
  rw [c_hasGuest C.1 hn9, b2_some, nI_toInt (by omega), if_pos (show 0 ≤ (i : Int) ∧ (i : Int) < (n : Int) by omega)]
  refine ok_f (by decide) ?_
  rw [e15, h1]
  refine ok_f (nI_ne0 (by omega) (by omega)) ?_
  unfold fX3_readOf_26
  refine ok_let ?_
  have G : Fr Sr h' (wI h' 15 3 0) := Fr.rf.w (Or.inr ⟨rfl, rfl⟩)
  have R : RC t (envN (num i 0) (num i 2) (num i 3) mn (nI (lftN num n)) (nI i)) (nI i) c h' := by
    refine ⟨hc, fun h2 F2 => ⟨?_, fun j hj => ?_, fun b hb => ?_⟩⟩
    · rw [F2.1 15 1 (by unfold Sr; omega), e15]; exact h1
    · rw [F2.1 16 j (by unfold Sr; omega), e16]; exact h16 j hj
    · refine c_name ht hn9 hg (C.fr F2 (fun o k q1 q2 q3 => ?_)) hi hb
      unfold Sr at q3
      unfold isT at ht
      omega
  exact rd_gv R k 0 c v a2 0 _ FU eg (fun j hj => by rw [Nat.zero_add]) (by omega) ⟨by rw [wI_rd, if_pos ⟨rfl, rfl⟩]; rfl, fun j hj => absurd hj (Nat.not_lt_zero j)⟩ G (by unfold FU; omega)
