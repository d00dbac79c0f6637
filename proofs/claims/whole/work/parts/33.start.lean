theorem nlL_7 : NL RL 7 9 12 := ⟨RX9, TX9, tyX9, rfl, Nat.le_of_ble_eq_true rfl, inX9, tyX9_ok, by decide +kernel, in_g 74 (by decide +kernel) rfl, in_g 75 (by decide +kernel) rfl, in_g 61 (by decide +kernel) rfl⟩
theorem nlL_10 : NL RL 10 10 46 := ⟨RX10, TX10, tyX10, rfl, Nat.le_of_ble_eq_true rfl, inX10, tyX10_ok, by decide +kernel, in_g 911 (by decide +kernel) rfl, in_g 912 (by decide +kernel) rfl, in_g 71 (by decide +kernel) rfl⟩
theorem ilL_9 : Cond.methodLink RL 9 yX9_init ∈ gtbl ∧ Cond.instanceMethod yX9_init ∈ gtbl := ⟨in_g 76 (by decide +kernel) rfl, in_g 77 (by decide +kernel) rfl⟩
theorem ilL_12 : Cond.methodLink RL 12 yX10_init ∈ gtbl ∧ Cond.instanceMethod yX10_init ∈ gtbl := ⟨in_g 913 (by decide +kernel) rfl, in_g 914 (by decide +kernel) rfl⟩
def zH : AH := (fun _ _ => 0, fun _ _ => 0)
def zR : RH := fun _ _ => none
def h0 : AH := hCX10_init_59 (hCX9_init_0 zH)
def r0 : RH := rCX10_init_59 (rCX9_init_0 zR)
theorem fr0 : frN 0 zH zR := ⟨fun o _ => ⟨rfl, rfl, rfl⟩, fun o k q hq => by cases hq⟩
set_option maxRecDepth 20000 in
theorem r0_obj : ∀ o, o < NO → ∀ k, k < 46 → isR (KD o).1 k = true → r0 o k = some (rf o k) := by decide +kernel
theorem r0_arr : ∀ o, o < NO → (KD o).1 = 23 → ∀ k, k < (KD o).2 → r0 o k = some (rf o k) := by decide +kernel
theorem kd_46 : ∀ o, o < NO → (KD o).1 < 20 → (KD o).2 ≤ 46 := by decide +kernel
theorem arrV_ext {cI : ClassId} {N : Nat} {f g : Nat → Value} (hh : ∀ j, j < N → f j = g j) : arrV cI N f = arrV cI N g := by
  unfold arrV
  congr 1
  apply Array.ext
  · simp
  · intro i h1 h2
    simp at h1 ⊢
    exact hh i h1
theorem conv_P {D : va_G} {cA : Nat → ClassId} {ad : Nat → Nat} {H : Heap} (hP : va_P D vwCl (Wn ad cA NO h0 r0) H) : va_P D vwCl (Wd ad cA h0) H := by
  intro o q hq
  have ho : o < NO := by
    have := (List.getElem?_eq_some_iff.mp hq).1
    simpa [Wd] using this
  rw [wd_get ho] at hq
  cases hq
  have hc := hP o _ (wn_get ho)
  rcases hk : KD o with ⟨ci, N⟩
  by_cases h20 : ci = 20
  · subst h20
    rw [cell_i hk]; rw [celN_i hk] at hc; exact hc
  by_cases h21 : ci = 21
  · subst h21
    rw [cell_l hk]; rw [celN_l hk] at hc; exact hc
  by_cases h22 : ci = 22
  · subst h22
    rw [cell_c hk]; rw [celN_c hk] at hc; exact hc
  by_cases h23 : ci = 23
  · subst h23
    rw [cell_r hk]; rw [celN_r hk] at hc
    have e1 : H[ad o]? = some (vp_cell (cA 23) (N, .inr (.inr (.inr (.inr (fun k => (r0 o k).map ad)))))) := hc
    show H[ad o]? = some (vp_cell (cA 23) (N, .inr (.inr (.inr (.inr (fun k => some (ad (rf o k))))))))
    rw [e1, vp_cell_q, vp_cell_q]
    congr 1
    apply arrV_ext
    intro j hj
    rw [r0_arr o ho (by rw [hk]) j (by rw [hk]; exact hj)]
    rfl
  have hall : ∀ o, o < NO → (KD o).1 < 20 ∨ (KD o).1 = 20 ∨ (KD o).1 = 21 ∨ (KD o).1 = 22 ∨ (KD o).1 = 23 := by decide +kernel
  have hlt : ci < 20 := by
    have := hall o ho
    rw [hk] at this
    have t : ci < 20 ∨ ci = 20 ∨ ci = 21 ∨ ci = 22 ∨ ci = 23 := this
    omega
  rw [cell_o hk hlt]; rw [celN_o hk hlt] at hc
  have hN : N ≤ 46 := by
    have := kd_46 o ho (by rw [hk]; exact hlt)
    rw [hk] at this
    exact this
  have e1 : (List.range N).map (fldN ad h0 r0 ci o) = (List.range N).map (fldV ad h0 ci o) := by
    apply List.map_congr_left
    intro k hkm
    have hkN := List.mem_range.mp hkm
    unfold fldN fldV
    by_cases hr : isR ci k = true
    · rw [if_pos hr, if_pos hr, r0_obj o ho k (by omega) (by rw [hk]; exact hr)]
      rfl
    · rw [if_neg hr, if_neg hr]
  rw [← e1]
  exact hc
theorem conv_D {A : Nat → Prop} {cA : Nat → ClassId} {ad : Nat → Nat} (hD : va_D A (Wn ad cA NO h0 r0)) : va_D A (Wd ad cA h0) := by
  have key : ∀ (o : Nat) (q : Nat × va_E), (Wd ad cA h0)[o]? = some q → ∃ q2, (Wn ad cA NO h0 r0)[o]? = some q2 ∧ q2.1 = q.1 := by
    intro o q hq
    have ho : o < NO := by
      have := (List.getElem?_eq_some_iff.mp hq).1
      simpa [Wd] using this
    rw [wd_get ho] at hq
    cases hq
    exact ⟨_, wn_get ho, rfl⟩
  refine ⟨fun i j x y hi hj hxy => ?_, fun k q hq => ?_⟩
  · obtain ⟨x2, a1, a2⟩ := key i x hi
    obtain ⟨y2, b1, b2⟩ := key j y hj
    exact hD.1 i j x2 y2 a1 b1 (by rw [a2, b2]; exact hxy)
  · obtain ⟨q2, a1, a2⟩ := key k q hq
    rw [← a2]
    exact hD.2 k q2 a1
set_option maxRecDepth 20000 in
theorem law_pre {G : GG} {E : EE} (K : OKC G E 99 600000 7302249 RL cL_law 4) (hfin : JC G E 4 0 86 3157 86 18 [(3, .int 0), (2, .ref 59), (1, .ref 0), (0, .ref 300)] [] h0 r0) : JC G E 4 0 0 0 0 0 [(0, .ref 300)] [] zH zR := by
  refine rc_new K nlL_7 fr0 dL_law_0 rfl (Nat.le_of_ble_eq_true rfl) (Nat.le_of_ble_eq_true rfl) rfl rfl (Nat.le_of_ble_eq_true rfl) ?_
  have f1 := fr0.up
  refine rc_dup K dL_law_3 rfl ?_
  refine rc_callI (d9 := 3) (mc9 := 58) (ms9 := 1630) (av := []) (st := [.ref 0]) K ilL_9 mwX9_init rfl (ccX9_init_0 _ _ f1) dL_law_4 (Nat.le_of_ble_eq_true rfl) (Nat.le_of_ble_eq_true rfl) (Nat.le_of_ble_eq_true rfl) rfl rfl (Nat.le_of_ble_eq_true rfl) rfl rfl (Nat.le_of_ble_eq_true rfl) ?_
  have f2 := fcX9_init_0 _ _ f1
  refine rc_astore_n (lv' := [(1, .ref 0), (0, .ref 300)]) K dL_law_7 rfl (Nat.le_of_ble_eq_true rfl) rfl ?_
  refine rc_new K nlL_10 f2 dL_law_8 rfl (Nat.le_of_ble_eq_true rfl) (Nat.le_of_ble_eq_true rfl) rfl rfl (Nat.le_of_ble_eq_true rfl) ?_
  have f3 := f2.up
  refine rc_dup K dL_law_11 rfl ?_
  refine rc_callI (d9 := 1) (mc9 := 26) (ms9 := 1469) (av := []) (st := [.ref 59]) K ilL_12 mwX10_init rfl (ccX10_init_59 _ _ f3) dL_law_12 (Nat.le_of_ble_eq_true rfl) (Nat.le_of_ble_eq_true rfl) (Nat.le_of_ble_eq_true rfl) rfl rfl (Nat.le_of_ble_eq_true rfl) rfl rfl (Nat.le_of_ble_eq_true rfl) ?_
  refine rc_astore_n (lv' := [(2, .ref 59), (1, .ref 0), (0, .ref 300)]) K dL_law_15 rfl (Nat.le_of_ble_eq_true rfl) rfl ?_
  refine rc_iconst (v := 0) K dL_law_16 rfl ?_
  refine rc_istore_n (lv' := [(3, .int 0), (2, .ref 59), (1, .ref 0), (0, .ref 300)]) K dL_law_17 rfl (Nat.le_of_ble_eq_true rfl) rfl ?_
  exact hfin
set_option maxRecDepth 20000 in
theorem st_200 {s : State} {b : Nat} {A : Nat → Prop} (hts : ∀ w ∈ lw_tbl, w.before #[Value.ref b] s = true) (hgv : (Jvm.Cond.and given_1 narrow_1).before #[Value.ref b] s = true) (hA : ∀ a : Nat, a < s.heap.size → ¬ A a) : ∃ t : Nat, va_Z "GloveRegret" "LEAST" "[I" (.ref t) A s s.heap ∧ va_T .int t 9 (fun j => .int (ST 200 j)) A s s.heap := by
  have hs := flat_of_before _ hgv
  have hel : ∀ j : Nat, j < 9 → (Term.elem (Term.static "GloveRegret" "LEAST" "[I") (.int (Int32.ofNat j))).eval #[Value.ref b] s none [] s = some ((fun j => Value.int (ST 200 j)) j) := by
    intro j hj
    match j, hj with
    | 0, _ => exact va_eqt (t := .elem (Term.static "GloveRegret" "LEAST" "[I") (.int (Int32.ofNat 0))) (z := 0) (hs _ (by decide +kernel))
    | 1, _ => exact va_eqt (t := .elem (Term.static "GloveRegret" "LEAST" "[I") (.int (Int32.ofNat 1))) (z := 0) (hs _ (by decide +kernel))
    | 2, _ => exact va_eqt (t := .elem (Term.static "GloveRegret" "LEAST" "[I") (.int (Int32.ofNat 2))) (z := 0) (hs _ (by decide +kernel))
    | 3, _ => exact va_eqt (t := .elem (Term.static "GloveRegret" "LEAST" "[I") (.int (Int32.ofNat 3))) (z := 0) (hs _ (by decide +kernel))
    | 4, _ => exact va_eqt (t := .elem (Term.static "GloveRegret" "LEAST" "[I") (.int (Int32.ofNat 4))) (z := 5) (hs _ (by decide +kernel))
    | 5, _ => exact va_eqt (t := .elem (Term.static "GloveRegret" "LEAST" "[I") (.int (Int32.ofNat 5))) (z := 0) (hs _ (by decide +kernel))
    | 6, _ => exact va_eqt (t := .elem (Term.static "GloveRegret" "LEAST" "[I") (.int (Int32.ofNat 6))) (z := 0) (hs _ (by decide +kernel))
    | 7, _ => exact va_eqt (t := .elem (Term.static "GloveRegret" "LEAST" "[I") (.int (Int32.ofNat 7))) (z := 1) (hs _ (by decide +kernel))
    | 8, _ => exact va_eqt (t := .elem (Term.static "GloveRegret" "LEAST" "[I") (.int (Int32.ofNat 8))) (z := 0) (hs _ (by decide +kernel))
    | j + 9, hj => exact absurd hj (by omega)
  obtain ⟨t, h1, h2⟩ := va_Tof (args := #[Value.ref b]) (tm := (Term.static "GloveRegret" "LEAST" "[I")) (ty := .int) (N := 9) (f := fun j => .int (ST 200 j)) (A := A) (by decide) (hs _ (by decide +kernel)) (va_eqt (z := Int32.ofNat 9) (hs _ (by decide +kernel))) hel hA
  exact ⟨t, va_Zof (hts _ (List.mem_of_getElem? (i := 411) (by decide +kernel))) (hts _ (List.mem_of_getElem? (i := 61) (by decide +kernel))) h1 hA, h2⟩
set_option maxRecDepth 20000 in
theorem st_201 {s : State} {b : Nat} {A : Nat → Prop} (hts : ∀ w ∈ lw_tbl, w.before #[Value.ref b] s = true) (hgv : (Jvm.Cond.and given_1 narrow_1).before #[Value.ref b] s = true) (hA : ∀ a : Nat, a < s.heap.size → ¬ A a) : ∃ t : Nat, va_Z "GloveRegret" "MOST" "[I" (.ref t) A s s.heap ∧ va_T .int t 9 (fun j => .int (ST 201 j)) A s s.heap := by
  have hs := flat_of_before _ hgv
  have hel : ∀ j : Nat, j < 9 → (Term.elem (Term.static "GloveRegret" "MOST" "[I") (.int (Int32.ofNat j))).eval #[Value.ref b] s none [] s = some ((fun j => Value.int (ST 201 j)) j) := by
    intro j hj
    match j, hj with
    | 0, _ => exact va_eqt (t := .elem (Term.static "GloveRegret" "MOST" "[I") (.int (Int32.ofNat 0))) (z := 99) (hs _ (by decide +kernel))
    | 1, _ => exact va_eqt (t := .elem (Term.static "GloveRegret" "MOST" "[I") (.int (Int32.ofNat 1))) (z := 9) (hs _ (by decide +kernel))
    | 2, _ => exact va_eqt (t := .elem (Term.static "GloveRegret" "MOST" "[I") (.int (Int32.ofNat 2))) (z := 9) (hs _ (by decide +kernel))
    | 3, _ => exact va_eqt (t := .elem (Term.static "GloveRegret" "MOST" "[I") (.int (Int32.ofNat 3))) (z := 1) (hs _ (by decide +kernel))
    | 4, _ => exact va_eqt (t := .elem (Term.static "GloveRegret" "MOST" "[I") (.int (Int32.ofNat 4))) (z := 9) (hs _ (by decide +kernel))
    | 5, _ => exact va_eqt (t := .elem (Term.static "GloveRegret" "MOST" "[I") (.int (Int32.ofNat 5))) (z := 1) (hs _ (by decide +kernel))
    | 6, _ => exact va_eqt (t := .elem (Term.static "GloveRegret" "MOST" "[I") (.int (Int32.ofNat 6))) (z := 199) (hs _ (by decide +kernel))
    | 7, _ => exact va_eqt (t := .elem (Term.static "GloveRegret" "MOST" "[I") (.int (Int32.ofNat 7))) (z := 30) (hs _ (by decide +kernel))
    | 8, _ => exact va_eqt (t := .elem (Term.static "GloveRegret" "MOST" "[I") (.int (Int32.ofNat 8))) (z := 199) (hs _ (by decide +kernel))
    | j + 9, hj => exact absurd hj (by omega)
  obtain ⟨t, h1, h2⟩ := va_Tof (args := #[Value.ref b]) (tm := (Term.static "GloveRegret" "MOST" "[I")) (ty := .int) (N := 9) (f := fun j => .int (ST 201 j)) (A := A) (by decide) (hs _ (by decide +kernel)) (va_eqt (z := Int32.ofNat 9) (hs _ (by decide +kernel))) hel hA
  exact ⟨t, va_Zof (hts _ (List.mem_of_getElem? (i := 413) (by decide +kernel))) (hts _ (List.mem_of_getElem? (i := 61) (by decide +kernel))) h1 hA, h2⟩
set_option maxRecDepth 20000 in
theorem st_202 {s : State} {b : Nat} {A : Nat → Prop} (hts : ∀ w ∈ lw_tbl, w.before #[Value.ref b] s = true) (hgv : (Jvm.Cond.and given_1 narrow_1).before #[Value.ref b] s = true) (hA : ∀ a : Nat, a < s.heap.size → ¬ A a) : ∃ t : Nat, va_Z "GloveRegret$Hooks" "ABOVE" "[I" (.ref t) A s s.heap ∧ va_T .int t 8 (fun j => .int (ST 202 j)) A s s.heap := by
  have hs := flat_of_before _ hgv
  have hel : ∀ j : Nat, j < 8 → (Term.elem (Term.static "GloveRegret$Hooks" "ABOVE" "[I") (.int (Int32.ofNat j))).eval #[Value.ref b] s none [] s = some ((fun j => Value.int (ST 202 j)) j) := by
    intro j hj
    match j, hj with
    | 0, _ => exact va_eqt (t := .elem (Term.static "GloveRegret$Hooks" "ABOVE" "[I") (.int (Int32.ofNat 0))) (z := 0) (hs _ (by decide +kernel))
    | 1, _ => exact va_eqt (t := .elem (Term.static "GloveRegret$Hooks" "ABOVE" "[I") (.int (Int32.ofNat 1))) (z := 0) (hs _ (by decide +kernel))
    | 2, _ => exact va_eqt (t := .elem (Term.static "GloveRegret$Hooks" "ABOVE" "[I") (.int (Int32.ofNat 2))) (z := 0) (hs _ (by decide +kernel))
    | 3, _ => exact va_eqt (t := .elem (Term.static "GloveRegret$Hooks" "ABOVE" "[I") (.int (Int32.ofNat 3))) (z := 2) (hs _ (by decide +kernel))
    | 4, _ => exact va_eqt (t := .elem (Term.static "GloveRegret$Hooks" "ABOVE" "[I") (.int (Int32.ofNat 4))) (z := 1) (hs _ (by decide +kernel))
    | 5, _ => exact va_eqt (t := .elem (Term.static "GloveRegret$Hooks" "ABOVE" "[I") (.int (Int32.ofNat 5))) (z := 3) (hs _ (by decide +kernel))
    | 6, _ => exact va_eqt (t := .elem (Term.static "GloveRegret$Hooks" "ABOVE" "[I") (.int (Int32.ofNat 6))) (z := 0) (hs _ (by decide +kernel))
    | 7, _ => exact va_eqt (t := .elem (Term.static "GloveRegret$Hooks" "ABOVE" "[I") (.int (Int32.ofNat 7))) (z := 4) (hs _ (by decide +kernel))
    | j + 8, hj => exact absurd hj (by omega)
  obtain ⟨t, h1, h2⟩ := va_Tof (args := #[Value.ref b]) (tm := (Term.static "GloveRegret$Hooks" "ABOVE" "[I")) (ty := .int) (N := 8) (f := fun j => .int (ST 202 j)) (A := A) (by decide) (hs _ (by decide +kernel)) (va_eqt (z := Int32.ofNat 8) (hs _ (by decide +kernel))) hel hA
  exact ⟨t, va_Zof (hts _ (List.mem_of_getElem? (i := 846) (by decide +kernel))) (hts _ (List.mem_of_getElem? (i := 69) (by decide +kernel))) h1 hA, h2⟩
set_option maxRecDepth 20000 in
theorem st_203 {s : State} {b : Nat} {A : Nat → Prop} (hts : ∀ w ∈ lw_tbl, w.before #[Value.ref b] s = true) (hgv : (Jvm.Cond.and given_1 narrow_1).before #[Value.ref b] s = true) (hA : ∀ a : Nat, a < s.heap.size → ¬ A a) : ∃ t : Nat, va_Z "GloveRegret$Hooks" "OWN" "[I" (.ref t) A s s.heap ∧ va_T .int t 32 (fun j => .int (ST 203 j)) A s s.heap := by
  have hs := flat_of_before _ hgv
  have hel : ∀ j : Nat, j < 32 → (Term.elem (Term.static "GloveRegret$Hooks" "OWN" "[I") (.int (Int32.ofNat j))).eval #[Value.ref b] s none [] s = some ((fun j => Value.int (ST 203 j)) j) := by
    intro j hj
    match j, hj with
    | 0, _ => exact va_eqt (t := .elem (Term.static "GloveRegret$Hooks" "OWN" "[I") (.int (Int32.ofNat 0))) (z := 1) (hs _ (by decide +kernel))
    | 1, _ => exact va_eqt (t := .elem (Term.static "GloveRegret$Hooks" "OWN" "[I") (.int (Int32.ofNat 1))) (z := 10) (hs _ (by decide +kernel))
    | 2, _ => exact va_eqt (t := .elem (Term.static "GloveRegret$Hooks" "OWN" "[I") (.int (Int32.ofNat 2))) (z := 11) (hs _ (by decide +kernel))
    | 3, _ => exact va_eqt (t := .elem (Term.static "GloveRegret$Hooks" "OWN" "[I") (.int (Int32.ofNat 3))) (z := 2) (hs _ (by decide +kernel))
    | 4, _ => exact va_eqt (t := .elem (Term.static "GloveRegret$Hooks" "OWN" "[I") (.int (Int32.ofNat 4))) (z := 20) (hs _ (by decide +kernel))
    | 5, _ => exact va_eqt (t := .elem (Term.static "GloveRegret$Hooks" "OWN" "[I") (.int (Int32.ofNat 5))) (z := 0) (hs _ (by decide +kernel))
    | 6, _ => exact va_eqt (t := .elem (Term.static "GloveRegret$Hooks" "OWN" "[I") (.int (Int32.ofNat 6))) (z := 0) (hs _ (by decide +kernel))
    | 7, _ => exact va_eqt (t := .elem (Term.static "GloveRegret$Hooks" "OWN" "[I") (.int (Int32.ofNat 7))) (z := 0) (hs _ (by decide +kernel))
    | 8, _ => exact va_eqt (t := .elem (Term.static "GloveRegret$Hooks" "OWN" "[I") (.int (Int32.ofNat 8))) (z := 0) (hs _ (by decide +kernel))
    | 9, _ => exact va_eqt (t := .elem (Term.static "GloveRegret$Hooks" "OWN" "[I") (.int (Int32.ofNat 9))) (z := 30) (hs _ (by decide +kernel))
    | 10, _ => exact va_eqt (t := .elem (Term.static "GloveRegret$Hooks" "OWN" "[I") (.int (Int32.ofNat 10))) (z := 0) (hs _ (by decide +kernel))
    | 11, _ => exact va_eqt (t := .elem (Term.static "GloveRegret$Hooks" "OWN" "[I") (.int (Int32.ofNat 11))) (z := 0) (hs _ (by decide +kernel))
    | 12, _ => exact va_eqt (t := .elem (Term.static "GloveRegret$Hooks" "OWN" "[I") (.int (Int32.ofNat 12))) (z := 0) (hs _ (by decide +kernel))
    | 13, _ => exact va_eqt (t := .elem (Term.static "GloveRegret$Hooks" "OWN" "[I") (.int (Int32.ofNat 13))) (z := 41) (hs _ (by decide +kernel))
    | 14, _ => exact va_eqt (t := .elem (Term.static "GloveRegret$Hooks" "OWN" "[I") (.int (Int32.ofNat 14))) (z := 40) (hs _ (by decide +kernel))
    | 15, _ => exact va_eqt (t := .elem (Term.static "GloveRegret$Hooks" "OWN" "[I") (.int (Int32.ofNat 15))) (z := 0) (hs _ (by decide +kernel))
    | 16, _ => exact va_eqt (t := .elem (Term.static "GloveRegret$Hooks" "OWN" "[I") (.int (Int32.ofNat 16))) (z := 0) (hs _ (by decide +kernel))
    | 17, _ => exact va_eqt (t := .elem (Term.static "GloveRegret$Hooks" "OWN" "[I") (.int (Int32.ofNat 17))) (z := 0) (hs _ (by decide +kernel))
    | 18, _ => exact va_eqt (t := .elem (Term.static "GloveRegret$Hooks" "OWN" "[I") (.int (Int32.ofNat 18))) (z := 50) (hs _ (by decide +kernel))
    | 19, _ => exact va_eqt (t := .elem (Term.static "GloveRegret$Hooks" "OWN" "[I") (.int (Int32.ofNat 19))) (z := 0) (hs _ (by decide +kernel))
    | 20, _ => exact va_eqt (t := .elem (Term.static "GloveRegret$Hooks" "OWN" "[I") (.int (Int32.ofNat 20))) (z := 0) (hs _ (by decide +kernel))
    | 21, _ => exact va_eqt (t := .elem (Term.static "GloveRegret$Hooks" "OWN" "[I") (.int (Int32.ofNat 21))) (z := 0) (hs _ (by decide +kernel))
    | 22, _ => exact va_eqt (t := .elem (Term.static "GloveRegret$Hooks" "OWN" "[I") (.int (Int32.ofNat 22))) (z := 0) (hs _ (by decide +kernel))
    | 23, _ => exact va_eqt (t := .elem (Term.static "GloveRegret$Hooks" "OWN" "[I") (.int (Int32.ofNat 23))) (z := 60) (hs _ (by decide +kernel))
    | 24, _ => exact va_eqt (t := .elem (Term.static "GloveRegret$Hooks" "OWN" "[I") (.int (Int32.ofNat 24))) (z := 70) (hs _ (by decide +kernel))
    | 25, _ => exact va_eqt (t := .elem (Term.static "GloveRegret$Hooks" "OWN" "[I") (.int (Int32.ofNat 25))) (z := 0) (hs _ (by decide +kernel))
    | 26, _ => exact va_eqt (t := .elem (Term.static "GloveRegret$Hooks" "OWN" "[I") (.int (Int32.ofNat 26))) (z := 0) (hs _ (by decide +kernel))
    | 27, _ => exact va_eqt (t := .elem (Term.static "GloveRegret$Hooks" "OWN" "[I") (.int (Int32.ofNat 27))) (z := 0) (hs _ (by decide +kernel))
    | 28, _ => exact va_eqt (t := .elem (Term.static "GloveRegret$Hooks" "OWN" "[I") (.int (Int32.ofNat 28))) (z := 0) (hs _ (by decide +kernel))
    | 29, _ => exact va_eqt (t := .elem (Term.static "GloveRegret$Hooks" "OWN" "[I") (.int (Int32.ofNat 29))) (z := 80) (hs _ (by decide +kernel))
    | 30, _ => exact va_eqt (t := .elem (Term.static "GloveRegret$Hooks" "OWN" "[I") (.int (Int32.ofNat 30))) (z := 0) (hs _ (by decide +kernel))
    | 31, _ => exact va_eqt (t := .elem (Term.static "GloveRegret$Hooks" "OWN" "[I") (.int (Int32.ofNat 31))) (z := 81) (hs _ (by decide +kernel))
    | j + 32, hj => exact absurd hj (by omega)
  obtain ⟨t, h1, h2⟩ := va_Tof (args := #[Value.ref b]) (tm := (Term.static "GloveRegret$Hooks" "OWN" "[I")) (ty := .int) (N := 32) (f := fun j => .int (ST 203 j)) (A := A) (by decide) (hs _ (by decide +kernel)) (va_eqt (z := Int32.ofNat 32) (hs _ (by decide +kernel))) hel hA
  exact ⟨t, va_Zof (hts _ (List.mem_of_getElem? (i := 844) (by decide +kernel))) (hts _ (List.mem_of_getElem? (i := 69) (by decide +kernel))) h1 hA, h2⟩
theorem nwl_ok {s : State} {b : Nat} (hts : ∀ w ∈ lw_tbl, w.before #[Value.ref b] s = true) : ∀ q ∈ NWL, va_Nw (.methodLinkNest q.1 q.2.1 q.2.2.1 q.2.2.2) s := by
  have key : ∀ q ∈ NWL, Cond.methodLinkNest q.1 q.2.1 q.2.2.1 q.2.2.2 ∈ lw_tbl := by
    unfold NWL
    exact List.forall_mem_cons.mpr ⟨List.mem_of_getElem? (i := 596) (by decide +kernel), List.forall_mem_cons.mpr ⟨List.mem_of_getElem? (i := 726) (by decide +kernel), List.forall_mem_cons.mpr ⟨List.mem_of_getElem? (i := 743) (by decide +kernel), fun _ hh => absurd hh List.not_mem_nil⟩⟩⟩
  exact fun q hq => va_Nw.of rfl (hts _ (key q hq))
theorem nwc_ok {s : State} {b : Nat} (hts : ∀ w ∈ lw_tbl, w.before #[Value.ref b] s = true) : ∀ q ∈ NWC, va_Nw (.methodLinkNest q.1 q.2.1 q.2.2.1 q.2.2.2) s := by
  have key : ∀ q ∈ NWC, Cond.methodLinkNest q.1 q.2.1 q.2.2.1 q.2.2.2 ∈ lw_tbl := by
    unfold NWC
    exact List.forall_mem_cons.mpr ⟨List.mem_of_getElem? (i := 84) (by decide +kernel), List.forall_mem_cons.mpr ⟨List.mem_of_getElem? (i := 150) (by decide +kernel), List.forall_mem_cons.mpr ⟨List.mem_of_getElem? (i := 186) (by decide +kernel), List.forall_mem_cons.mpr ⟨List.mem_of_getElem? (i := 210) (by decide +kernel), List.forall_mem_cons.mpr ⟨List.mem_of_getElem? (i := 259) (by decide +kernel), List.forall_mem_cons.mpr ⟨List.mem_of_getElem? (i := 288) (by decide +kernel), List.forall_mem_cons.mpr ⟨List.mem_of_getElem? (i := 314) (by decide +kernel), List.forall_mem_cons.mpr ⟨List.mem_of_getElem? (i := 338) (by decide +kernel), fun _ hh => absurd hh List.not_mem_nil⟩⟩⟩⟩⟩⟩⟩⟩
  exact fun q hq => va_Nw.of rfl (hts _ (key q hq))
theorem cls_ok {s : State} {b : Nat} (hts : ∀ w ∈ lw_tbl, w.before #[Value.ref b] s = true) : ∃ (dC : Nat → ClassId) (dI : Nat → Nat → Nat), ∀ (k : Nat) (q : vw_C), vwCl[k]? = some q → u_Kn s q.1 q.2.1 q.2.2 (dC k) (dI k) := by
  have hg : ∀ w ∈ gtbl, w.before #[Value.ref b] s = true := fun w hw => hts w (List.mem_filter.mp hw).1
  have key : ∀ k : Nat, ∃ c : ClassId × (Nat → Nat), ∀ q : vw_C, vwCl[k]? = some q → u_Kn s q.1 q.2.1 q.2.2 c.1 c.2 := by
    intro k
    match k with
    | 0 => obtain ⟨c, i, hh⟩ := u_known (C := RX0) (T := TX0) (N := 6) (n := 6) hg inX0 (hts _ (List.mem_of_getElem? (i := 287) (by decide +kernel))); exact ⟨(c, i), fun q hq => by cases hq; exact hh⟩
    | 1 => obtain ⟨c, i, hh⟩ := u_known (C := RX1) (T := TX1) (N := 4) (n := 4) hg inX1 (hts _ (List.mem_of_getElem? (i := 313) (by decide +kernel))); exact ⟨(c, i), fun q hq => by cases hq; exact hh⟩
    | 2 => obtain ⟨c, i, hh⟩ := u_known (C := RX2) (T := TX2) (N := 7) (n := 7) hg inX2 (hts _ (List.mem_of_getElem? (i := 258) (by decide +kernel))); exact ⟨(c, i), fun q hq => by cases hq; exact hh⟩
    | 3 => obtain ⟨c, i, hh⟩ := u_known (C := RX3) (T := TX3) (N := 4) (n := 4) hg inX3 (hts _ (List.mem_of_getElem? (i := 185) (by decide +kernel))); exact ⟨(c, i), fun q hq => by cases hq; exact hh⟩
    | 4 => obtain ⟨c, i, hh⟩ := u_known (C := RX4) (T := TX4) (N := 9) (n := 9) hg inX4 (hts _ (List.mem_of_getElem? (i := 149) (by decide +kernel))); exact ⟨(c, i), fun q hq => by cases hq; exact hh⟩
    | 5 => obtain ⟨c, i, hh⟩ := u_known (C := RX5) (T := TX5) (N := 5) (n := 5) hg inX5 (hts _ (List.mem_of_getElem? (i := 337) (by decide +kernel))); exact ⟨(c, i), fun q hq => by cases hq; exact hh⟩
    | 6 => obtain ⟨c, i, hh⟩ := u_known (C := RX6) (T := TX6) (N := 7) (n := 7) hg inX6 (hts _ (List.mem_of_getElem? (i := 204) (by decide +kernel))); exact ⟨(c, i), fun q hq => by cases hq; exact hh⟩
    | 7 => obtain ⟨c, i, hh⟩ := u_known (C := RX7) (T := TX7) (N := 12) (n := 12) hg inX7 (hts _ (List.mem_of_getElem? (i := 83) (by decide +kernel))); exact ⟨(c, i), fun q hq => by cases hq; exact hh⟩
    | 8 => obtain ⟨c, i, hh⟩ := u_known (C := RX8) (T := TX8) (N := 4) (n := 4) hg inX8 (hts _ (List.mem_of_getElem? (i := 239) (by decide +kernel))); exact ⟨(c, i), fun q hq => by cases hq; exact hh⟩
    | 9 => obtain ⟨c, i, hh⟩ := u_known (C := RX9) (T := TX9) (N := 12) (n := 12) hg inX9 (hts _ (List.mem_of_getElem? (i := 75) (by decide +kernel))); exact ⟨(c, i), fun q hq => by cases hq; exact hh⟩
    | 10 => obtain ⟨c, i, hh⟩ := u_known (C := RX10) (T := TX10) (N := 46) (n := 46) hg inX10 (hts _ (List.mem_of_getElem? (i := 912) (by decide +kernel))); exact ⟨(c, i), fun q hq => by cases hq; exact hh⟩
    | k + 11 => exact ⟨(0, fun _ => 0), fun q hq => by simp [vwCl] at hq⟩
  exact ⟨fun k => (Classical.choose (key k)).1, fun k => (Classical.choose (key k)).2, fun k q hq => Classical.choose_spec (key k) q hq⟩
theorem arr_ok {s : State} {b : Nat} (hts : ∀ w ∈ lw_tbl, w.before #[Value.ref b] s = true) : ∃ cA : Nat → ClassId, ∀ (k : Nat) (q : ClassId × FieldType), (tyL cA)[k]? = some q → ArrOfT s q.1 q.2 ∧ va_RA s q.1 q.2 := by
  obtain ⟨c0, k0, p0, a1, a2, a3⟩ := Cond.arrayClass_spec (hts (.arrayClass .int) (List.mem_of_getElem? (i := 147) (by decide +kernel)))
  obtain ⟨c1, k1, p1, b1, b2, b3⟩ := Cond.arrayClass_spec (hts (.arrayClass .long) (List.mem_of_getElem? (i := 365) (by decide +kernel)))
  obtain ⟨c2, k2, p2, d1, d2, d3⟩ := Cond.arrayClass_spec (hts (.arrayClass .char) (List.mem_of_getElem? (i := 1056) (by decide +kernel)))
  obtain ⟨p3, c3, k3, e1, e2, e3, e4, e5⟩ := Cond.arrayOver_spec (hts (.arrayOver (.object RX5)) (List.mem_of_getElem? (i := 336) (by decide +kernel)))
  refine ⟨fun k => if k = 20 then c0 else if k = 21 then c1 else if k = 22 then c2 else c3, ?_⟩
  intro k q hq
  match k, hq with
  | 0, hq => cases hq; exact ⟨fun n z => ⟨fun k hh => (by cases hh), k0, a2, p0, a3⟩, a1⟩
  | 1, hq => cases hq; exact ⟨fun n z => ⟨fun k hh => (by cases hh), k1, b2, p1, b3⟩, b1⟩
  | 2, hq => cases hq; exact ⟨fun n z => ⟨fun k hh => (by cases hh), k2, d2, p2, d3⟩, d1⟩
  | 3, hq => cases hq; exact ⟨fun n z => ⟨fun k hh => (by cases hh), k3, e3, p3, e4⟩, k3, p3, e3, e4, e1, e5⟩
  | k + 4, hq => simp [tyL] at hq
set_option maxHeartbeats 4000000 in
set_option maxRecDepth 100000 in
/-- the law from its entry, out of what its function answers -/
theorem start_of {p : Program} {e : Env} {s : State} {m : MethodId} {below : List Frame} {meth : Method} {c : Code} (l : Launch) {b L : Nat} {xs : Nat → Int32} (C0 : lw_At p s m meth c b L xs) (hpure : ∃ h', fL_law_18 xs L FU 0 h0 = some (1, h')) : W p l e room_1 s m #[Value.ref b] below meth c s.heap [] 0 0 (lw_Z below #[Value.ref b] s) (entryFrame m ([Value.ref b] : List Value).toArray 4) := by
  obtain ⟨hx, hb, hr, hml, hown, hts, hX, hbl, hlocks, hgv⟩ := id C0
  obtain ⟨h', hpure⟩ := hpure
  have hg : ∀ w ∈ gtbl, w.before #[Value.ref b] s = true := fun w hw => hts w (List.mem_filter.mp hw).1
  have hAn : ∀ a : Nat, a < s.heap.size → ¬ (fun q : Nat => s.heap.size ≤ q) a := fun a ha => Nat.not_le.mpr ha
  obtain ⟨dC, dI, hKc⟩ := cls_ok hts
  obtain ⟨cA, hKa⟩ := arr_ok hts
  obtain ⟨t0, z0, y0⟩ := st_200 hts hgv hAn
  obtain ⟨t1, z1, y1⟩ := st_201 hts hgv hAn
  obtain ⟨t2, z2, y2⟩ := st_202 hts hgv hAn
  obtain ⟨t3, z3, y3⟩ := st_203 hts hgv hAn
  have hK : va_K (dC, dI) vwCl (tyL cA) s := ⟨hKc, hKa⟩
  have hN : NW s := nwl_ok hts
  have hNc : NWc s := ⟨nwc_ok hts, va_AO.of (hts _ (List.mem_of_getElem? (i := 336) (by decide +kernel)))⟩
  have hl := lv_entry ([.ref b]) (n := 4) (Nat.le_of_ble_eq_true rfl)
  rw [lg_entry_eq]
  generalize (lg_sl ([.ref b]) ++ List.replicate (4 - (lg_sl ([.ref b])).length) Slot.unset).toArray = ls at hl ⊢
  have hl : lv_has ls 4 [(0, .ref b)] := hl
  have hP : va_P (dC, dI) vwCl (Wn (fun o => if o = 300 then b else if o = 200 then t0 else if o = 201 then t1 else if o = 202 then t2 else t3) cA 0 zH zR) s.heap := fun k q hq => by simp [Wn] at hq
  have hD : va_D (fun q : Nat => s.heap.size ≤ q) (Wn (fun o => if o = 300 then b else if o = 200 then t0 else if o = 201 then t1 else if o = 202 then t2 else t3) cA 0 zH zR) := ⟨fun i j x y hi => by simp [Wn] at hi, fun k q hq => by simp [Wn] at hq⟩
  have K : OKC ((dC, dI), (fun q : Nat => s.heap.size ≤ q), (fun o => if o = 300 then b else if o = 200 then t0 else if o = 201 then t1 else if o = 202 then t2 else t3), cA) (p, l, e, room_1, s, m, #[Value.ref b], below, meth, c, 86, 3157, lw_Z below #[Value.ref b] s) 99 600000 7302249 RL cL_law 4 := ⟨hx, hb, hml, hown, hg, hK, hNc, ⟨Nat.le_of_ble_eq_true rfl, Nat.le_of_ble_eq_true rfl, Nat.le_refl _, Nat.le_refl _⟩, fun q hq => hq⟩
  refine law_pre K ?_ (fun o => if o = 300 then b else if o = 200 then t0 else if o = 201 then t1 else if o = 202 then t2 else t3) s.heap [] ls (fun _ _ => rfl) hP hD va_S.rf hl
  intro ad H locs ls had hP hD hS hl
  have a300 : ad 300 = b := had 300 (Or.inr (Nat.le_of_ble_eq_true rfl))
  have a200 : ad 200 = t0 := had 200 (Or.inr (Nat.le_of_ble_eq_true rfl))
  have a201 : ad 201 = t1 := had 201 (Or.inr (Nat.le_of_ble_eq_true rfl))
  have a202 : ad 202 = t2 := had 202 (Or.inr (Nat.le_of_ble_eq_true rfl))
  have a203 : ad 203 = t3 := had 203 (Or.inr (Nat.le_of_ble_eq_true rfl))
  have hSF : SF ((dC, dI), (fun q : Nat => s.heap.size ≤ q), ad, cA) s s.heap := by
    unfold SF STN
    refine List.forall_mem_cons.mpr ⟨⟨?_, ?_⟩, List.forall_mem_cons.mpr ⟨⟨?_, ?_⟩, List.forall_mem_cons.mpr ⟨⟨?_, ?_⟩, List.forall_mem_cons.mpr ⟨⟨?_, ?_⟩, fun _ hh => absurd hh List.not_mem_nil⟩⟩⟩⟩
    · show va_Z _ _ _ (.ref (ad 200)) _ _ _; rw [a200]; exact z0
    · show va_T _ (ad 200) _ _ _ _ _; rw [a200]; exact y0
    · show va_Z _ _ _ (.ref (ad 201)) _ _ _; rw [a201]; exact z1
    · show va_T _ (ad 201) _ _ _ _ _; rw [a201]; exact y1
    · show va_Z _ _ _ (.ref (ad 202)) _ _ _; rw [a202]; exact z2
    · show va_T _ (ad 202) _ _ _ _ _; rw [a202]; exact y2
    · show va_Z _ _ _ (.ref (ad 203)) _ _ _; rw [a203]; exact z3
    · show va_T _ (ad 203) _ _ _ _ _; rw [a203]; exact y3
  have KK : OK ((dC, dI), (fun q : Nat => s.heap.size ≤ q), ad, cA) (p, l, e, room_1, s, m, #[Value.ref b], below, meth, c, 86, 3157, lw_Z below #[Value.ref b] s) 99 RL cL_law 4 := ⟨hx, hb, hml, hown, hg, hK, hSF, hN, Nat.le_of_ble_eq_true rfl, Nat.le_of_ble_eq_true rfl, Nat.le_of_ble_eq_true rfl, Nat.le_of_ble_eq_true rfl⟩
  have XO : XOK ((dC, dI), (fun q : Nat => s.heap.size ≤ q), ad, cA) (p, l, e, room_1, s, m, #[Value.ref b], below, meth, c, 86, 3157, lw_Z below #[Value.ref b] s) L xs := ⟨by rw [a300]; exact hX, by rw [a300]; exact hbl, by rw [a300]; exact hAn b hbl⟩
  have Z : RTL ((dC, dI), (fun q : Nat => s.heap.size ≤ q), ad, cA) (p, l, e, room_1, s, m, #[Value.ref b], below, meth, c, 86, 3157, lw_Z below #[Value.ref b] s) := ⟨by rw [a300], rfl, by rw [a300], hr, hlocks, Nat.le_of_ble_eq_true rfl, Nat.le_of_ble_eq_true rfl, hb, fun q hq => hq⟩
  have hl2 : lv_has ls 4 ([(0, .ref 300), (1, .ref 0), (2, .ref 59), (3, .int 0)].map (cvp ad)) := lv_sub hl [3, 2, 1, 0] rfl
  exact sL_law_18 KK Z xs L XO FU 0 h0 hpure H locs ls (conv_P hP) (conv_D hD) hS hl2
