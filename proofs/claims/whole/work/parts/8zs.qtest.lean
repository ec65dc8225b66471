/-! THE REFERENCE READS A TEST by its machine with a stack -/
/-- what waits in a test -/
def tw_ (W : List Int) : Prop := ∀ w ∈ W, w = 10 ∨ w = 11 ∨ w = 12 ∨ w = 25
theorem tw_c {w : Int} {W : List Int} (h : w = 10 ∨ w = 11 ∨ w = 12 ∨ w = 25) (hW : tw_ W) : tw_ (w :: W) := fun x hx => by
  rcases List.mem_cons.mp hx with q | q
  · rw [q]; exact h
  · exact hW x q
theorem tw_tl {w : Int} {W : List Int} (h : tw_ (w :: W)) : tw_ W := fun x hx => h x (List.mem_cons_of_mem _ hx)
theorem tw_r {U W : List Int} (h : tw_ (U ++ W)) : tw_ W := fun x hx => h x (List.mem_append_right _ hx)
theorem tw_hd {W : List Int} (h : tw_ W) : hd_ (fun w => ¬ (1 ≤ w ∧ w ≤ 4)) W := by
  cases W with
  | nil => trivial
  | cons w W =>
    have := h w List.mem_cons_self
    show ¬ (1 ≤ w ∧ w ≤ 4)
    omega
theorem pd_in : ∀ (C W : List Int) (r : Nat), (pd_ C W r).1.length + (pd_ C W r).2.1.length = C.length + W.length ∧ (tw_ W → tw_ (pd_ C W r).2.1)
  | _, [], _ => ⟨rfl, fun h => h⟩
  | C, w :: W, r => by
    by_cases c : w = 12
    · have e : pd_ C (w :: W) r = pd_ (C ++ [w]) W (r + 1) := if_pos c
      have ih := pd_in (C ++ [w]) W (r + 1)
      rw [e, List.length_cons]
      rw [List.length_append, List.length_singleton] at ih
      exact ⟨by omega, fun h => ih.2 (tw_tl h)⟩
    · have e : pd_ C (w :: W) r = (C, w :: W, r) := if_neg c
      rw [e]
      exact ⟨rfl, fun h => h⟩
section TS
variable {M0 M : am_M} {Q : am_Q} {d : Nat} {p en b : Int} {C W : List Int} {r : Nat}
theorem qspush {k : Int} (hk : ¬ (k = 12 ∨ 20 ≤ k)) (hs : qsk M C W r b) (hl : C.length + W.length < 1600) : (0 ≤ M 152 85 ∧ M 152 85 < 1700) ∧ am_r (M 152 85 + 1) ∧ qsk (am_up (am_up M 212 (M 152 85) k) 152 85 (M 152 85 + 1)) C (k :: W) r b ∧ qsf M (am_up (am_up M 212 (M 152 85) k) 152 85 (M 152 85 + 1)) := by
  obtain ⟨⟨a1, a2⟩, ⟨a3, a4⟩, ⟨a5, a6⟩, a7, a8⟩ := hs
  have eo : on_ (k :: W) = on_ W := by
    show (if k = 12 ∨ 20 ≤ k then 1 else 0) + on_ W = _
    rw [if_neg hk]; omega
  refine ⟨⟨by omega, by omega⟩, ⟨by omega, by omega⟩, ⟨⟨?_, fun i hi => ?_⟩, ⟨?_, fun i hi => ?_⟩, ⟨?_, by rw [eo]; exact a6⟩, ?_, ?_⟩, fun x j y1 y2 y3 => by rw [am_up_el (by omega), am_up_el (by omega)]⟩
  · rw [am_up_el (by omega), am_up_el (by omega)]; exact a1
  · rw [am_up_el (by omega), am_up_el (by omega)]; exact a2 i hi
  · rw [am_up_at, List.length_cons]; omega
  · rw [List.length_cons] at hi ⊢
    rw [am_up_el (by omega)]
    cases i with
    | zero =>
      rw [show ((W.length + 1 : Nat) : Int) - 1 - ((0 : Nat) : Int) = M 152 85 by omega, am_up_at]
      rfl
    | succ i =>
      rw [am_up_el (by omega), show ((W.length + 1 : Nat) : Int) - 1 - ((i + 1 : Nat) : Int) = (W.length : Int) - 1 - i by omega]
      exact a4 i (by omega)
  · rw [am_up_el (by omega), am_up_el (by omega)]; exact a5
  · rw [am_up_el (by omega), am_up_el (by omega)]; exact a7
  · rw [List.length_cons]; omega
/-- nots that wait for a fact that has been told -/
theorem tsdn {f : am_M → Prop} : ∀ (W C : List Int) (r : Nat) (M : am_M), M 152 5 = 0 → qsk M C W r b → (∀ M', qsk M' (pd_ C W r).1 (pd_ C W r).2.1 (pd_ C W r).2.2 b → qsf M M' → f M') → am_g 12 9 co_X12_qDropsNots (d + 2) (am_cv sh_T f) 0 [(2, 152)] [] sh_T M
  | [], C, r, M, hb, hs, hf => bk_X12_qDropsNots_0 ⟨fun z => absurd hb z, fun _ => qsisOn hs (fun _ => ⟨fun _ => am_cv_i (hf M hs (fun _ _ _ _ _ => rfl)), fun z => absurd rfl z⟩) (fun w W' h => by cases h)⟩
  | w :: W, C, r, M, hb, hs, hf => by
    have e : pd_ C (w :: W) r = if w = 12 then pd_ (C ++ [w]) W (r + 1) else (C, w :: W, r) := rfl
    rw [e] at hf
    have a5 := hs.2.2.1.1
    have a6 := hs.2.2.1.2
    refine bk_X12_qDropsNots_0 ⟨fun z => absurd hb z, fun _ => qsisOn hs (fun h => by cases h) (fun w' W' h => ?_)⟩
    cases h
    by_cases c : w = 12
    · rw [am_b_1 c]
      rw [if_pos c] at hf
      refine ⟨fun z => absurd z (by decide), fun _ => ⟨⟨by omega, by omega⟩, qsdropE (Or.inl c) hs (fun M1 k1 f1 => ?_)⟩⟩
      exact tsdn W (C ++ [w]) (r + 1) M1 ((f1 152 5 (by omega) (by omega) (by omega)).trans hb) k1 (fun M2 k2 f2 => hf M2 k2 (qsf_tr f1 f2))
    · rw [am_b_0 c]
      rw [if_neg c] at hf
      exact ⟨fun _ => am_cv_i (hf M hs (fun _ _ _ _ _ => rfl)), fun z => absurd rfl z⟩
/-- whether a square bracket waits -/
theorem tssq {f : Int → am_M → Prop} (hs : qsk M C W r b) (h1 : 25 ∈ W → f 1 M) (h0 : ¬ 25 ∈ W → f 0 M) : am_cal pg (d + 1) 292 [(2, 152)] sh_T M (am_c0 sh_T f) := by
  obtain ⟨⟨a1, a2⟩, ⟨a3, a4⟩, ⟨a5, a6⟩, a7, a8⟩ := hs
  have go : ∀ (n k : Nat), k + n = W.length → (∀ j : Nat, j < k → ¬ M 212 (j : Int) = 25) → am_g 12 5 co_X12_qHasSquare d (am_c0 sh_T f) 2 [(2, 152), (0, (k : Int))] [] sh_T M := by
    intro n
    induction n with
    | zero =>
      intro k hk done
      refine bk_X12_qHasSquare_2 ⟨fun _ => am_c0_i (h0 (fun z => ?_)), fun z => by omega⟩
      obtain ⟨i, hi, e⟩ := List.mem_iff_getElem.mp z
      have q := a4 i hi
      rw [List.getD_eq_getElem?_getD, List.getElem?_eq_getElem hi, e] at q
      have e2 : (W.length : Int) - 1 - (i : Int) = ((W.length - 1 - i : Nat) : Int) := by omega
      rw [e2] at q
      exact done (W.length - 1 - i) (by omega) q
    | succ n ih =>
      intro k hk done
      refine bk_X12_qHasSquare_2 ⟨fun z => by omega, fun _ => ⟨⟨by omega, by omega⟩, fun z => ⟨⟨by omega, by omega⟩, ih (k + 1) (by omega) (fun j hj => ?_)⟩, fun z => am_c0_i (h1 ?_)⟩⟩
      · by_cases e : j = k
        · rw [e]; exact z
        · exact done j (by omega)
      · have hi : W.length - 1 - k < W.length := by omega
        have q := a4 (W.length - 1 - k) hi
        rw [List.getD_eq_getElem?_getD, List.getElem?_eq_getElem hi, show (W.length : Int) - 1 - ((W.length - 1 - k : Nat) : Int) = (k : Int) by omega, z] at q
        have q : 25 = W[W.length - 1 - k] := q
        rw [q]
        exact List.getElem_mem hi
  exact en_X12_qHasSquare (bk_X12_qHasSquare_0 (go W.length 0 (Nat.zero_add _) (fun j hj => absurd hj (Nat.not_lt_zero j))))
/-- a code behind a fault -/
theorem tscodef {f : am_M → Prop} {c k z : Int} (h : qu_ M0 M k z) (hf : ∀ M', ru_ M0 M' k z → f M') : am_cal pg (d + 1) 277 [(2, 152), (0, c)] sh_T M (am_cv sh_T f) := by
  obtain ⟨h, b0, b1⟩ := h
  have e3 := (rp_t h.1).2
  have g0 := h.2.1.2.1
  have g1 := h.2.1.2.2
  have key : f (am_up (am_up M 211 (M 152 83) c) 152 83 (M 152 83 + 1)) := by
    refine hf _ (ru_fr h (fun x j a b c d f => ?_) ?_)
    · rw [am_up_el (by omega), am_up_el (by omega)]
    · rw [am_up_el (by omega), am_up_el (by omega)]; omega
  exact en_X12_qCode (bk_X12_qCode_0 ⟨⟨by omega, by omega⟩, ⟨by omega, by omega⟩, am_cv_i key⟩)
end TS
/-- where the test's loop stands -/
abbrev tsG (d : Nat) (Q : am_Q) (x : Int) (M : am_M) : Prop := am_g 12 9 co_X12_qTest (d + 9) Q 2 [(2, 152), (0, x), (3, 0)] [] sh_T M
abbrev tsKG (d : Nat) (Q : am_Q) : am_Q := am_c0 sh_T fun x10 M10 => ((x10 = 0 → tsG d Q 0 M10) ∧ (¬ x10 = 0 → tsG d Q 1 M10))
abbrev tsKN (d : Nat) (Q : am_Q) : am_Q := am_cv sh_T fun M8 => ((¬ M8 152 5 = 0 → tsG d Q 0 M8) ∧ (M8 152 5 = 0 → am_cal pg (d + 9) 295 [(2, 152)] sh_T M8 (tsKG d Q)))
def tsA (M0 : am_M) (Q : am_Q) (d : Nat) (b : Int) : pm_C := fun p en C W r => tw_ W → ∀ M, rx_ M0 M p en → qsk M C W r b → ((C.length + W.length : Nat) : Int) < p → tsG d Q 1 M
def tsB (M0 : am_M) (Q : am_Q) (d : Nat) (b : Int) : pm_C := fun p en C W r => tw_ W → ∀ M, rx_ M0 M p en → qsk M C W r b → ((C.length + W.length : Nat) : Int) < p → am_g 12 5 co_X12_qGoesOnTest (d + 8) (tsKG d Q) 0 [(2, 152)] [] sh_T M
def tsF (M0 : am_M) (Q : am_Q) : Int → Int → Prop := fun k z => ∀ M, ru_ M0 M k z → Q (none, sh_T, M)
section TR
variable {M0 M : am_M} {Q : am_Q} {d : Nat} {p en b : Int} {C W : List Int} {r : Nat}
theorem tsfin {k z x : Int} (hF : tsF M0 Q k z) (h : ru_ M0 M k z) : tsG d Q x M := by
  have e : am_g 12 9 co_X12_qTest (d + 9) Q 110 [(2, 152), (3, 0), (3, 0)] [] sh_T M := bk_X12_qTest_110 ⟨fun _ => hF M h, fun y => absurd y (ru_b h)⟩
  exact bk_X12_qTest_2 ⟨fun _ => e, fun _ => ⟨fun _ => e, fun y => absurd y (ru_b h)⟩⟩
theorem tsfg {k z : Int} (hF : tsF M0 Q k z) (h : ru_ M0 M k z) : tsKG d Q (some (0, 0), sh_T, M) := am_c0_i ⟨fun _ => tsfin hF h, fun y => absurd rfl y⟩
/-- behind a fact, with a fault -/
theorem tsbad {k z : Int} (hF : tsF M0 Q k z) (h : ru_ M0 M k z) : am_cal pg (d + 9) 293 [(2, 152)] sh_T M (tsKN d Q) :=
  en_X12_qDropsNots (bk_X12_qDropsNots_0 ⟨fun _ => am_cv_i ⟨fun _ => tsfin hF h, fun y => absurd y (ru_b h)⟩, fun y => absurd y (ru_b h)⟩)
/-- behind a fact -/
theorem tsnots (hB : pn_B (tsB M0 Q d b) p en C W r) (hW : tw_ W) (hx : rx_ M0 M p en) (hs : qsk M C W r b) (hl : ((C.length + W.length : Nat) : Int) < p) : am_cal pg (d + 9) 293 [(2, 152)] sh_T M (tsKN d Q) := by
  have hp := pd_in C W r
  refine en_X12_qDropsNots (tsdn W C r M hx.2.2.2.2.1 hs (fun M1 k1 f1 => ⟨fun y => absurd (qsx hx f1).1.2.2.2.2.1 y, fun _ => en_X12_qGoesOnTest (hB (hp.2 hW) M1 (qsx hx f1).1 k1 ?_)⟩))
  omega
theorem tsR1 (hw : rw_all M0) (c1 : rd_is (M0 153) (M0 152 3) en p w_not = true) (hF : r = 0 → tsF M0 Q 4 p) (hA : ∀ r', r = r' + 1 → tsA M0 Q d b (rd_at (M0 153) (M0 152 3) (p + rd_wd (M0 153) (M0 152 3) en p)) (p + rd_wd (M0 153) (M0 152 3) en p) C (12 :: W) r') : tsA M0 Q d b p en C W r := by
  intro hW M hx hs hl
  obtain ⟨i1, i2, i3, i4, -⟩ := rx_in hx
  have hc := rd_is_le c1
  have hpos := rd_is_pos c1
  have hwd := rd_wd_le (t := M0 153) (en := en) i2
  have hwr := rd_at_le (t := M0 153) (e := M0 152 3) (i := p + rd_wd (M0 153) (M0 152 3) en p) hwd.2
  refine bk_X12_qTest_2 ⟨fun y => absurd y (by decide), fun _ => ⟨fun y => absurd hx.2.2.2.2.1 y, fun _ => rt_look hx (fun M3 h3 hp3 t3 => ⟨fun _ => rt_here hw (w := w_not) (by decide) h3 (fun M5 h5 hp5 t5 => ⟨fun y => absurd c1 (am_b_z.mp y), fun _ => ?_⟩), fun y => by omega⟩)⟩⟩
  have k5 := qsk_tf t5 (qsk_tf t3 hs)
  rw [hp5]
  refine qsopens h5.2.2.2.2.1 k5 (by omega) (Or.inl rfl) (fun hr0 => ?_) (fun r' hr' M6 k6 f6 => ?_)
  · have u := rx_bl h5 (k := 4) (z := p) (by decide)
    exact sp_asks_bad (ru_b u) (tsfin (hF hr0) u)
  · refine rt_asks hw (w := w_not) (by decide) (qsx h5 f6).1 (fun _ M7 h7 t7 => hA r' hr' (tw_c (by omega) hW) M7 h7 (qsk_tf t7 k6) ?_) (fun y => absurd c1 y)
    rw [List.length_cons]; omega
theorem tsR2 (hw : rw_all M0) (c1 : rc (M0 153) (M0 152 3) p = 91) (hF : r = 0 → tsF M0 Q 4 p) (hA : ∀ r', r = r' + 1 → tsA M0 Q d b (rd_at (M0 153) (M0 152 3) (p + 1)) en C (25 :: W) r') : tsA M0 Q d b p en C W r := by
  intro hW M hx hs hl
  obtain ⟨i1, i2, i3, i4, -⟩ := rx_in hx
  have hlt := (rc_lt c1 (by decide)).1
  have hr := rd_at_le (t := M0 153) (e := M0 152 3) (i := p + 1) (by omega)
  refine bk_X12_qTest_2 ⟨fun y => absurd y (by decide), fun _ => ⟨fun y => absurd hx.2.2.2.2.1 y, fun _ => rt_look hx (fun M1 h1 hp1 t1 => ⟨fun y => absurd c1 y, fun _ => ?_⟩)⟩⟩
  have k1 := qsk_tf t1 hs
  rw [hp1]
  refine qsopens h1.2.2.2.2.1 k1 (by omega) (Or.inr (by decide)) (fun hr0 => ?_) (fun r' hr' M2 k2 f2 => ?_)
  · have u1 := rx_bl h1 (k := 4) (z := p) (by decide)
    have e2 : rf_bl M1 4 p 152 2 = p := by rw [rf_bl_0 h1.2.2.2.2.1, am_up_el (by omega), am_up_el (by omega)]; exact hp1
    rw [e2]
    exact ⟨⟨by omega, by omega⟩, tsfin (hF hr0) (ru_fr u1 (fun x j a b c d f => am_up_el (by omega)) (by rw [am_up_at]; omega))⟩
  · obtain ⟨h2, hp2⟩ := qsx h1 f2
    rw [hp1] at hp2
    rw [hp2]
    have t3 : tf_ M2 (am_up M2 152 2 (p + 1)) := fun x j y => am_up_el (by omega)
    have h3 : rx_ M0 (am_up M2 152 2 (p + 1)) (rd_at (M0 153) (M0 152 3) (p + 1)) en := rx_at h2 am_up_at ((am_up_el (by omega)).trans h2.2.2.2.1) (by omega) t3
    refine ⟨⟨by omega, by omega⟩, hA r' hr' (tw_c (by omega) hW) _ h3 (qsk_tf t3 k2) ?_⟩
    rw [List.length_cons]; omega
/-- ahead of a fact that begins with no bracket and no not -/
theorem tsfact (hw : rw_all M0) (c1 : ¬ rd_is (M0 153) (M0 152 3) en p w_not = true) (c2 : ¬ rc (M0 153) (M0 152 3) p = 91) (hx : rx_ M0 M p en) (hs : qsk M C W r b) (h : ∀ M5, rx_ M0 M5 p en → qsk M5 C W r b → am_g 12 9 co_X12_qFact (d + 8) (am_cv sh_T fun M7 => am_cal pg (d + 9) 293 [(2, 152)] sh_T M7 (tsKN d Q)) 0 [(2, 152), (3, 0)] [] sh_T M5) : tsG d Q 1 M := by
  refine bk_X12_qTest_2 ⟨fun y => absurd y (by decide), fun _ => ⟨fun y => absurd hx.2.2.2.2.1 y, fun _ => rt_look hx (fun M3 h3 hp3 t3 => ⟨fun _ => rt_here hw (w := w_not) (by decide) h3 (fun M5 h5 hp5 t5 => ⟨fun _ => en_X12_qFact (h M5 h5 (qsk_tf t5 (qsk_tf t3 hs))), fun y => absurd (am_b_nz y) c1⟩), fun y => absurd y c2⟩)⟩⟩
theorem tsR3 (hw : rw_all M0) (c1 : ¬ rd_is (M0 153) (M0 152 3) en p w_not = true) (c2 : ¬ rc (M0 153) (M0 152 3) p = 91) (c3 : rd_is (M0 153) (M0 152 3) en p w_all = true) (hB : pn_B (tsB M0 Q d b) (rd_at (M0 153) (M0 152 3) (p + rd_wd (M0 153) (M0 152 3) en p)) (p + rd_wd (M0 153) (M0 152 3) en p) (C ++ [13]) W r) : tsA M0 Q d b p en C W r := by
  intro hW M hx hs hl
  obtain ⟨i1, i2, i3, i4, -⟩ := rx_in hx
  have hpos := rd_is_pos c3
  have hwd := rd_wd_le (t := M0 153) (en := en) i2
  have hwr := rd_at_le (t := M0 153) (e := M0 152 3) (i := p + rd_wd (M0 153) (M0 152 3) en p) hwd.2
  refine tsfact hw c1 c2 hx hs (fun M5 h5 k5 => bk_X12_qFact_0 (rt_takes hw (w := w_all) (by decide) h5 (fun y M6 h6 t6 => ⟨fun z => absurd z (by decide), fun _ => qscode (qsk_tf t6 k5) (by omega) (fun M7 k7 f7 => am_cv_i (tsnots hB hW (qsx h6 f7).1 k7 ?_))⟩) (fun y => absurd c3 y)))
  rw [List.length_append, List.length_singleton]; omega
theorem tsR4 (hw : rw_all M0) (c1 : ¬ rd_is (M0 153) (M0 152 3) en p w_not = true) (c2 : ¬ rc (M0 153) (M0 152 3) p = 91) (c3 : ¬ rd_is (M0 153) (M0 152 3) en p w_all = true) (hF : ∀ k z, pw_cmp (M0 153) (M0 152 3) r p en = .error (k, z) → tsF M0 Q k z) (hB : ∀ p1 en1 ds, pw_cmp (M0 153) (M0 152 3) r p en = .ok (p1, en1, ds) → pn_B (tsB M0 Q d b) p1 en1 (C ++ ds) W r) : tsA M0 Q d b p en C W r := by
  intro hW M hx hs hl
  obtain ⟨i1, i2, i3, i4, -⟩ := rx_in hx
  have hsg := pz_sum_g (pz_part_g (q := true) (t := M0 153) (e := M0 152 3) r)
  have hgp := hsg p en i1 i2 i3
  refine tsfact hw c1 c2 hx hs (fun M5 h5 k5 => bk_X12_qFact_0 (rt_takes hw (w := w_all) (by decide) h5 (fun y => absurd y c3) (fun _ M6 h6 hp6 t6 => ⟨fun _ => ?_, fun z => absurd rfl z⟩)))
  refine qxsums hw (tw_hd hW) h6 (qsk_tf t6 k5) hl (fun k z hx1 M7 h7 => ⟨fun y => absurd y (ru_b h7.1), fun _ => am_cv_i (tsbad (hF k z ?_) h7.1)⟩) (fun p1 en1 cs hx1 M7 h7 k7 => ⟨fun _ => rt_look h7 (fun M8 h8 hp8 t8 => ?_), fun y => absurd h7.2.2.2.2.1 y⟩)
  · unfold pw_cmp; rw [hx1]; rfl
  · obtain ⟨g1, g2, g3, g4, g5⟩ := pz_g_o hgp hx1
    have e1 : pw_cmp (M0 153) (M0 152 3) r p en = if sgc_ (rc (M0 153) (M0 152 3) p1) = 0 then .error (1, p1) else pr_b (pz_sum (M0 153) (M0 152 3) (pz_part true (M0 153) (M0 152 3) r) (rd_at (M0 153) (M0 152 3) (p1 + 1)) en1) (fun p2 en2 ds => .ok (p2, en2, cs ++ ds ++ [sgc_ (rc (M0 153) (M0 152 3) p1)])) := by
      unfold pw_cmp; rw [hx1]; rfl
    have k8 := qsk_tf t8 k7
    rw [hp8]
    -- behind a sign
    have go : ∀ s : Int, ¬ s = 0 → sgc_ (rc (M0 153) (M0 152 3) p1) = s → am_r (p1 + 1) ∧ am_cal pg (d + 8) 290 [(2, 152)] sh_T (am_up M8 152 2 (p1 + 1)) (am_cv sh_T fun M9 => am_cal pg (d + 8) 277 [(2, 152), (0, s)] sh_T M9 (am_cv sh_T fun M10 => am_cv sh_T (fun M7 => am_cal pg (d + 9) 293 [(2, 152)] sh_T M7 (tsKN d Q)) (none, sh_T, M10))) := fun s hs0 es => by
      rw [es, if_neg hs0] at e1
      have hc := sgc_c (show ¬ sgc_ (rc (M0 153) (M0 152 3) p1) = 0 by rw [es]; exact hs0)
      have hlt := (rc_lt (c := rc (M0 153) (M0 152 3) p1) rfl (by omega)).1
      have hr := rd_at_le (t := M0 153) (e := M0 152 3) (i := p1 + 1) (by omega)
      have hgp2 := hsg (rd_at (M0 153) (M0 152 3) (p1 + 1)) en1 (by omega) hr.2 rd_at_at
      have t9 : tf_ M8 (am_up M8 152 2 (p1 + 1)) := fun x j y => am_up_el (by omega)
      have h9 : rx_ M0 (am_up M8 152 2 (p1 + 1)) (rd_at (M0 153) (M0 152 3) (p1 + 1)) en1 := rx_at h8 am_up_at ((am_up_el (by omega)).trans h8.2.2.2.1) (by omega) t9
      have el : (C ++ cs).length = C.length + cs.length := List.length_append
      refine ⟨⟨by omega, by omega⟩, qxsums hw (tw_hd hW) h9 (qsk_tf t9 k8) (by omega) (fun k z hx2 M9 h9 => tscodef h9 (fun M10 h10 => am_cv_i (tsbad (hF k z ?_) h10))) (fun p2 en2 ds hx2 M9 h9 k9 => ?_)⟩
      · rw [e1, hx2]; rfl
      · obtain ⟨j1, j2, j3, j4, j5⟩ := pz_g_o hgp2 hx2
        have el2 : (C ++ cs ++ ds).length = C.length + cs.length + ds.length := by rw [List.length_append, List.length_append]
        refine qscode k9 (by omega) (fun M10 k10 f10 => am_cv_i (tsnots (p := p2) (en := en2) (C := C ++ cs ++ ds ++ [s]) ?_ hW (qsx h9 f10).1 k10 ?_))
        · have q := hB p2 en2 (cs ++ ds ++ [s]) (by rw [e1, hx2]; rfl)
          rw [show C ++ (cs ++ ds ++ [s]) = C ++ cs ++ ds ++ [s] by simp only [List.append_assoc]] at q
          exact q
        · rw [List.length_append, el2, List.length_singleton]; omega
    refine ⟨fun y => go 7 (by decide) (by rw [y]; rfl), fun y => ⟨fun y2 => go 8 (by decide) (by rw [y2]; rfl), fun y2 => ⟨fun y3 => go 9 (by decide) (by rw [y3]; rfl), fun y3 => sp_fail (am_cv_i (tsbad (hF 1 p1 ?_) (rx_bl h8 (by decide))))⟩⟩⟩
    have e0 : sgc_ (rc (M0 153) (M0 152 3) p1) = 0 := by
      unfold sgc_
      rw [if_neg y, if_neg y2, if_neg y3]
    rw [e1, if_pos e0]
theorem tsR5 {U : List Int} (hU : ao_ U) (hc : rc (M0 153) (M0 152 3) p = 93) (hB : pn_B (tsB M0 Q d b) (rd_at (M0 153) (M0 152 3) (p + 1)) en (C ++ U) W (r + 1)) : tsB M0 Q d b p en C (U ++ 25 :: W) r := by
  intro hW M hx hs hl
  obtain ⟨i1, i2, i3, i4, -⟩ := rx_in hx
  have hlt := (rc_lt hc (by decide)).1
  have hr := rd_at_le (t := M0 153) (e := M0 152 3) (i := p + 1) (by omega)
  have hW2 : tw_ W := tw_tl (tw_r hW)
  rw [List.length_append, List.length_cons] at hl
  have loop : ∀ (V C1 : List Int) (M1 : am_M), ao_ V → rx_ M0 M1 (rd_at (M0 153) (M0 152 3) (p + 1)) en → qsk M1 C1 (V ++ 25 :: W) r b → C ++ U = C1 ++ V → am_g 12 5 co_X12_qGoesOnTest (d + 8) (tsKG d Q) 33 [(2, 152)] [] sh_T M1 := by
    intro V
    induction V with
    | nil =>
      intro C1 M1 hV h1 k1 e
      rw [List.append_nil] at e
      have k1 : qsk M1 C1 (25 :: W) r b := k1
      have a3 := k1.2.1.1
      have a5 := k1.2.2.1.1
      have a6 := k1.2.2.1.2
      have a8 := k1.2.2.2.2
      rw [List.length_cons] at a3 a8
      have eo : on_ (25 :: W) = 1 + on_ W := rfl
      refine bk_X12_qGoesOnTest_33 (qsisOn k1 (fun z => by cases z) (fun w W' z => ?_))
      cases z
      rw [am_b_1 rfl]
      refine ⟨fun _ => ⟨⟨by omega, by omega⟩, ⟨by omega, by omega⟩, ?_⟩, fun z => absurd z (by decide)⟩
      obtain ⟨N, eN⟩ : ∃ N, N = am_up (am_up M1 152 85 (M1 152 85 - 1)) 152 86 (M1 152 86 - 1) := ⟨_, rfl⟩
      rw [← eN]
      have u : ∀ x j, ¬ (x = 152 ∧ (j = 85 ∨ j = 86)) → N x j = M1 x j := fun x j y => by rw [eN, am_up_el (by omega), am_up_el (by omega)]
      have kN : qsk N C1 W (r + 1) b := qsk_pop k1 (by omega) (by rw [eN, am_up_el (by omega), am_up_at]) (by rw [eN, am_up_at]; omega) u
      have fN : qsf M1 N := fun x j y1 y2 y3 => u x j (by omega)
      have hN := (qsx h1 fN).1
      have hp := pd_in C1 W (r + 1)
      have el : C.length + U.length = C1.length := by rw [← List.length_append, e]
      rw [e] at hB
      refine en_X12_qDropsNots (tsdn W C1 (r + 1) N hN.2.2.2.2.1 kN (fun M2 k2 f2 => hB (hp.2 hW2) M2 (qsx hN f2).1 k2 ?_))
      omega
    | cons v V ih =>
      intro C1 M1 hV h1 k1 e
      have k1 : qsk M1 C1 (v :: (V ++ 25 :: W)) r b := k1
      have hv := hV v List.mem_cons_self
      refine bk_X12_qGoesOnTest_33 (qsisOn k1 (fun z => by cases z) (fun w W' z => ?_))
      cases z
      rw [am_b_0 (by omega)]
      exact ⟨fun z => absurd rfl z, fun _ => qsdrops k1 (fun M2 k2 f2 => ih (C1 ++ [v]) M2 (fun x hx => hV x (List.mem_cons_of_mem _ hx)) (qsx h1 f2).1 k2 (by rw [e, List.append_assoc]; rfl))⟩
  refine bk_X12_qGoesOnTest_0 ⟨fun y => absurd hx.2.2.2.2.1 y, fun _ => rt_look hx (fun M2 h2 hp2 t2 => ⟨fun y => absurd hc y, fun _ => tssq (qsk_tf t2 hs) (fun _ => ⟨fun z => absurd z (by decide), fun _ => ?_⟩) (fun z => absurd (List.mem_append_right _ List.mem_cons_self) z)⟩)⟩
  rw [hp2]
  have t3 : tf_ M2 (am_up M2 152 2 (p + 1)) := fun x j y => am_up_el (by omega)
  have h3 : rx_ M0 (am_up M2 152 2 (p + 1)) (rd_at (M0 153) (M0 152 3) (p + 1)) en := rx_at h2 am_up_at ((am_up_el (by omega)).trans h2.2.2.2.1) (by omega) t3
  exact ⟨⟨by omega, by omega⟩, loop U C _ hU h3 (qsk_tf t3 (qsk_tf t2 hs)) rfl⟩
/-- no bracket is closed -/
theorem tsgo (hx : rx_ M0 M p en) (hs : qsk M C W r b) {K : am_Q} (hc : ¬ rc (M0 153) (M0 152 3) p = 93 ∨ ¬ 25 ∈ W) (h : ∀ M1, rx_ M0 M1 p en → qsk M1 C W r b → am_g 12 5 co_X12_qGoesOnTest (d + 8) K 76 [(2, 152)] [] sh_T M1) : am_g 12 5 co_X12_qGoesOnTest (d + 8) K 0 [(2, 152)] [] sh_T M := by
  refine bk_X12_qGoesOnTest_0 ⟨fun y => absurd hx.2.2.2.2.1 y, fun _ => rt_look hx (fun M2 h2 hp2 t2 => ⟨fun _ => h M2 h2 (qsk_tf t2 hs), fun y => tssq (qsk_tf t2 hs) (fun z => ?_) (fun _ => ⟨fun _ => h M2 h2 (qsk_tf t2 hs), fun z => absurd rfl z⟩)⟩)⟩
  rcases hc with q | q
  · exact absurd y q
  · exact absurd z q
theorem tsR6 (hw : rw_all M0) {U : List Int} (hU : an_ U) (hW1 : hd_ (fun w => ¬ w = 10) W) (c1 : rd_is (M0 153) (M0 152 3) en p w_and = true) (hA : tsA M0 Q d b (rd_at (M0 153) (M0 152 3) (p + rd_wd (M0 153) (M0 152 3) en p)) (p + rd_wd (M0 153) (M0 152 3) en p) (C ++ U) (10 :: W) r) : tsB M0 Q d b p en C (U ++ W) r := by
  intro hW M hx hs hl
  obtain ⟨i1, i2, i3, i4, -⟩ := rx_in hx
  have hle := rd_is_le c1
  have hpos := rd_is_pos c1
  have hwd := rd_wd_le (t := M0 153) (en := en) i2
  have hwr := rd_at_le (t := M0 153) (e := M0 152 3) (i := p + rd_wd (M0 153) (M0 152 3) en p) hwd.2
  have hW2 : tw_ W := tw_r hW
  rw [List.length_append] at hl
  have loop : ∀ (V C1 : List Int) (M1 : am_M), an_ V → rx_ M0 M1 (rd_at (M0 153) (M0 152 3) (p + rd_wd (M0 153) (M0 152 3) en p)) (p + rd_wd (M0 153) (M0 152 3) en p) → qsk M1 C1 (V ++ W) r b → C ++ U = C1 ++ V → am_g 12 5 co_X12_qGoesOnTest (d + 8) (tsKG d Q) 87 [(2, 152)] [] sh_T M1 := by
    intro V
    induction V with
    | nil =>
      intro C1 M1 hV h1 k1 e
      rw [List.append_nil] at e
      have k1 : qsk M1 C1 W r b := k1
      have el : C.length + U.length = C1.length := by rw [← List.length_append, e]
      have out : (0 ≤ M1 152 85 ∧ M1 152 85 < 1700) ∧ am_r (M1 152 85 + 1) ∧ tsKG d Q (some (0, 1), sh_T, am_up (am_up M1 212 (M1 152 85) 10) 152 85 (M1 152 85 + 1)) := by
        obtain ⟨q1, q2, q3, q4⟩ := qspush (k := 10) (by decide) k1 (by omega)
        refine ⟨q1, q2, am_c0_i ⟨fun z => absurd z (by decide), fun _ => ?_⟩⟩
        rw [e] at hA
        refine hA (tw_c (by omega) hW2) _ (qsx h1 q4).1 q3 ?_
        rw [List.length_cons]; omega
      refine bk_X12_qGoesOnTest_87 (qsisOn k1 (fun _ => ⟨fun _ => out, fun z => absurd rfl z⟩) (fun w W' z => ?_))
      subst z
      have hw1 : ¬ w = 10 := hW1
      rw [am_b_0 hw1]
      exact ⟨fun _ => out, fun z => absurd rfl z⟩
    | cons v V ih =>
      intro C1 M1 hV h1 k1 e
      have k1 : qsk M1 C1 (v :: (V ++ W)) r b := k1
      have hv := hV v List.mem_cons_self
      refine bk_X12_qGoesOnTest_87 (qsisOn k1 (fun z => by cases z) (fun w W' z => ?_))
      cases z
      rw [am_b_1 hv]
      exact ⟨fun z => absurd z (by decide), fun _ => qsdrops k1 (fun M2 k2 f2 => ih (C1 ++ [v]) M2 (fun x hx => hV x (List.mem_cons_of_mem _ hx)) (qsx h1 f2).1 k2 (by rw [e, List.append_assoc]; rfl))⟩
  exact tsgo hx hs (Or.inl (by omega)) (fun M1 h1 k1 => bk_X12_qGoesOnTest_76 (rt_takes hw (w := w_and) (by decide) h1 (fun _ M2 h2 t2 => ⟨fun z => absurd z (by decide), fun _ => loop U C M2 hU h2 (qsk_tf t2 k1) rfl⟩) (fun y => absurd c1 y)))
theorem tsR7 (hw : rw_all M0) {U : List Int} (hU : ao_ U) (hW1 : hd_ (fun w => ¬ (w = 10 ∨ w = 11)) W) (c1 : rd_is (M0 153) (M0 152 3) en p w_or = true) (hA : tsA M0 Q d b (rd_at (M0 153) (M0 152 3) (p + rd_wd (M0 153) (M0 152 3) en p)) (p + rd_wd (M0 153) (M0 152 3) en p) (C ++ U) (11 :: W) r) : tsB M0 Q d b p en C (U ++ W) r := by
  intro hW M hx hs hl
  obtain ⟨i1, i2, i3, i4, -⟩ := rx_in hx
  have hle := rd_is_le c1
  have hpos := rd_is_pos c1
  have hwd := rd_wd_le (t := M0 153) (en := en) i2
  have hwr := rd_at_le (t := M0 153) (e := M0 152 3) (i := p + rd_wd (M0 153) (M0 152 3) en p) hwd.2
  have hW2 : tw_ W := tw_r hW
  have nand : ¬ rd_is (M0 153) (M0 152 3) en p w_and = true := fun z => by
    have := rd_is_eq c1 z
    exact absurd this (by decide)
  rw [List.length_append] at hl
  have loop : ∀ (V C1 : List Int) (M1 : am_M), ao_ V → rx_ M0 M1 (rd_at (M0 153) (M0 152 3) (p + rd_wd (M0 153) (M0 152 3) en p)) (p + rd_wd (M0 153) (M0 152 3) en p) → qsk M1 C1 (V ++ W) r b → C ++ U = C1 ++ V → am_g 12 5 co_X12_qGoesOnTest (d + 8) (tsKG d Q) 137 [(2, 152)] [] sh_T M1 := by
    intro V
    induction V with
    | nil =>
      intro C1 M1 hV h1 k1 e
      rw [List.append_nil] at e
      have k1 : qsk M1 C1 W r b := k1
      have el : C.length + U.length = C1.length := by rw [← List.length_append, e]
      have out : (0 ≤ M1 152 85 ∧ M1 152 85 < 1700) ∧ am_r (M1 152 85 + 1) ∧ tsKG d Q (some (0, 1), sh_T, am_up (am_up M1 212 (M1 152 85) 11) 152 85 (M1 152 85 + 1)) := by
        obtain ⟨q1, q2, q3, q4⟩ := qspush (k := 11) (by decide) k1 (by omega)
        refine ⟨q1, q2, am_c0_i ⟨fun z => absurd z (by decide), fun _ => ?_⟩⟩
        rw [e] at hA
        refine hA (tw_c (by omega) hW2) _ (qsx h1 q4).1 q3 ?_
        rw [List.length_cons]; omega
      refine bk_X12_qGoesOnTest_137 (qsisOn k1 (fun z0 => ⟨fun z => absurd rfl z, fun _ => qsisOn k1 (fun _ => ⟨fun _ => out, fun z => absurd rfl z⟩) (fun w W' z => by rw [z0] at z; cases z)⟩) (fun w W' z => ?_))
      subst z
      have hw1 : ¬ (w = 10 ∨ w = 11) := hW1
      rw [am_b_0 (show ¬ w = 10 by omega)]
      refine ⟨fun z => absurd rfl z, fun _ => qsisOn k1 (fun z => by cases z) (fun w2 W2 z => ?_)⟩
      cases z
      rw [am_b_0 (show ¬ w = 11 by omega)]
      exact ⟨fun _ => out, fun z => absurd rfl z⟩
    | cons v V ih =>
      intro C1 M1 hV h1 k1 e
      have k1 : qsk M1 C1 (v :: (V ++ W)) r b := k1
      have hv := hV v List.mem_cons_self
      have drop : am_g 12 5 co_X12_qGoesOnTest (d + 8) (tsKG d Q) 155 [(2, 152)] [] sh_T M1 := bk_X12_qGoesOnTest_155 (qsdrops k1 (fun M2 k2 f2 => ih (C1 ++ [v]) M2 (fun x hx => hV x (List.mem_cons_of_mem _ hx)) (qsx h1 f2).1 k2 (by rw [e, List.append_assoc]; rfl)))
      refine bk_X12_qGoesOnTest_137 (qsisOn k1 (fun z => by cases z) (fun w W' z => ?_))
      cases z
      by_cases c : v = 10
      · rw [am_b_1 c]
        exact ⟨fun _ => drop, fun z => absurd z (by decide)⟩
      · rw [am_b_0 c]
        refine ⟨fun z => absurd rfl z, fun _ => qsisOn k1 (fun z => by cases z) (fun w2 W2 z => ?_)⟩
        cases z
        rw [am_b_1 (show v = 11 by omega)]
        exact ⟨fun z => absurd z (by decide), fun _ => drop⟩
  exact tsgo hx hs (Or.inl (by omega)) (fun M1 h1 k1 => bk_X12_qGoesOnTest_76 (rt_takes hw (w := w_and) (by decide) h1 (fun y => absurd y nand) (fun _ M2 h2 hp2 t2 => ⟨fun _ => rt_takes hw (w := w_or) (by decide) h2 (fun _ M3 h3 t3 => ⟨fun z => absurd z (by decide), fun _ => loop U C M3 hU h3 (qsk_tf t3 (qsk_tf t2 k1)) rfl⟩) (fun y => absurd c1 y), fun z => absurd rfl z⟩)))
/-- no word goes on -/
theorem tsend (hw : rw_all M0) (n1 : ¬ rd_is (M0 153) (M0 152 3) en p w_and = true) (n2 : ¬ rd_is (M0 153) (M0 152 3) en p w_or = true) (hx : rx_ M0 M p en) (hs : qsk M C W r b) {K : am_Q} (h1 : 25 ∈ W → ∀ M1, ru_ M0 M1 1 p → K (some (0, 0), sh_T, M1)) (h2 : ¬ 25 ∈ W → ∀ M1, rx_ M0 M1 p en → qsk M1 C W r b → K (some (0, 0), sh_T, M1)) : am_g 12 5 co_X12_qGoesOnTest (d + 8) K 76 [(2, 152)] [] sh_T M := by
  refine bk_X12_qGoesOnTest_76 (rt_takes hw (w := w_and) (by decide) hx (fun y => absurd y n1) (fun _ M2 h2' hp2 t2 => ⟨fun _ => rt_takes hw (w := w_or) (by decide) h2' (fun y => absurd y n2) (fun _ M3 h3 hp3 t3 => ⟨fun _ => ⟨fun y => absurd h3.2.2.2.2.1 y, fun _ => ?_⟩, fun z => absurd rfl z⟩), fun z => absurd rfl z⟩))
  have k3 := qsk_tf t3 (qsk_tf t2 hs)
  refine tssq k3 (fun z => ⟨fun y => absurd y (by decide), fun _ => sp_fail (bk_X12_qGoesOnTest_208 (h1 z _ ?_))⟩) (fun z => ⟨fun _ => bk_X12_qGoesOnTest_208 (h2 z M3 h3 k3), fun y => absurd rfl y⟩)
  rw [hp3]
  exact rx_bl h3 (by decide)
theorem tsR8 (hw : rw_all M0) {U : List Int} (n0 : ¬ rc (M0 153) (M0 152 3) p = 93) (n1 : ¬ rd_is (M0 153) (M0 152 3) en p w_and = true) (n2 : ¬ rd_is (M0 153) (M0 152 3) en p w_or = true) (hF : tsF M0 Q 1 p) : tsB M0 Q d b p en C (U ++ 25 :: W) r := by
  intro hW M hx hs hl
  exact tsgo hx hs (Or.inl n0) (fun M1 h1 k1 => tsend hw n1 n2 h1 k1 (fun _ M2 h2 => tsfg hF h2) (fun z => absurd (List.mem_append_right _ List.mem_cons_self) z))
theorem tsrules (hw : rw_all M0) : tm_R (M0 153) (M0 152 3) (tsA M0 Q d b) (tsB M0 Q d b) (tsF M0 Q) :=
  ⟨fun _ _ _ _ _ h1 h2 h3 => tsR1 hw h1 h2 h3, fun _ _ _ _ _ _ h1 h2 h3 => tsR2 hw h1 h2 h3, fun _ _ _ _ _ h1 h2 h3 h4 => tsR3 hw h1 h2 h3 h4, fun _ _ _ _ _ h1 h2 h3 h4 h5 => tsR4 hw h1 h2 h3 h4 h5, fun _ _ _ _ _ _ h1 h2 h3 => tsR5 h1 h2 h3, fun _ _ _ _ _ _ h1 h2 h3 h4 => tsR6 hw h1 h2 h3 h4, fun _ _ _ _ _ _ h1 h2 h3 h4 => tsR7 hw h1 h2 h3 h4, fun _ _ _ _ _ _ _ h1 h2 h3 h4 => tsR8 hw h1 h2 h3 h4⟩
/-- the test has ended -/
theorem tsE (hw : rw_all M0) {U : List Int} (hU : ao_ U) (n1 : ¬ rd_is (M0 153) (M0 152 3) en p w_and = true) (n2 : ¬ rd_is (M0 153) (M0 152 3) en p w_or = true) (hQ : ∀ M', rx_ M0 M' p en → qsk M' (C ++ U) [] r b → Q (none, sh_T, M')) : tsB M0 Q d b p en C (U ++ []) r := by
  intro hW M hx hs hl
  rw [List.append_nil] at hs
  have n25 : ¬ 25 ∈ U := fun z => by have := hU 25 z; omega
  have loop : ∀ (V C1 : List Int) (M1 : am_M), rx_ M0 M1 p en → qsk M1 C1 V r b → C ++ U = C1 ++ V → am_g 12 9 co_X12_qTest (d + 9) Q 110 [(2, 152), (3, 0), (3, 0)] [] sh_T M1 := by
    intro V
    induction V with
    | nil =>
      intro C1 M1 h1 k1 e
      rw [List.append_nil] at e
      have a3 := k1.2.1.1
      rw [List.length_nil] at a3
      rw [e] at hQ
      exact bk_X12_qTest_110 ⟨fun y => absurd h1.2.2.2.2.1 y, fun _ => ⟨fun _ => hQ M1 h1 k1, fun y => by omega⟩⟩
    | cons v V ih =>
      intro C1 M1 h1 k1 e
      have a3 := k1.2.1.1
      rw [List.length_cons] at a3
      exact bk_X12_qTest_110 ⟨fun y => absurd h1.2.2.2.2.1 y, fun _ => ⟨fun y => by omega, fun _ => qsdrops k1 (fun M2 k2 f2 => ih (C1 ++ [v]) M2 (qsx h1 f2).1 k2 (by rw [e, List.append_assoc]; rfl))⟩⟩
  exact tsgo hx hs (Or.inr n25) (fun M1 h1 k1 => tsend hw n1 n2 h1 k1 (fun z => absurd z n25) (fun _ M2 h2 k2 => am_c0_i ⟨fun _ => bk_X12_qTest_2 ⟨fun _ => loop U C M2 h2 k2 rfl, fun y => absurd rfl y⟩, fun y => absurd rfl y⟩))
end TR
theorem qtests {M0 M : am_M} {d : Nat} {f : am_M → Prop} {C : List Int} {r : Nat} {b p en : Int} (hw : rw_all M0) (hx : rx_ M0 M p en) (hs : qsk M C [] r b) (hl : (C.length : Int) < p) (h1 : ∀ k z, pw_test (M0 153) (M0 152 3) (pw_fact (M0 153) (M0 152 3) r) p en = .error (k, z) → ∀ M', ru_ M0 M' k z → f M') (h2 : ∀ p1 en1 ds, pw_test (M0 153) (M0 152 3) (pw_fact (M0 153) (M0 152 3) r) p en = .ok (p1, en1, ds) → ∀ M', rx_ M0 M' p1 en1 → qsk M' (C ++ ds) [] r b → f M') : am_cal pg (d + 10) 294 [(2, 152)] sh_T M (am_cv sh_T f) := by
  obtain ⟨i1, i2, i3, i4, -⟩ := rx_in hx
  have R := tsrules (Q := am_cv sh_T f) (d := d) (b := b) hw
  have hA := tm_test R i4 (pw_fact_g r) (tm_fact R i4 r) (cs := C) (W := []) trivial (p := p) (en := en) i1 i2 i3 (by
    refine (?_ : tm_S _ _ _ _ _ _ _ _)
    generalize hg : pw_test (M0 153) (M0 152 3) _ p en = x at h1 h2
    match x, h1, h2 with
    | .error (k, z), h1, _ => exact fun N hN => am_cv_i (h1 k z rfl N hN)
    | .ok (p1, en1, ds), _, h2 =>
      intro ds1 U hd hU n1 n2
      refine tsE hw hU n1 n2 (fun N hN kN => am_cv_i (h2 p1 en1 ds rfl N hN ?_))
      rw [hd, ← List.append_assoc]
      exact kN)
  exact en_X12_qTest (bk_X12_qTest_0 (hA (fun w hw => by cases hw) M hx hs (by rw [List.length_nil]; exact hl)))
