/-! THE REFERENCE READS A STATEMENT, and all of a dream's text -/
section YW
variable {M0 M : am_M} {p en n : Int} {T : tt_}
theorem pz_st_c {t : Int → Int} {e p en c : Int} (h : pr_wc t e en p to_ = c) (hc : ¬ c = 0) : pz_st t e T p en = @ite _ (tf_l T c) (Classical.propDecidable _) (.error (5, p)) (pz_do t e T c (rd_at t e (p + rd_wd t e en p)) (p + rd_wd t e en p)) := by
  unfold pz_st
  rw [h, if_neg hc]
/-- behind one statement -/
theorem yz_end {d : Nat} {f : am_M → Prop} {k z : Int} (hn : 0 ≤ n ∧ n < 70) (h : yz_ M0 M k z n) (hf : ∀ M', yz_ M0 M' k z (n + 1) → f M') : am_g 12 9 co_X12_statementTold (d + 3) (am_cv sh_T f) 233 [(2, 152), (3, 0)] [] sh_T M := by
  obtain ⟨h1, ⟨-, ⟨h2, h3, h4⟩, h5, h6, h7⟩, h8⟩ := h
  refine bk_X12_statementTold_233 (sp_asksSign_bad (by rw [h5]; exact h7) ⟨⟨by omega, by omega⟩, am_cv_i (hf _ ?_)⟩)
  have e : ∀ x j, ¬ (x = 152 ∧ j = 38) → am_up M 152 38 (M 152 38 + 1) x j = M x j := fun x j y => am_up_el y
  refine ⟨yf_tr h1 (fun x j y => by unfold yc_ at y; exact e x j (by omega)), ⟨rp_rf, ⟨?_, ?_, ?_⟩, ?_, ?_, h7⟩, ?_⟩
  · rw [e _ _ (by omega)]; exact h2
  · rw [e _ _ (by omega)]; exact h3
  · rw [e _ _ (by omega), e _ _ (by omega)]; exact h4
  · rw [e _ _ (by omega)]; exact h5
  · rw [e _ _ (by omega)]; exact h6
  · rw [am_up_at, h8]
theorem ys_38 (h : ys_ M0 M p en T n) : ys_ M0 (am_up M 152 38 (M 152 38 + 1)) p en T (n + 1) := by
  obtain ⟨g1, ⟨-, ⟨z3, z4, z5⟩, z6, z7, z8⟩, ⟨a1, a2, a3, a4, a5, ⟨a6, a7, a8⟩, a9⟩, ⟨g4, g5, g6⟩, g7⟩ := h
  have e : ∀ x j, ¬ (x = 152 ∧ j = 38) → am_up M 152 38 (M 152 38 + 1) x j = M x j := fun x j y => am_up_el y
  refine ⟨yf_tr g1 (fun x j y => by unfold yc_ at y; exact e x j (by omega)), ⟨rp_rf, ⟨?_, ?_, ?_⟩, ?_, ?_, ?_⟩, ⟨fun k k0 k1 => ?_, fun k k0 k1 i i1 => ?_, fun a x y => ?_, fun j x y => ?_, fun g x y => ?_, ⟨?_, ?_, ?_⟩, fun k k0 k1 => ?_⟩, ⟨?_, g5, fun i hi => ?_⟩, ?_⟩
  · rw [e _ _ (by omega)]; exact z3
  · rw [e _ _ (by omega)]; exact z4
  · rw [e _ _ (by omega), e _ _ (by omega)]; exact z5
  · show rd_at (am_up M 152 38 (M 152 38 + 1) 153) (am_up M 152 38 (M 152 38 + 1) 152 3) (am_up M 152 38 (M 152 38 + 1) 152 2) = p
    rw [e _ _ (by omega), e _ _ (by omega), show am_up M 152 38 (M 152 38 + 1) 153 = M 153 from funext fun j => e _ _ (by omega)]; exact z6
  · rw [e _ _ (by omega)]; exact z7
  · rw [e _ _ (by omega), e _ _ (by omega)]; exact z8
  · rw [e _ _ (by omega)]; exact a1 k k0 k1
  · rw [e _ _ (by omega)]; exact a2 k k0 k1 i i1
  · rw [e _ _ (by omega)]; exact a3 a x y
  · rw [e _ _ (by omega)]; exact a4 j x y
  · rw [e _ _ (by omega)]; exact a5 g x y
  · rw [e _ _ (by omega)]; exact a6
  · rw [e _ _ (by omega)]; exact a7
  · rw [e _ _ (by omega)]; exact a8
  · rw [e _ _ (by omega), e _ _ (by omega)]; exact a9 k k0 k1
  · rw [e _ _ (by omega)]; exact g4
  · rw [e _ _ (by omega)]; exact g6 i hi
  · rw [am_up_at, g7]
theorem ys_w {v k : Int} (hk : 0 ≤ k ∧ k < 3) (h : ys_ M0 M p en T n) : ys_ M0 (am_up M 179 k v) p en (aW T k v) n := by
  refine ys_put h (fun x j y => am_up_el (by omega)) (fun x j y => by unfold yc_ at y; exact am_up_el (by omega)) ?_ rfl
  obtain ⟨a1, a2, a3, a4, a5, ⟨a6, a7, a8⟩, a9⟩ := h.2.2.1
  have w : am_up M 179 k v 179 0 = tHo (aW T k v) ∧ am_up M 179 k v 179 1 = tLa (aW T k v) ∧ am_up M 179 k v 179 2 = tSp (aW T k v) := by
    rcases (show k = 0 ∨ k = 1 ∨ k = 2 by omega) with rfl | rfl | rfl
    · exact ⟨am_up_at, (am_up_el (by omega)).trans a7, (am_up_el (by omega)).trans a8⟩
    · exact ⟨(am_up_el (by omega)).trans a6, am_up_at, (am_up_el (by omega)).trans a8⟩
    · exact ⟨(am_up_el (by omega)).trans a6, (am_up_el (by omega)).trans a7, am_up_at⟩
  refine ⟨fun k k0 k1 => ?_, fun k k0 k1 i i1 => ?_, fun a x y => ?_, fun j x y => ?_, fun g x y => ?_, w, fun k k0 k1 => ?_⟩
  · rw [am_up_el (by omega)]; exact a1 k k0 k1
  · rw [am_up_el (by omega)]; exact a2 k k0 k1 i i1
  · rw [am_up_el (by omega)]; exact a3 a x y
  · rw [am_up_el (by omega)]; exact a4 j x y
  · rw [am_up_el (by omega)]; exact a5 g x y
  · rw [am_up_el (by omega), am_up_el (by omega)]; exact a9 k k0 k1
theorem yz_w {v k z e : Int} (hk : 0 ≤ k ∧ k < 3) (h : yz_ M0 M e z n) : yz_ M0 (am_up M 179 k v) e z n := by
  obtain ⟨h1, ⟨-, ⟨h2, h3, h4⟩, h5, h6, h7⟩, h8⟩ := h
  have e : ∀ j, am_up M 179 k v 152 j = M 152 j := fun j => am_up_el (by omega)
  refine ⟨yf_tr h1 (fun x j y => by unfold yc_ at y; exact am_up_el (by omega)), ⟨rp_rf, ⟨?_, ?_, ?_⟩, ?_, ?_, h7⟩, ?_⟩
  · rw [e]; exact h2
  · rw [e]; exact h3
  · rw [e, e]; exact h4
  · rw [e]; exact h5
  · rw [e]; exact h6
  · rw [e]; exact h8
theorem rt_statement {d : Nat} {f : am_M → Prop} (hw : rw_all M0) (hT : tk_ T) (hn : 0 ≤ n ∧ n < 70) (hlen : ((tC T).length : Int) ≤ p) (h : ys_ M0 M p en T n) (hp : M 152 2 = p) (hf : ci_ M0 (n + 1) f (pz_stmt (M0 153) (M0 152 3) T p en)) : am_cal pg (d + 10) 193 [(2, 152)] sh_T M (am_cv sh_T f) := by
  have hTn := tk_n hT
  have hl := hT.2.1
  obtain ⟨e1, e2⟩ := yf_t h.1
  have hwM := rw_yf hw h.1
  obtain ⟨i1, i2, i3, i4, -⟩ := rx_in h.2.1
  rw [e2] at i2 i4
  have hlw := rd_wd_le (t := M0 153) (en := en) i2
  have hra := rd_at_le (t := M0 153) (e := M0 152 3) (i := p + rd_wd (M0 153) (M0 152 3) en p) hlw.2
  rw [pz_stmt_st] at hf
  obtain ⟨eS, kS⟩ := ci_b hf
  -- the sign behind a statement
  have tail : ci_ M0 n (fun M1 => am_g 12 9 co_X12_statementTold (d + 9) (am_cv sh_T f) 233 [(2, 152), (3, 0)] [] sh_T M1) (pz_st (M0 153) (M0 152 3) T p en) := ci_mk (fun k z hx M1 m1 => yz_end (d := d + 6) hn m1 (eS k z hx)) (fun p1 en1 T1 hx M1 m1 => by
    have hk := kS p1 en1 T1 hx
    obtain ⟨e3, e4⟩ := yf_t m1.1
    refine bk_X12_statementTold_233 (rt_asksSign (d := d + 6) (by decide) m1.2.1 (fun y M2 m2 t2 => ⟨?_, am_cv_i ?_⟩) (fun y M2 m2 => ⟨?_, am_cv_i ?_⟩))
    · have := (ys_tf m1 m2 t2).2.2.2.2; exact ⟨by omega, by omega⟩
    · have s2 := ys_tf m1 m2 t2
      rw [e3, e4] at y s2
      unfold pr_sg at hk
      rw [if_pos y] at hk
      exact hk _ (ys_38 s2)
    · have := (yz_ru m1.1 m1.2.2.2.2 m2).2.2; exact ⟨by omega, by omega⟩
    · rw [e3, e4] at y
      unfold pr_sg at hk
      rw [if_neg y] at hk
      have z := yz_ru m1.1 m1.2.2.2.2 m2
      refine hk _ ?_
      obtain ⟨h1, ⟨-, ⟨h2, h3, h4⟩, h5, h6, h7⟩, h8⟩ := z
      have e : ∀ x j, ¬ (x = 152 ∧ j = 38) → am_up M2 152 38 (M2 152 38 + 1) x j = M2 x j := fun x j y => am_up_el y
      refine ⟨yf_tr h1 (fun x j y => by unfold yc_ at y; exact e x j (by omega)), ⟨rp_rf, ⟨?_, ?_, ?_⟩, ?_, ?_, h7⟩, ?_⟩
      · rw [e _ _ (by omega)]; exact h2
      · rw [e _ _ (by omega)]; exact h3
      · rw [e _ _ (by omega), e _ _ (by omega)]; exact h4
      · rw [e _ _ (by omega)]; exact h5
      · rw [e _ _ (by omega)]; exact h6
      · rw [am_up_at, h8])
  have cell : am_g 12 9 co_X12_statementTold (d + 9) (am_cv sh_T f) 0 [(2, 152), (3, 0)] [] sh_T M := by
    -- a number behind its word
    have num : ∀ (c g k : Int) (M1 : am_M), 0 ≤ k ∧ k < 3 → 0 ≤ g → pr_wc (M0 153) (M0 152 3) en p to_ = c → ¬ c = 0 → ¬ tf_l T c → (∀ p en, pz_do (M0 153) (M0 152 3) T c p en = pr_b (pr_num (M0 153) (M0 152 3) g p en) (fun p1 en1 v => .ok (p1, en1, aW T k v))) → ys_ M0 M1 (rd_at (M0 153) (M0 152 3) (p + rd_wd (M0 153) (M0 152 3) en p)) (p + rd_wd (M0 153) (M0 152 3) en p) T n → am_cal pg (d + 9) 181 [(2, 152), (0, 0), (0, g)] sh_T M1 (am_c0 sh_T fun x21 M21 => am_g 12 9 co_X12_statementTold (d + 9) (am_cv sh_T f) 233 [(2, 152), (3, 0)] [] sh_T (am_up M21 179 k x21)) := fun c g k M1 hk hg hc hc0 hfull hdo m1 => by
      have tl := tail
      rw [pz_st_c hc hc0, if_neg hfull, hdo] at tl
      obtain ⟨e5, k5⟩ := ci_b tl
      exact ys_num hg m1 (fun k2 z hx v M2 m2 => e5 k2 z hx _ (yz_w hk m2)) (fun p1 en1 v hx M2 m2 => k5 p1 en1 v hx _ (ys_w hk m2))
    -- at a word, with its code
    have at_ : ∀ (c : Int), pr_wc (M0 153) (M0 152 3) en p to_ = c → ¬ c = 0 → (tf_l T c → ∀ M', yz_ M0 M' 5 p n → am_g 12 9 co_X12_statementTold (d + 9) (am_cv sh_T f) 233 [(2, 152), (3, 0)] [] sh_T M') ∧ (¬ tf_l T c → ci_ M0 n (fun M1 => am_g 12 9 co_X12_statementTold (d + 9) (am_cv sh_T f) 233 [(2, 152), (3, 0)] [] sh_T M1) (pz_do (M0 153) (M0 152 3) T c (rd_at (M0 153) (M0 152 3) (p + rd_wd (M0 153) (M0 152 3) en p)) (p + rd_wd (M0 153) (M0 152 3) en p))) := fun c hc hc0 => by
      have tl := tail
      rw [pz_st_c hc hc0] at tl
      refine ⟨fun y M' m => ?_, fun y => ?_⟩
      · rw [if_pos y] at tl; exact tl M' m
      · rw [if_neg y] at tl; exact tl
    have wd0 : ∀ w : List Int, rd_is (M0 153) (M0 152 3) en p w = true → 0 < rd_wd (M0 153) (M0 152 3) en p := fun w y => by
      have a := rd_is_len y
      have b := (rd_is_iff.mp y).1.2
      have := List.length_pos_iff.mpr b
      omega
    unfold tf_l at at_ num
    refine bk_X12_statementTold_0 ⟨fun _ => ?_, fun y => by have := h.2.2.2.2; omega⟩
    rw [hp]
    refine rt_takes hwM (show ((155 : Int), w_dread) ∈ rws by decide +kernel) h.2.1 (fun y M1 m1 t1 => ?_) (fun y M1 m1 q1 t1 => ?_)
    · have s := ys_tf h m1 t1
      rw [e1, e2] at s y
      have hc : pr_wc (M0 153) (M0 152 3) en p to_ = 1 := if_pos y
      obtain ⟨x1, x2⟩ := at_ 1 hc (by decide)
      have hp2 := wd0 _ y
      exact ⟨fun z => absurd z (by decide), fun _ => rt_dread (d := d + 3) (c := 0) hw hTn s (fun z M' m => x1 (by omega) M' m) (fun z => x2 (by omega))⟩
    have s1 := ys_tf h m1 t1
    rw [e1, e2] at y
    have n1 := y
    clear y
    refine ⟨fun _ => ?_, fun z => absurd rfl z⟩
    refine rt_takes (rw_yf hw s1.1) (show ((156 : Int), w_dreamer) ∈ rws by decide +kernel) s1.2.1 (fun y M2 m2 t2 => ?_) (fun y M2 m2 q2 t2 => ?_)
    · have s := ys_tf s1 m2 t2
      rw [(yf_t s1.1).1, (yf_t s1.1).2] at s y
      have hc : pr_wc (M0 153) (M0 152 3) en p to_ = 2 := (if_neg n1).trans (if_pos y)
      obtain ⟨x1, x2⟩ := at_ 2 hc (by decide)
      have hp2 := wd0 _ y
      exact ⟨fun z => absurd z (by decide), fun _ => rt_dreamer (d := d + 3) hw hTn s (fun z M' m => x1 (by omega) M' m) (fun z => x2 (by omega))⟩
    have s2 := ys_tf s1 m2 t2
    rw [(yf_t s1.1).1, (yf_t s1.1).2] at y
    have n2 := y
    clear y
    refine ⟨fun _ => ?_, fun z => absurd rfl z⟩
    refine rt_takes (rw_yf hw s2.1) (show ((158 : Int), w_fears) ∈ rws by decide +kernel) s2.2.1 (fun y M3 m3 t3 => ?_) (fun y M3 m3 q3 t3 => ?_)
    · have s := ys_tf s2 m3 t3
      rw [(yf_t s2.1).1, (yf_t s2.1).2] at s y
      have hc : pr_wc (M0 153) (M0 152 3) en p to_ = 3 := (if_neg n1).trans ((if_neg n2).trans (if_pos y))
      obtain ⟨x1, x2⟩ := at_ 3 hc (by decide)
      have hp2 := wd0 _ y
      exact ⟨fun z => absurd z (by decide), fun _ => rt_fears (d := d + 3) hw hTn s (x2 (by omega))⟩
    have s3 := ys_tf s2 m3 t3
    rw [(yf_t s2.1).1, (yf_t s2.1).2] at y
    have n3 := y
    clear y
    refine ⟨fun _ => ?_, fun z => absurd rfl z⟩
    refine rt_takes (rw_yf hw s3.1) (show ((159 : Int), w_guide) ∈ rws by decide +kernel) s3.2.1 (fun y M4 m4 t4 => ?_) (fun y M4 m4 q4 t4 => ?_)
    · have s := ys_tf s3 m4 t4
      rw [(yf_t s3.1).1, (yf_t s3.1).2] at s y
      have hc : pr_wc (M0 153) (M0 152 3) en p to_ = 4 := (if_neg n1).trans ((if_neg n2).trans ((if_neg n3).trans (if_pos y)))
      obtain ⟨x1, x2⟩ := at_ 4 hc (by decide)
      have hp2 := wd0 _ y
      exact ⟨fun z => absurd z (by decide), fun _ => rt_guide (d := d + 3) hw hTn s (fun z M' m => x1 (by omega) M' m) (fun z => x2 (by omega))⟩
    have s4 := ys_tf s3 m4 t4
    rw [(yf_t s3.1).1, (yf_t s3.1).2] at y
    have n4 := y
    clear y
    refine ⟨fun _ => ?_, fun z => absurd rfl z⟩
    refine rt_takes (rw_yf hw s4.1) (show ((161 : Int), w_meet) ∈ rws by decide +kernel) s4.2.1 (fun y M5 m5 t5 => ?_) (fun y M5 m5 q5 t5 => ?_)
    · have s := ys_tf s4 m5 t5
      rw [(yf_t s4.1).1, (yf_t s4.1).2] at s y
      have hc : pr_wc (M0 153) (M0 152 3) en p to_ = 5 := (if_neg n1).trans ((if_neg n2).trans ((if_neg n3).trans ((if_neg n4).trans (if_pos y))))
      obtain ⟨x1, x2⟩ := at_ 5 hc (by decide)
      have hp2 := wd0 _ y
      exact ⟨fun z => absurd z (by decide), fun _ => rt_sumof (k := 0) hw (by decide) (by omega) s (fun z M' m => x1 (Or.inr (Or.inr (Or.inr ⟨by decide, by decide, z⟩))) M' m) (fun z => x2 (fun w => by
        rcases w with w | w | w | w
        · exact absurd w.1 (by decide)
        · exact absurd w.1 (by decide)
        · exact absurd w.1 (by decide)
        · exact w.2.2 z))⟩
    have s5 := ys_tf s4 m5 t5
    rw [(yf_t s4.1).1, (yf_t s4.1).2] at y
    have n5 := y
    clear y
    refine ⟨fun _ => ?_, fun z => absurd rfl z⟩
    refine rt_takes (rw_yf hw s5.1) (show ((162 : Int), w_shun) ∈ rws by decide +kernel) s5.2.1 (fun y M6 m6 t6 => ?_) (fun y M6 m6 q6 t6 => ?_)
    · have s := ys_tf s5 m6 t6
      rw [(yf_t s5.1).1, (yf_t s5.1).2] at s y
      have hc : pr_wc (M0 153) (M0 152 3) en p to_ = 6 := (if_neg n1).trans ((if_neg n2).trans ((if_neg n3).trans ((if_neg n4).trans ((if_neg n5).trans (if_pos y)))))
      obtain ⟨x1, x2⟩ := at_ 6 hc (by decide)
      have hp2 := wd0 _ y
      exact ⟨fun z => absurd z (by decide), fun _ => rt_sumof (k := 1) hw (by decide) (by omega) s (fun z M' m => x1 (Or.inr (Or.inr (Or.inr ⟨by decide, by decide, z⟩))) M' m) (fun z => x2 (fun w => by
        rcases w with w | w | w | w
        · exact absurd w.1 (by decide)
        · exact absurd w.1 (by decide)
        · exact absurd w.1 (by decide)
        · exact w.2.2 z))⟩
    have s6 := ys_tf s5 m6 t6
    rw [(yf_t s5.1).1, (yf_t s5.1).2] at y
    have n6 := y
    clear y
    refine ⟨fun _ => ?_, fun z => absurd rfl z⟩
    refine rt_takes (rw_yf hw s6.1) (show ((163 : Int), w_byday) ∈ rws by decide +kernel) s6.2.1 (fun y M7 m7 t7 => ?_) (fun y M7 m7 q7 t7 => ?_)
    · have s := ys_tf s6 m7 t7
      rw [(yf_t s6.1).1, (yf_t s6.1).2] at s y
      have hc : pr_wc (M0 153) (M0 152 3) en p to_ = 7 := (if_neg n1).trans ((if_neg n2).trans ((if_neg n3).trans ((if_neg n4).trans ((if_neg n5).trans ((if_neg n6).trans (if_pos y))))))
      obtain ⟨x1, x2⟩ := at_ 7 hc (by decide)
      have hp2 := wd0 _ y
      exact ⟨fun z => absurd z (by decide), fun _ => rt_sumof (k := 2) hw (by decide) (by omega) s (fun z M' m => x1 (Or.inr (Or.inr (Or.inr ⟨by decide, by decide, z⟩))) M' m) (fun z => x2 (fun w => by
        rcases w with w | w | w | w
        · exact absurd w.1 (by decide)
        · exact absurd w.1 (by decide)
        · exact absurd w.1 (by decide)
        · exact w.2.2 z))⟩
    have s7 := ys_tf s6 m7 t7
    rw [(yf_t s6.1).1, (yf_t s6.1).2] at y
    have n7 := y
    clear y
    refine ⟨fun _ => ?_, fun z => absurd rfl z⟩
    refine rt_takes (rw_yf hw s7.1) (show ((164 : Int), w_home) ∈ rws by decide +kernel) s7.2.1 (fun y M8 m8 t8 => ?_) (fun y M8 m8 q8 t8 => ?_)
    · have s := ys_tf s7 m8 t8
      rw [(yf_t s7.1).1, (yf_t s7.1).2] at s y
      have hc : pr_wc (M0 153) (M0 152 3) en p to_ = 8 := (if_neg n1).trans ((if_neg n2).trans ((if_neg n3).trans ((if_neg n4).trans ((if_neg n5).trans ((if_neg n6).trans ((if_neg n7).trans (if_pos y)))))))
      obtain ⟨x1, x2⟩ := at_ 8 hc (by decide)
      have hp2 := wd0 _ y
      exact ⟨fun z => absurd z (by decide), fun _ => num 8 9999 0 M8 (by decide) (by decide) hc (by decide) (by omega) (fun _ _ => rfl) s⟩
    have s8 := ys_tf s7 m8 t8
    rw [(yf_t s7.1).1, (yf_t s7.1).2] at y
    have n8 := y
    clear y
    refine ⟨fun _ => ?_, fun z => absurd rfl z⟩
    refine rt_takes (rw_yf hw s8.1) (show ((165 : Int), w_laugh) ∈ rws by decide +kernel) s8.2.1 (fun y M9 m9 t9 => ?_) (fun y M9 m9 q9 t9 => ?_)
    · have s := ys_tf s8 m9 t9
      rw [(yf_t s8.1).1, (yf_t s8.1).2] at s y
      have hc : pr_wc (M0 153) (M0 152 3) en p to_ = 9 := (if_neg n1).trans ((if_neg n2).trans ((if_neg n3).trans ((if_neg n4).trans ((if_neg n5).trans ((if_neg n6).trans ((if_neg n7).trans ((if_neg n8).trans (if_pos y))))))))
      obtain ⟨x1, x2⟩ := at_ 9 hc (by decide)
      have hp2 := wd0 _ y
      exact ⟨fun z => absurd z (by decide), fun _ => num 9 100 1 M9 (by decide) (by decide) hc (by decide) (by omega) (fun _ _ => rfl) s⟩
    have s9 := ys_tf s8 m9 t9
    rw [(yf_t s8.1).1, (yf_t s8.1).2] at y
    have n9 := y
    clear y
    refine ⟨fun _ => ?_, fun z => absurd rfl z⟩
    refine rt_asks (rw_yf hw s9.1) (show ((166 : Int), w_spite) ∈ rws by decide +kernel) s9.2.1 (fun y M10 m10 t10 => ?_) (fun y M10 m10 => ?_)
    · have s := ys_tf s9 m10 t10
      rw [(yf_t s9.1).1, (yf_t s9.1).2] at s y
      have hc : pr_wc (M0 153) (M0 152 3) en p to_ = 10 := (if_neg n1).trans ((if_neg n2).trans ((if_neg n3).trans ((if_neg n4).trans ((if_neg n5).trans ((if_neg n6).trans ((if_neg n7).trans ((if_neg n8).trans ((if_neg n9).trans (if_pos y)))))))))
      exact num 10 999 2 M10 (by decide) (by decide) hc (by decide) (by omega) (fun _ _ => rfl) s
    · rw [(yf_t s9.1).1, (yf_t s9.1).2] at y
      have hc : pr_wc (M0 153) (M0 152 3) en p to_ = 0 := (if_neg n1).trans ((if_neg n2).trans ((if_neg n3).trans ((if_neg n4).trans ((if_neg n5).trans ((if_neg n6).trans ((if_neg n7).trans ((if_neg n8).trans ((if_neg n9).trans (if_neg y)))))))))
      have tl := tail
      unfold pz_st at tl
      rw [if_pos hc] at tl
      exact yz_num (yz_ru s9.1 s9.2.2.2.2 m10) (tl _ (yz_w (by decide) (yz_ru s9.1 s9.2.2.2.2 m10)))
  exact en_X12_statementTold cell
end YW
