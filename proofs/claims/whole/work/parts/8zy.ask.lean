/-! A QUESTION IS READ, on both sides -/
def wh_ : List (List Int) := [w_first, w_lst, w_often, w_total, w_most, w_least]
theorem sw_3 : pg_str 1000003 = wj_ wh_ ∧ pg_str 1000003 ≠ [] ∧ (pg_str 1000003).length ≤ 1000 := by decide +kernel
theorem wh_w : wh_ ≠ [] ∧ ∀ w ∈ wh_, w ≠ [] ∧ ∀ c ∈ w, c ≠ 32 := by decide +kernel
/-- the number of its head; -1 without -/
def ph_ (t : Int → Int) (e : Int) : Int := pr_ix t e (-1) (rd_at t e 0) wh_ 0
/-- what stands behind the head -/
def pi2_ (t : Int → Int) (e hd p en : Int) : pr_ (List Int) := if hd ≤ 2 then pw_test t e (pw_fact t e 6) p en else pz_sum t e (pz_part true t e 6) p en
def pq_ (t : Int → Int) (e : Int) : pr_ (Int × List Int) :=
  if ph_ t e = -1 then .error (1, rd_at t e 0)
  else pr_b (pi2_ t e (ph_ t e) (rd_at t e (rd_at t e 0 + rd_wd t e (-1) (rd_at t e 0))) (rd_at t e 0 + rd_wd t e (-1) (rd_at t e 0))) (fun p1 en1 cs => if rc t e p1 = -1 then .ok (p1, en1, (ph_ t e, cs)) else .error (1, p1))
theorem pr_ix_wh {t : Int → Int} {e en p : Int} : pr_ix t e en p wh_ 0 = if rd_is t e en p w_first = true then 0 else if rd_is t e en p w_lst = true then 1 else if rd_is t e en p w_often = true then 2 else if rd_is t e en p w_total = true then 3 else if rd_is t e en p w_most = true then 4 else if rd_is t e en p w_least = true then 5 else -1 := rfl
theorem ph_in {t : Int → Int} {e : Int} : ph_ t e = -1 ∨ (0 ≤ ph_ t e ∧ ph_ t e ≤ 5) := by
  unfold ph_
  rw [pr_ix_wh]
  split
  · exact Or.inr ⟨by decide, by decide⟩
  · split
    · exact Or.inr ⟨by decide, by decide⟩
    · split
      · exact Or.inr ⟨by decide, by decide⟩
      · split
        · exact Or.inr ⟨by decide, by decide⟩
        · split
          · exact Or.inr ⟨by decide, by decide⟩
          · split
            · exact Or.inr ⟨by decide, by decide⟩
            · exact Or.inl rfl
theorem pr_ix_pos {t : Int → Int} {e en p : Int} (h : ¬ pr_ix t e en p wh_ 0 = -1) : 0 < rd_wd t e en p := by
  rw [pr_ix_wh] at h
  by_cases c : rd_wd t e en p = 0
  · exact absurd (by rw [← pr_ix_wh]; exact pr_ix_0 c wh_ 0) h
  · have : ∀ w, rd_is t e en p w = true → 0 < rd_wd t e en p := fun w hw => rd_is_pos hw
    by_cases a1 : rd_is t e en p w_first = true
    · exact this _ a1
    · by_cases a2 : rd_is t e en p w_lst = true
      · exact this _ a2
      · by_cases a3 : rd_is t e en p w_often = true
        · exact this _ a3
        · by_cases a4 : rd_is t e en p w_total = true
          · exact this _ a4
          · by_cases a5 : rd_is t e en p w_most = true
            · exact this _ a5
            · by_cases a6 : rd_is t e en p w_least = true
              · exact this _ a6
              · rw [if_neg a1, if_neg a2, if_neg a3, if_neg a4, if_neg a5, if_neg a6] at h
                exact absurd rfl h
theorem pi2_g {t : Int → Int} {e hd : Int} : pz_gs t e (pi2_ t e hd) := fun p en h0 h1 h2 => by
  unfold pi2_
  split
  · exact pw_test_g (pw_fact_g 6) p en h0 h1 h2
  · exact pz_sum_g (pz_part_g 6) p en h0 h1 h2
section CQ
variable {M0 M : am_M} {v p en : Int} {C : List Int}
theorem ct_demandEnd {q : Bool} {d : Nat} {f : am_M → Prop} (hg : cg_ M0 q v) (h : cs_ M0 M q v p en C) (h1 : rc (M0 2) (M0 1 1) p = -1 → ∀ M', cs_ M0 M' q v p en C → f M') (h2 : ¬ rc (M0 2) (M0 1 1) p = -1 → ∀ M', cf_ M0 M' v 1 p → f M') : am_cal pg (d + 3) 102 [(2, 1)] sh_T M (am_cv sh_T f) :=
  en_X9_demandEnd (bk_X9_demandEnd_0 (ct_look hg h (fun M1 h1' hp1 => ⟨fun y => am_cv_i (h1 y M1 h1'), fun y => ct_blame hg h1' (by decide) (fun M2 h2' => am_cv_i (h2 y M2 h2'))⟩)))
theorem cf_demandEnd {q : Bool} {d : Nat} {f : am_M → Prop} {k z : Int} (hg : cg_ M0 q v) (h : cf_ M0 M v k z) (hf : ∀ M', cf_ M0 M' v k z → f M') : am_cal pg (d + 3) 102 [(2, 1)] sh_T M (am_cv sh_T f) :=
  en_X9_demandEnd (bk_X9_demandEnd_0 (st_look h.2.1 ⟨fun _ => am_cv_i (hf _ (cf_p hg h)), fun _ => cf_blame hg (cf_p hg h) (fun M2 h2 => am_cv_i (hf M2 h2))⟩))
end CQ
/-- what a reading of a question may write, in the class -/
def xq2_ (M M' : am_M) : Prop := ∀ x j, ¬ (x = 1 ∧ 2 ≤ j ∧ j ≤ 7) → ¬ (x = 3 ∧ (j = 1 ∨ j = 2)) → ¬ (x = 5 ∧ j = 3) → ¬ (x = 6 ∧ j = 1) → ¬ x = 7 → M' x j = M x j
theorem ct_question {d : Nat} {M : am_M} {f : Int → am_M → Prop} (h0 : 0 ≤ M 1 1 ∧ M 1 1 ≤ 1600) (hw : xw_ M) (hF : ∀ k z, pq_ (M 2) (M 1 1) = .error (k, z) → ∀ M', xq2_ M M' → M' 1 3 = k → M' 1 4 = z → f 0 M') (hO : ∀ p en hd C, pq_ (M 2) (M 1 1) = .ok (p, en, (hd, C)) → ∀ M', xq2_ M M' → M' 1 3 = 0 → M' 1 4 = -1 → M' 5 3 = hd → (M' 6 1 = C.length ∧ C.length ≤ 1600 ∧ ∀ i : Nat, i < C.length → M' 7 i = qv (C.getD i 0)) → f 1 M') : am_cal pg (d + 46) 53 [(2, 5)] sh_T M (am_c0 sh_T f) := by
  refine en_X5_read (bk_X5_read_0 (en_X9_start (bk_X9_start_0 (am_cv_i (en_X6_clear (bk_X6_clear_0 ⟨ob_6, am_cv_i (en_X8_write (bk_X8_write_0 ⟨Or.inr rfl, am_cv_i ?_⟩))⟩))))))
  generalize hB : am_up (am_up (am_up (am_up (am_up (am_up (am_up M 1 2 0) 1 3 0) 1 4 (-1)) 1 5 (-1)) 6 1 0) 3 1 6) 3 2 1 = B
  have fB : ∀ x j, ¬ (x = 1 ∧ 2 ≤ j ∧ j ≤ 5) → ¬ (x = 3 ∧ (j = 1 ∨ j = 2)) → ¬ (x = 6 ∧ j = 1) → B x j = M x j := fun x j x1 x2 x3 => by
    rw [← hB, am_up_el (by omega), am_up_el (by omega), am_up_el (by omega), am_up_el (by omega), am_up_el (by omega), am_up_el (by omega), am_up_el (by omega)]
  have b12 : B 1 2 = 0 := by rw [← hB, am_up_el (by omega), am_up_el (by omega), am_up_el (by omega), am_up_el (by omega), am_up_el (by omega), am_up_el (by omega), am_up_at]
  have b13 : B 1 3 = 0 := by rw [← hB, am_up_el (by omega), am_up_el (by omega), am_up_el (by omega), am_up_el (by omega), am_up_el (by omega), am_up_at]
  have b14 : B 1 4 = -1 := by rw [← hB, am_up_el (by omega), am_up_el (by omega), am_up_el (by omega), am_up_el (by omega), am_up_at]
  have b15 : B 1 5 = -1 := by rw [← hB, am_up_el (by omega), am_up_el (by omega), am_up_el (by omega), am_up_at]
  have b61 : B 6 1 = 0 := by rw [← hB, am_up_el (by omega), am_up_el (by omega), am_up_at]
  have b31 : B 3 1 = 6 := by rw [← hB, am_up_el (by omega), am_up_at]
  have b32 : B 3 2 = 1 := by rw [← hB, am_up_at]
  have b2 : B 2 = M 2 := funext fun j => fB 2 j (by omega) (by omega) (by omega)
  have b11 : B 1 1 = M 1 1 := fB 1 1 (by omega) (by omega) (by omega)
  have hgB : cg_ B true 6 := ⟨rk_6, by omega, ⟨b31, by rw [b32]; rfl⟩, fun i hi => by
    rw [fB 2000001 i (by omega) (by omega) (by omega), fB 2000002 i (by omega) (by omega) (by omega)]
    exact hw.2.1 i hi⟩
  have sB : cs_ B B true 6 (rd_at (B 2) (B 1 1) 0) (-1) [] := by
    refine ⟨fun _ _ _ _ _ => rfl, ⟨by rw [b11]; exact h0.1, by rw [b11]; exact h0.2, by rw [b12]; exact Int.le_refl _, by rw [b12, b11]; exact h0.1⟩, ⟨?_, b15, b13, b14⟩, b61, by decide, fun i hi => absurd hi (Nat.not_lt_zero i)⟩
    show rd_at (B 2) (B 1 1) (B 1 2) = _
    rw [b12]
  refine ct_word hgB sB sw_3.1 wh_w.1 wh_w.2 sw_3.2 (fun M4 h4 hp4 => ?_)
  have ex : pr_ix (B 2) (B 1 1) (-1) (rd_at (B 2) (B 1 1) 0) wh_ 0 = ph_ (M 2) (M 1 1) := by rw [b2, b11]; rfl
  rw [ex]
  obtain ⟨N, eN⟩ : ∃ N, N = am_up M4 5 3 (ph_ (M 2) (M 1 1)) := ⟨_, rfl⟩
  rw [← eN]
  have u : ∀ x j, ¬ (x = 5 ∧ j = 3) → N x j = M4 x j := fun x j y => by rw [eN]; exact am_up_el y
  have u53 : N 5 3 = ph_ (M 2) (M 1 1) := by rw [eN]; exact am_up_at
  have f4 := h4.1
  have fN : ∀ x j, ¬ (x = 1 ∧ 2 ≤ j ∧ j ≤ 7) → ¬ (x = 5 ∧ j = 3) → ¬ (x = 6 ∧ j = 1) → ¬ x = 7 → N x j = B x j := fun x j x1 x2 x3 x4 => (u x j x2).trans (f4 x j x1 x3 (by omega))
  have n2 : N 2 = M 2 := funext fun j => (fN 2 j (by omega) (by omega) (by omega) (by omega)).trans (congrFun b2 j)
  have n11 : N 1 1 = M 1 1 := (fN 1 1 (by omega) (by omega) (by omega) (by omega)).trans b11
  have hgN : cg_ N true 6 := ⟨rk_6, by omega, ⟨(fN 3 1 (by omega) (by omega) (by omega) (by omega)).trans b31, by rw [fN 3 2 (by omega) (by omega) (by omega) (by omega), b32]; rfl⟩, fun i hi => by
    rw [fN 2000001 i (by omega) (by omega) (by omega) (by omega), fN 2000002 i (by omega) (by omega) (by omega) (by omega)]
    exact hgB.2.2.2 i hi⟩
  have e4 : M4 2 = M 2 := funext fun j => by rw [← u 2 j (by omega)]; exact congrFun n2 j
  have e411 : M4 1 1 = M 1 1 := by rw [← u 1 1 (by omega)]; exact n11
  have sN : cs_ N N true 6 (rd_at (N 2) (N 1 1) 0) (-1) [] := by
    obtain ⟨g1, g2, ⟨g3, g4, g5⟩, g6, g7, g8⟩ := h4
    refine ⟨fun _ _ _ _ _ => rfl, ⟨?_, ?_, ?_, ?_⟩, ⟨?_, ?_, ?_⟩, ?_, by decide, fun i hi => absurd hi (Nat.not_lt_zero i)⟩
    · rw [u 1 1 (by omega)]; exact g2.1
    · rw [u 1 1 (by omega)]; exact g2.2.1
    · rw [u 1 2 (by omega)]; exact g2.2.2.1
    · rw [u 1 2 (by omega), u 1 1 (by omega)]; exact g2.2.2.2
    · show rd_at (N 2) (N 1 1) (N 1 2) = _
      have g3 : rd_at (M4 2) (M4 1 1) (M4 1 2) = rd_at (B 2) (B 1 1) 0 := g3
      rw [n2, n11, u 1 2 (by omega), ← b2, ← b11, ← g3, e4, e411, b2, b11]
    · rw [u 1 5 (by omega)]; exact g4
    · rw [u 1 3 (by omega), u 1 4 (by omega)]; exact g5
    · rw [u 6 1 (by omega)]; exact g6
  rw [n2, n11] at sN
  have xq : ∀ M', cs_fr 6 N M' → xq2_ M M' := fun M' h x j x1 x2 x3 x4 x5 => by
    rw [h x j x1 x4 (by omega), fN x j x1 x3 x4 x5, fB x j (by omega) x2 x4]
  have hpq : pq_ (M 2) (M 1 1) = if ph_ (M 2) (M 1 1) = -1 then .error (1, rd_at (M 2) (M 1 1) 0) else pr_b (pi2_ (M 2) (M 1 1) (ph_ (M 2) (M 1 1)) (rd_at (M 2) (M 1 1) (rd_at (M 2) (M 1 1) 0 + rd_wd (M 2) (M 1 1) (-1) (rd_at (M 2) (M 1 1) 0))) (rd_at (M 2) (M 1 1) 0 + rd_wd (M 2) (M 1 1) (-1) (rd_at (M 2) (M 1 1) 0))) (fun p1 en1 cs => if rc (M 2) (M 1 1) p1 = -1 then .ok (p1, en1, (ph_ (M 2) (M 1 1), cs)) else .error (1, p1)) := rfl
  have bad : ∀ (k z : Int) (M8 : am_M), pq_ (M 2) (M 1 1) = .error (k, z) → cf_ N M8 6 k z → f 0 M8 := fun k z M8 hp h8 => hF k z hp M8 (xq M8 h8.1) h8.2.2.1.1 h8.2.2.1.2.1
  refine ⟨fun y => ?_, fun y => ?_⟩
  · rw [if_neg y] at hpq
    refine ct_skip hgN sN (fun M6 h6 => ?_)
    rw [n2, n11] at h6
    have e53 : M6 5 3 = ph_ (M 2) (M 1 1) := (h6.1 5 3 (by omega) (by omega) (by omega)).trans u53
    have hpos := pr_ix_pos y
    obtain ⟨i1, i2, i3, i4, -⟩ := cs_in hgN h6
    have ending : ck_ N true 6 [] (fun M8 => am_cal pg (d + 45) 102 [(2, 1)] sh_T M8 (am_cv sh_T fun M9 => am_cal pg (d + 45) 95 [(2, 1)] sh_T M9 (am_c0 sh_T fun x10 M10 => ((¬ x10 = 0 → (am_c0 sh_T f) (some (0, 0), sh_T, M10)) ∧ (x10 = 0 → (am_c0 sh_T f) (some (0, 1), sh_T, M10)))))) (pi2_ (M 2) (M 1 1) (ph_ (M 2) (M 1 1)) (rd_at (M 2) (M 1 1) (rd_at (M 2) (M 1 1) 0 + rd_wd (M 2) (M 1 1) (-1) (rd_at (M 2) (M 1 1) 0))) (rd_at (M 2) (M 1 1) 0 + rd_wd (M 2) (M 1 1) (-1) (rd_at (M 2) (M 1 1) 0))) := by
      refine ck_mk (fun k z hx M8 h8 => ?_) (fun p1 en1 cs hx M8 h8 => ?_)
      · rw [hx] at hpq
        exact cf_demandEnd hgN h8 (fun M9 h9 => cf_failed h9 ⟨fun _ => am_c0_i (bad k z M9 hpq h9), fun w => absurd w (by decide)⟩)
      · rw [hx] at hpq
        have hpq : pq_ (M 2) (M 1 1) = if rc (M 2) (M 1 1) p1 = -1 then .ok (p1, en1, (ph_ (M 2) (M 1 1), cs)) else .error (1, p1) := hpq
        refine ct_demandEnd hgN h8 (fun w M9 h9 => ?_) (fun w M9 h9 => ?_)
        · rw [n2, n11] at w
          rw [if_pos w] at hpq
          refine ct_failed h9 ⟨fun w2 => absurd rfl w2, fun _ => am_c0_i ?_⟩
          obtain ⟨g1, g2, ⟨g3, g4, g5, g5'⟩, g6, g7, g8⟩ := h9
          exact hO p1 en1 _ cs hpq M9 (xq M9 g1) g5 g5' ((g1 5 3 (by omega) (by omega) (by omega)).trans u53) ⟨g6, g7, fun i hi => g8 i hi⟩
        · rw [n2, n11] at w
          rw [if_neg w] at hpq
          exact cf_failed h9 ⟨fun _ => am_c0_i (bad 1 p1 M9 hpq h9), fun w => absurd w (by decide)⟩
    have c0 : ((([] : List Int).length : Nat) : Int) ≤ rd_at (M 2) (M 1 1) (rd_at (M 2) (M 1 1) 0 + rd_wd (M 2) (M 1 1) (-1) (rd_at (M 2) (M 1 1) 0)) := by
      show ((0 : Nat) : Int) ≤ _
      omega
    rw [e53]
    refine ⟨fun w => ?_, fun w => ?_⟩
    · have hS := cm_top hgN 6 (Nat.le_refl _)
      rw [show (6 : Int) - ((6 : Nat) : Int) = 0 by decide, n2, n11] at hS
      refine hS M6 _ _ [] _ _ h6 c0 (by omega) ?_
      have r := ending
      have ei : ∀ p en, pi2_ (M 2) (M 1 1) (ph_ (M 2) (M 1 1)) p en = pz_sum (M 2) (M 1 1) (pz_part true (M 2) (M 1 1) 6) p en := fun p en => if_neg (by omega)
      rw [ei] at r
      exact r
    · have hS := cn_test hgN (by decide) (pw_fact_g 6) (cn_fact hgN 6 (Nat.le_refl _))
      rw [show (6 : Int) - ((6 : Nat) : Int) = 0 by decide, n2, n11] at hS
      refine hS M6 _ _ [] _ _ h6 c0 (by omega) ?_
      have r := ending
      have ei : ∀ p en, pi2_ (M 2) (M 1 1) (ph_ (M 2) (M 1 1)) p en = pw_test (M 2) (M 1 1) (pw_fact (M 2) (M 1 1) 6) p en := fun p en => if_pos w
      rw [ei] at r
      exact r
  · rw [if_pos y] at hpq
    exact ct_blame hgN sN (by decide) (fun M8 h8 => am_c0_i (bad 1 _ M8 hpq h8))
section RQ
variable {M0 M : am_M} {p en : Int}
theorem rt_kind {d : Nat} {f : Int → am_M → Prop} (hw : rw_all M0) (hx : rx_ M0 M p en) (h1 : ¬ pr_ix (M0 153) (M0 152 3) en p wh_ 0 = -1 → ∀ M', rx_ M0 M' (rd_at (M0 153) (M0 152 3) (p + rd_wd (M0 153) (M0 152 3) en p)) (p + rd_wd (M0 153) (M0 152 3) en p) → tf_ M M' → f (pr_ix (M0 153) (M0 152 3) en p wh_ 0) M') (h0 : pr_ix (M0 153) (M0 152 3) en p wh_ 0 = -1 → ∀ M', ru_ M0 M' 1 p → f 5 M') : am_cal pg (d + 5) 303 [(2, 152)] sh_T M (am_c0 sh_T f) := by
  rw [pr_ix_wh] at h1 h0
  refine en_X12_qKind (bk_X12_qKind_0 (rt_takes hw (w := w_first) (by decide) hx (fun y M1 g1 t1 => ⟨fun z => absurd z (by decide), fun _ => am_c0_i ?_⟩) (fun y1 M1 g1 hp1 t1 => ⟨fun _ => ?_, fun z => absurd rfl z⟩)))
  · rw [if_pos y] at h1
    exact h1 (by decide) M1 g1 t1
  rw [if_neg y1] at h1 h0
  refine rt_takes hw (w := w_lst) (by decide) g1 (fun y M2 g2 t2 => ⟨fun z => absurd z (by decide), fun _ => am_c0_i ?_⟩) (fun y2 M2 g2 hp2 t2 => ⟨fun _ => ?_, fun z => absurd rfl z⟩)
  · rw [if_pos y] at h1
    exact h1 (by decide) M2 g2 (tf_tr t1 t2)
  rw [if_neg y2] at h1 h0
  refine rt_takes hw (w := w_often) (by decide) g2 (fun y M3 g3 t3 => ⟨fun z => absurd z (by decide), fun _ => am_c0_i ?_⟩) (fun y3 M3 g3 hp3 t3 => ⟨fun _ => ?_, fun z => absurd rfl z⟩)
  · rw [if_pos y] at h1
    exact h1 (by decide) M3 g3 (tf_tr t1 (tf_tr t2 t3))
  rw [if_neg y3] at h1 h0
  refine rt_takes hw (w := w_total) (by decide) g3 (fun y M4 g4 t4 => ⟨fun z => absurd z (by decide), fun _ => am_c0_i ?_⟩) (fun y4 M4 g4 hp4 t4 => ⟨fun _ => ?_, fun z => absurd rfl z⟩)
  · rw [if_pos y] at h1
    exact h1 (by decide) M4 g4 (tf_tr t1 (tf_tr t2 (tf_tr t3 t4)))
  rw [if_neg y4] at h1 h0
  refine rt_takes hw (w := w_most) (by decide) g4 (fun y M5 g5 t5 => ⟨fun z => absurd z (by decide), fun _ => am_c0_i ?_⟩) (fun y5 M5 g5 hp5 t5 => ⟨fun _ => ?_, fun z => absurd rfl z⟩)
  · rw [if_pos y] at h1
    exact h1 (by decide) M5 g5 (tf_tr t1 (tf_tr t2 (tf_tr t3 (tf_tr t4 t5))))
  rw [if_neg y5] at h1 h0
  refine rt_asks hw (w := w_least) (by decide) g5 (fun y M6 g6 t6 => am_c0_i ?_) (fun y M6 g6 => am_c0_i ?_)
  · rw [if_pos y] at h1
    exact h1 (by decide) M6 g6 (tf_tr t1 (tf_tr t2 (tf_tr t3 (tf_tr t4 (tf_tr t5 t6)))))
  · rw [if_neg y] at h0
    exact h0 rfl M6 g6
end RQ
/-- the reference reads it, up to where it asks for a fault -/
theorem rt_question {d : Nat} {M0 : am_M} {Q : am_Q} {a : Int} (hw : rw_all M0) (hx : rx_ M0 M0 (rd_at (M0 153) (M0 152 3) 0) (-1)) (hs : qsk M0 [] [] 6 0) (hF : ∀ k z, pq_ (M0 153) (M0 152 3) = .error (k, z) → ∀ hd M', ru_ M0 M' k z → am_g 12 1 co_X12_ask (d + 46) Q 129 [(2, 152), (0, a), (0, hd), (3, 0)] [] sh_T M') (hO : ∀ p en hd C, pq_ (M0 153) (M0 152 3) = .ok (p, en, (hd, C)) → ∀ M', rx_ M0 M' p en → qsk M' C [] 6 0 → am_g 12 1 co_X12_ask (d + 46) Q 129 [(2, 152), (0, a), (0, hd), (3, 0)] [] sh_T M') : am_cal pg (d + 46) 303 [(2, 152)] sh_T M0 (am_c0 sh_T fun x3 M3 => ((¬ M3 152 5 = 0 → am_g 12 1 co_X12_ask (d + 46) Q 94 [(2, 152), (0, a), (0, x3), (3, 0)] [] sh_T M3) ∧ (M3 152 5 = 0 → ((3 ≤ x3 → am_g 12 1 co_X12_ask (d + 46) Q 94 [(2, 152), (0, a), (0, x3), (3, 0)] [] sh_T M3) ∧ (x3 < 3 → am_cal pg (d + 46) 294 [(2, 152)] sh_T M3 (am_cv sh_T fun M6 => am_g 12 1 co_X12_ask (d + 46) Q 105 [(2, 152), (0, a), (0, x3), (3, 0)] [] sh_T M6)))))) := by
  have hpq : pq_ (M0 153) (M0 152 3) = if ph_ (M0 153) (M0 152 3) = -1 then .error (1, rd_at (M0 153) (M0 152 3) 0) else pr_b (pi2_ (M0 153) (M0 152 3) (ph_ (M0 153) (M0 152 3)) (rd_at (M0 153) (M0 152 3) (rd_at (M0 153) (M0 152 3) 0 + rd_wd (M0 153) (M0 152 3) (-1) (rd_at (M0 153) (M0 152 3) 0))) (rd_at (M0 153) (M0 152 3) 0 + rd_wd (M0 153) (M0 152 3) (-1) (rd_at (M0 153) (M0 152 3) 0))) (fun p1 en1 cs => if rc (M0 153) (M0 152 3) p1 = -1 then .ok (p1, en1, (ph_ (M0 153) (M0 152 3), cs)) else .error (1, p1)) := rfl
  have bad : ∀ k z hd M', ru_ M0 M' k z → pq_ (M0 153) (M0 152 3) = .error (k, z) → am_g 12 1 co_X12_ask (d + 46) Q 105 [(2, 152), (0, a), (0, hd), (3, 0)] [] sh_T M' := fun k z hd M' h hp => bk_X12_ask_105 ⟨fun _ => hF k z hp hd M' h, fun y => absurd y (ru_b h)⟩
  refine rt_kind hw hx (fun y M1 h1 t1 => ?_) (fun y M1 h1 => ?_)
  · have y' : ¬ ph_ (M0 153) (M0 152 3) = -1 := y
    rw [if_neg y'] at hpq
    have hin := (ph_in (t := M0 153) (e := M0 152 3)).elim (fun z => absurd z y') id
    have hpos := pr_ix_pos y
    obtain ⟨i1, i2, i3, i4, -⟩ := rx_in h1
    obtain ⟨j1, j2, j3, j4, -⟩ := rx_in hx
    have k1 := qsk_tf t1 hs
    show (¬ M1 152 5 = 0 → am_g 12 1 co_X12_ask (d + 46) Q 94 [(2, 152), (0, a), (0, ph_ (M0 153) (M0 152 3)), (3, 0)] [] sh_T M1) ∧ (M1 152 5 = 0 → ((3 ≤ ph_ (M0 153) (M0 152 3) → am_g 12 1 co_X12_ask (d + 46) Q 94 [(2, 152), (0, a), (0, ph_ (M0 153) (M0 152 3)), (3, 0)] [] sh_T M1) ∧ (ph_ (M0 153) (M0 152 3) < 3 → am_cal pg (d + 46) 294 [(2, 152)] sh_T M1 (am_cv sh_T fun M6 => am_g 12 1 co_X12_ask (d + 46) Q 105 [(2, 152), (0, a), (0, ph_ (M0 153) (M0 152 3)), (3, 0)] [] sh_T M6))))
    have fault : ∀ k z, pi2_ (M0 153) (M0 152 3) (ph_ (M0 153) (M0 152 3)) (rd_at (M0 153) (M0 152 3) (rd_at (M0 153) (M0 152 3) 0 + rd_wd (M0 153) (M0 152 3) (-1) (rd_at (M0 153) (M0 152 3) 0))) (rd_at (M0 153) (M0 152 3) 0 + rd_wd (M0 153) (M0 152 3) (-1) (rd_at (M0 153) (M0 152 3) 0)) = .error (k, z) → pq_ (M0 153) (M0 152 3) = .error (k, z) := fun k z hx2 => by rw [hx2] at hpq; exact hpq
    have fine : ∀ p1 en1 cs, pi2_ (M0 153) (M0 152 3) (ph_ (M0 153) (M0 152 3)) (rd_at (M0 153) (M0 152 3) (rd_at (M0 153) (M0 152 3) 0 + rd_wd (M0 153) (M0 152 3) (-1) (rd_at (M0 153) (M0 152 3) 0))) (rd_at (M0 153) (M0 152 3) 0 + rd_wd (M0 153) (M0 152 3) (-1) (rd_at (M0 153) (M0 152 3) 0)) = .ok (p1, en1, cs) → ∀ M2, rx_ M0 M2 p1 en1 → qsk M2 cs [] 6 0 → am_g 12 1 co_X12_ask (d + 46) Q 105 [(2, 152), (0, a), (0, ph_ (M0 153) (M0 152 3)), (3, 0)] [] sh_T M2 := fun p1 en1 cs hx2 M2 h2 k2 => by
      rw [hx2] at hpq
      have hpq : pq_ (M0 153) (M0 152 3) = if rc (M0 153) (M0 152 3) p1 = -1 then .ok (p1, en1, (ph_ (M0 153) (M0 152 3), cs)) else .error (1, p1) := hpq
      refine bk_X12_ask_105 ⟨fun w => absurd h2.2.2.2.2.1 w, fun _ => rt_look h2 (fun M3 h3 hp3 t3 => ⟨fun w => ?_, fun w => ?_⟩)⟩
      · rw [if_pos w] at hpq
        exact hO p1 en1 _ cs hpq M3 h3 (qsk_tf t3 k2)
      · rw [if_neg w] at hpq
        rw [hp3]
        exact sp_fail (hF 1 p1 hpq _ _ (rx_bl h3 (by decide)))
    refine ⟨fun w => absurd h1.2.2.2.2.1 w, fun _ => ⟨fun w => bk_X12_ask_94 ⟨fun w2 => absurd h1.2.2.2.2.1 w2, fun _ => ?_⟩, fun w => ?_⟩⟩
    · have ei : ∀ p en, pi2_ (M0 153) (M0 152 3) (ph_ (M0 153) (M0 152 3)) p en = pz_sum (M0 153) (M0 152 3) (pz_part true (M0 153) (M0 152 3) 6) p en := fun p en => if_neg (by omega)
      refine qxsums (W0 := []) hw trivial h1 k1 ?_ (fun k z hx2 M2 h2 => bad k z _ M2 h2.1 (fault k z (by rw [ei]; exact hx2))) (fun p1 en1 cs hx2 M2 h2 k2 => fine p1 en1 cs (by rw [ei]; exact hx2) M2 h2 k2)
      show ((0 : Nat) : Int) < _
      have hwd := rd_wd_le (t := M0 153) (e := M0 152 3) (en := -1) j2
      have := rd_at_le (t := M0 153) (e := M0 152 3) (i := rd_at (M0 153) (M0 152 3) 0 + rd_wd (M0 153) (M0 152 3) (-1) (rd_at (M0 153) (M0 152 3) 0)) hwd.2
      omega
    · have ei : ∀ p en, pi2_ (M0 153) (M0 152 3) (ph_ (M0 153) (M0 152 3)) p en = pw_test (M0 153) (M0 152 3) (pw_fact (M0 153) (M0 152 3) 6) p en := fun p en => if_pos (by omega)
      refine qtests hw h1 k1 ?_ (fun k z hx2 M2 h2 => bad k z _ M2 h2 (fault k z (by rw [ei]; exact hx2))) (fun p1 en1 cs hx2 M2 h2 k2 => fine p1 en1 cs (by rw [ei]; exact hx2) M2 h2 k2)
      show ((0 : Nat) : Int) < _
      have hwd := rd_wd_le (t := M0 153) (e := M0 152 3) (en := -1) j2
      have := rd_at_le (t := M0 153) (e := M0 152 3) (i := rd_at (M0 153) (M0 152 3) 0 + rd_wd (M0 153) (M0 152 3) (-1) (rd_at (M0 153) (M0 152 3) 0)) hwd.2
      omega
  · have y' : ph_ (M0 153) (M0 152 3) = -1 := y
    rw [if_pos y'] at hpq
    exact ⟨fun _ => bk_X12_ask_94 ⟨fun _ => bad 1 _ 5 M1 h1 hpq, fun w => absurd w (ru_b h1)⟩, fun w => absurd w (ru_b h1)⟩
