/-! THE CLASS READS A TEST as it is read as a value -/
theorem sw_4 : pg_str 1000004 = wj_ [w_or] ∧ pg_str 1000004 ≠ [] ∧ (pg_str 1000004).length ≤ 1000 := by decide +kernel
theorem sw_5 : pg_str 1000005 = wj_ [w_and] ∧ pg_str 1000005 ≠ [] ∧ (pg_str 1000005).length ≤ 1000 := by decide +kernel
theorem sw_6 : pg_str 1000006 = wj_ [w_not] ∧ pg_str 1000006 ≠ [] ∧ (pg_str 1000006).length ≤ 1000 := by decide +kernel
theorem sw_7 : pg_str 1000007 = wj_ [w_all] ∧ pg_str 1000007 ≠ [] ∧ (pg_str 1000007).length ≤ 1000 := by decide +kernel
theorem ww_one {w : List Int} (h : w ≠ [] ∧ ∀ c ∈ w, c ≠ 32) : ∀ x ∈ [w], x ≠ [] ∧ ∀ c ∈ x, c ≠ 32 := fun x hx => by rw [List.mem_singleton] at hx; rw [hx]; exact h
section CN
variable {M0 M : am_M} {v p en : Int} {C : List Int}
theorem ct_take {q : Bool} {d : Nat} {f : Int → am_M → Prop} {v1 : Int} {w : List Int} (hg : cg_ M0 q v) (h : cs_ M0 M q v p en C) (hs : pg_str v1 = wj_ [w] ∧ pg_str v1 ≠ [] ∧ (pg_str v1).length ≤ 1000) (hw : w ≠ [] ∧ ∀ c ∈ w, c ≠ 32) (h1 : rd_is (M0 2) (M0 1 1) en p w = true → ∀ M', cs_ M0 M' q v (rd_at (M0 2) (M0 1 1) (p + rd_wd (M0 2) (M0 1 1) en p)) (p + rd_wd (M0 2) (M0 1 1) en p) C → f 1 M') (h0 : ¬ rd_is (M0 2) (M0 1 1) en p w = true → ∀ M', cs_ M0 M' q v p en C → M' 1 2 = p → f 0 M') : am_cal pg (d + 3) 108 [(2, 1), (2, v1)] sh_T M (am_c0 sh_T f) := by
  refine en_X9_takeWord (bk_X9_takeWord_0 (ct_word hg h hs.1 (fun z => by cases z) (ww_one hw) hs.2 (fun M1 h1' hp1 => ?_)))
  have e : pr_ix (M0 2) (M0 1 1) en p [w] 0 = if rd_is (M0 2) (M0 1 1) en p w = true then 0 else -1 := rfl
  rw [e]
  by_cases c : rd_is (M0 2) (M0 1 1) en p w = true
  · rw [if_pos c]
    exact ⟨fun _ => ct_skip hg h1' (fun M2 h2 => am_c0_i (h1 c M2 h2)), fun y => absurd y (by decide)⟩
  · rw [if_neg c]
    exact ⟨fun y => absurd rfl y, fun _ => am_c0_i (h0 c M1 h1' hp1)⟩
theorem cf_sees {q : Bool} {d : Nat} {f : Int → am_M → Prop} {c k0 z0 : Int} (hc : 0 ≤ c) (hg : cg_ M0 q v) (h : cf_ M0 M v k0 z0) (h0 : ∀ M', cf_ M0 M' v k0 z0 → f 0 M') (h1 : ∀ M', cf_ M0 M' v k0 z0 → M' 1 2 < M0 1 1 → f 1 M') : am_cal pg (d + 2) 99 [(2, 1), (0, c)] sh_T M (am_c0 sh_T f) := by
  have i := cf_in hg h
  refine st_sees h.2.1 ?_
  by_cases y : tx_c M = c
  · rw [am_b_1 y]
    refine h1 _ (cf_p hg h) ?_
    have z : (if tx_p M < M 1 1 then M 2 (tx_p M) else -1) = c := y
    rw [am_up_at]
    by_cases y2 : tx_p M < M 1 1
    · omega
    · rw [if_neg y2] at z; omega
  · rw [am_b_0 y]
    exact h0 _ (cf_p hg h)
theorem cf_step {q : Bool} {d : Nat} {f : am_M → Prop} {k0 z0 : Int} (hg : cg_ M0 q v) (h : cf_ M0 M v k0 z0) (hlt : M 1 2 < M0 1 1) (hf : ∀ M', cf_ M0 M' v k0 z0 → f M') : am_cal pg (d + 1) 100 [(2, 1)] sh_T M (am_cv sh_T f) := by
  have h3 := h.2.1.2.2.1
  exact st_step h.2.1 (hf _ (cf_at hg h (by rw [am_up_at]; omega) (fun x y y1 => am_up_el (by omega))))
/-- a method of the question's that reads as a value does -/
def cn_ (M0 : am_M) (v : Int) (m K : Nat) (a : Int) (sub : Int → Int → pr_ (List Int)) : Prop := ∀ (M : am_M) (p en : Int) (C : List Int) (e : Nat) (f : am_M → Prop), cs_ M0 M true v p en C → (C.length : Int) ≤ p → K ≤ e → ck_ M0 true v C f (sub p en) → am_cal pg e m [(2, 5), (0, a)] sh_T M (am_cv sh_T f)
theorem cn_both (hg : cg_ M0 true v) {K : Nat} {a : Int} {sub : Int → Int → pr_ (List Int)} (hK : 4 ≤ K) (hs : pz_gs (M0 2) (M0 1 1) sub) (hP : cn_ M0 v 56 K a sub) : cn_ M0 v 55 (K + 1) a (pw_both (M0 2) (M0 1 1) sub) := by
  intro M p en C e f h hC he hk
  obtain ⟨e', rfl⟩ : ∃ e', e = (e' + 3) + 1 := ⟨e - 4, by omega⟩
  obtain ⟨b1, b2⟩ := ck_b hk
  obtain ⟨i1, i2, i3, i4, -⟩ := cs_in hg h
  have hgp := hs p en i1 i2 i3
  have fault : ∀ M1 k z (i : Int), cf_ M0 M1 v k z → f M1 → am_g 5 9 co_X5_readBoth (e' + 3) (am_cv sh_T f) 7 [(2, 5), (0, a), (0, i)] [] sh_T M1 := fun M1 k z i h1 hf => bk_X5_readBoth_7 ⟨fun _ => am_cv_i hf, fun _ => cf_failed h1 ⟨fun _ => am_cv_i hf, fun y => absurd y (by decide)⟩⟩
  have loop : ∀ (m i : Nat), i + m = 1600 → ∀ (M1 : am_M) (p1 en1 : Int) (ds : List Int), cs_ M0 M1 true v p1 en1 (C ++ ds) → ((C ++ ds).length : Int) ≤ p1 → (M0 1 1 - p1 < m) → ck_ M0 true v C f (pw_lp (M0 2) (M0 1 1) w_and 10 sub m p1 en1 ds) → am_g 5 9 co_X5_readBoth (e' + 3) (am_cv sh_T f) 7 [(2, 5), (0, a), (0, (i : Int))] [] sh_T M1 := by
    intro m
    induction m with
    | zero =>
      intro i hi M1 p1 en1 ds h1 hl hm hk
      have := (cs_in hg h1).2.1
      omega
    | succ m ih =>
      intro i hi M1 p1 en1 ds h1 hl hm hk
      obtain ⟨j1, j2, j3, j4, -⟩ := cs_in hg h1
      unfold pw_lp at hk
      refine bk_X5_readBoth_7 ⟨fun z => by omega, fun _ => ct_failed h1 ⟨fun z => absurd rfl z, fun _ => ct_take hg h1 sw_5 (by decide) (fun y M2 h2 => ⟨fun z => absurd z (by decide), fun _ => ?_⟩) (fun y M2 h2 hp2 => ⟨fun _ => am_cv_i ?_, fun z => absurd rfl z⟩)⟩⟩
      · rw [if_pos y] at hk
        have hpos := rd_is_pos y
        have hwd := rd_wd_le (t := M0 2) (en := en1) j2
        have hwr := rd_at_le (t := M0 2) (e := M0 1 1) (i := p1 + rd_wd (M0 2) (M0 1 1) en1 p1) hwd.2
        obtain ⟨d1, d2⟩ := ck_b hk
        have hgs := hs (rd_at (M0 2) (M0 1 1) (p1 + rd_wd (M0 2) (M0 1 1) en1 p1)) (p1 + rd_wd (M0 2) (M0 1 1) en1 p1) (by omega) hwr.2 rd_at_at
        refine hP M2 _ _ _ _ _ h2 (by omega) (by omega) (ck_mk (fun k z hx M' hM => ?_) (fun p2 en2 fs hx M' hM => ?_))
        · exact cf_emit hg hM (fun M'' hM2 => ⟨⟨by omega, by omega⟩, fault M'' k z _ hM2 (d1 k z hx M'' hM2)⟩)
        · obtain ⟨g1, g2, g3, g4, g5⟩ := pz_g_o hgs hx
          rw [List.length_append] at hl
          have el : (C ++ ds ++ fs).length = C.length + ds.length + fs.length := by rw [List.length_append, List.length_append]
          refine ct_emit (c := 10) hg hM (by omega) rfl (fun M'' hM2 => ⟨⟨by omega, by omega⟩, ?_⟩)
          have ea : C ++ ds ++ fs ++ [10] = C ++ (ds ++ fs ++ [10]) := by simp only [List.append_assoc]
          rw [ea] at hM2
          have el2 : (C ++ (ds ++ fs ++ [10])).length = C.length + ds.length + fs.length + 1 := by rw [← ea, List.length_append, el, List.length_singleton]
          exact ih (i + 1) (by omega) M'' p2 en2 _ hM2 (by omega) (by omega) (d2 p2 en2 fs hx)
      · rw [if_neg y] at hk
        exact hk M2 h2
  refine en_X5_readBoth (bk_X5_readBoth_0 (hP M p en C _ _ h hC (by omega) (ck_mk (fun k z hx M1 h1 => fault M1 k z 0 h1 (b1 k z hx M1 h1)) (fun p1 en1 ds hx M1 h1 => ?_))))
  obtain ⟨g1, g2, g3, g4, g5⟩ := pz_g_o hgp hx
  exact loop 1600 0 rfl M1 p1 en1 ds h1 (by rw [List.length_append]; omega) (by omega) (b2 p1 en1 ds hx)
theorem cn_test (hg : cg_ M0 true v) {K : Nat} {a : Int} {sub : Int → Int → pr_ (List Int)} (hK : 4 ≤ K) (hs : pz_gs (M0 2) (M0 1 1) sub) (hP : cn_ M0 v 56 K a sub) : cn_ M0 v 54 (K + 2) a (pw_test (M0 2) (M0 1 1) sub) := by
  have hP := cn_both hg hK hs hP
  have hs := pw_both_g hs
  intro M p en C e f h hC he hk
  obtain ⟨e', rfl⟩ : ∃ e', e = (e' + 3) + 1 := ⟨e - 4, by omega⟩
  obtain ⟨b1, b2⟩ := ck_b hk
  obtain ⟨i1, i2, i3, i4, -⟩ := cs_in hg h
  have hgp := hs p en i1 i2 i3
  have fault : ∀ M1 k z (i : Int), cf_ M0 M1 v k z → f M1 → am_g 5 9 co_X5_readTest (e' + 3) (am_cv sh_T f) 7 [(2, 5), (0, a), (0, i)] [] sh_T M1 := fun M1 k z i h1 hf => bk_X5_readTest_7 ⟨fun _ => am_cv_i hf, fun _ => cf_failed h1 ⟨fun _ => am_cv_i hf, fun y => absurd y (by decide)⟩⟩
  have loop : ∀ (m i : Nat), i + m = 1600 → ∀ (M1 : am_M) (p1 en1 : Int) (ds : List Int), cs_ M0 M1 true v p1 en1 (C ++ ds) → ((C ++ ds).length : Int) ≤ p1 → (M0 1 1 - p1 < m) → ck_ M0 true v C f (pw_lp (M0 2) (M0 1 1) w_or 11 (pw_both (M0 2) (M0 1 1) sub) m p1 en1 ds) → am_g 5 9 co_X5_readTest (e' + 3) (am_cv sh_T f) 7 [(2, 5), (0, a), (0, (i : Int))] [] sh_T M1 := by
    intro m
    induction m with
    | zero =>
      intro i hi M1 p1 en1 ds h1 hl hm hk
      have := (cs_in hg h1).2.1
      omega
    | succ m ih =>
      intro i hi M1 p1 en1 ds h1 hl hm hk
      obtain ⟨j1, j2, j3, j4, -⟩ := cs_in hg h1
      unfold pw_lp at hk
      refine bk_X5_readTest_7 ⟨fun z => by omega, fun _ => ct_failed h1 ⟨fun z => absurd rfl z, fun _ => ct_take hg h1 sw_4 (by decide) (fun y M2 h2 => ⟨fun z => absurd z (by decide), fun _ => ?_⟩) (fun y M2 h2 hp2 => ⟨fun _ => am_cv_i ?_, fun z => absurd rfl z⟩)⟩⟩
      · rw [if_pos y] at hk
        have hpos := rd_is_pos y
        have hwd := rd_wd_le (t := M0 2) (en := en1) j2
        have hwr := rd_at_le (t := M0 2) (e := M0 1 1) (i := p1 + rd_wd (M0 2) (M0 1 1) en1 p1) hwd.2
        obtain ⟨d1, d2⟩ := ck_b hk
        have hgs := hs (rd_at (M0 2) (M0 1 1) (p1 + rd_wd (M0 2) (M0 1 1) en1 p1)) (p1 + rd_wd (M0 2) (M0 1 1) en1 p1) (by omega) hwr.2 rd_at_at
        refine hP M2 _ _ _ _ _ h2 (by omega) (by omega) (ck_mk (fun k z hx M' hM => ?_) (fun p2 en2 fs hx M' hM => ?_))
        · exact cf_emit hg hM (fun M'' hM2 => ⟨⟨by omega, by omega⟩, fault M'' k z _ hM2 (d1 k z hx M'' hM2)⟩)
        · obtain ⟨g1, g2, g3, g4, g5⟩ := pz_g_o hgs hx
          rw [List.length_append] at hl
          have el : (C ++ ds ++ fs).length = C.length + ds.length + fs.length := by rw [List.length_append, List.length_append]
          refine ct_emit (c := 11) hg hM (by omega) rfl (fun M'' hM2 => ⟨⟨by omega, by omega⟩, ?_⟩)
          have ea : C ++ ds ++ fs ++ [11] = C ++ (ds ++ fs ++ [11]) := by simp only [List.append_assoc]
          rw [ea] at hM2
          have el2 : (C ++ (ds ++ fs ++ [11])).length = C.length + ds.length + fs.length + 1 := by rw [← ea, List.length_append, el, List.length_singleton]
          exact ih (i + 1) (by omega) M'' p2 en2 _ hM2 (by omega) (by omega) (d2 p2 en2 fs hx)
      · rw [if_neg y] at hk
        exact hk M2 h2
  refine en_X5_readTest (bk_X5_readTest_0 (hP M p en C _ _ h hC (by omega) (ck_mk (fun k z hx M1 h1 => fault M1 k z 0 h1 (b1 k z hx M1 h1)) (fun p1 en1 ds hx M1 h1 => ?_))))
  obtain ⟨g1, g2, g3, g4, g5⟩ := pz_g_o hgp hx
  exact loop 1600 0 rfl M1 p1 en1 ds h1 (by rw [List.length_append]; omega) (by omega) (b2 p1 en1 ds hx)
theorem cn_body (hg : cg_ M0 true v) {K r : Nat} (hr : r ≤ 6) {o : Option (Int → Int → pr_ (List Int))} (hK : 13 + 5 * r ≤ K) (ho : (o = none ∧ r = 0) ∨ ∃ sub r', o = some sub ∧ r = r' + 1 ∧ pz_gs (M0 2) (M0 1 1) sub ∧ ∃ L, L + 3 ≤ K ∧ 4 ≤ L ∧ cn_ M0 v 56 L (6 - (r' : Int)) sub) : cn_ M0 v 56 K (6 - (r : Int)) (pw_body (M0 2) (M0 1 1) r o) := by
  intro M p en C e f h hC he hk
  obtain ⟨e', rfl⟩ : ∃ e', e = (e' + 12) + 1 := ⟨e - 13, by omega⟩
  obtain ⟨i1, i2, i3, i4, -⟩ := cs_in hg h
  have hS := cm_top hg r hr
  have hsg := pz_sum_g (pz_part_g (q := true) (t := M0 2) (e := M0 1 1) r)
  unfold pw_body at hk
  have hwd := rd_wd_le (t := M0 2) (en := en) i2
  have hwr := rd_at_le (t := M0 2) (e := M0 1 1) (i := p + rd_wd (M0 2) (M0 1 1) en p) hwd.2
  refine en_X5_readFact (bk_X5_readFact_0 (ct_word hg h sw_6.1 (fun z => by cases z) (ww_one (by decide)) sw_6.2 (fun M1 h1 hp1 => ?_)))
  have ei : pr_ix (M0 2) (M0 1 1) en p [w_not] 0 = if rd_is (M0 2) (M0 1 1) en p w_not = true then 0 else -1 := rfl
  rw [ei]
  by_cases c1 : rd_is (M0 2) (M0 1 1) en p w_not = true
  · rw [if_pos c1] at hk ⊢
    have hpos := rd_is_pos c1
    refine ⟨fun z => absurd z (by decide), fun _ => ct_open hg h1 hr (fun hr0 M2 h2 => ⟨fun _ => am_cv_i ?_, fun z => absurd rfl z⟩) (fun r' hr' => ⟨fun z => absurd z (by decide), fun _ => ct_skip hg h1 (fun M2 h2 => ?_)⟩)⟩
    · rcases ho with ⟨o1, o2⟩ | ⟨sub, r', o1, o2, -⟩
      · rw [o1] at hk
        exact hk M2 h2
      · omega
    · rcases ho with ⟨o1, o2⟩ | ⟨sub, r2, o1, o2, o3, L, o4, o5, o6⟩
      · omega
      · rw [o1] at hk
        obtain ⟨b1, b2⟩ := ck_b hk
        have hgp := o3 (rd_at (M0 2) (M0 1 1) (p + rd_wd (M0 2) (M0 1 1) en p)) (p + rd_wd (M0 2) (M0 1 1) en p) (by omega) hwr.2 rd_at_at
        rw [show (6 : Int) - (r : Int) + 1 = 6 - (r2 : Int) by omega]
        refine ⟨⟨by omega, by omega⟩, o6 M2 _ _ C _ _ h2 (by omega) (by omega) (ck_mk (fun k z hx M3 h3 => ?_) (fun p1 en1 ds hx M3 h3 => ?_))⟩
        · exact cf_emit hg h3 (fun M4 h4 => am_cv_i (b1 k z hx M4 h4))
        · obtain ⟨g1, g2, g3, g4, g5⟩ := pz_g_o hgp hx
          have el : (C ++ ds).length = C.length + ds.length := List.length_append
          refine ct_emit (c := 12) hg h3 (by omega) rfl (fun M4 h4 => am_cv_i ?_)
          rw [List.append_assoc] at h4
          exact b2 p1 en1 ds hx M4 h4
  · rw [if_neg c1] at hk ⊢
    refine ⟨fun _ => ct_sees hg h1 (fun M2 h2 hp2 => ⟨fun y => ?_, fun y => ?_⟩), fun z => absurd rfl z⟩
    · rw [if_neg (am_b_z.mp y)] at hk
      refine ct_take hg h2 sw_7 (by decide) (fun y2 M3 h3 => ⟨fun z => absurd z (by decide), fun _ => ?_⟩) (fun y2 M3 h3 hp3 => ⟨fun _ => ?_, fun z => absurd rfl z⟩)
      · rw [if_pos y2] at hk
        have hpos := rd_is_pos y2
        exact ct_emit (c := 13) hg h3 (by omega) rfl (fun M4 h4 => am_cv_i (hk M4 h4))
      · rw [if_neg y2] at hk
        unfold pw_cmp at hk
        obtain ⟨b1, b2⟩ := ck_b hk
        have hgp := hsg p en i1 i2 i3
        refine hS M3 p en C _ _ h3 hC (by omega) (ck_mk (fun k z hx M4 h4 => ?_) (fun p1 en1 cs hx M4 h4 => ?_))
        · -- behind a fault
          have go : ∀ (s : Int) (N : am_M), cf_ M0 N v k z → N 1 2 < M0 1 1 → am_cal pg (e' + 12) 100 [(2, 1)] sh_T N (am_cv sh_T fun M15 => am_cal pg (e' + 12) 84 [(2, 3), (0, 6 - (r : Int))] sh_T M15 (am_cv sh_T fun M16 => am_cal pg (e' + 12) 82 [(2, 3), (0, s)] sh_T M16 (am_cv sh_T fun M17 => (am_cv sh_T f) (none, sh_T, M17)))) := fun s N hN hlt => cf_step hg hN hlt (fun M15 h15 => cf_sum h15 (fun M16 h16 => cf_emit hg h16 (fun M17 h17 => am_cv_i (b1 k z hx M17 h17))))
          exact cf_sees (by decide) hg h4 (fun M5 h5 => ⟨fun _ => cf_sees (by decide) hg h5 (fun M6 h6 => ⟨fun _ => cf_sees (by decide) hg h6 (fun M7 h7 => ⟨fun _ => cf_blame hg h7 (fun M8 h8 => am_cv_i (b1 k z hx M8 h8)), fun w => absurd rfl w⟩) (fun M7 h7 l7 => ⟨fun w => absurd w (by decide), fun _ => go _ M7 h7 l7⟩), fun w => absurd rfl w⟩) (fun M6 h6 l6 => ⟨fun w => absurd w (by decide), fun _ => go _ M6 h6 l6⟩), fun w => absurd rfl w⟩) (fun M5 h5 l5 => ⟨fun w => absurd w (by decide), fun _ => go _ M5 h5 l5⟩)
        · obtain ⟨g1, g2, g3, g4, g5⟩ := pz_g_o hgp hx
          have hk2 := b2 p1 en1 cs hx
          have el : (C ++ cs).length = C.length + cs.length := List.length_append
          have go : ∀ (s : Int), 7 ≤ s → s ≤ 9 → sgc_ (rc (M0 2) (M0 1 1) p1) = s → ∀ N, cs_ M0 N true v p1 en1 (C ++ cs) → N 1 2 = p1 → am_cal pg (e' + 12) 100 [(2, 1)] sh_T N (am_cv sh_T fun M15 => am_cal pg (e' + 12) 84 [(2, 3), (0, 6 - (r : Int))] sh_T M15 (am_cv sh_T fun M16 => am_cal pg (e' + 12) 82 [(2, 3), (0, -s)] sh_T M16 (am_cv sh_T fun M17 => (am_cv sh_T f) (none, sh_T, M17)))) := fun s s7 s9 es N hN hpN => by
            rw [es, if_neg (show ¬ s = 0 by omega)] at hk2
            have hc := sgc_c (show ¬ sgc_ (rc (M0 2) (M0 1 1) p1) = 0 by omega)
            have hlt := (rc_lt (c := rc (M0 2) (M0 1 1) p1) rfl (by omega)).1
            have hrd := rd_at_le (t := M0 2) (e := M0 1 1) (i := p1 + 1) (by omega)
            obtain ⟨d1, d2⟩ := ck_b hk2
            have hgp2 := hsg (rd_at (M0 2) (M0 1 1) (p1 + 1)) en1 (by omega) hrd.2 rd_at_at
            refine ct_step hg hN hpN hlt (fun M15 h15 => hS M15 _ _ (C ++ cs) _ _ h15 (by omega) (by omega) (ck_mk (fun k z hx2 M16 h16 => cf_emit hg h16 (fun M17 h17 => am_cv_i (d1 k z hx2 M17 h17))) (fun p2 en2 ds hx2 M16 h16 => ?_)))
            obtain ⟨j1, j2, j3, j4, j5⟩ := pz_g_o hgp2 hx2
            have el2 : (C ++ cs ++ ds).length = C.length + cs.length + ds.length := by rw [List.length_append, List.length_append]
            refine ct_emit (c := s) hg h16 (by omega) ?_ (fun M17 h17 => am_cv_i (d2 p2 en2 ds hx2 M17 ?_))
            · show -s = qv s
              unfold qv
              rw [if_neg (by omega), if_neg (by omega), if_neg (by omega), if_neg (by omega), if_neg (by omega), if_neg (by omega), if_neg (by omega), if_neg (by omega)]
            · rw [show C ++ cs ++ ds ++ [s] = C ++ (cs ++ ds ++ [s]) by simp only [List.append_assoc]] at h17
              exact h17
          refine ct_sees hg h4 (fun M5 h5 hp5 => ⟨fun w => ct_sees hg h5 (fun M6 h6 hp6 => ⟨fun w2 => ct_sees hg h6 (fun M7 h7 hp7 => ⟨fun w3 => ?_, fun w3 => go 9 (by decide) (by decide) (by rw [am_b_nz w3]; rfl) M7 h7 hp7⟩), fun w2 => go 8 (by decide) (by decide) (by rw [am_b_nz w2]; rfl) M6 h6 hp6⟩), fun w => go 7 (by decide) (by decide) (by rw [am_b_nz w]; rfl) M5 h5 hp5⟩)
          have e0 : sgc_ (rc (M0 2) (M0 1 1) p1) = 0 := by
            unfold sgc_
            rw [if_neg (am_b_z.mp w), if_neg (am_b_z.mp w2), if_neg (am_b_z.mp w3)]
          rw [if_pos e0] at hk2
          exact ct_blame hg h7 (by decide) (fun M8 h8 => am_cv_i (hk2 M8 h8))
    · have y' := am_b_nz y
      rw [if_pos y'] at hk
      have hlt := (rc_lt y' (by decide)).1
      have hrd := rd_at_le (t := M0 2) (e := M0 1 1) (i := p + 1) (by omega)
      refine ct_open hg h2 hr (fun hr0 M3 h3 => ⟨fun _ => am_cv_i ?_, fun z => absurd rfl z⟩) (fun r' hr' => ⟨fun z => absurd z (by decide), fun _ => ct_step hg h2 hp2 hlt (fun M3 h3 => ?_)⟩)
      · rcases ho with ⟨o1, o2⟩ | ⟨sub, r', o1, o2, -⟩
        · rw [o1] at hk
          exact hk M3 h3
        · omega
      · rcases ho with ⟨o1, o2⟩ | ⟨sub, r2, o1, o2, o3, L, o4, o5, o6⟩
        · omega
        · rw [o1] at hk
          obtain ⟨b1, b2⟩ := ck_b hk
          have hT := cn_test hg o5 o3 o6
          rw [show (6 : Int) - (r : Int) + 1 = 6 - (r2 : Int) by omega]
          refine ⟨⟨by omega, by omega⟩, hT M3 _ _ C _ _ h3 (by omega) (by omega) (ck_mk (fun k z hx M4 h4 => ?_) (fun p1 en1 ds hx M4 h4 => ?_))⟩
          · exact cf_demand (by decide) hg h4 (fun M5 h5 => am_cv_i (b1 k z hx M5 h5))
          · have hk2 := b2 p1 en1 ds hx
            unfold pr_sg at hk2
            refine ct_demand (by decide) hg h4 (fun y3 M5 h5 => am_cv_i ?_) (fun y3 M5 h5 => am_cv_i ?_)
            · rw [if_pos y3] at hk2
              exact hk2 M5 h5
            · rw [if_neg y3] at hk2
              exact hk2 M5 h5
theorem cn_fact (hg : cg_ M0 true v) : ∀ r : Nat, r ≤ 6 → cn_ M0 v 56 (13 + 5 * r) (6 - (r : Int)) (pw_fact (M0 2) (M0 1 1) r)
  | 0, hr => cn_body hg hr (Nat.le_refl _) (Or.inl ⟨rfl, rfl⟩)
  | r + 1, hr => cn_body hg hr (Nat.le_refl _) (Or.inr ⟨_, r, rfl, rfl, pw_fact_g r, 13 + 5 * r, by omega, by omega, cn_fact hg r (by omega)⟩)
end CN
