/-! THE CLASS READS A STATEMENT -/
section DV
variable {M0 M : am_M} {c p en : Int} {T : tt_}
noncomputable def pz_st (t : Int → Int) (e : Int) (T : tt_) (p en : Int) : pr_ tt_ :=
  if pr_wc t e en p to_ = 0 then .error (1, p)
  else @ite _ (tf_l T (pr_wc t e en p to_)) (Classical.propDecidable _) (.error (5, p)) (pz_do t e T (pr_wc t e en p to_) (rd_at t e (p + rd_wd t e en p)) (p + rd_wd t e en p))
theorem pz_stmt_st {t : Int → Int} {e : Int} : pz_stmt t e T p en = pr_b (pz_st t e T p en) (fun p1 en1 T1 => pr_sg t e 59 T1 p1 en1) := by
  unfold pz_stmt pz_st
  split
  · rfl
  · split
    · rfl
    · rfl
theorem st_hasSumT {d : Nat} {f : Int → am_M → Prop} {k nb ng : Int} (hc : dr_is c) (hk : 0 ≤ k ∧ k < 3) (hT : tk_ T) (h : td_ M c T nb ng) (h1 : ¬ tS T k = none → f 1 M) (h0 : tS T k = none → f 0 M) : am_cal pg (d + 1) 24 [(2, c), (0, k)] sh_T M (am_c0 sh_T f) := by
  obtain ⟨⟨ob, -⟩, -, -, -, -, -, ⟨-, a2⟩, ⟨-, b2⟩⟩ := dr_sh_of hc
  obtain ⟨-, -, -, -, -, q⟩ := h
  refine en_X2_hasSum (bk_X2_hasSum_0 ⟨fun z => by omega, fun _ => ⟨fun z => by omega, fun _ => ⟨ob, (b2 k hk.1 (by have := hk.2; omega)).1, (a2 k hk.1 (by have := hk.2; omega)).1, fun z => am_c0_i ?_, fun z => am_c0_i ?_⟩⟩⟩)
  · rcases q k hk.1 hk.2 with ⟨q1, -, -⟩ | ⟨f', g, q1, q2, q3⟩
    · exact h0 q1
    · have := (hT.2.2.2.2.2.2.2 k hk.1 hk.2 f' g q1).1
      omega
  · rcases q k hk.1 hk.2 with ⟨q1, q2, q3⟩ | ⟨f', g, q1, q2, q3⟩
    · omega
    · exact h1 (by rw [q1]; exact fun z => by cases z)
theorem st_tooMany {d : Nat} {f : Int → am_M → Prop} {x nb ng : Int} (hq : xq_ M0 c) (hT : tk_ T) (hx : 0 ≤ x ∧ x < 10) (h : xs_ M0 M c p en T nb ng) (h1 : tf_l T (x + 1) → f 1 M) (h0 : ¬ tf_l T (x + 1) → f 0 M) : am_cal pg (d + 3) 39 [(2, c), (0, x)] sh_T M (am_c0 sh_T f) := by
  have hc := hq.1
  have hr := (xq_fr hq h.1).2.2
  have ob := (dr_sh_of hc).1.1
  unfold tf_l at h1 h0
  have full : ∀ (k C : Int), 0 ≤ k ∧ k < 3 → fst_ (k + 1) - fst_ k = C → (C ≤ ((tN T k).length : Int) → f 1 M) → (¬ C ≤ ((tN T k).length : Int) → f 0 M) → am_cal pg (d + 2) 16 [(2, c), (0, k)] sh_T M (am_c0 sh_T fun x2 M2 => (x2 = 0 ∨ x2 = 1) ∧ am_c0 sh_T f (some (0, x2), sh_T, M2)) := fun k C hk hC g1 g0 => by
    refine st_isFull hc hk hr h.2.2.1 ⟨am_b_01, am_c0_i ?_⟩
    rw [hC]
    by_cases y : C ≤ ((tN T k).length : Int)
    · rw [am_b_1 y]; exact g1 y
    · rw [am_b_0 y]; exact g0 y
  have has : ∀ (k : Int), 0 ≤ k ∧ k < 3 → (¬ tS T k = none → f 1 M) → (tS T k = none → f 0 M) → am_cal pg (d + 2) 24 [(2, c), (0, k)] sh_T M (am_c0 sh_T fun x2 M2 => (x2 = 0 ∨ x2 = 1) ∧ am_c0 sh_T f (some (0, x2), sh_T, M2)) := fun k hk g1 g0 => st_hasSumT hc hk hT h.2.2 (fun y => ⟨Or.inr rfl, am_c0_i (g1 y)⟩) (fun y => ⟨Or.inl rfl, am_c0_i (g0 y)⟩)
  refine en_X3_isOneTooMany (bk_X3_isOneTooMany_0 ⟨fun z => am_c0_i (h0 (by omega)), fun z => ⟨ob, full 0 6 (by decide) (by decide) (fun y => h1 (by omega)) (fun y => h0 (by omega))⟩, fun z => ⟨ob, full 1 4 (by decide) (by decide) (fun y => h1 (by omega)) (fun y => h0 (by omega))⟩, fun z => am_c0_i (h0 (by omega)), fun z => ⟨ob, full 2 4 (by decide) (by decide) (fun y => h1 (by omega)) (fun y => h0 (by omega))⟩, fun z => ⟨ob, has 0 (by decide) (fun y => h1 (Or.inr (Or.inr (Or.inr ⟨by omega, by omega, by rw [z]; exact y⟩)))) (fun y => h0 (fun w => ?_))⟩, fun z => ⟨ob, has 1 (by decide) (fun y => h1 (Or.inr (Or.inr (Or.inr ⟨by omega, by omega, by rw [z]; exact y⟩)))) (fun y => h0 (fun w => ?_))⟩, fun z => ⟨ob, has 2 (by decide) (fun y => h1 (Or.inr (Or.inr (Or.inr ⟨by omega, by omega, by rw [z]; exact y⟩)))) (fun y => h0 (fun w => ?_))⟩⟩)
  · subst z; rcases w with w | w | w | w
    · exact absurd w.1 (by decide)
    · exact absurd w.1 (by decide)
    · exact absurd w.1 (by decide)
    · exact w.2.2 y
  · subst z; rcases w with w | w | w | w
    · exact absurd w.1 (by decide)
    · exact absurd w.1 (by decide)
    · exact absurd w.1 (by decide)
    · exact w.2.2 y
  · subst z; rcases w with w | w | w | w
    · exact absurd w.1 (by decide)
    · exact absurd w.1 (by decide)
    · exact absurd w.1 (by decide)
    · exact w.2.2 y
theorem ch_cv {f : am_M → Prop} {x : pr_ tt_} (h : ch_ M0 c f x) : ch_ M0 c (fun M => am_cv sh_T f (none, sh_T, M)) x := by
  match x, h with
  | .error (k, z), h => exact fun M' m => am_cv_i (h M' m)
  | .ok (p1, en1, a), h => exact fun M' m => am_cv_i (h M' m)
theorem to_w : pg_str 1000000 = wj_ (to_.map Prod.fst) ∧ (to_.map Prod.fst) ≠ [] ∧ (∀ w ∈ to_.map Prod.fst, w ≠ [] ∧ ∀ c ∈ w, c ≠ 32) ∧ pg_str 1000000 ≠ [] ∧ (pg_str 1000000).length ≤ 1000 := by decide +kernel
theorem to_i : ∀ i : Nat, i < 10 → (to_.getD i ([], 0)).2 = (i : Int) + 1 := by decide +kernel
theorem ct_statement {d : Nat} {f : am_M → Prop} (hq : xq_ M0 c) (hT : tk_ T) (hlen : ((tC T).length : Int) ≤ p) (h : xs_ M0 M c p en T ((tN T 1).length : Int) ((tN T 2).length : Int)) (hf : ch_ M0 c f (pz_st (M0 2) (M0 1 1) T p en)) : am_cal pg (d + 44) 38 [(2, 4), (2, c)] sh_T M (am_cv sh_T f) := by
  have hc := hq.1
  have hob := (dr_sh_of hc).1.1
  have hqM := xq_fr hq h.1
  obtain ⟨et, ee⟩ := xs_t hc h.1
  obtain ⟨i1, i2, i3, i4, -⟩ := cs_in hqM.2.1 h.2.1
  rw [et, ee] at i3
  rw [ee] at i2 i4
  have hTn := tk_n hT
  unfold pz_st at hf
  refine en_X3_readStatement (bk_X3_readStatement_0 (ct_word hqM.2.1 h.2.1 to_w.1 to_w.2.1 to_w.2.2.1 to_w.2.2.2 (fun M1 m1 hp1 => ?_)))
  rw [et, ee]
  have s1 := xs_cs hc h m1
  have hqM1 := xq_fr hq s1.1
  rcases ix_wc (t := M0 2) (e := M0 1 1) (en := en) (p := p) to_ 0 with ⟨y1, y2⟩ | ⟨i, y1, y2, y3⟩
  · rw [if_pos y2] at hf
    rw [y1]
    refine ⟨fun z => absurd rfl z, fun _ => ct_blame hqM1.2.1 s1.2.1 (by decide) (fun M2 m2 => am_cv_i (hf M2 (xz_cf s1.1 m2)))⟩
  · have y1 : i < 10 := y1
    rw [to_i i y1] at y3
    rw [y2, Int.zero_add]
    rw [y3, if_neg (by omega)] at hf
    refine ⟨fun _ => st_tooMany hq hT ⟨by omega, by omega⟩ s1 (fun tf => ⟨fun z => absurd z (by decide), fun _ => ct_blame hqM1.2.1 s1.2.1 (by decide) (fun M2 m2 => am_cv_i ?_)⟩) (fun tf => ⟨fun _ => ct_skip hqM1.2.1 s1.2.1 (fun M2 m2 => ?_), fun z => absurd rfl z⟩), fun z => by omega⟩
    · rw [if_pos tf] at hf
      exact hf M2 (xz_cf s1.1 m2)
    · rw [if_neg tf] at hf
      obtain ⟨et1, ee1⟩ := xs_t hc s1.1
      rw [et1, ee1] at m2
      have s2 := xs_cs hc s1 m2
      have hlw := rd_wd_le (t := M0 2) (en := en) i2
      have hra := rd_at_le (t := M0 2) (e := M0 1 1) (i := p + rd_wd (M0 2) (M0 1 1) en p) hlw.2
      have hlen2 : ((tC T).length : Int) ≤ rd_at (M0 2) (M0 1 1) (p + rd_wd (M0 2) (M0 1 1) en p) := by omega
      generalize rd_at (M0 2) (M0 1 1) (p + rd_wd (M0 2) (M0 1 1) en p) = p2 at hf s2 hlen2
      generalize p + rd_wd (M0 2) (M0 1 1) en p = en2 at hf s2
      unfold tf_l at tf
      have num : ∀ (g k : Int), 0 ≤ k ∧ k < 3 → pz_do (M0 2) (M0 1 1) T ((i : Int) + 1) p2 en2 = pr_b (pr_num (M0 2) (M0 1 1) g p2 en2) (fun p1 en1 v => .ok (p1, en1, aW T k v)) → am_cal pg (d + 43) 111 [(2, 1), (0, g)] sh_T M2 (am_c0 sh_T fun x15 M15 => am_ob sh_T 2 c ∧ am_cv sh_T f (none, sh_T, am_up M15 c (5 + k) x15)) := fun g k hk hdo => by
        rw [hdo] at hf
        obtain ⟨e1, k1⟩ := ch_b hf
        exact xs_num hq s2 (fun k2 z hx x M3 m3 => ⟨hob, am_cv_i (e1 k2 z hx _ (xz_up hc m3 (by omega)))⟩) (fun p1 en1 v hx M3 m3 => ⟨hob, am_cv_i (k1 p1 en1 v hx _ (xs_w hc hk m3))⟩)
      refine ⟨fun z => ?_, fun z => ?_, fun z => ?_, fun z => ?_, fun z => ?_, fun z => ?_, fun z => ?_, fun z => ?_, fun z => ?_, fun z => ?_⟩
      · have e : (i : Int) = 9 := by omega
        rw [e] at hf num
        exact num 999 2 (by decide) rfl
      · rw [z] at hf
        have hf : ch_ M0 c f (pr_b (pz_new (M0 2) (M0 1 1) T p2 en2) (fun p1 en1 n => .ok (p1, en1, aN T 0 n))) := hf
        obtain ⟨e1, k1⟩ := ch_b hf
        refine ct_new hq (by decide) hTn ?_ s2 (fun k z hx M3 m3 => am_cv_i (e1 k z hx M3 m3)) (fun p1 en1 n hx M3 m3 => am_cv_i (k1 p1 en1 n hx M3 m3))
        rw [show fst_ (0 + 1) - fst_ 0 = 6 by decide]
        omega
      · rw [z] at hf
        exact ct_dreamer hq hTn (by omega) s2 (ch_cv hf)
      · rw [z] at hf
        exact ct_fears hq hTn s2 (ch_cv hf)
      · rw [z] at hf
        exact ct_guide hq hTn (by omega) s2 (ch_cv hf)
      · rw [z] at hf
        exact ct_sumof hq (by decide) hlen2 s2 (ch_cv hf)
      · rw [z] at hf
        exact ct_sumof hq (by decide) hlen2 s2 (ch_cv hf)
      · rw [z] at hf
        exact ct_sumof hq (by decide) hlen2 s2 (ch_cv hf)
      · rw [z] at hf num
        exact num 9999 0 (by decide) rfl
      · rw [z] at hf num
        exact num 100 1 (by decide) rfl
end DV
