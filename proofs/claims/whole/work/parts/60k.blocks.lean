/-! blocks (printed) -/
set_option maxRecDepth 20000 in
theorem bk_X2_lead_0 {d : Nat} {Q : am_Q} {M : am_M} {v0 v1 v2 : Int} (h : ((v1 < 0 → Q (none, sh_T, M)) ∧ (0 ≤ v1 → am_ob sh_T 2 v0 ∧ ∃ n2 : Nat, am_alen pg sh_T (v0 + 5) = some n2 ∧ (((n2 : Int) ≤ v1 → Q (none, sh_T, M)) ∧ (v1 < (n2 : Int) → am_own sh_T 1 (v0 + 5) v1 ∧ Q (none, sh_T, (am_up M (v0 + 5) v1 v2))))))) : am_g 2 9 co_X2_lead d Q 0 [(2, v0), (0, v1), (0, v2)] [] sh_T M := by
  refine x_iload_n (by decide +kernel : am_at co_X2_lead 0 = some (1, .iload_n 1)) rfl ?_
  refine x_if (tgt := 20) (by decide +kernel : am_at co_X2_lead 1 = some (3, .ifCond .lt 19)) rfl Iff.rfl (fun c0 => ?_) (fun c0 => ?_)
  · have h := h.1 c0
    exact x_vret (by decide +kernel : am_at co_X2_lead 20 = some (1, .return_)) h
  · have c0 := (Int.not_lt.mp c0)
    have h := h.2 c0
    refine x_iload_n (by decide +kernel : am_at co_X2_lead 4 = some (1, .iload_n 1)) rfl ?_
    refine x_aload_n (by decide +kernel : am_at co_X2_lead 5 = some (1, .aload_n 0)) rfl ?_
    obtain ⟨o1, h⟩ := h
    refine x_getF (by decide +kernel : am_at co_X2_lead 6 = some (3, .getfield 24)) pq_2_24 (by decide) rfl o1 ?_
    obtain ⟨n2, o2, h⟩ := h
    refine x_alen (by decide +kernel : am_at co_X2_lead 9 = some (1, .arraylength)) o2 ?_
    refine x_icmp (tgt := 20) (by decide +kernel : am_at co_X2_lead 10 = some (3, .if_icmp .ge 10)) rfl Iff.rfl (fun c3 => ?_) (fun c3 => ?_)
    · have h := h.1 c3
      exact x_vret (by decide +kernel : am_at co_X2_lead 20 = some (1, .return_)) h
    · have c3 := (Int.not_le.mp c3)
      have h := h.2 c3
      refine x_aload_n (by decide +kernel : am_at co_X2_lead 13 = some (1, .aload_n 0)) rfl ?_
      refine x_getF (by decide +kernel : am_at co_X2_lead 14 = some (3, .getfield 24)) pq_2_24 (by decide) rfl o1 ?_
      refine x_iload_n (by decide +kernel : am_at co_X2_lead 17 = some (1, .iload_n 1)) rfl ?_
      refine x_iload_n (by decide +kernel : am_at co_X2_lead 18 = some (1, .iload_n 2)) rfl ?_
      obtain ⟨o4, h⟩ := h
      refine x_iast (by decide +kernel : am_at co_X2_lead 19 = some (1, .iastore)) (o4) ?_
      exact x_vret (by decide +kernel : am_at co_X2_lead 20 = some (1, .return_)) h
set_option maxRecDepth 20000 in
theorem bk_X2_hasSum_0 {d : Nat} {Q : am_Q} {M : am_M} {v0 v1 : Int} (h : ((v1 < 0 → Q (some (0, 0), sh_T, M)) ∧ (0 ≤ v1 → ((3 ≤ v1 → Q (some (0, 0), sh_T, M)) ∧ (v1 < 3 → am_ob sh_T 2 v0 ∧ am_in pg sh_T 1 (v0 + 12) v1 ∧ am_in pg sh_T 1 (v0 + 11) v1 ∧ ((M (v0 + 12) v1 ≤ M (v0 + 11) v1 → Q (some (0, 0), sh_T, M)) ∧ (M (v0 + 11) v1 < M (v0 + 12) v1 → Q (some (0, 1), sh_T, M)))))))) : am_g 2 5 co_X2_hasSum d Q 0 [(2, v0), (0, v1)] [] sh_T M := by
  refine x_iload_n (by decide +kernel : am_at co_X2_hasSum 0 = some (1, .iload_n 1)) rfl ?_
  refine x_if (tgt := 28) (by decide +kernel : am_at co_X2_hasSum 1 = some (3, .ifCond .lt 27)) rfl Iff.rfl (fun c0 => ?_) (fun c0 => ?_)
  · have h := h.1 c0
    refine x_iconst (by decide +kernel : am_at co_X2_hasSum 28 = some (1, .iconst 0)) ?_
    exact x_zret (by decide +kernel : am_at co_X2_hasSum 29 = some (1, .ireturn)) (by decide) h
  · have c0 := (Int.not_lt.mp c0)
    have h := h.2 c0
    refine x_iload_n (by decide +kernel : am_at co_X2_hasSum 4 = some (1, .iload_n 1)) rfl ?_
    refine x_iconst (by decide +kernel : am_at co_X2_hasSum 5 = some (1, .iconst 3)) ?_
    refine x_icmp (tgt := 28) (by decide +kernel : am_at co_X2_hasSum 6 = some (3, .if_icmp .ge 22)) rfl Iff.rfl (fun c1 => ?_) (fun c1 => ?_)
    · have h := h.1 c1
      refine x_iconst (by decide +kernel : am_at co_X2_hasSum 28 = some (1, .iconst 0)) ?_
      exact x_zret (by decide +kernel : am_at co_X2_hasSum 29 = some (1, .ireturn)) (by decide) h
    · have c1 := (Int.not_le.mp c1)
      have h := h.2 c1
      refine x_aload_n (by decide +kernel : am_at co_X2_hasSum 9 = some (1, .aload_n 0)) rfl ?_
      obtain ⟨o2, h⟩ := h
      refine x_getF (by decide +kernel : am_at co_X2_hasSum 10 = some (3, .getfield 47)) pq_2_47 (by decide) rfl o2 ?_
      refine x_iload_n (by decide +kernel : am_at co_X2_hasSum 13 = some (1, .iload_n 1)) rfl ?_
      obtain ⟨o3, h⟩ := h
      refine x_iald (by decide +kernel : am_at co_X2_hasSum 14 = some (1, .iaload)) (o3) ?_
      refine x_aload_n (by decide +kernel : am_at co_X2_hasSum 15 = some (1, .aload_n 0)) rfl ?_
      refine x_getF (by decide +kernel : am_at co_X2_hasSum 16 = some (3, .getfield 44)) pq_2_44 (by decide) rfl o2 ?_
      refine x_iload_n (by decide +kernel : am_at co_X2_hasSum 19 = some (1, .iload_n 1)) rfl ?_
      obtain ⟨o4, h⟩ := h
      refine x_iald (by decide +kernel : am_at co_X2_hasSum 20 = some (1, .iaload)) (o4) ?_
      refine x_icmp (tgt := 28) (by decide +kernel : am_at co_X2_hasSum 21 = some (3, .if_icmp .le 7)) rfl Iff.rfl (fun c5 => ?_) (fun c5 => ?_)
      · have h := h.1 c5
        refine x_iconst (by decide +kernel : am_at co_X2_hasSum 28 = some (1, .iconst 0)) ?_
        exact x_zret (by decide +kernel : am_at co_X2_hasSum 29 = some (1, .ireturn)) (by decide) h
      · have c5 := (Int.not_le.mp c5)
        have h := h.2 c5
        refine x_iconst (by decide +kernel : am_at co_X2_hasSum 24 = some (1, .iconst 1)) ?_
        refine x_goto (tgt := 29) (by decide +kernel : am_at co_X2_hasSum 25 = some (3, .goto 4)) rfl ?_
        exact x_zret (by decide +kernel : am_at co_X2_hasSum 29 = some (1, .ireturn)) (by decide) h
set_option maxRecDepth 20000 in
theorem bk_X2_markSum_0 {d : Nat} {Q : am_Q} {M : am_M} {v0 v1 v2 : Int} (h : ((v1 < 0 → Q (none, sh_T, M)) ∧ (0 ≤ v1 → ((3 ≤ v1 → Q (none, sh_T, M)) ∧ (v1 < 3 → am_ob sh_T 2 v0 ∧ am_own sh_T 1 (v0 + 11) v1 ∧ am_ob sh_T 6 (v0 + 6) ∧ am_own sh_T 1 (v0 + 12) v1 ∧ Q (none, sh_T, (am_up (am_up M (v0 + 11) v1 v2) (v0 + 12) v1 ((am_up M (v0 + 11) v1 v2) (v0 + 6) 1)))))))) : am_g 2 9 co_X2_markSum d Q 0 [(2, v0), (0, v1), (0, v2)] [] sh_T M := by
  refine x_iload_n (by decide +kernel : am_at co_X2_markSum 0 = some (1, .iload_n 1)) rfl ?_
  refine x_if (tgt := 29) (by decide +kernel : am_at co_X2_markSum 1 = some (3, .ifCond .lt 28)) rfl Iff.rfl (fun c0 => ?_) (fun c0 => ?_)
  · have h := h.1 c0
    exact x_vret (by decide +kernel : am_at co_X2_markSum 29 = some (1, .return_)) h
  · have c0 := (Int.not_lt.mp c0)
    have h := h.2 c0
    refine x_iload_n (by decide +kernel : am_at co_X2_markSum 4 = some (1, .iload_n 1)) rfl ?_
    refine x_iconst (by decide +kernel : am_at co_X2_markSum 5 = some (1, .iconst 3)) ?_
    refine x_icmp (tgt := 29) (by decide +kernel : am_at co_X2_markSum 6 = some (3, .if_icmp .ge 23)) rfl Iff.rfl (fun c1 => ?_) (fun c1 => ?_)
    · have h := h.1 c1
      exact x_vret (by decide +kernel : am_at co_X2_markSum 29 = some (1, .return_)) h
    · have c1 := (Int.not_le.mp c1)
      have h := h.2 c1
      refine x_aload_n (by decide +kernel : am_at co_X2_markSum 9 = some (1, .aload_n 0)) rfl ?_
      obtain ⟨o2, h⟩ := h
      refine x_getF (by decide +kernel : am_at co_X2_markSum 10 = some (3, .getfield 44)) pq_2_44 (by decide) rfl o2 ?_
      refine x_iload_n (by decide +kernel : am_at co_X2_markSum 13 = some (1, .iload_n 1)) rfl ?_
      refine x_iload_n (by decide +kernel : am_at co_X2_markSum 14 = some (1, .iload_n 2)) rfl ?_
      obtain ⟨o3, h⟩ := h
      refine x_iast (by decide +kernel : am_at co_X2_markSum 15 = some (1, .iastore)) (o3) ?_
      refine x_aload_n (by decide +kernel : am_at co_X2_markSum 16 = some (1, .aload_n 0)) rfl ?_
      refine x_getF (by decide +kernel : am_at co_X2_markSum 17 = some (3, .getfield 47)) pq_2_47 (by decide) rfl o2 ?_
      refine x_iload_n (by decide +kernel : am_at co_X2_markSum 20 = some (1, .iload_n 1)) rfl ?_
      refine x_aload_n (by decide +kernel : am_at co_X2_markSum 21 = some (1, .aload_n 0)) rfl ?_
      refine x_getF (by decide +kernel : am_at co_X2_markSum 22 = some (3, .getfield 40)) pq_2_40 (by decide) rfl o2 ?_
      obtain ⟨o4, h⟩ := h
      refine x_getf (by decide +kernel : am_at co_X2_markSum 25 = some (3, .getfield 82)) pq_2_82 rfl o4 ?_
      obtain ⟨o5, h⟩ := h
      refine x_iast (by decide +kernel : am_at co_X2_markSum 28 = some (1, .iastore)) (o5) ?_
      exact x_vret (by decide +kernel : am_at co_X2_markSum 29 = some (1, .return_)) h
set_option maxRecDepth 20000 in
theorem bk_X2_braveryOf_0 {d : Nat} {Q : am_Q} {M : am_M} {v0 v1 : Int} (h : ((v1 < 0 → Q (some (0, 0), sh_T, M)) ∧ (0 ≤ v1 → am_ob sh_T 2 v0 ∧ ∃ n2 : Nat, am_alen pg sh_T (v0 + 3) = some n2 ∧ (((n2 : Int) ≤ v1 → Q (some (0, 0), sh_T, M)) ∧ (v1 < (n2 : Int) → am_in pg sh_T 1 (v0 + 3) v1 ∧ Q (some (0, M (v0 + 3) v1), sh_T, M)))))) : am_g 2 0 co_X2_braveryOf d Q 0 [(2, v0), (0, v1)] [] sh_T M := by
  refine x_iload_n (by decide +kernel : am_at co_X2_braveryOf 0 = some (1, .iload_n 1)) rfl ?_
  refine x_if (tgt := 22) (by decide +kernel : am_at co_X2_braveryOf 1 = some (3, .ifCond .lt 21)) rfl Iff.rfl (fun c0 => ?_) (fun c0 => ?_)
  · have h := h.1 c0
    refine x_iconst (by decide +kernel : am_at co_X2_braveryOf 22 = some (1, .iconst 0)) ?_
    exact x_iret (by decide +kernel : am_at co_X2_braveryOf 23 = some (1, .ireturn)) h
  · have c0 := (Int.not_lt.mp c0)
    have h := h.2 c0
    refine x_iload_n (by decide +kernel : am_at co_X2_braveryOf 4 = some (1, .iload_n 1)) rfl ?_
    refine x_aload_n (by decide +kernel : am_at co_X2_braveryOf 5 = some (1, .aload_n 0)) rfl ?_
    obtain ⟨o1, h⟩ := h
    refine x_getF (by decide +kernel : am_at co_X2_braveryOf 6 = some (3, .getfield 18)) pq_2_18 (by decide) rfl o1 ?_
    obtain ⟨n2, o2, h⟩ := h
    refine x_alen (by decide +kernel : am_at co_X2_braveryOf 9 = some (1, .arraylength)) o2 ?_
    refine x_icmp (tgt := 22) (by decide +kernel : am_at co_X2_braveryOf 10 = some (3, .if_icmp .ge 12)) rfl Iff.rfl (fun c3 => ?_) (fun c3 => ?_)
    · have h := h.1 c3
      refine x_iconst (by decide +kernel : am_at co_X2_braveryOf 22 = some (1, .iconst 0)) ?_
      exact x_iret (by decide +kernel : am_at co_X2_braveryOf 23 = some (1, .ireturn)) h
    · have c3 := (Int.not_le.mp c3)
      have h := h.2 c3
      refine x_aload_n (by decide +kernel : am_at co_X2_braveryOf 13 = some (1, .aload_n 0)) rfl ?_
      refine x_getF (by decide +kernel : am_at co_X2_braveryOf 14 = some (3, .getfield 18)) pq_2_18 (by decide) rfl o1 ?_
      refine x_iload_n (by decide +kernel : am_at co_X2_braveryOf 17 = some (1, .iload_n 1)) rfl ?_
      obtain ⟨o4, h⟩ := h
      refine x_iald (by decide +kernel : am_at co_X2_braveryOf 18 = some (1, .iaload)) (o4) ?_
      refine x_goto (tgt := 23) (by decide +kernel : am_at co_X2_braveryOf 19 = some (3, .goto 4)) rfl ?_
      exact x_iret (by decide +kernel : am_at co_X2_braveryOf 23 = some (1, .ireturn)) h
set_option maxRecDepth 20000 in
theorem bk_X2_dreadOf_0 {d : Nat} {Q : am_Q} {M : am_M} {v0 v1 : Int} (h : ((v1 < 0 → Q (some (0, (-1)), sh_T, M)) ∧ (0 ≤ v1 → am_ob sh_T 2 v0 ∧ ∃ n2 : Nat, am_alen pg sh_T (v0 + 5) = some n2 ∧ (((n2 : Int) ≤ v1 → Q (some (0, (-1)), sh_T, M)) ∧ (v1 < (n2 : Int) → am_in pg sh_T 1 (v0 + 5) v1 ∧ Q (some (0, M (v0 + 5) v1), sh_T, M)))))) : am_g 2 0 co_X2_dreadOf d Q 0 [(2, v0), (0, v1)] [] sh_T M := by
  refine x_iload_n (by decide +kernel : am_at co_X2_dreadOf 0 = some (1, .iload_n 1)) rfl ?_
  refine x_if (tgt := 22) (by decide +kernel : am_at co_X2_dreadOf 1 = some (3, .ifCond .lt 21)) rfl Iff.rfl (fun c0 => ?_) (fun c0 => ?_)
  · have h := h.1 c0
    refine x_iconst (by decide +kernel : am_at co_X2_dreadOf 22 = some (1, .iconst (-1))) ?_
    exact x_iret (by decide +kernel : am_at co_X2_dreadOf 23 = some (1, .ireturn)) h
  · have c0 := (Int.not_lt.mp c0)
    have h := h.2 c0
    refine x_iload_n (by decide +kernel : am_at co_X2_dreadOf 4 = some (1, .iload_n 1)) rfl ?_
    refine x_aload_n (by decide +kernel : am_at co_X2_dreadOf 5 = some (1, .aload_n 0)) rfl ?_
    obtain ⟨o1, h⟩ := h
    refine x_getF (by decide +kernel : am_at co_X2_dreadOf 6 = some (3, .getfield 24)) pq_2_24 (by decide) rfl o1 ?_
    obtain ⟨n2, o2, h⟩ := h
    refine x_alen (by decide +kernel : am_at co_X2_dreadOf 9 = some (1, .arraylength)) o2 ?_
    refine x_icmp (tgt := 22) (by decide +kernel : am_at co_X2_dreadOf 10 = some (3, .if_icmp .ge 12)) rfl Iff.rfl (fun c3 => ?_) (fun c3 => ?_)
    · have h := h.1 c3
      refine x_iconst (by decide +kernel : am_at co_X2_dreadOf 22 = some (1, .iconst (-1))) ?_
      exact x_iret (by decide +kernel : am_at co_X2_dreadOf 23 = some (1, .ireturn)) h
    · have c3 := (Int.not_le.mp c3)
      have h := h.2 c3
      refine x_aload_n (by decide +kernel : am_at co_X2_dreadOf 13 = some (1, .aload_n 0)) rfl ?_
      refine x_getF (by decide +kernel : am_at co_X2_dreadOf 14 = some (3, .getfield 24)) pq_2_24 (by decide) rfl o1 ?_
      refine x_iload_n (by decide +kernel : am_at co_X2_dreadOf 17 = some (1, .iload_n 1)) rfl ?_
      obtain ⟨o4, h⟩ := h
      refine x_iald (by decide +kernel : am_at co_X2_dreadOf 18 = some (1, .iaload)) (o4) ?_
      refine x_goto (tgt := 23) (by decide +kernel : am_at co_X2_dreadOf 19 = some (3, .goto 4)) rfl ?_
      exact x_iret (by decide +kernel : am_at co_X2_dreadOf 23 = some (1, .ireturn)) h
set_option maxRecDepth 20000 in
theorem bk_X2_lay_0 {d : Nat} {Q : am_Q} {M : am_M} {v0 v1 v2 : Int} (h : am_ob sh_T 7 v1 ∧ am_g 2 9 co_X2_lay d Q 12 [(2, v0), (2, v1), (0, v2), (0, 0), (3, 0)] [] sh_T (am_up (am_up M v1 1 v2) v1 2 (-1))) : am_g 2 9 co_X2_lay d Q 0 [(2, v0), (2, v1), (0, v2), (3, 0), (3, 0)] [] sh_T M := by
  refine x_aload_n (by decide +kernel : am_at co_X2_lay 0 = some (1, .aload_n 1)) rfl ?_
  refine x_iload_n (by decide +kernel : am_at co_X2_lay 1 = some (1, .iload_n 2)) rfl ?_
  obtain ⟨o0, h⟩ := h
  refine x_putf0 (by decide +kernel : am_at co_X2_lay 2 = some (3, .putfield 85)) pq_2_85 rfl o0 ?_
  refine x_aload_n (by decide +kernel : am_at co_X2_lay 5 = some (1, .aload_n 1)) rfl ?_
  refine x_iconst (by decide +kernel : am_at co_X2_lay 6 = some (1, .iconst (-1))) ?_
  refine x_putf0 (by decide +kernel : am_at co_X2_lay 7 = some (3, .putfield 90)) pq_2_90 rfl o0 ?_
  refine x_iconst (by decide +kernel : am_at co_X2_lay 10 = some (1, .iconst 0)) ?_
  refine x_istore_n (L' := [(2, v0), (2, v1), (0, v2), (0, 0), (3, 0)]) (by decide +kernel : am_at co_X2_lay 11 = some (1, .istore_n 3)) rfl ?_
  exact am_weak (lk (lk (lk (lk (lk ln))))) h
set_option maxRecDepth 20000 in
theorem bk_X2_lay_12 {d : Nat} {Q : am_Q} {M : am_M} {v0 v1 v2 v3 : Int} (h : ((6 ≤ v3 → Q (none, sh_T, M)) ∧ (v3 < 6 → am_r (v2 * 6) ∧ am_r ((v2 * 6) + v3) ∧ (((v2 * 6) + v3 < 0 → am_ob sh_T 7 v1 ∧ am_cal pg d 73 [(2, v1), (0, v3), (0, 0)] sh_T M (am_cv sh_T fun M6 => am_r (v3 + 1) ∧ am_g 2 9 co_X2_lay d Q 12 [(2, v0), (2, v1), (0, v2), (0, v3 + 1), (3, 0)] [] sh_T M6)) ∧ (0 ≤ (v2 * 6) + v3 → am_ob sh_T 2 v0 ∧ ∃ n8 : Nat, am_alen pg sh_T (v0 + 4) = some n8 ∧ (((n8 : Int) ≤ (v2 * 6) + v3 → am_ob sh_T 7 v1 ∧ am_cal pg d 73 [(2, v1), (0, v3), (0, 0)] sh_T M (am_cv sh_T fun M12 => am_r (v3 + 1) ∧ am_g 2 9 co_X2_lay d Q 12 [(2, v0), (2, v1), (0, v2), (0, v3 + 1), (3, 0)] [] sh_T M12)) ∧ ((v2 * 6) + v3 < (n8 : Int) → am_in pg sh_T 1 (v0 + 4) ((v2 * 6) + v3) ∧ am_ob sh_T 7 v1 ∧ am_cal pg d 73 [(2, v1), (0, v3), (0, M (v0 + 4) ((v2 * 6) + v3))] sh_T M (am_cv sh_T fun M16 => am_r (v3 + 1) ∧ am_g 2 9 co_X2_lay d Q 12 [(2, v0), (2, v1), (0, v2), (0, v3 + 1), (3, 0)] [] sh_T M16)))))))) : am_g 2 9 co_X2_lay d Q 12 [(2, v0), (2, v1), (0, v2), (0, v3), (3, 0)] [] sh_T M := by
  refine x_iload_n (by decide +kernel : am_at co_X2_lay 12 = some (1, .iload_n 3)) rfl ?_
  refine x_bipush (by decide +kernel : am_at co_X2_lay 13 = some (2, .bipush 6)) ?_
  refine x_icmp (tgt := 63) (by decide +kernel : am_at co_X2_lay 15 = some (3, .if_icmp .ge 48)) rfl Iff.rfl (fun c0 => ?_) (fun c0 => ?_)
  · have h := h.1 c0
    exact x_vret (by decide +kernel : am_at co_X2_lay 63 = some (1, .return_)) h
  · have c0 := (Int.not_le.mp c0)
    have h := h.2 c0
    refine x_iload_n (by decide +kernel : am_at co_X2_lay 18 = some (1, .iload_n 2)) rfl ?_
    refine x_bipush (by decide +kernel : am_at co_X2_lay 19 = some (2, .bipush 6)) ?_
    obtain ⟨o1, h⟩ := h
    refine x_imul (by decide +kernel : am_at co_X2_lay 21 = some (1, .imul)) o1 ?_
    refine x_iload_n (by decide +kernel : am_at co_X2_lay 22 = some (1, .iload_n 3)) rfl ?_
    obtain ⟨o2, h⟩ := h
    refine x_iadd (by decide +kernel : am_at co_X2_lay 23 = some (1, .iadd)) o2 ?_
    refine x_istore (L' := [(2, v0), (2, v1), (0, v2), (0, v3), (0, (v2 * 6) + v3)]) (by decide +kernel : am_at co_X2_lay 24 = some (2, .istore 4)) rfl ?_
    refine x_aload_n (by decide +kernel : am_at co_X2_lay 26 = some (1, .aload_n 1)) rfl ?_
    refine x_iload_n (by decide +kernel : am_at co_X2_lay 27 = some (1, .iload_n 3)) rfl ?_
    refine x_iload (by decide +kernel : am_at co_X2_lay 28 = some (2, .iload 4)) rfl ?_
    refine x_if (tgt := 53) (by decide +kernel : am_at co_X2_lay 30 = some (3, .ifCond .lt 23)) rfl Iff.rfl (fun c3 => ?_) (fun c3 => ?_)
    · have h := h.1 c3
      refine x_iconst (by decide +kernel : am_at co_X2_lay 53 = some (1, .iconst 0)) ?_
      obtain ⟨o4, h⟩ := h
      refine x_callV (n := 3) (by decide +kernel : am_at co_X2_lay 54 = some (3, .invokevirtual 93)) pq_2_93 pm_X7_put rfl rfl rfl o4 h (x_kv fun M6 h => ?_)
      obtain ⟨o6, h⟩ := h
      refine x_iinc (L' := [(2, v0), (2, v1), (0, v2), (0, v3 + 1), (0, (v2 * 6) + v3)]) (by decide +kernel : am_at co_X2_lay 57 = some (3, .iinc 3 1)) rfl o6 rfl ?_
      refine x_goto (tgt := 12) (by decide +kernel : am_at co_X2_lay 60 = some (3, .goto (-48))) rfl ?_
      exact am_weak (lk (lk (lk (lk (ld ln))))) h
    · have c3 := (Int.not_lt.mp c3)
      have h := h.2 c3
      refine x_iload (by decide +kernel : am_at co_X2_lay 33 = some (2, .iload 4)) rfl ?_
      refine x_aload_n (by decide +kernel : am_at co_X2_lay 35 = some (1, .aload_n 0)) rfl ?_
      obtain ⟨o7, h⟩ := h
      refine x_getF (by decide +kernel : am_at co_X2_lay 36 = some (3, .getfield 21)) pq_2_21 (by decide) rfl o7 ?_
      obtain ⟨n8, o8, h⟩ := h
      refine x_alen (by decide +kernel : am_at co_X2_lay 39 = some (1, .arraylength)) o8 ?_
      refine x_icmp (tgt := 53) (by decide +kernel : am_at co_X2_lay 40 = some (3, .if_icmp .ge 13)) rfl Iff.rfl (fun c9 => ?_) (fun c9 => ?_)
      · have h := h.1 c9
        refine x_iconst (by decide +kernel : am_at co_X2_lay 53 = some (1, .iconst 0)) ?_
        obtain ⟨o10, h⟩ := h
        refine x_callV (n := 3) (by decide +kernel : am_at co_X2_lay 54 = some (3, .invokevirtual 93)) pq_2_93 pm_X7_put rfl rfl rfl o10 h (x_kv fun M12 h => ?_)
        obtain ⟨o12, h⟩ := h
        refine x_iinc (L' := [(2, v0), (2, v1), (0, v2), (0, v3 + 1), (0, (v2 * 6) + v3)]) (by decide +kernel : am_at co_X2_lay 57 = some (3, .iinc 3 1)) rfl o12 rfl ?_
        refine x_goto (tgt := 12) (by decide +kernel : am_at co_X2_lay 60 = some (3, .goto (-48))) rfl ?_
        exact am_weak (lk (lk (lk (lk (ld ln))))) h
      · have c9 := (Int.not_le.mp c9)
        have h := h.2 c9
        refine x_aload_n (by decide +kernel : am_at co_X2_lay 43 = some (1, .aload_n 0)) rfl ?_
        refine x_getF (by decide +kernel : am_at co_X2_lay 44 = some (3, .getfield 21)) pq_2_21 (by decide) rfl o7 ?_
        refine x_iload (by decide +kernel : am_at co_X2_lay 47 = some (2, .iload 4)) rfl ?_
        obtain ⟨o13, h⟩ := h
        refine x_iald (by decide +kernel : am_at co_X2_lay 49 = some (1, .iaload)) (o13) ?_
        refine x_goto (tgt := 54) (by decide +kernel : am_at co_X2_lay 50 = some (3, .goto 4)) rfl ?_
        obtain ⟨o14, h⟩ := h
        refine x_callV (n := 3) (by decide +kernel : am_at co_X2_lay 54 = some (3, .invokevirtual 93)) pq_2_93 pm_X7_put rfl rfl rfl o14 h (x_kv fun M16 h => ?_)
        obtain ⟨o16, h⟩ := h
        refine x_iinc (L' := [(2, v0), (2, v1), (0, v2), (0, v3 + 1), (0, (v2 * 6) + v3)]) (by decide +kernel : am_at co_X2_lay 57 = some (3, .iinc 3 1)) rfl o16 rfl ?_
        refine x_goto (tgt := 12) (by decide +kernel : am_at co_X2_lay 60 = some (3, .goto (-48))) rfl ?_
        exact am_weak (lk (lk (lk (lk (ld ln))))) h
set_option maxRecDepth 20000 in
theorem bk_X2_counts_0 {d : Nat} {Q : am_Q} {M : am_M} {v0 v1 v2 : Int} (h : am_ob sh_T 7 v1 ∧ am_cal pg d 72 [(2, v1), (0, v2)] sh_T M (am_c0 sh_T fun x2 M2 => ((¬ M2 v1 2 = (-1) → am_ob sh_T 2 v0 ∧ am_cal pg d 27 [(2, v0), (0, M2 v1 2)] sh_T M2 (am_c0 sh_T fun x5 M5 => ((¬ x5 = v2 → am_r (x2.tdiv 2) ∧ Q (some (0, x2.tdiv 2), sh_T, M5)) ∧ (x5 = v2 → am_r (2 * x2) ∧ Q (some (0, 2 * x2), sh_T, M5))))) ∧ (M2 v1 2 = (-1) → Q (some (0, x2), sh_T, M2))))) : am_g 2 0 co_X2_counts d Q 0 [(2, v0), (2, v1), (0, v2), (3, 0)] [] sh_T M := by
  refine x_aload_n (by decide +kernel : am_at co_X2_counts 0 = some (1, .aload_n 1)) rfl ?_
  refine x_iload_n (by decide +kernel : am_at co_X2_counts 1 = some (1, .iload_n 2)) rfl ?_
  obtain ⟨o0, h⟩ := h
  refine x_callV (n := 2) (by decide +kernel : am_at co_X2_counts 2 = some (3, .invokevirtual 97)) pq_2_97 pm_X7_at rfl rfl rfl o0 h (x_k0 fun x2 M2 h => ?_)
  refine x_istore_n (L' := [(2, v0), (2, v1), (0, v2), (0, x2)]) (by decide +kernel : am_at co_X2_counts 5 = some (1, .istore_n 3)) rfl ?_
  refine x_aload_n (by decide +kernel : am_at co_X2_counts 6 = some (1, .aload_n 1)) rfl ?_
  refine x_getf (by decide +kernel : am_at co_X2_counts 7 = some (3, .getfield 90)) pq_2_90 rfl o0 ?_
  refine x_iconst (by decide +kernel : am_at co_X2_counts 10 = some (1, .iconst (-1))) ?_
  refine x_icmp (tgt := 16) (by decide +kernel : am_at co_X2_counts 11 = some (3, .if_icmp .ne 5)) rfl Iff.rfl (fun c2 => ?_) (fun c2 => ?_)
  · have h := h.1 c2
    refine x_aload_n (by decide +kernel : am_at co_X2_counts 16 = some (1, .aload_n 0)) rfl ?_
    refine x_aload_n (by decide +kernel : am_at co_X2_counts 17 = some (1, .aload_n 1)) rfl ?_
    refine x_getf (by decide +kernel : am_at co_X2_counts 18 = some (3, .getfield 90)) pq_2_90 rfl o0 ?_
    obtain ⟨o3, h⟩ := h
    refine x_callV (n := 2) (by decide +kernel : am_at co_X2_counts 21 = some (3, .invokevirtual 100)) pq_2_100 pm_X2_dreadOf rfl rfl rfl o3 h (x_k0 fun x5 M5 h => ?_)
    refine x_iload_n (by decide +kernel : am_at co_X2_counts 24 = some (1, .iload_n 2)) rfl ?_
    refine x_icmp (tgt := 34) (by decide +kernel : am_at co_X2_counts 25 = some (3, .if_icmp .ne 9)) rfl Iff.rfl (fun c5 => ?_) (fun c5 => ?_)
    · have h := h.1 c5
      refine x_iload_n (by decide +kernel : am_at co_X2_counts 34 = some (1, .iload_n 3)) rfl ?_
      refine x_iconst (by decide +kernel : am_at co_X2_counts 35 = some (1, .iconst 2)) ?_
      obtain ⟨o6, h⟩ := h
      refine x_idiv (by decide +kernel : am_at co_X2_counts 36 = some (1, .idiv)) (by decide) o6 ?_
      exact x_iret (by decide +kernel : am_at co_X2_counts 37 = some (1, .ireturn)) h
    · have c5 := (Classical.not_not.mp c5)
      have h := h.2 c5
      refine x_iconst (by decide +kernel : am_at co_X2_counts 28 = some (1, .iconst 2)) ?_
      refine x_iload_n (by decide +kernel : am_at co_X2_counts 29 = some (1, .iload_n 3)) rfl ?_
      obtain ⟨o7, h⟩ := h
      refine x_imul (by decide +kernel : am_at co_X2_counts 30 = some (1, .imul)) o7 ?_
      refine x_goto (tgt := 37) (by decide +kernel : am_at co_X2_counts 31 = some (3, .goto 6)) rfl ?_
      exact x_iret (by decide +kernel : am_at co_X2_counts 37 = some (1, .ireturn)) h
  · have c2 := (Classical.not_not.mp c2)
    have h := h.2 c2
    refine x_iload_n (by decide +kernel : am_at co_X2_counts 14 = some (1, .iload_n 3)) rfl ?_
    exact x_iret (by decide +kernel : am_at co_X2_counts 15 = some (1, .ireturn)) h
set_option maxRecDepth 20000 in
theorem bk_X2_heaviest_0 {d : Nat} {Q : am_Q} {M : am_M} {v0 v1 v2 : Int} (h : am_g 2 0 co_X2_heaviest d Q 8 [(2, v0), (2, v1), (0, v2), (0, (-1)), (0, (-1)), (0, 0), (3, 0)] [] sh_T M) : am_g 2 0 co_X2_heaviest d Q 0 [(2, v0), (2, v1), (0, v2), (3, 0), (3, 0), (3, 0), (3, 0)] [] sh_T M := by
  refine x_iconst (by decide +kernel : am_at co_X2_heaviest 0 = some (1, .iconst (-1))) ?_
  refine x_istore_n (L' := [(2, v0), (2, v1), (0, v2), (0, (-1)), (3, 0), (3, 0), (3, 0)]) (by decide +kernel : am_at co_X2_heaviest 1 = some (1, .istore_n 3)) rfl ?_
  refine x_iconst (by decide +kernel : am_at co_X2_heaviest 2 = some (1, .iconst (-1))) ?_
  refine x_istore (L' := [(2, v0), (2, v1), (0, v2), (0, (-1)), (0, (-1)), (3, 0), (3, 0)]) (by decide +kernel : am_at co_X2_heaviest 3 = some (2, .istore 4)) rfl ?_
  refine x_iconst (by decide +kernel : am_at co_X2_heaviest 5 = some (1, .iconst 0)) ?_
  refine x_istore (L' := [(2, v0), (2, v1), (0, v2), (0, (-1)), (0, (-1)), (0, 0), (3, 0)]) (by decide +kernel : am_at co_X2_heaviest 6 = some (2, .istore 5)) rfl ?_
  exact am_weak (lk (lk (lk (lk (lk (lk (lk ln))))))) h
set_option maxRecDepth 20000 in
theorem bk_X2_heaviest_8 {d : Nat} {Q : am_Q} {M : am_M} {v0 v1 v2 v3 v4 v5 : Int} (h : am_ob sh_T 2 v0 ∧ am_cal pg d 14 [(2, v0), (0, 0)] sh_T M (am_c0 sh_T fun x2 M2 => ((x2 ≤ v5 → Q (some (0, v3), sh_T, M2)) ∧ (v5 < x2 → am_cal pg d 29 [(2, v0), (2, v1), (0, v5)] sh_T M2 (am_c0 sh_T fun x4 M4 => ((v5 = v2 → am_r (v5 + 1) ∧ am_g 2 0 co_X2_heaviest d Q 8 [(2, v0), (2, v1), (0, v2), (0, v3), (0, v4), (0, v5 + 1), (3, 0)] [] sh_T M4) ∧ (¬ v5 = v2 → ((x4 ≤ v4 → am_r (v5 + 1) ∧ am_g 2 0 co_X2_heaviest d Q 8 [(2, v0), (2, v1), (0, v2), (0, v3), (0, v4), (0, v5 + 1), (3, 0)] [] sh_T M4) ∧ (v4 < x4 → am_r (v5 + 1) ∧ am_g 2 0 co_X2_heaviest d Q 8 [(2, v0), (2, v1), (0, v2), (0, v5), (0, x4), (0, v5 + 1), (3, 0)] [] sh_T M4))))))))) : am_g 2 0 co_X2_heaviest d Q 8 [(2, v0), (2, v1), (0, v2), (0, v3), (0, v4), (0, v5), (3, 0)] [] sh_T M := by
  refine x_iload (by decide +kernel : am_at co_X2_heaviest 8 = some (2, .iload 5)) rfl ?_
  refine x_aload_n (by decide +kernel : am_at co_X2_heaviest 10 = some (1, .aload_n 0)) rfl ?_
  refine x_iconst (by decide +kernel : am_at co_X2_heaviest 11 = some (1, .iconst 0)) ?_
  obtain ⟨o0, h⟩ := h
  refine x_callV (n := 2) (by decide +kernel : am_at co_X2_heaviest 12 = some (3, .invokevirtual 53)) pq_2_53 pm_X2_count rfl rfl rfl o0 h (x_k0 fun x2 M2 h => ?_)
  refine x_icmp (tgt := 53) (by decide +kernel : am_at co_X2_heaviest 15 = some (3, .if_icmp .ge 38)) rfl Iff.rfl (fun c2 => ?_) (fun c2 => ?_)
  · have h := h.1 c2
    refine x_iload_n (by decide +kernel : am_at co_X2_heaviest 53 = some (1, .iload_n 3)) rfl ?_
    exact x_iret (by decide +kernel : am_at co_X2_heaviest 54 = some (1, .ireturn)) h
  · have c2 := (Int.not_le.mp c2)
    have h := h.2 c2
    refine x_aload_n (by decide +kernel : am_at co_X2_heaviest 18 = some (1, .aload_n 0)) rfl ?_
    refine x_aload_n (by decide +kernel : am_at co_X2_heaviest 19 = some (1, .aload_n 1)) rfl ?_
    refine x_iload (by decide +kernel : am_at co_X2_heaviest 20 = some (2, .iload 5)) rfl ?_
    refine x_callV (n := 3) (by decide +kernel : am_at co_X2_heaviest 22 = some (3, .invokevirtual 103)) pq_2_103 pm_X2_counts rfl rfl rfl o0 h (x_k0 fun x4 M4 h => ?_)
    refine x_istore (L' := [(2, v0), (2, v1), (0, v2), (0, v3), (0, v4), (0, v5), (0, x4)]) (by decide +kernel : am_at co_X2_heaviest 25 = some (2, .istore 6)) rfl ?_
    refine x_iload (by decide +kernel : am_at co_X2_heaviest 27 = some (2, .iload 5)) rfl ?_
    refine x_iload_n (by decide +kernel : am_at co_X2_heaviest 29 = some (1, .iload_n 2)) rfl ?_
    refine x_icmp (tgt := 47) (by decide +kernel : am_at co_X2_heaviest 30 = some (3, .if_icmp .eq 17)) rfl Iff.rfl (fun c4 => ?_) (fun c4 => ?_)
    · have h := h.1 c4
      obtain ⟨o5, h⟩ := h
      refine x_iinc (L' := [(2, v0), (2, v1), (0, v2), (0, v3), (0, v4), (0, v5 + 1), (0, x4)]) (by decide +kernel : am_at co_X2_heaviest 47 = some (3, .iinc 5 1)) rfl o5 rfl ?_
      refine x_goto (tgt := 8) (by decide +kernel : am_at co_X2_heaviest 50 = some (3, .goto (-42))) rfl ?_
      exact am_weak (lk (lk (lk (lk (lk (lk (ld ln))))))) h
    · have c4 := c4
      have h := h.2 c4
      refine x_iload (by decide +kernel : am_at co_X2_heaviest 33 = some (2, .iload 6)) rfl ?_
      refine x_iload (by decide +kernel : am_at co_X2_heaviest 35 = some (2, .iload 4)) rfl ?_
      refine x_icmp (tgt := 47) (by decide +kernel : am_at co_X2_heaviest 37 = some (3, .if_icmp .le 10)) rfl Iff.rfl (fun c6 => ?_) (fun c6 => ?_)
      · have h := h.1 c6
        obtain ⟨o7, h⟩ := h
        refine x_iinc (L' := [(2, v0), (2, v1), (0, v2), (0, v3), (0, v4), (0, v5 + 1), (0, x4)]) (by decide +kernel : am_at co_X2_heaviest 47 = some (3, .iinc 5 1)) rfl o7 rfl ?_
        refine x_goto (tgt := 8) (by decide +kernel : am_at co_X2_heaviest 50 = some (3, .goto (-42))) rfl ?_
        exact am_weak (lk (lk (lk (lk (lk (lk (ld ln))))))) h
      · have c6 := (Int.not_le.mp c6)
        have h := h.2 c6
        refine x_iload (by decide +kernel : am_at co_X2_heaviest 40 = some (2, .iload 5)) rfl ?_
        refine x_istore_n (L' := [(2, v0), (2, v1), (0, v2), (0, v5), (0, v4), (0, v5), (0, x4)]) (by decide +kernel : am_at co_X2_heaviest 42 = some (1, .istore_n 3)) rfl ?_
        refine x_iload (by decide +kernel : am_at co_X2_heaviest 43 = some (2, .iload 6)) rfl ?_
        refine x_istore (L' := [(2, v0), (2, v1), (0, v2), (0, v5), (0, x4), (0, v5), (0, x4)]) (by decide +kernel : am_at co_X2_heaviest 45 = some (2, .istore 4)) rfl ?_
        obtain ⟨o8, h⟩ := h
        refine x_iinc (L' := [(2, v0), (2, v1), (0, v2), (0, v5), (0, x4), (0, v5 + 1), (0, x4)]) (by decide +kernel : am_at co_X2_heaviest 47 = some (3, .iinc 5 1)) rfl o8 rfl ?_
        refine x_goto (tgt := 8) (by decide +kernel : am_at co_X2_heaviest 50 = some (3, .goto (-42))) rfl ?_
        exact am_weak (lk (lk (lk (lk (lk (lk (ld ln))))))) h
set_option maxRecDepth 20000 in
theorem bk_X2_isHome_0 {d : Nat} {Q : am_Q} {M : am_M} {v0 v1 : Int} (h : am_ob sh_T 7 v1 ∧ am_cal pg d 74 [(2, v1)] sh_T M (am_c0 sh_T fun x2 M2 => am_ob sh_T 2 v0 ∧ ((M2 v0 5 < x2 → Q (some (0, 0), sh_T, M2)) ∧ (x2 ≤ M2 v0 5 → Q (some (0, 1), sh_T, M2))))) : am_g 2 5 co_X2_isHome d Q 0 [(2, v0), (2, v1)] [] sh_T M := by
  refine x_aload_n (by decide +kernel : am_at co_X2_isHome 0 = some (1, .aload_n 1)) rfl ?_
  obtain ⟨o0, h⟩ := h
  refine x_callV (n := 1) (by decide +kernel : am_at co_X2_isHome 1 = some (3, .invokevirtual 107)) pq_2_107 pm_X7_total rfl rfl rfl o0 h (x_k0 fun x2 M2 h => ?_)
  refine x_aload_n (by decide +kernel : am_at co_X2_isHome 4 = some (1, .aload_n 0)) rfl ?_
  obtain ⟨o2, h⟩ := h
  refine x_getf (by decide +kernel : am_at co_X2_isHome 5 = some (3, .getfield 27)) pq_2_27 rfl o2 ?_
  refine x_icmp (tgt := 15) (by decide +kernel : am_at co_X2_isHome 8 = some (3, .if_icmp .gt 7)) rfl Iff.rfl (fun c3 => ?_) (fun c3 => ?_)
  · have h := h.1 c3
    refine x_iconst (by decide +kernel : am_at co_X2_isHome 15 = some (1, .iconst 0)) ?_
    exact x_zret (by decide +kernel : am_at co_X2_isHome 16 = some (1, .ireturn)) (by decide) h
  · have c3 := (Int.not_lt.mp c3)
    have h := h.2 c3
    refine x_iconst (by decide +kernel : am_at co_X2_isHome 11 = some (1, .iconst 1)) ?_
    refine x_goto (tgt := 16) (by decide +kernel : am_at co_X2_isHome 12 = some (3, .goto 4)) rfl ?_
    exact x_zret (by decide +kernel : am_at co_X2_isHome 16 = some (1, .ireturn)) (by decide) h
set_option maxRecDepth 20000 in
theorem bk_X2_becomes_0 {d : Nat} {Q : am_Q} {M : am_M} {v0 v1 v2 v3 : Int} (h : am_ob sh_T 2 v0 ∧ am_cal pg d 24 [(2, v0), (0, v3)] sh_T M (am_c0 sh_T fun x2 M2 => ((¬ x2 = 0 → am_ob sh_T 7 v1 ∧ am_ob sh_T 6 (v0 + 6) ∧ am_cal pg d 62 [(2, v0 + 6), (2, v1 + 1), (0, 0)] sh_T M2 (am_cv sh_T fun M6 => am_cal pg d 72 [(2, v1), (0, v2)] sh_T M6 (am_c0 sh_T fun x7 M7 => am_cal pg d 63 [(2, v0 + 6), (0, 0), (0, x7)] sh_T M7 (am_cv sh_T fun M8 => am_cal pg d 63 [(2, v0 + 6), (0, 4), (0, v2)] sh_T M8 (am_cv sh_T fun M9 => am_cal pg d 26 [(2, v0), (0, M9 v1 1)] sh_T M9 (am_c0 sh_T fun x10 M10 => am_cal pg d 63 [(2, v0 + 6), (0, 5), (0, x10)] sh_T M10 (am_cv sh_T fun M11 => am_in pg sh_T 1 (v0 + 11) v3 ∧ am_in pg sh_T 1 (v0 + 12) v3 ∧ am_cal pg d 64 [(2, v0 + 6), (0, M11 (v0 + 11) v3), (0, M11 (v0 + 12) v3)] sh_T M11 (am_c0 sh_T fun x14 M14 => am_cal pg d 318 [(0, 999), (0, x14)] sh_T M14 (am_c0 sh_T fun x15 M15 => am_cal pg d 316 [(0, 0), (0, x15)] sh_T M15 (am_c0 sh_T fun x16 M16 => Q (some (0, x16), sh_T, M16))))))))))) ∧ (x2 = 0 → am_ob sh_T 7 v1 ∧ am_cal pg d 72 [(2, v1), (0, v2)] sh_T M2 (am_c0 sh_T fun x18 M18 => Q (some (0, x18), sh_T, M18)))))) : am_g 2 0 co_X2_becomes d Q 0 [(2, v0), (2, v1), (0, v2), (0, v3)] [] sh_T M := by
  refine x_aload_n (by decide +kernel : am_at co_X2_becomes 0 = some (1, .aload_n 0)) rfl ?_
  refine x_iload_n (by decide +kernel : am_at co_X2_becomes 1 = some (1, .iload_n 3)) rfl ?_
  obtain ⟨o0, h⟩ := h
  refine x_callV (n := 2) (by decide +kernel : am_at co_X2_becomes 2 = some (3, .invokevirtual 111)) pq_2_111 pm_X2_hasSum rfl rfl rfl o0 h (x_k0 fun x2 M2 h => ?_)
  refine x_if (tgt := 14) (by decide +kernel : am_at co_X2_becomes 5 = some (3, .ifCond .ne 9)) rfl Iff.rfl (fun c2 => ?_) (fun c2 => ?_)
  · have h := h.1 c2
    refine x_aload_n (by decide +kernel : am_at co_X2_becomes 14 = some (1, .aload_n 0)) rfl ?_
    refine x_getF (by decide +kernel : am_at co_X2_becomes 15 = some (3, .getfield 40)) pq_2_40 (by decide) rfl o0 ?_
    refine x_aload_n (by decide +kernel : am_at co_X2_becomes 18 = some (1, .aload_n 1)) rfl ?_
    obtain ⟨o3, h⟩ := h
    refine x_getF (by decide +kernel : am_at co_X2_becomes 19 = some (3, .getfield 114)) pq_2_114 (by decide) rfl o3 ?_
    refine x_iconst (by decide +kernel : am_at co_X2_becomes 22 = some (1, .iconst 0)) ?_
    obtain ⟨o4, h⟩ := h
    refine x_callV (n := 3) (by decide +kernel : am_at co_X2_becomes 23 = some (3, .invokevirtual 117)) pq_2_117 pm_X6_see rfl rfl rfl o4 h (x_kv fun M6 h => ?_)
    refine x_aload_n (by decide +kernel : am_at co_X2_becomes 26 = some (1, .aload_n 0)) rfl ?_
    refine x_getF (by decide +kernel : am_at co_X2_becomes 27 = some (3, .getfield 40)) pq_2_40 (by decide) rfl o0 ?_
    refine x_iconst (by decide +kernel : am_at co_X2_becomes 30 = some (1, .iconst 0)) ?_
    refine x_aload_n (by decide +kernel : am_at co_X2_becomes 31 = some (1, .aload_n 1)) rfl ?_
    refine x_iload_n (by decide +kernel : am_at co_X2_becomes 32 = some (1, .iload_n 2)) rfl ?_
    refine x_callV (n := 2) (by decide +kernel : am_at co_X2_becomes 33 = some (3, .invokevirtual 97)) pq_2_97 pm_X7_at rfl rfl rfl o3 h (x_k0 fun x7 M7 h => ?_)
    refine x_callV (n := 3) (by decide +kernel : am_at co_X2_becomes 36 = some (3, .invokevirtual 121)) pq_2_121 pm_X6_know rfl rfl rfl o4 h (x_kv fun M8 h => ?_)
    refine x_aload_n (by decide +kernel : am_at co_X2_becomes 39 = some (1, .aload_n 0)) rfl ?_
    refine x_getF (by decide +kernel : am_at co_X2_becomes 40 = some (3, .getfield 40)) pq_2_40 (by decide) rfl o0 ?_
    refine x_iconst (by decide +kernel : am_at co_X2_becomes 43 = some (1, .iconst 4)) ?_
    refine x_iload_n (by decide +kernel : am_at co_X2_becomes 44 = some (1, .iload_n 2)) rfl ?_
    refine x_callV (n := 3) (by decide +kernel : am_at co_X2_becomes 45 = some (3, .invokevirtual 121)) pq_2_121 pm_X6_know rfl rfl rfl o4 h (x_kv fun M9 h => ?_)
    refine x_aload_n (by decide +kernel : am_at co_X2_becomes 48 = some (1, .aload_n 0)) rfl ?_
    refine x_getF (by decide +kernel : am_at co_X2_becomes 49 = some (3, .getfield 40)) pq_2_40 (by decide) rfl o0 ?_
    refine x_iconst (by decide +kernel : am_at co_X2_becomes 52 = some (1, .iconst 5)) ?_
    refine x_aload_n (by decide +kernel : am_at co_X2_becomes 53 = some (1, .aload_n 0)) rfl ?_
    refine x_aload_n (by decide +kernel : am_at co_X2_becomes 54 = some (1, .aload_n 1)) rfl ?_
    refine x_getf (by decide +kernel : am_at co_X2_becomes 55 = some (3, .getfield 85)) pq_2_85 rfl o3 ?_
    refine x_callV (n := 2) (by decide +kernel : am_at co_X2_becomes 58 = some (3, .invokevirtual 124)) pq_2_124 pm_X2_braveryOf rfl rfl rfl o0 h (x_k0 fun x10 M10 h => ?_)
    refine x_callV (n := 3) (by decide +kernel : am_at co_X2_becomes 61 = some (3, .invokevirtual 121)) pq_2_121 pm_X6_know rfl rfl rfl o4 h (x_kv fun M11 h => ?_)
    refine x_iconst (by decide +kernel : am_at co_X2_becomes 64 = some (1, .iconst 0)) ?_
    refine x_sipush (by decide +kernel : am_at co_X2_becomes 65 = some (3, .sipush 999)) ?_
    refine x_aload_n (by decide +kernel : am_at co_X2_becomes 68 = some (1, .aload_n 0)) rfl ?_
    refine x_getF (by decide +kernel : am_at co_X2_becomes 69 = some (3, .getfield 40)) pq_2_40 (by decide) rfl o0 ?_
    refine x_aload_n (by decide +kernel : am_at co_X2_becomes 72 = some (1, .aload_n 0)) rfl ?_
    refine x_getF (by decide +kernel : am_at co_X2_becomes 73 = some (3, .getfield 44)) pq_2_44 (by decide) rfl o0 ?_
    refine x_iload_n (by decide +kernel : am_at co_X2_becomes 76 = some (1, .iload_n 3)) rfl ?_
    obtain ⟨o11, h⟩ := h
    refine x_iald (by decide +kernel : am_at co_X2_becomes 77 = some (1, .iaload)) (o11) ?_
    refine x_aload_n (by decide +kernel : am_at co_X2_becomes 78 = some (1, .aload_n 0)) rfl ?_
    refine x_getF (by decide +kernel : am_at co_X2_becomes 79 = some (3, .getfield 47)) pq_2_47 (by decide) rfl o0 ?_
    refine x_iload_n (by decide +kernel : am_at co_X2_becomes 82 = some (1, .iload_n 3)) rfl ?_
    obtain ⟨o12, h⟩ := h
    refine x_iald (by decide +kernel : am_at co_X2_becomes 83 = some (1, .iaload)) (o12) ?_
    refine x_callV (n := 3) (by decide +kernel : am_at co_X2_becomes 84 = some (3, .invokevirtual 127)) pq_2_127 pm_X6_value rfl rfl rfl o4 h (x_k0 fun x14 M14 h => ?_)
    refine x_callS (n := 2) (by decide +kernel : am_at co_X2_becomes 87 = some (3, .invokestatic 130)) pq_2_130 rfl rfl rfl h (x_k0 fun x15 M15 h => ?_)
    refine x_callS (n := 2) (by decide +kernel : am_at co_X2_becomes 90 = some (3, .invokestatic 135)) pq_2_135 rfl rfl rfl h (x_k0 fun x16 M16 h => ?_)
    exact x_iret (by decide +kernel : am_at co_X2_becomes 93 = some (1, .ireturn)) h
  · have c2 := (Classical.not_not.mp c2)
    have h := h.2 c2
    refine x_aload_n (by decide +kernel : am_at co_X2_becomes 8 = some (1, .aload_n 1)) rfl ?_
    refine x_iload_n (by decide +kernel : am_at co_X2_becomes 9 = some (1, .iload_n 2)) rfl ?_
    obtain ⟨o16, h⟩ := h
    refine x_callV (n := 2) (by decide +kernel : am_at co_X2_becomes 10 = some (3, .invokevirtual 97)) pq_2_97 pm_X7_at rfl rfl rfl o16 h (x_k0 fun x18 M18 h => ?_)
    exact x_iret (by decide +kernel : am_at co_X2_becomes 13 = some (1, .ireturn)) h
set_option maxRecDepth 20000 in
theorem bk_X2_canEnter_0 {d : Nat} {Q : am_Q} {M : am_M} {v0 v1 v2 : Int} (h : am_ob sh_T 2 v0 ∧ am_cal pg d 14 [(2, v0), (0, 0)] sh_T M (am_c0 sh_T fun x2 M2 => ((v2 = 0 → ((x2 ≤ 0 → Q (some (0, 0), sh_T, M2)) ∧ (0 < x2 → am_cal pg d 31 [(2, v0), (2, v1)] sh_T M2 (am_c0 sh_T fun x5 M5 => ((¬ x5 = 0 → Q (some (0, 0), sh_T, M5)) ∧ (x5 = 0 → Q (some (0, 1), sh_T, M5))))))) ∧ (¬ v2 = 0 → ((x2 ≤ 1 → Q (some (0, 0), sh_T, M2)) ∧ (1 < x2 → am_cal pg d 31 [(2, v0), (2, v1)] sh_T M2 (am_c0 sh_T fun x8 M8 => ((¬ x8 = 0 → Q (some (0, 0), sh_T, M8)) ∧ (x8 = 0 → Q (some (0, 1), sh_T, M8)))))))))) : am_g 2 5 co_X2_canEnter d Q 0 [(2, v0), (2, v1), (0, v2)] [] sh_T M := by
  refine x_aload_n (by decide +kernel : am_at co_X2_canEnter 0 = some (1, .aload_n 0)) rfl ?_
  refine x_iconst (by decide +kernel : am_at co_X2_canEnter 1 = some (1, .iconst 0)) ?_
  obtain ⟨o0, h⟩ := h
  refine x_callV (n := 2) (by decide +kernel : am_at co_X2_canEnter 2 = some (3, .invokevirtual 53)) pq_2_53 pm_X2_count rfl rfl rfl o0 h (x_k0 fun x2 M2 h => ?_)
  refine x_iload_n (by decide +kernel : am_at co_X2_canEnter 5 = some (1, .iload_n 2)) rfl ?_
  refine x_if (tgt := 13) (by decide +kernel : am_at co_X2_canEnter 6 = some (3, .ifCond .eq 7)) rfl Iff.rfl (fun c2 => ?_) (fun c2 => ?_)
  · have h := h.1 c2
    refine x_iconst (by decide +kernel : am_at co_X2_canEnter 13 = some (1, .iconst 0)) ?_
    refine x_icmp (tgt := 29) (by decide +kernel : am_at co_X2_canEnter 14 = some (3, .if_icmp .le 15)) rfl Iff.rfl (fun c3 => ?_) (fun c3 => ?_)
    · have h := h.1 c3
      refine x_iconst (by decide +kernel : am_at co_X2_canEnter 29 = some (1, .iconst 0)) ?_
      exact x_zret (by decide +kernel : am_at co_X2_canEnter 30 = some (1, .ireturn)) (by decide) h
    · have c3 := (Int.not_le.mp c3)
      have h := h.2 c3
      refine x_aload_n (by decide +kernel : am_at co_X2_canEnter 17 = some (1, .aload_n 0)) rfl ?_
      refine x_aload_n (by decide +kernel : am_at co_X2_canEnter 18 = some (1, .aload_n 1)) rfl ?_
      refine x_callV (n := 2) (by decide +kernel : am_at co_X2_canEnter 19 = some (3, .invokevirtual 138)) pq_2_138 pm_X2_isHome rfl rfl rfl o0 h (x_k0 fun x5 M5 h => ?_)
      refine x_if (tgt := 29) (by decide +kernel : am_at co_X2_canEnter 22 = some (3, .ifCond .ne 7)) rfl Iff.rfl (fun c5 => ?_) (fun c5 => ?_)
      · have h := h.1 c5
        refine x_iconst (by decide +kernel : am_at co_X2_canEnter 29 = some (1, .iconst 0)) ?_
        exact x_zret (by decide +kernel : am_at co_X2_canEnter 30 = some (1, .ireturn)) (by decide) h
      · have c5 := (Classical.not_not.mp c5)
        have h := h.2 c5
        refine x_iconst (by decide +kernel : am_at co_X2_canEnter 25 = some (1, .iconst 1)) ?_
        refine x_goto (tgt := 30) (by decide +kernel : am_at co_X2_canEnter 26 = some (3, .goto 4)) rfl ?_
        exact x_zret (by decide +kernel : am_at co_X2_canEnter 30 = some (1, .ireturn)) (by decide) h
  · have c2 := c2
    have h := h.2 c2
    refine x_iconst (by decide +kernel : am_at co_X2_canEnter 9 = some (1, .iconst 1)) ?_
    refine x_goto (tgt := 14) (by decide +kernel : am_at co_X2_canEnter 10 = some (3, .goto 4)) rfl ?_
    refine x_icmp (tgt := 29) (by decide +kernel : am_at co_X2_canEnter 14 = some (3, .if_icmp .le 15)) rfl Iff.rfl (fun c6 => ?_) (fun c6 => ?_)
    · have h := h.1 c6
      refine x_iconst (by decide +kernel : am_at co_X2_canEnter 29 = some (1, .iconst 0)) ?_
      exact x_zret (by decide +kernel : am_at co_X2_canEnter 30 = some (1, .ireturn)) (by decide) h
    · have c6 := (Int.not_le.mp c6)
      have h := h.2 c6
      refine x_aload_n (by decide +kernel : am_at co_X2_canEnter 17 = some (1, .aload_n 0)) rfl ?_
      refine x_aload_n (by decide +kernel : am_at co_X2_canEnter 18 = some (1, .aload_n 1)) rfl ?_
      refine x_callV (n := 2) (by decide +kernel : am_at co_X2_canEnter 19 = some (3, .invokevirtual 138)) pq_2_138 pm_X2_isHome rfl rfl rfl o0 h (x_k0 fun x8 M8 h => ?_)
      refine x_if (tgt := 29) (by decide +kernel : am_at co_X2_canEnter 22 = some (3, .ifCond .ne 7)) rfl Iff.rfl (fun c8 => ?_) (fun c8 => ?_)
      · have h := h.1 c8
        refine x_iconst (by decide +kernel : am_at co_X2_canEnter 29 = some (1, .iconst 0)) ?_
        exact x_zret (by decide +kernel : am_at co_X2_canEnter 30 = some (1, .ireturn)) (by decide) h
      · have c8 := (Classical.not_not.mp c8)
        have h := h.2 c8
        refine x_iconst (by decide +kernel : am_at co_X2_canEnter 25 = some (1, .iconst 1)) ?_
        refine x_goto (tgt := 30) (by decide +kernel : am_at co_X2_canEnter 26 = some (3, .goto 4)) rfl ?_
        exact x_zret (by decide +kernel : am_at co_X2_canEnter 30 = some (1, .ireturn)) (by decide) h
set_option maxRecDepth 20000 in
theorem bk_X2_enter_0 {d : Nat} {Q : am_Q} {M : am_M} {v0 v1 v2 : Int} (h : am_ob sh_T 2 v0 ∧ am_cal pg d 33 [(2, v0), (2, v1), (0, v2)] sh_T M (am_c0 sh_T fun x2 M2 => ((¬ x2 = 0 → am_cal pg d 30 [(2, v0), (2, v1), (0, (-1))] sh_T M2 (am_c0 sh_T fun x4 M4 => ((¬ v2 = 0 → am_cal pg d 30 [(2, v0), (2, v1), (0, x4)] sh_T M4 (am_c0 sh_T fun x6 M6 => am_cal pg d 32 [(2, v0), (2, v1), (0, x6), (0, 0)] sh_T M6 (am_c0 sh_T fun x7 M7 => am_cal pg d 32 [(2, v0), (2, v1), (0, x4), (0, 1)] sh_T M7 (am_c0 sh_T fun x8 M8 => am_ob sh_T 7 v1 ∧ am_cal pg d 73 [(2, v1), (0, x4), (0, x8)] sh_T M8 (am_cv sh_T fun M10 => am_cal pg d 73 [(2, v1), (0, x6), (0, x7)] sh_T M10 (am_cv sh_T fun M11 => Q (some (0, x6), sh_T, M11))))))) ∧ (v2 = 0 → am_cal pg d 32 [(2, v0), (2, v1), (0, x4), (0, 0)] sh_T M4 (am_c0 sh_T fun x12 M12 => am_ob sh_T 7 v1 ∧ am_cal pg d 73 [(2, v1), (0, x4), (0, x12)] sh_T M12 (am_cv sh_T fun M14 => Q (some (0, x4), sh_T, M14))))))) ∧ (x2 = 0 → Q (some (0, (-1)), sh_T, M2))))) : am_g 2 0 co_X2_enter d Q 0 [(2, v0), (2, v1), (0, v2), (3, 0), (3, 0), (3, 0)] [] sh_T M := by
  refine x_aload_n (by decide +kernel : am_at co_X2_enter 0 = some (1, .aload_n 0)) rfl ?_
  refine x_aload_n (by decide +kernel : am_at co_X2_enter 1 = some (1, .aload_n 1)) rfl ?_
  refine x_iload_n (by decide +kernel : am_at co_X2_enter 2 = some (1, .iload_n 2)) rfl ?_
  obtain ⟨o0, h⟩ := h
  refine x_callV (n := 3) (by decide +kernel : am_at co_X2_enter 3 = some (3, .invokevirtual 142)) pq_2_142 pm_X2_canEnter rfl rfl rfl o0 h (x_k0 fun x2 M2 h => ?_)
  refine x_if (tgt := 11) (by decide +kernel : am_at co_X2_enter 6 = some (3, .ifCond .ne 5)) rfl Iff.rfl (fun c2 => ?_) (fun c2 => ?_)
  · have h := h.1 c2
    refine x_aload_n (by decide +kernel : am_at co_X2_enter 11 = some (1, .aload_n 0)) rfl ?_
    refine x_aload_n (by decide +kernel : am_at co_X2_enter 12 = some (1, .aload_n 1)) rfl ?_
    refine x_iconst (by decide +kernel : am_at co_X2_enter 13 = some (1, .iconst (-1))) ?_
    refine x_callV (n := 3) (by decide +kernel : am_at co_X2_enter 14 = some (3, .invokevirtual 146)) pq_2_146 pm_X2_heaviest rfl rfl rfl o0 h (x_k0 fun x4 M4 h => ?_)
    refine x_istore_n (L' := [(2, v0), (2, v1), (0, v2), (0, x4), (3, 0), (3, 0)]) (by decide +kernel : am_at co_X2_enter 17 = some (1, .istore_n 3)) rfl ?_
    refine x_iload_n (by decide +kernel : am_at co_X2_enter 18 = some (1, .iload_n 2)) rfl ?_
    refine x_if (tgt := 36) (by decide +kernel : am_at co_X2_enter 19 = some (3, .ifCond .ne 17)) rfl Iff.rfl (fun c4 => ?_) (fun c4 => ?_)
    · have h := h.1 c4
      refine x_aload_n (by decide +kernel : am_at co_X2_enter 36 = some (1, .aload_n 0)) rfl ?_
      refine x_aload_n (by decide +kernel : am_at co_X2_enter 37 = some (1, .aload_n 1)) rfl ?_
      refine x_iload_n (by decide +kernel : am_at co_X2_enter 38 = some (1, .iload_n 3)) rfl ?_
      refine x_callV (n := 3) (by decide +kernel : am_at co_X2_enter 39 = some (3, .invokevirtual 146)) pq_2_146 pm_X2_heaviest rfl rfl rfl o0 h (x_k0 fun x6 M6 h => ?_)
      refine x_istore (L' := [(2, v0), (2, v1), (0, v2), (0, x4), (0, x6), (3, 0)]) (by decide +kernel : am_at co_X2_enter 42 = some (2, .istore 4)) rfl ?_
      refine x_aload_n (by decide +kernel : am_at co_X2_enter 44 = some (1, .aload_n 0)) rfl ?_
      refine x_aload_n (by decide +kernel : am_at co_X2_enter 45 = some (1, .aload_n 1)) rfl ?_
      refine x_iload (by decide +kernel : am_at co_X2_enter 46 = some (2, .iload 4)) rfl ?_
      refine x_iconst (by decide +kernel : am_at co_X2_enter 48 = some (1, .iconst 0)) ?_
      refine x_callV (n := 4) (by decide +kernel : am_at co_X2_enter 49 = some (3, .invokevirtual 149)) pq_2_149 pm_X2_becomes rfl rfl rfl o0 h (x_k0 fun x7 M7 h => ?_)
      refine x_istore (L' := [(2, v0), (2, v1), (0, v2), (0, x4), (0, x6), (0, x7)]) (by decide +kernel : am_at co_X2_enter 52 = some (2, .istore 5)) rfl ?_
      refine x_aload_n (by decide +kernel : am_at co_X2_enter 54 = some (1, .aload_n 1)) rfl ?_
      refine x_iload_n (by decide +kernel : am_at co_X2_enter 55 = some (1, .iload_n 3)) rfl ?_
      refine x_aload_n (by decide +kernel : am_at co_X2_enter 56 = some (1, .aload_n 0)) rfl ?_
      refine x_aload_n (by decide +kernel : am_at co_X2_enter 57 = some (1, .aload_n 1)) rfl ?_
      refine x_iload_n (by decide +kernel : am_at co_X2_enter 58 = some (1, .iload_n 3)) rfl ?_
      refine x_iconst (by decide +kernel : am_at co_X2_enter 59 = some (1, .iconst 1)) ?_
      refine x_callV (n := 4) (by decide +kernel : am_at co_X2_enter 60 = some (3, .invokevirtual 149)) pq_2_149 pm_X2_becomes rfl rfl rfl o0 h (x_k0 fun x8 M8 h => ?_)
      obtain ⟨o8, h⟩ := h
      refine x_callV (n := 3) (by decide +kernel : am_at co_X2_enter 63 = some (3, .invokevirtual 93)) pq_2_93 pm_X7_put rfl rfl rfl o8 h (x_kv fun M10 h => ?_)
      refine x_aload_n (by decide +kernel : am_at co_X2_enter 66 = some (1, .aload_n 1)) rfl ?_
      refine x_iload (by decide +kernel : am_at co_X2_enter 67 = some (2, .iload 4)) rfl ?_
      refine x_iload (by decide +kernel : am_at co_X2_enter 69 = some (2, .iload 5)) rfl ?_
      refine x_callV (n := 3) (by decide +kernel : am_at co_X2_enter 71 = some (3, .invokevirtual 93)) pq_2_93 pm_X7_put rfl rfl rfl o8 h (x_kv fun M11 h => ?_)
      refine x_iload (by decide +kernel : am_at co_X2_enter 74 = some (2, .iload 4)) rfl ?_
      exact x_iret (by decide +kernel : am_at co_X2_enter 76 = some (1, .ireturn)) h
    · have c4 := (Classical.not_not.mp c4)
      have h := h.2 c4
      refine x_aload_n (by decide +kernel : am_at co_X2_enter 22 = some (1, .aload_n 1)) rfl ?_
      refine x_iload_n (by decide +kernel : am_at co_X2_enter 23 = some (1, .iload_n 3)) rfl ?_
      refine x_aload_n (by decide +kernel : am_at co_X2_enter 24 = some (1, .aload_n 0)) rfl ?_
      refine x_aload_n (by decide +kernel : am_at co_X2_enter 25 = some (1, .aload_n 1)) rfl ?_
      refine x_iload_n (by decide +kernel : am_at co_X2_enter 26 = some (1, .iload_n 3)) rfl ?_
      refine x_iconst (by decide +kernel : am_at co_X2_enter 27 = some (1, .iconst 0)) ?_
      refine x_callV (n := 4) (by decide +kernel : am_at co_X2_enter 28 = some (3, .invokevirtual 149)) pq_2_149 pm_X2_becomes rfl rfl rfl o0 h (x_k0 fun x12 M12 h => ?_)
      obtain ⟨o12, h⟩ := h
      refine x_callV (n := 3) (by decide +kernel : am_at co_X2_enter 31 = some (3, .invokevirtual 93)) pq_2_93 pm_X7_put rfl rfl rfl o12 h (x_kv fun M14 h => ?_)
      refine x_iload_n (by decide +kernel : am_at co_X2_enter 34 = some (1, .iload_n 3)) rfl ?_
      exact x_iret (by decide +kernel : am_at co_X2_enter 35 = some (1, .ireturn)) h
  · have c2 := (Classical.not_not.mp c2)
    have h := h.2 c2
    refine x_iconst (by decide +kernel : am_at co_X2_enter 9 = some (1, .iconst (-1))) ?_
    exact x_iret (by decide +kernel : am_at co_X2_enter 10 = some (1, .ireturn)) h
set_option maxRecDepth 20000 in
theorem bk_X2_meetByDay_0 {d : Nat} {Q : am_Q} {M : am_M} {v0 v1 v2 : Int} (h : am_ob sh_T 2 v0 ∧ am_cal pg d 32 [(2, v0), (2, v1), (0, v2), (0, 2)] sh_T M (am_c0 sh_T fun x2 M2 => am_ob sh_T 7 v1 ∧ am_cal pg d 73 [(2, v1), (0, v2), (0, x2)] sh_T M2 (am_cv sh_T fun M4 => Q (none, sh_T, M4)))) : am_g 2 9 co_X2_meetByDay d Q 0 [(2, v0), (2, v1), (0, v2)] [] sh_T M := by
  refine x_aload_n (by decide +kernel : am_at co_X2_meetByDay 0 = some (1, .aload_n 1)) rfl ?_
  refine x_iload_n (by decide +kernel : am_at co_X2_meetByDay 1 = some (1, .iload_n 2)) rfl ?_
  refine x_aload_n (by decide +kernel : am_at co_X2_meetByDay 2 = some (1, .aload_n 0)) rfl ?_
  refine x_aload_n (by decide +kernel : am_at co_X2_meetByDay 3 = some (1, .aload_n 1)) rfl ?_
  refine x_iload_n (by decide +kernel : am_at co_X2_meetByDay 4 = some (1, .iload_n 2)) rfl ?_
  refine x_iconst (by decide +kernel : am_at co_X2_meetByDay 5 = some (1, .iconst 2)) ?_
  obtain ⟨o0, h⟩ := h
  refine x_callV (n := 4) (by decide +kernel : am_at co_X2_meetByDay 6 = some (3, .invokevirtual 149)) pq_2_149 pm_X2_becomes rfl rfl rfl o0 h (x_k0 fun x2 M2 h => ?_)
  obtain ⟨o2, h⟩ := h
  refine x_callV (n := 3) (by decide +kernel : am_at co_X2_meetByDay 9 = some (3, .invokevirtual 93)) pq_2_93 pm_X7_put rfl rfl rfl o2 h (x_kv fun M4 h => ?_)
  exact x_vret (by decide +kernel : am_at co_X2_meetByDay 12 = some (1, .return_)) h
set_option maxRecDepth 20000 in
theorem bk_X3_read_0 {d : Nat} {Q : am_Q} {M : am_M} {v1 : Int} (h : am_ob sh_T 2 v1 ∧ am_cal pg d 13 [(2, v1)] sh_T M (am_cv sh_T fun M2 => am_cal pg d 81 [(2, 3), (2, v1 + 6), (0, 0)] sh_T M2 (am_cv sh_T fun M3 => am_cal pg d 94 [(2, 1)] sh_T M3 (am_cv sh_T fun M4 => am_g 3 0 co_X3_read d Q 25 [(2, 4), (2, v1), (0, 0)] [] sh_T M4)))) : am_g 3 0 co_X3_read d Q 0 [(2, 4), (2, v1), (3, 0)] [] sh_T M := by
  refine x_aload_n (by decide +kernel : am_at co_X3_read 0 = some (1, .aload_n 1)) rfl ?_
  obtain ⟨o0, h⟩ := h
  refine x_callV (n := 1) (by decide +kernel : am_at co_X3_read 1 = some (3, .invokevirtual 19)) pq_3_19 pm_X2_clear rfl rfl rfl o0 h (x_kv fun M2 h => ?_)
  refine x_aload_n (by decide +kernel : am_at co_X3_read 4 = some (1, .aload_n 0)) rfl ?_
  refine x_getF (by decide +kernel : am_at co_X3_read 5 = some (3, .getfield 15)) pq_3_15 (by decide) rfl ob_4 ?_
  refine x_top2 (show 4 + (-1) = 3 from rfl) ?_
  refine x_aload_n (by decide +kernel : am_at co_X3_read 8 = some (1, .aload_n 1)) rfl ?_
  refine x_getF (by decide +kernel : am_at co_X3_read 9 = some (3, .getfield 24)) pq_3_24 (by decide) rfl o0 ?_
  refine x_iconst (by decide +kernel : am_at co_X3_read 12 = some (1, .iconst 0)) ?_
  refine x_callV (n := 3) (by decide +kernel : am_at co_X3_read 13 = some (3, .invokevirtual 28)) pq_3_28 pm_X8_write rfl rfl rfl ob_3 h (x_kv fun M3 h => ?_)
  refine x_aload_n (by decide +kernel : am_at co_X3_read 16 = some (1, .aload_n 0)) rfl ?_
  refine x_getF (by decide +kernel : am_at co_X3_read 17 = some (3, .getfield 9)) pq_3_9 (by decide) rfl ob_4 ?_
  refine x_top2 (show 4 + (-3) = 1 from rfl) ?_
  refine x_callV (n := 1) (by decide +kernel : am_at co_X3_read 20 = some (3, .invokevirtual 34)) pq_3_34 pm_X9_start rfl rfl rfl ob_1 h (x_kv fun M4 h => ?_)
  refine x_iconst (by decide +kernel : am_at co_X3_read 23 = some (1, .iconst 0)) ?_
  refine x_istore_n (L' := [(2, 4), (2, v1), (0, 0)]) (by decide +kernel : am_at co_X3_read 24 = some (1, .istore_n 2)) rfl ?_
  exact am_weak (lk (lk (lk ln))) h
set_option maxRecDepth 20000 in
theorem bk_X3_read_25 {d : Nat} {Q : am_Q} {M : am_M} {v1 v2 : Int} (h : ((70 < v2 → am_cal pg d 95 [(2, 1)] sh_T M (am_c0 sh_T fun x2 M2 => ((x2 = 0 → Q (some (0, v2), sh_T, M2)) ∧ (¬ x2 = 0 → Q (some (0, (-1)), sh_T, M2))))) ∧ (v2 ≤ 70 → am_cal pg d 95 [(2, 1)] sh_T M (am_c0 sh_T fun x4 M4 => ((¬ x4 = 0 → am_cal pg d 95 [(2, 1)] sh_T M4 (am_c0 sh_T fun x6 M6 => ((x6 = 0 → Q (some (0, v2), sh_T, M6)) ∧ (¬ x6 = 0 → Q (some (0, (-1)), sh_T, M6))))) ∧ (x4 = 0 → am_cal pg d 98 [(2, 1)] sh_T M4 (am_c0 sh_T fun x8 M8 => ((x8 = (-1) → am_cal pg d 95 [(2, 1)] sh_T M8 (am_c0 sh_T fun x10 M10 => ((x10 = 0 → Q (some (0, v2), sh_T, M10)) ∧ (¬ x10 = 0 → Q (some (0, (-1)), sh_T, M10))))) ∧ (¬ x8 = (-1) → ((¬ v2 = 70 → am_cal pg d 38 [(2, 4), (2, v1)] sh_T M8 (am_cv sh_T fun M13 => am_cal pg d 101 [(2, 1), (0, 59)] sh_T M13 (am_cv sh_T fun M14 => am_r (v2 + 1) ∧ am_g 3 0 co_X3_read d Q 25 [(2, 4), (2, v1), (0, v2 + 1)] [] sh_T M14))) ∧ (v2 = 70 → am_cal pg d 97 [(2, 1), (0, 5)] sh_T M8 (am_cv sh_T fun M16 => am_r (v2 + 1) ∧ am_g 3 0 co_X3_read d Q 25 [(2, 4), (2, v1), (0, v2 + 1)] [] sh_T M16)))))))))))) : am_g 3 0 co_X3_read d Q 25 [(2, 4), (2, v1), (0, v2)] [] sh_T M := by
  refine x_iload_n (by decide +kernel : am_at co_X3_read 25 = some (1, .iload_n 2)) rfl ?_
  refine x_bipush (by decide +kernel : am_at co_X3_read 26 = some (2, .bipush 70)) ?_
  refine x_icmp (tgt := 89) (by decide +kernel : am_at co_X3_read 28 = some (3, .if_icmp .gt 61)) rfl Iff.rfl (fun c0 => ?_) (fun c0 => ?_)
  · have h := h.1 c0
    refine x_aload_n (by decide +kernel : am_at co_X3_read 89 = some (1, .aload_n 0)) rfl ?_
    refine x_getF (by decide +kernel : am_at co_X3_read 90 = some (3, .getfield 9)) pq_3_9 (by decide) rfl ob_4 ?_
    refine x_top2 (show 4 + (-3) = 1 from rfl) ?_
    refine x_callV (n := 1) (by decide +kernel : am_at co_X3_read 93 = some (3, .invokevirtual 39)) pq_3_39 pm_X9_failed rfl rfl rfl ob_1 h (x_k0 fun x2 M2 h => ?_)
    refine x_if (tgt := 103) (by decide +kernel : am_at co_X3_read 96 = some (3, .ifCond .eq 7)) rfl Iff.rfl (fun c2 => ?_) (fun c2 => ?_)
    · have h := h.1 c2
      refine x_iload_n (by decide +kernel : am_at co_X3_read 103 = some (1, .iload_n 2)) rfl ?_
      exact x_iret (by decide +kernel : am_at co_X3_read 104 = some (1, .ireturn)) h
    · have c2 := c2
      have h := h.2 c2
      refine x_iconst (by decide +kernel : am_at co_X3_read 99 = some (1, .iconst (-1))) ?_
      refine x_goto (tgt := 104) (by decide +kernel : am_at co_X3_read 100 = some (3, .goto 4)) rfl ?_
      exact x_iret (by decide +kernel : am_at co_X3_read 104 = some (1, .ireturn)) h
  · have c0 := (Int.not_lt.mp c0)
    have h := h.2 c0
    refine x_aload_n (by decide +kernel : am_at co_X3_read 31 = some (1, .aload_n 0)) rfl ?_
    refine x_getF (by decide +kernel : am_at co_X3_read 32 = some (3, .getfield 9)) pq_3_9 (by decide) rfl ob_4 ?_
    refine x_top2 (show 4 + (-3) = 1 from rfl) ?_
    refine x_callV (n := 1) (by decide +kernel : am_at co_X3_read 35 = some (3, .invokevirtual 39)) pq_3_39 pm_X9_failed rfl rfl rfl ob_1 h (x_k0 fun x4 M4 h => ?_)
    refine x_if (tgt := 89) (by decide +kernel : am_at co_X3_read 38 = some (3, .ifCond .ne 51)) rfl Iff.rfl (fun c4 => ?_) (fun c4 => ?_)
    · have h := h.1 c4
      refine x_aload_n (by decide +kernel : am_at co_X3_read 89 = some (1, .aload_n 0)) rfl ?_
      refine x_getF (by decide +kernel : am_at co_X3_read 90 = some (3, .getfield 9)) pq_3_9 (by decide) rfl ob_4 ?_
      refine x_top2 (show 4 + (-3) = 1 from rfl) ?_
      refine x_callV (n := 1) (by decide +kernel : am_at co_X3_read 93 = some (3, .invokevirtual 39)) pq_3_39 pm_X9_failed rfl rfl rfl ob_1 h (x_k0 fun x6 M6 h => ?_)
      refine x_if (tgt := 103) (by decide +kernel : am_at co_X3_read 96 = some (3, .ifCond .eq 7)) rfl Iff.rfl (fun c6 => ?_) (fun c6 => ?_)
      · have h := h.1 c6
        refine x_iload_n (by decide +kernel : am_at co_X3_read 103 = some (1, .iload_n 2)) rfl ?_
        exact x_iret (by decide +kernel : am_at co_X3_read 104 = some (1, .ireturn)) h
      · have c6 := c6
        have h := h.2 c6
        refine x_iconst (by decide +kernel : am_at co_X3_read 99 = some (1, .iconst (-1))) ?_
        refine x_goto (tgt := 104) (by decide +kernel : am_at co_X3_read 100 = some (3, .goto 4)) rfl ?_
        exact x_iret (by decide +kernel : am_at co_X3_read 104 = some (1, .ireturn)) h
    · have c4 := (Classical.not_not.mp c4)
      have h := h.2 c4
      refine x_aload_n (by decide +kernel : am_at co_X3_read 41 = some (1, .aload_n 0)) rfl ?_
      refine x_getF (by decide +kernel : am_at co_X3_read 42 = some (3, .getfield 9)) pq_3_9 (by decide) rfl ob_4 ?_
      refine x_top2 (show 4 + (-3) = 1 from rfl) ?_
      refine x_callV (n := 1) (by decide +kernel : am_at co_X3_read 45 = some (3, .invokevirtual 43)) pq_3_43 pm_X9_look rfl rfl rfl ob_1 h (x_k0 fun x8 M8 h => ?_)
      refine x_iconst (by decide +kernel : am_at co_X3_read 48 = some (1, .iconst (-1))) ?_
      refine x_icmp (tgt := 89) (by decide +kernel : am_at co_X3_read 49 = some (3, .if_icmp .eq 40)) rfl Iff.rfl (fun c8 => ?_) (fun c8 => ?_)
      · have h := h.1 c8
        refine x_aload_n (by decide +kernel : am_at co_X3_read 89 = some (1, .aload_n 0)) rfl ?_
        refine x_getF (by decide +kernel : am_at co_X3_read 90 = some (3, .getfield 9)) pq_3_9 (by decide) rfl ob_4 ?_
        refine x_top2 (show 4 + (-3) = 1 from rfl) ?_
        refine x_callV (n := 1) (by decide +kernel : am_at co_X3_read 93 = some (3, .invokevirtual 39)) pq_3_39 pm_X9_failed rfl rfl rfl ob_1 h (x_k0 fun x10 M10 h => ?_)
        refine x_if (tgt := 103) (by decide +kernel : am_at co_X3_read 96 = some (3, .ifCond .eq 7)) rfl Iff.rfl (fun c10 => ?_) (fun c10 => ?_)
        · have h := h.1 c10
          refine x_iload_n (by decide +kernel : am_at co_X3_read 103 = some (1, .iload_n 2)) rfl ?_
          exact x_iret (by decide +kernel : am_at co_X3_read 104 = some (1, .ireturn)) h
        · have c10 := c10
          have h := h.2 c10
          refine x_iconst (by decide +kernel : am_at co_X3_read 99 = some (1, .iconst (-1))) ?_
          refine x_goto (tgt := 104) (by decide +kernel : am_at co_X3_read 100 = some (3, .goto 4)) rfl ?_
          exact x_iret (by decide +kernel : am_at co_X3_read 104 = some (1, .ireturn)) h
      · have c8 := c8
        have h := h.2 c8
        refine x_iload_n (by decide +kernel : am_at co_X3_read 52 = some (1, .iload_n 2)) rfl ?_
        refine x_bipush (by decide +kernel : am_at co_X3_read 53 = some (2, .bipush 70)) ?_
        refine x_icmp (tgt := 69) (by decide +kernel : am_at co_X3_read 55 = some (3, .if_icmp .ne 14)) rfl Iff.rfl (fun c11 => ?_) (fun c11 => ?_)
        · have h := h.1 c11
          refine x_aload_n (by decide +kernel : am_at co_X3_read 69 = some (1, .aload_n 0)) rfl ?_
          refine x_aload_n (by decide +kernel : am_at co_X3_read 70 = some (1, .aload_n 1)) rfl ?_
          refine x_callV (n := 2) (by decide +kernel : am_at co_X3_read 71 = some (3, .invokevirtual 51)) pq_3_51 pm_X3_readStatement rfl rfl rfl ob_4 h (x_kv fun M13 h => ?_)
          refine x_aload_n (by decide +kernel : am_at co_X3_read 74 = some (1, .aload_n 0)) rfl ?_
          refine x_getF (by decide +kernel : am_at co_X3_read 75 = some (3, .getfield 9)) pq_3_9 (by decide) rfl ob_4 ?_
          refine x_top2 (show 4 + (-3) = 1 from rfl) ?_
          refine x_bipush (by decide +kernel : am_at co_X3_read 78 = some (2, .bipush 59)) ?_
          refine x_callV (n := 2) (by decide +kernel : am_at co_X3_read 80 = some (3, .invokevirtual 55)) pq_3_55 pm_X9_demand rfl rfl rfl ob_1 h (x_kv fun M14 h => ?_)
          obtain ⟨o14, h⟩ := h
          refine x_iinc (L' := [(2, 4), (2, v1), (0, v2 + 1)]) (by decide +kernel : am_at co_X3_read 83 = some (3, .iinc 2 1)) rfl o14 rfl ?_
          refine x_goto (tgt := 25) (by decide +kernel : am_at co_X3_read 86 = some (3, .goto (-61))) rfl ?_
          exact am_weak (lk (lk (lk ln))) h
        · have c11 := (Classical.not_not.mp c11)
          have h := h.2 c11
          refine x_aload_n (by decide +kernel : am_at co_X3_read 58 = some (1, .aload_n 0)) rfl ?_
          refine x_getF (by decide +kernel : am_at co_X3_read 59 = some (3, .getfield 9)) pq_3_9 (by decide) rfl ob_4 ?_
          refine x_top2 (show 4 + (-3) = 1 from rfl) ?_
          refine x_iconst (by decide +kernel : am_at co_X3_read 62 = some (1, .iconst 5)) ?_
          refine x_callV (n := 2) (by decide +kernel : am_at co_X3_read 63 = some (3, .invokevirtual 47)) pq_3_47 pm_X9_blameHere rfl rfl rfl ob_1 h (x_kv fun M16 h => ?_)
          refine x_goto (tgt := 83) (by decide +kernel : am_at co_X3_read 66 = some (3, .goto 17)) rfl ?_
          obtain ⟨o16, h⟩ := h
          refine x_iinc (L' := [(2, 4), (2, v1), (0, v2 + 1)]) (by decide +kernel : am_at co_X3_read 83 = some (3, .iinc 2 1)) rfl o16 rfl ?_
          refine x_goto (tgt := 25) (by decide +kernel : am_at co_X3_read 86 = some (3, .goto (-61))) rfl ?_
          exact am_weak (lk (lk (lk ln))) h
set_option maxRecDepth 20000 in
theorem bk_X3_readStatement_0 {d : Nat} {Q : am_Q} {M : am_M} {v1 : Int} (h : am_cal pg d 106 [(2, 1), (2, 1000000)] sh_T M (am_c0 sh_T fun x1 M1 => ((¬ x1 = (-1) → am_cal pg d 39 [(2, v1), (0, x1)] sh_T M1 (am_c0 sh_T fun x3 M3 => ((x3 = 0 → am_cal pg d 107 [(2, 1)] sh_T M3 (am_cv sh_T fun M5 => ((x1 < 0 ∨ 8 < x1 → am_cal pg d 111 [(2, 1), (0, 999)] sh_T M5 (am_c0 sh_T fun x6 M6 => am_ob sh_T 2 v1 ∧ Q (none, sh_T, (am_up M6 v1 7 x6)))) ∧ (x1 = 0 → am_cal pg d 44 [(2, 4), (2, v1), (0, 0)] sh_T M5 (am_c0 sh_T fun x8 M8 => Q (none, sh_T, M8))) ∧ (x1 = 1 → am_cal pg d 40 [(2, 4), (2, v1)] sh_T M5 (am_cv sh_T fun M9 => Q (none, sh_T, M9))) ∧ (x1 = 2 → am_cal pg d 41 [(2, 4), (2, v1)] sh_T M5 (am_cv sh_T fun M10 => Q (none, sh_T, M10))) ∧ (x1 = 3 → am_cal pg d 42 [(2, 4), (2, v1)] sh_T M5 (am_cv sh_T fun M11 => Q (none, sh_T, M11))) ∧ (x1 = 4 → am_cal pg d 43 [(2, 4), (2, v1), (0, 0)] sh_T M5 (am_cv sh_T fun M12 => Q (none, sh_T, M12))) ∧ (x1 = 5 → am_cal pg d 43 [(2, 4), (2, v1), (0, 1)] sh_T M5 (am_cv sh_T fun M13 => Q (none, sh_T, M13))) ∧ (x1 = 6 → am_cal pg d 43 [(2, 4), (2, v1), (0, 2)] sh_T M5 (am_cv sh_T fun M14 => Q (none, sh_T, M14))) ∧ (x1 = 7 → am_cal pg d 111 [(2, 1), (0, 9999)] sh_T M5 (am_c0 sh_T fun x15 M15 => am_ob sh_T 2 v1 ∧ Q (none, sh_T, (am_up M15 v1 5 x15)))) ∧ (x1 = 8 → am_cal pg d 111 [(2, 1), (0, 100)] sh_T M5 (am_c0 sh_T fun x17 M17 => am_ob sh_T 2 v1 ∧ Q (none, sh_T, (am_up M17 v1 6 x17))))))) ∧ (¬ x3 = 0 → am_cal pg d 97 [(2, 1), (0, 5)] sh_T M3 (am_cv sh_T fun M19 => Q (none, sh_T, M19)))))) ∧ (x1 = (-1) → am_cal pg d 97 [(2, 1), (0, 1)] sh_T M1 (am_cv sh_T fun M20 => Q (none, sh_T, M20)))))) : am_g 3 9 co_X3_readStatement d Q 0 [(2, 4), (2, v1), (3, 0)] [] sh_T M := by
  refine x_aload_n (by decide +kernel : am_at co_X3_readStatement 0 = some (1, .aload_n 0)) rfl ?_
  refine x_getF (by decide +kernel : am_at co_X3_readStatement 1 = some (3, .getfield 9)) pq_3_9 (by decide) rfl ob_4 ?_
  refine x_top2 (show 4 + (-3) = 1 from rfl) ?_
  refine x_ldcS (by decide +kernel : am_at co_X3_readStatement 4 = some (2, .ldc 59)) pq_3_59 ?_
  refine x_callV (n := 2) (by decide +kernel : am_at co_X3_readStatement 6 = some (3, .invokevirtual 61)) pq_3_61 pm_X9_wordIn rfl rfl rfl ob_1 h (x_k0 fun x1 M1 h => ?_)
  refine x_istore_n (L' := [(2, 4), (2, v1), (0, x1)]) (by decide +kernel : am_at co_X3_readStatement 9 = some (1, .istore_n 2)) rfl ?_
  refine x_iload_n (by decide +kernel : am_at co_X3_readStatement 10 = some (1, .iload_n 2)) rfl ?_
  refine x_iconst (by decide +kernel : am_at co_X3_readStatement 11 = some (1, .iconst (-1))) ?_
  refine x_icmp (tgt := 24) (by decide +kernel : am_at co_X3_readStatement 12 = some (3, .if_icmp .ne 12)) rfl Iff.rfl (fun c1 => ?_) (fun c1 => ?_)
  · have h := h.1 c1
    refine x_aload_n (by decide +kernel : am_at co_X3_readStatement 24 = some (1, .aload_n 1)) rfl ?_
    refine x_iload_n (by decide +kernel : am_at co_X3_readStatement 25 = some (1, .iload_n 2)) rfl ?_
    refine x_callS (n := 2) (by decide +kernel : am_at co_X3_readStatement 26 = some (3, .invokestatic 65)) pq_3_65 rfl rfl rfl h (x_k0 fun x3 M3 h => ?_)
    refine x_if (tgt := 41) (by decide +kernel : am_at co_X3_readStatement 29 = some (3, .ifCond .eq 12)) rfl Iff.rfl (fun c3 => ?_) (fun c3 => ?_)
    · have h := h.1 c3
      refine x_aload_n (by decide +kernel : am_at co_X3_readStatement 41 = some (1, .aload_n 0)) rfl ?_
      refine x_getF (by decide +kernel : am_at co_X3_readStatement 42 = some (3, .getfield 9)) pq_3_9 (by decide) rfl ob_4 ?_
      refine x_top2 (show 4 + (-3) = 1 from rfl) ?_
      refine x_callV (n := 1) (by decide +kernel : am_at co_X3_readStatement 45 = some (3, .invokevirtual 69)) pq_3_69 pm_X9_skipWord rfl rfl rfl ob_1 h (x_kv fun M5 h => ?_)
      refine x_iload_n (by decide +kernel : am_at co_X3_readStatement 48 = some (1, .iload_n 2)) rfl ?_
      refine x_tsw (by decide +kernel : am_at co_X3_readStatement 49 = some (51, .tableswitch 145 0 8 #[51, 61, 69, 77, 85, 94, 103, 112, 129])) (fun q => ?_) (fun q1 q2 => ?_)
      · have h := h.1 q
        refine x_aload_n (by decide +kernel : am_at co_X3_readStatement 194 = some (1, .aload_n 1)) rfl ?_
        refine x_aload_n (by decide +kernel : am_at co_X3_readStatement 195 = some (1, .aload_n 0)) rfl ?_
        refine x_getF (by decide +kernel : am_at co_X3_readStatement 196 = some (3, .getfield 9)) pq_3_9 (by decide) rfl ob_4 ?_
        refine x_top2 (show 4 + (-3) = 1 from rfl) ?_
        refine x_sipush (by decide +kernel : am_at co_X3_readStatement 199 = some (3, .sipush 999)) ?_
        refine x_callV (n := 2) (by decide +kernel : am_at co_X3_readStatement 202 = some (3, .invokevirtual 89)) pq_3_89 pm_X9_takeNumber rfl rfl rfl ob_1 h (x_k0 fun x6 M6 h => ?_)
        obtain ⟨o6, h⟩ := h
        refine x_putf0 (by decide +kernel : am_at co_X3_readStatement 205 = some (3, .putfield 100)) pq_3_100 rfl o6 ?_
        exact x_vret (by decide +kernel : am_at co_X3_readStatement 208 = some (1, .return_)) h
      · rcases (show x1 = 0 ∨ x1 = 1 ∨ x1 = 2 ∨ x1 = 3 ∨ x1 = 4 ∨ x1 = 5 ∨ x1 = 6 ∨ x1 = 7 ∨ x1 = 8 by omega) with q | q | q | q | q | q | q | q | q
        · refine ⟨51, by rw [q]; rfl, ?_⟩
          have h := h.2.1 q
          refine x_aload_n (by decide +kernel : am_at co_X3_readStatement 100 = some (1, .aload_n 0)) rfl ?_
          refine x_aload_n (by decide +kernel : am_at co_X3_readStatement 101 = some (1, .aload_n 1)) rfl ?_
          refine x_iconst (by decide +kernel : am_at co_X3_readStatement 102 = some (1, .iconst 0)) ?_
          refine x_callV (n := 3) (by decide +kernel : am_at co_X3_readStatement 103 = some (3, .invokevirtual 72)) pq_3_72 pm_X3_readNewName rfl rfl rfl ob_4 h (x_k0 fun x8 M8 h => ?_)
          refine x_pop0 (by decide +kernel : am_at co_X3_readStatement 106 = some (1, .pop)) ?_
          refine x_goto (tgt := 208) (by decide +kernel : am_at co_X3_readStatement 107 = some (3, .goto 101)) rfl ?_
          exact x_vret (by decide +kernel : am_at co_X3_readStatement 208 = some (1, .return_)) h
        · refine ⟨61, by rw [q]; rfl, ?_⟩
          have h := h.2.2.1 q
          refine x_aload_n (by decide +kernel : am_at co_X3_readStatement 110 = some (1, .aload_n 0)) rfl ?_
          refine x_aload_n (by decide +kernel : am_at co_X3_readStatement 111 = some (1, .aload_n 1)) rfl ?_
          refine x_callV (n := 2) (by decide +kernel : am_at co_X3_readStatement 112 = some (3, .invokevirtual 76)) pq_3_76 pm_X3_readDreamer rfl rfl rfl ob_4 h (x_kv fun M9 h => ?_)
          refine x_goto (tgt := 208) (by decide +kernel : am_at co_X3_readStatement 115 = some (3, .goto 93)) rfl ?_
          exact x_vret (by decide +kernel : am_at co_X3_readStatement 208 = some (1, .return_)) h
        · refine ⟨69, by rw [q]; rfl, ?_⟩
          have h := h.2.2.2.1 q
          refine x_aload_n (by decide +kernel : am_at co_X3_readStatement 118 = some (1, .aload_n 0)) rfl ?_
          refine x_aload_n (by decide +kernel : am_at co_X3_readStatement 119 = some (1, .aload_n 1)) rfl ?_
          refine x_callV (n := 2) (by decide +kernel : am_at co_X3_readStatement 120 = some (3, .invokevirtual 79)) pq_3_79 pm_X3_readFears rfl rfl rfl ob_4 h (x_kv fun M10 h => ?_)
          refine x_goto (tgt := 208) (by decide +kernel : am_at co_X3_readStatement 123 = some (3, .goto 85)) rfl ?_
          exact x_vret (by decide +kernel : am_at co_X3_readStatement 208 = some (1, .return_)) h
        · refine ⟨77, by rw [q]; rfl, ?_⟩
          have h := h.2.2.2.2.1 q
          refine x_aload_n (by decide +kernel : am_at co_X3_readStatement 126 = some (1, .aload_n 0)) rfl ?_
          refine x_aload_n (by decide +kernel : am_at co_X3_readStatement 127 = some (1, .aload_n 1)) rfl ?_
          refine x_callV (n := 2) (by decide +kernel : am_at co_X3_readStatement 128 = some (3, .invokevirtual 82)) pq_3_82 pm_X3_readGuide rfl rfl rfl ob_4 h (x_kv fun M11 h => ?_)
          refine x_goto (tgt := 208) (by decide +kernel : am_at co_X3_readStatement 131 = some (3, .goto 77)) rfl ?_
          exact x_vret (by decide +kernel : am_at co_X3_readStatement 208 = some (1, .return_)) h
        · refine ⟨85, by rw [q]; rfl, ?_⟩
          have h := h.2.2.2.2.2.1 q
          refine x_aload_n (by decide +kernel : am_at co_X3_readStatement 134 = some (1, .aload_n 0)) rfl ?_
          refine x_aload_n (by decide +kernel : am_at co_X3_readStatement 135 = some (1, .aload_n 1)) rfl ?_
          refine x_iconst (by decide +kernel : am_at co_X3_readStatement 136 = some (1, .iconst 0)) ?_
          refine x_callV (n := 3) (by decide +kernel : am_at co_X3_readStatement 137 = some (3, .invokevirtual 85)) pq_3_85 pm_X3_readSum rfl rfl rfl ob_4 h (x_kv fun M12 h => ?_)
          refine x_goto (tgt := 208) (by decide +kernel : am_at co_X3_readStatement 140 = some (3, .goto 68)) rfl ?_
          exact x_vret (by decide +kernel : am_at co_X3_readStatement 208 = some (1, .return_)) h
        · refine ⟨94, by rw [q]; rfl, ?_⟩
          have h := h.2.2.2.2.2.2.1 q
          refine x_aload_n (by decide +kernel : am_at co_X3_readStatement 143 = some (1, .aload_n 0)) rfl ?_
          refine x_aload_n (by decide +kernel : am_at co_X3_readStatement 144 = some (1, .aload_n 1)) rfl ?_
          refine x_iconst (by decide +kernel : am_at co_X3_readStatement 145 = some (1, .iconst 1)) ?_
          refine x_callV (n := 3) (by decide +kernel : am_at co_X3_readStatement 146 = some (3, .invokevirtual 85)) pq_3_85 pm_X3_readSum rfl rfl rfl ob_4 h (x_kv fun M13 h => ?_)
          refine x_goto (tgt := 208) (by decide +kernel : am_at co_X3_readStatement 149 = some (3, .goto 59)) rfl ?_
          exact x_vret (by decide +kernel : am_at co_X3_readStatement 208 = some (1, .return_)) h
        · refine ⟨103, by rw [q]; rfl, ?_⟩
          have h := h.2.2.2.2.2.2.2.1 q
          refine x_aload_n (by decide +kernel : am_at co_X3_readStatement 152 = some (1, .aload_n 0)) rfl ?_
          refine x_aload_n (by decide +kernel : am_at co_X3_readStatement 153 = some (1, .aload_n 1)) rfl ?_
          refine x_iconst (by decide +kernel : am_at co_X3_readStatement 154 = some (1, .iconst 2)) ?_
          refine x_callV (n := 3) (by decide +kernel : am_at co_X3_readStatement 155 = some (3, .invokevirtual 85)) pq_3_85 pm_X3_readSum rfl rfl rfl ob_4 h (x_kv fun M14 h => ?_)
          refine x_goto (tgt := 208) (by decide +kernel : am_at co_X3_readStatement 158 = some (3, .goto 50)) rfl ?_
          exact x_vret (by decide +kernel : am_at co_X3_readStatement 208 = some (1, .return_)) h
        · refine ⟨112, by rw [q]; rfl, ?_⟩
          have h := h.2.2.2.2.2.2.2.2.1 q
          refine x_aload_n (by decide +kernel : am_at co_X3_readStatement 161 = some (1, .aload_n 1)) rfl ?_
          refine x_aload_n (by decide +kernel : am_at co_X3_readStatement 162 = some (1, .aload_n 0)) rfl ?_
          refine x_getF (by decide +kernel : am_at co_X3_readStatement 163 = some (3, .getfield 9)) pq_3_9 (by decide) rfl ob_4 ?_
          refine x_top2 (show 4 + (-3) = 1 from rfl) ?_
          refine x_sipush (by decide +kernel : am_at co_X3_readStatement 166 = some (3, .sipush 9999)) ?_
          refine x_callV (n := 2) (by decide +kernel : am_at co_X3_readStatement 169 = some (3, .invokevirtual 89)) pq_3_89 pm_X9_takeNumber rfl rfl rfl ob_1 h (x_k0 fun x15 M15 h => ?_)
          obtain ⟨o15, h⟩ := h
          refine x_putf0 (by decide +kernel : am_at co_X3_readStatement 172 = some (3, .putfield 93)) pq_3_93 rfl o15 ?_
          refine x_goto (tgt := 208) (by decide +kernel : am_at co_X3_readStatement 175 = some (3, .goto 33)) rfl ?_
          exact x_vret (by decide +kernel : am_at co_X3_readStatement 208 = some (1, .return_)) h
        · refine ⟨129, by rw [q]; rfl, ?_⟩
          have h := h.2.2.2.2.2.2.2.2.2 q
          refine x_aload_n (by decide +kernel : am_at co_X3_readStatement 178 = some (1, .aload_n 1)) rfl ?_
          refine x_aload_n (by decide +kernel : am_at co_X3_readStatement 179 = some (1, .aload_n 0)) rfl ?_
          refine x_getF (by decide +kernel : am_at co_X3_readStatement 180 = some (3, .getfield 9)) pq_3_9 (by decide) rfl ob_4 ?_
          refine x_top2 (show 4 + (-3) = 1 from rfl) ?_
          refine x_bipush (by decide +kernel : am_at co_X3_readStatement 183 = some (2, .bipush 100)) ?_
          refine x_callV (n := 2) (by decide +kernel : am_at co_X3_readStatement 185 = some (3, .invokevirtual 89)) pq_3_89 pm_X9_takeNumber rfl rfl rfl ob_1 h (x_k0 fun x17 M17 h => ?_)
          obtain ⟨o17, h⟩ := h
          refine x_putf0 (by decide +kernel : am_at co_X3_readStatement 188 = some (3, .putfield 97)) pq_3_97 rfl o17 ?_
          refine x_goto (tgt := 208) (by decide +kernel : am_at co_X3_readStatement 191 = some (3, .goto 17)) rfl ?_
          exact x_vret (by decide +kernel : am_at co_X3_readStatement 208 = some (1, .return_)) h
    · have c3 := c3
      have h := h.2 c3
      refine x_aload_n (by decide +kernel : am_at co_X3_readStatement 32 = some (1, .aload_n 0)) rfl ?_
      refine x_getF (by decide +kernel : am_at co_X3_readStatement 33 = some (3, .getfield 9)) pq_3_9 (by decide) rfl ob_4 ?_
      refine x_top2 (show 4 + (-3) = 1 from rfl) ?_
      refine x_iconst (by decide +kernel : am_at co_X3_readStatement 36 = some (1, .iconst 5)) ?_
      refine x_callV (n := 2) (by decide +kernel : am_at co_X3_readStatement 37 = some (3, .invokevirtual 47)) pq_3_47 pm_X9_blameHere rfl rfl rfl ob_1 h (x_kv fun M19 h => ?_)
      exact x_vret (by decide +kernel : am_at co_X3_readStatement 40 = some (1, .return_)) h
  · have c1 := (Classical.not_not.mp c1)
    have h := h.2 c1
    refine x_aload_n (by decide +kernel : am_at co_X3_readStatement 15 = some (1, .aload_n 0)) rfl ?_
    refine x_getF (by decide +kernel : am_at co_X3_readStatement 16 = some (3, .getfield 9)) pq_3_9 (by decide) rfl ob_4 ?_
    refine x_top2 (show 4 + (-3) = 1 from rfl) ?_
    refine x_iconst (by decide +kernel : am_at co_X3_readStatement 19 = some (1, .iconst 1)) ?_
    refine x_callV (n := 2) (by decide +kernel : am_at co_X3_readStatement 20 = some (3, .invokevirtual 47)) pq_3_47 pm_X9_blameHere rfl rfl rfl ob_1 h (x_kv fun M20 h => ?_)
    exact x_vret (by decide +kernel : am_at co_X3_readStatement 23 = some (1, .return_)) h
set_option maxRecDepth 20000 in
theorem bk_X3_isOneTooMany_0 {d : Nat} {Q : am_Q} {M : am_M} {v0 v1 : Int} (h : ((v1 < 0 ∨ 6 < v1 → Q (some (0, 0), sh_T, M)) ∧ (v1 = 0 → am_ob sh_T 2 v0 ∧ am_cal pg d 16 [(2, v0), (0, 0)] sh_T M (am_c0 sh_T fun x2 M2 => (x2 = 0 ∨ x2 = 1) ∧ Q (some (0, x2), sh_T, M2))) ∧ (v1 = 1 → am_ob sh_T 2 v0 ∧ am_cal pg d 16 [(2, v0), (0, 1)] sh_T M (am_c0 sh_T fun x4 M4 => (x4 = 0 ∨ x4 = 1) ∧ Q (some (0, x4), sh_T, M4))) ∧ (v1 = 2 → Q (some (0, 0), sh_T, M)) ∧ (v1 = 3 → am_ob sh_T 2 v0 ∧ am_cal pg d 16 [(2, v0), (0, 2)] sh_T M (am_c0 sh_T fun x6 M6 => (x6 = 0 ∨ x6 = 1) ∧ Q (some (0, x6), sh_T, M6))) ∧ (v1 = 4 → am_ob sh_T 2 v0 ∧ am_cal pg d 24 [(2, v0), (0, 0)] sh_T M (am_c0 sh_T fun x8 M8 => (x8 = 0 ∨ x8 = 1) ∧ Q (some (0, x8), sh_T, M8))) ∧ (v1 = 5 → am_ob sh_T 2 v0 ∧ am_cal pg d 24 [(2, v0), (0, 1)] sh_T M (am_c0 sh_T fun x10 M10 => (x10 = 0 ∨ x10 = 1) ∧ Q (some (0, x10), sh_T, M10))) ∧ (v1 = 6 → am_ob sh_T 2 v0 ∧ am_cal pg d 24 [(2, v0), (0, 2)] sh_T M (am_c0 sh_T fun x12 M12 => (x12 = 0 ∨ x12 = 1) ∧ Q (some (0, x12), sh_T, M12))))) : am_g 3 5 co_X3_isOneTooMany d Q 0 [(2, v0), (0, v1)] [] sh_T M := by
  refine x_iload_n (by decide +kernel : am_at co_X3_isOneTooMany 0 = some (1, .iload_n 1)) rfl ?_
  refine x_tsw (by decide +kernel : am_at co_X3_isOneTooMany 1 = some (43, .tableswitch 79 0 6 #[43, 49, 79, 55, 61, 67, 73])) (fun q => ?_) (fun q1 q2 => ?_)
  · have h := h.1 q
    refine x_iconst (by decide +kernel : am_at co_X3_isOneTooMany 80 = some (1, .iconst 0)) ?_
    exact x_zret (by decide +kernel : am_at co_X3_isOneTooMany 81 = some (1, .ireturn)) (by decide) h
  · rcases (show v1 = 0 ∨ v1 = 1 ∨ v1 = 2 ∨ v1 = 3 ∨ v1 = 4 ∨ v1 = 5 ∨ v1 = 6 by omega) with q | q | q | q | q | q | q
    · refine ⟨43, by rw [q]; rfl, ?_⟩
      have h := h.2.1 q
      refine x_aload_n (by decide +kernel : am_at co_X3_isOneTooMany 44 = some (1, .aload_n 0)) rfl ?_
      refine x_iconst (by decide +kernel : am_at co_X3_isOneTooMany 45 = some (1, .iconst 0)) ?_
      obtain ⟨o0, h⟩ := h
      refine x_callV (n := 2) (by decide +kernel : am_at co_X3_isOneTooMany 46 = some (3, .invokevirtual 103)) pq_3_103 pm_X2_isFull rfl rfl rfl o0 h (x_k0 fun x2 M2 h => ?_)
      exact x_zret (by decide +kernel : am_at co_X3_isOneTooMany 49 = some (1, .ireturn)) h.1 h.2
    · refine ⟨49, by rw [q]; rfl, ?_⟩
      have h := h.2.2.1 q
      refine x_aload_n (by decide +kernel : am_at co_X3_isOneTooMany 50 = some (1, .aload_n 0)) rfl ?_
      refine x_iconst (by decide +kernel : am_at co_X3_isOneTooMany 51 = some (1, .iconst 1)) ?_
      obtain ⟨o2, h⟩ := h
      refine x_callV (n := 2) (by decide +kernel : am_at co_X3_isOneTooMany 52 = some (3, .invokevirtual 103)) pq_3_103 pm_X2_isFull rfl rfl rfl o2 h (x_k0 fun x4 M4 h => ?_)
      exact x_zret (by decide +kernel : am_at co_X3_isOneTooMany 55 = some (1, .ireturn)) h.1 h.2
    · refine ⟨79, by rw [q]; rfl, ?_⟩
      have h := h.2.2.2.1 q
      refine x_iconst (by decide +kernel : am_at co_X3_isOneTooMany 80 = some (1, .iconst 0)) ?_
      exact x_zret (by decide +kernel : am_at co_X3_isOneTooMany 81 = some (1, .ireturn)) (by decide) h
    · refine ⟨55, by rw [q]; rfl, ?_⟩
      have h := h.2.2.2.2.1 q
      refine x_aload_n (by decide +kernel : am_at co_X3_isOneTooMany 56 = some (1, .aload_n 0)) rfl ?_
      refine x_iconst (by decide +kernel : am_at co_X3_isOneTooMany 57 = some (1, .iconst 2)) ?_
      obtain ⟨o4, h⟩ := h
      refine x_callV (n := 2) (by decide +kernel : am_at co_X3_isOneTooMany 58 = some (3, .invokevirtual 103)) pq_3_103 pm_X2_isFull rfl rfl rfl o4 h (x_k0 fun x6 M6 h => ?_)
      exact x_zret (by decide +kernel : am_at co_X3_isOneTooMany 61 = some (1, .ireturn)) h.1 h.2
    · refine ⟨61, by rw [q]; rfl, ?_⟩
      have h := h.2.2.2.2.2.1 q
      refine x_aload_n (by decide +kernel : am_at co_X3_isOneTooMany 62 = some (1, .aload_n 0)) rfl ?_
      refine x_iconst (by decide +kernel : am_at co_X3_isOneTooMany 63 = some (1, .iconst 0)) ?_
      obtain ⟨o6, h⟩ := h
      refine x_callV (n := 2) (by decide +kernel : am_at co_X3_isOneTooMany 64 = some (3, .invokevirtual 107)) pq_3_107 pm_X2_hasSum rfl rfl rfl o6 h (x_k0 fun x8 M8 h => ?_)
      exact x_zret (by decide +kernel : am_at co_X3_isOneTooMany 67 = some (1, .ireturn)) h.1 h.2
    · refine ⟨67, by rw [q]; rfl, ?_⟩
      have h := h.2.2.2.2.2.2.1 q
      refine x_aload_n (by decide +kernel : am_at co_X3_isOneTooMany 68 = some (1, .aload_n 0)) rfl ?_
      refine x_iconst (by decide +kernel : am_at co_X3_isOneTooMany 69 = some (1, .iconst 1)) ?_
      obtain ⟨o8, h⟩ := h
      refine x_callV (n := 2) (by decide +kernel : am_at co_X3_isOneTooMany 70 = some (3, .invokevirtual 107)) pq_3_107 pm_X2_hasSum rfl rfl rfl o8 h (x_k0 fun x10 M10 h => ?_)
      exact x_zret (by decide +kernel : am_at co_X3_isOneTooMany 73 = some (1, .ireturn)) h.1 h.2
    · refine ⟨73, by rw [q]; rfl, ?_⟩
      have h := h.2.2.2.2.2.2.2 q
      refine x_aload_n (by decide +kernel : am_at co_X3_isOneTooMany 74 = some (1, .aload_n 0)) rfl ?_
      refine x_iconst (by decide +kernel : am_at co_X3_isOneTooMany 75 = some (1, .iconst 2)) ?_
      obtain ⟨o10, h⟩ := h
      refine x_callV (n := 2) (by decide +kernel : am_at co_X3_isOneTooMany 76 = some (3, .invokevirtual 107)) pq_3_107 pm_X2_hasSum rfl rfl rfl o10 h (x_k0 fun x12 M12 h => ?_)
      exact x_zret (by decide +kernel : am_at co_X3_isOneTooMany 79 = some (1, .ireturn)) h.1 h.2
set_option maxRecDepth 20000 in
theorem bk_X3_readDreamer_0 {d : Nat} {Q : am_Q} {M : am_M} {v1 : Int} (h : am_cal pg d 44 [(2, 4), (2, v1), (0, 1)] sh_T M (am_c0 sh_T fun x1 M1 => am_cal pg d 109 [(2, 1), (2, 1000001)] sh_T M1 (am_cv sh_T fun M2 => am_cal pg d 111 [(2, 1), (0, 9)] sh_T M2 (am_c0 sh_T fun x3 M3 => am_ob sh_T 2 v1 ∧ am_cal pg d 21 [(2, v1), (0, x1), (0, x3)] sh_T M3 (am_cv sh_T fun M5 => Q (none, sh_T, M5)))))) : am_g 3 9 co_X3_readDreamer d Q 0 [(2, 4), (2, v1), (3, 0)] [] sh_T M := by
  refine x_aload_n (by decide +kernel : am_at co_X3_readDreamer 0 = some (1, .aload_n 0)) rfl ?_
  refine x_aload_n (by decide +kernel : am_at co_X3_readDreamer 1 = some (1, .aload_n 1)) rfl ?_
  refine x_iconst (by decide +kernel : am_at co_X3_readDreamer 2 = some (1, .iconst 1)) ?_
  refine x_callV (n := 3) (by decide +kernel : am_at co_X3_readDreamer 3 = some (3, .invokevirtual 72)) pq_3_72 pm_X3_readNewName rfl rfl rfl ob_4 h (x_k0 fun x1 M1 h => ?_)
  refine x_istore_n (L' := [(2, 4), (2, v1), (0, x1)]) (by decide +kernel : am_at co_X3_readDreamer 6 = some (1, .istore_n 2)) rfl ?_
  refine x_aload_n (by decide +kernel : am_at co_X3_readDreamer 7 = some (1, .aload_n 0)) rfl ?_
  refine x_getF (by decide +kernel : am_at co_X3_readDreamer 8 = some (3, .getfield 9)) pq_3_9 (by decide) rfl ob_4 ?_
  refine x_top2 (show 4 + (-3) = 1 from rfl) ?_
  refine x_ldcS (by decide +kernel : am_at co_X3_readDreamer 11 = some (2, .ldc 110)) pq_3_110 ?_
  refine x_callV (n := 2) (by decide +kernel : am_at co_X3_readDreamer 13 = some (3, .invokevirtual 112)) pq_3_112 pm_X9_demandWord rfl rfl rfl ob_1 h (x_kv fun M2 h => ?_)
  refine x_aload_n (by decide +kernel : am_at co_X3_readDreamer 16 = some (1, .aload_n 1)) rfl ?_
  refine x_iload_n (by decide +kernel : am_at co_X3_readDreamer 17 = some (1, .iload_n 2)) rfl ?_
  refine x_aload_n (by decide +kernel : am_at co_X3_readDreamer 18 = some (1, .aload_n 0)) rfl ?_
  refine x_getF (by decide +kernel : am_at co_X3_readDreamer 19 = some (3, .getfield 9)) pq_3_9 (by decide) rfl ob_4 ?_
  refine x_top2 (show 4 + (-3) = 1 from rfl) ?_
  refine x_bipush (by decide +kernel : am_at co_X3_readDreamer 22 = some (2, .bipush 9)) ?_
  refine x_callV (n := 2) (by decide +kernel : am_at co_X3_readDreamer 24 = some (3, .invokevirtual 89)) pq_3_89 pm_X9_takeNumber rfl rfl rfl ob_1 h (x_k0 fun x3 M3 h => ?_)
  obtain ⟨o3, h⟩ := h
  refine x_callV (n := 3) (by decide +kernel : am_at co_X3_readDreamer 27 = some (3, .invokevirtual 116)) pq_3_116 pm_X2_brave rfl rfl rfl o3 h (x_kv fun M5 h => ?_)
  exact x_vret (by decide +kernel : am_at co_X3_readDreamer 30 = some (1, .return_)) h
set_option maxRecDepth 20000 in
theorem bk_X3_readFears_0 {d : Nat} {Q : am_Q} {M : am_M} {v1 : Int} (h : am_cal pg d 45 [(2, 4), (2, v1), (0, 1)] sh_T M (am_c0 sh_T fun x1 M1 => am_cal pg d 45 [(2, 4), (2, v1), (0, 0)] sh_T M1 (am_c0 sh_T fun x2 M2 => am_cal pg d 111 [(2, 1), (0, 999)] sh_T M2 (am_c0 sh_T fun x3 M3 => am_ob sh_T 2 v1 ∧ am_cal pg d 22 [(2, v1), (0, x1), (0, x2), (0, x3)] sh_T M3 (am_cv sh_T fun M5 => Q (none, sh_T, M5)))))) : am_g 3 9 co_X3_readFears d Q 0 [(2, 4), (2, v1), (3, 0), (3, 0)] [] sh_T M := by
  refine x_aload_n (by decide +kernel : am_at co_X3_readFears 0 = some (1, .aload_n 0)) rfl ?_
  refine x_aload_n (by decide +kernel : am_at co_X3_readFears 1 = some (1, .aload_n 1)) rfl ?_
  refine x_iconst (by decide +kernel : am_at co_X3_readFears 2 = some (1, .iconst 1)) ?_
  refine x_callV (n := 3) (by decide +kernel : am_at co_X3_readFears 3 = some (3, .invokevirtual 119)) pq_3_119 pm_X3_readKnownName rfl rfl rfl ob_4 h (x_k0 fun x1 M1 h => ?_)
  refine x_istore_n (L' := [(2, 4), (2, v1), (0, x1), (3, 0)]) (by decide +kernel : am_at co_X3_readFears 6 = some (1, .istore_n 2)) rfl ?_
  refine x_aload_n (by decide +kernel : am_at co_X3_readFears 7 = some (1, .aload_n 0)) rfl ?_
  refine x_aload_n (by decide +kernel : am_at co_X3_readFears 8 = some (1, .aload_n 1)) rfl ?_
  refine x_iconst (by decide +kernel : am_at co_X3_readFears 9 = some (1, .iconst 0)) ?_
  refine x_callV (n := 3) (by decide +kernel : am_at co_X3_readFears 10 = some (3, .invokevirtual 119)) pq_3_119 pm_X3_readKnownName rfl rfl rfl ob_4 h (x_k0 fun x2 M2 h => ?_)
  refine x_istore_n (L' := [(2, 4), (2, v1), (0, x1), (0, x2)]) (by decide +kernel : am_at co_X3_readFears 13 = some (1, .istore_n 3)) rfl ?_
  refine x_aload_n (by decide +kernel : am_at co_X3_readFears 14 = some (1, .aload_n 1)) rfl ?_
  refine x_iload_n (by decide +kernel : am_at co_X3_readFears 15 = some (1, .iload_n 2)) rfl ?_
  refine x_iload_n (by decide +kernel : am_at co_X3_readFears 16 = some (1, .iload_n 3)) rfl ?_
  refine x_aload_n (by decide +kernel : am_at co_X3_readFears 17 = some (1, .aload_n 0)) rfl ?_
  refine x_getF (by decide +kernel : am_at co_X3_readFears 18 = some (3, .getfield 9)) pq_3_9 (by decide) rfl ob_4 ?_
  refine x_top2 (show 4 + (-3) = 1 from rfl) ?_
  refine x_sipush (by decide +kernel : am_at co_X3_readFears 21 = some (3, .sipush 999)) ?_
  refine x_callV (n := 2) (by decide +kernel : am_at co_X3_readFears 24 = some (3, .invokevirtual 89)) pq_3_89 pm_X9_takeNumber rfl rfl rfl ob_1 h (x_k0 fun x3 M3 h => ?_)
  obtain ⟨o3, h⟩ := h
  refine x_callV (n := 4) (by decide +kernel : am_at co_X3_readFears 27 = some (3, .invokevirtual 122)) pq_3_122 pm_X2_fear rfl rfl rfl o3 h (x_kv fun M5 h => ?_)
  exact x_vret (by decide +kernel : am_at co_X3_readFears 30 = some (1, .return_)) h
set_option maxRecDepth 20000 in
theorem bk_X3_readGuide_0 {d : Nat} {Q : am_Q} {M : am_M} {v1 : Int} (h : am_cal pg d 44 [(2, 4), (2, v1), (0, 2)] sh_T M (am_c0 sh_T fun x1 M1 => am_cal pg d 109 [(2, 1), (2, 1000002)] sh_T M1 (am_cv sh_T fun M2 => am_cal pg d 45 [(2, 4), (2, v1), (0, 0)] sh_T M2 (am_c0 sh_T fun x3 M3 => am_ob sh_T 2 v1 ∧ am_cal pg d 23 [(2, v1), (0, x1), (0, x3)] sh_T M3 (am_cv sh_T fun M5 => Q (none, sh_T, M5)))))) : am_g 3 9 co_X3_readGuide d Q 0 [(2, 4), (2, v1), (3, 0)] [] sh_T M := by
  refine x_aload_n (by decide +kernel : am_at co_X3_readGuide 0 = some (1, .aload_n 0)) rfl ?_
  refine x_aload_n (by decide +kernel : am_at co_X3_readGuide 1 = some (1, .aload_n 1)) rfl ?_
  refine x_iconst (by decide +kernel : am_at co_X3_readGuide 2 = some (1, .iconst 2)) ?_
  refine x_callV (n := 3) (by decide +kernel : am_at co_X3_readGuide 3 = some (3, .invokevirtual 72)) pq_3_72 pm_X3_readNewName rfl rfl rfl ob_4 h (x_k0 fun x1 M1 h => ?_)
  refine x_istore_n (L' := [(2, 4), (2, v1), (0, x1)]) (by decide +kernel : am_at co_X3_readGuide 6 = some (1, .istore_n 2)) rfl ?_
  refine x_aload_n (by decide +kernel : am_at co_X3_readGuide 7 = some (1, .aload_n 0)) rfl ?_
  refine x_getF (by decide +kernel : am_at co_X3_readGuide 8 = some (3, .getfield 9)) pq_3_9 (by decide) rfl ob_4 ?_
  refine x_top2 (show 4 + (-3) = 1 from rfl) ?_
  refine x_ldcS (by decide +kernel : am_at co_X3_readGuide 11 = some (2, .ldc 126)) pq_3_126 ?_
  refine x_callV (n := 2) (by decide +kernel : am_at co_X3_readGuide 13 = some (3, .invokevirtual 112)) pq_3_112 pm_X9_demandWord rfl rfl rfl ob_1 h (x_kv fun M2 h => ?_)
  refine x_aload_n (by decide +kernel : am_at co_X3_readGuide 16 = some (1, .aload_n 1)) rfl ?_
  refine x_iload_n (by decide +kernel : am_at co_X3_readGuide 17 = some (1, .iload_n 2)) rfl ?_
  refine x_aload_n (by decide +kernel : am_at co_X3_readGuide 18 = some (1, .aload_n 0)) rfl ?_
  refine x_aload_n (by decide +kernel : am_at co_X3_readGuide 19 = some (1, .aload_n 1)) rfl ?_
  refine x_iconst (by decide +kernel : am_at co_X3_readGuide 20 = some (1, .iconst 0)) ?_
  refine x_callV (n := 3) (by decide +kernel : am_at co_X3_readGuide 21 = some (3, .invokevirtual 119)) pq_3_119 pm_X3_readKnownName rfl rfl rfl ob_4 h (x_k0 fun x3 M3 h => ?_)
  obtain ⟨o3, h⟩ := h
  refine x_callV (n := 3) (by decide +kernel : am_at co_X3_readGuide 24 = some (3, .invokevirtual 128)) pq_3_128 pm_X2_lead rfl rfl rfl o3 h (x_kv fun M5 h => ?_)
  exact x_vret (by decide +kernel : am_at co_X3_readGuide 27 = some (1, .return_)) h
set_option maxRecDepth 20000 in
theorem bk_X3_readSum_0 {d : Nat} {Q : am_Q} {M : am_M} {v1 v2 : Int} (h : am_ob sh_T 2 v1 ∧ am_ob sh_T 6 (v1 + 6) ∧ am_cal pg d 84 [(2, 3), (0, 0)] sh_T M (am_cv sh_T fun M3 => am_cal pg d 25 [(2, v1), (0, v2), (0, M (v1 + 6) 1)] sh_T M3 (am_cv sh_T fun M4 => Q (none, sh_T, M4)))) : am_g 3 9 co_X3_readSum d Q 0 [(2, 4), (2, v1), (0, v2), (3, 0)] [] sh_T M := by
  refine x_aload_n (by decide +kernel : am_at co_X3_readSum 0 = some (1, .aload_n 1)) rfl ?_
  obtain ⟨o0, h⟩ := h
  refine x_getF (by decide +kernel : am_at co_X3_readSum 1 = some (3, .getfield 24)) pq_3_24 (by decide) rfl o0 ?_
  obtain ⟨o1, h⟩ := h
  refine x_getf (by decide +kernel : am_at co_X3_readSum 4 = some (3, .getfield 131)) pq_3_131 rfl o1 ?_
  refine x_istore_n (L' := [(2, 4), (2, v1), (0, v2), (0, M (v1 + 6) 1)]) (by decide +kernel : am_at co_X3_readSum 7 = some (1, .istore_n 3)) rfl ?_
  refine x_aload_n (by decide +kernel : am_at co_X3_readSum 8 = some (1, .aload_n 0)) rfl ?_
  refine x_getF (by decide +kernel : am_at co_X3_readSum 9 = some (3, .getfield 15)) pq_3_15 (by decide) rfl ob_4 ?_
  refine x_top2 (show 4 + (-1) = 3 from rfl) ?_
  refine x_iconst (by decide +kernel : am_at co_X3_readSum 12 = some (1, .iconst 0)) ?_
  refine x_callV (n := 2) (by decide +kernel : am_at co_X3_readSum 13 = some (3, .invokevirtual 136)) pq_3_136 pm_X8_readSum rfl rfl rfl ob_3 h (x_kv fun M3 h => ?_)
  refine x_aload_n (by decide +kernel : am_at co_X3_readSum 16 = some (1, .aload_n 1)) rfl ?_
  refine x_iload_n (by decide +kernel : am_at co_X3_readSum 17 = some (1, .iload_n 2)) rfl ?_
  refine x_iload_n (by decide +kernel : am_at co_X3_readSum 18 = some (1, .iload_n 3)) rfl ?_
  refine x_callV (n := 3) (by decide +kernel : am_at co_X3_readSum 19 = some (3, .invokevirtual 138)) pq_3_138 pm_X2_markSum rfl rfl rfl o0 h (x_kv fun M4 h => ?_)
  exact x_vret (by decide +kernel : am_at co_X3_readSum 22 = some (1, .return_)) h
set_option maxRecDepth 20000 in
theorem bk_X3_readNewName_0 {d : Nat} {Q : am_Q} {M : am_M} {v1 v2 : Int} (h : am_cal pg d 95 [(2, 1)] sh_T M (am_c0 sh_T fun x1 M1 => ((¬ x1 = 0 → Q (some (0, (-1)), sh_T, M1)) ∧ (x1 = 0 → am_cal pg d 110 [(2, 1)] sh_T M1 (am_c0 sh_T fun x3 M3 => ((¬ x3 = 0 → am_g 3 0 co_X3_readNewName d Q 24 [(2, 4), (2, v1), (0, v2), (0, 0)] [] sh_T M3) ∧ (x3 = 0 → Q (some (0, (-1)), sh_T, M3)))))))) : am_g 3 0 co_X3_readNewName d Q 0 [(2, 4), (2, v1), (0, v2), (3, 0)] [] sh_T M := by
  refine x_aload_n (by decide +kernel : am_at co_X3_readNewName 0 = some (1, .aload_n 0)) rfl ?_
  refine x_getF (by decide +kernel : am_at co_X3_readNewName 1 = some (3, .getfield 9)) pq_3_9 (by decide) rfl ob_4 ?_
  refine x_top2 (show 4 + (-3) = 1 from rfl) ?_
  refine x_callV (n := 1) (by decide +kernel : am_at co_X3_readNewName 4 = some (3, .invokevirtual 39)) pq_3_39 pm_X9_failed rfl rfl rfl ob_1 h (x_k0 fun x1 M1 h => ?_)
  refine x_if (tgt := 20) (by decide +kernel : am_at co_X3_readNewName 7 = some (3, .ifCond .ne 13)) rfl Iff.rfl (fun c1 => ?_) (fun c1 => ?_)
  · have h := h.1 c1
    refine x_iconst (by decide +kernel : am_at co_X3_readNewName 20 = some (1, .iconst (-1))) ?_
    exact x_iret (by decide +kernel : am_at co_X3_readNewName 21 = some (1, .ireturn)) h
  · have c1 := (Classical.not_not.mp c1)
    have h := h.2 c1
    refine x_aload_n (by decide +kernel : am_at co_X3_readNewName 10 = some (1, .aload_n 0)) rfl ?_
    refine x_getF (by decide +kernel : am_at co_X3_readNewName 11 = some (3, .getfield 9)) pq_3_9 (by decide) rfl ob_4 ?_
    refine x_top2 (show 4 + (-3) = 1 from rfl) ?_
    refine x_callV (n := 1) (by decide +kernel : am_at co_X3_readNewName 14 = some (3, .invokevirtual 141)) pq_3_141 pm_X9_takeName rfl rfl rfl ob_1 h (x_k0 fun x3 M3 h => ?_)
    refine x_if (tgt := 22) (by decide +kernel : am_at co_X3_readNewName 17 = some (3, .ifCond .ne 5)) rfl Iff.rfl (fun c3 => ?_) (fun c3 => ?_)
    · have h := h.1 c3
      refine x_iconst (by decide +kernel : am_at co_X3_readNewName 22 = some (1, .iconst 0)) ?_
      refine x_istore_n (L' := [(2, 4), (2, v1), (0, v2), (0, 0)]) (by decide +kernel : am_at co_X3_readNewName 23 = some (1, .istore_n 3)) rfl ?_
      exact am_weak (lk (lk (lk (lk ln)))) h
    · have c3 := (Classical.not_not.mp c3)
      have h := h.2 c3
      refine x_iconst (by decide +kernel : am_at co_X3_readNewName 20 = some (1, .iconst (-1))) ?_
      exact x_iret (by decide +kernel : am_at co_X3_readNewName 21 = some (1, .ireturn)) h
set_option maxRecDepth 20000 in
theorem bk_X3_readNewName_24 {d : Nat} {Q : am_Q} {M : am_M} {v1 v2 v3 : Int} (h : ((3 ≤ v3 → am_cal pg d 95 [(2, 1)] sh_T M (am_c0 sh_T fun x2 M2 => ((x2 = 0 → am_ob sh_T 2 v1 ∧ am_cal pg d 19 [(2, v1), (0, v2), (2, 1)] sh_T M2 (am_c0 sh_T fun x5 M5 => Q (some (0, x5), sh_T, M5))) ∧ (¬ x2 = 0 → Q (some (0, (-1)), sh_T, M2))))) ∧ (v3 < 3 → am_ob sh_T 2 v1 ∧ am_cal pg d 20 [(2, v1), (0, v3), (2, 1)] sh_T M (am_c0 sh_T fun x7 M7 => ((x7 = (-1) → am_r (v3 + 1) ∧ am_g 3 0 co_X3_readNewName d Q 24 [(2, 4), (2, v1), (0, v2), (0, v3 + 1)] [] sh_T M7) ∧ (¬ x7 = (-1) → am_cal pg d 96 [(2, 1), (0, 3), (0, M7 1 6)] sh_T M7 (am_cv sh_T fun M10 => am_r (v3 + 1) ∧ am_g 3 0 co_X3_readNewName d Q 24 [(2, 4), (2, v1), (0, v2), (0, v3 + 1)] [] sh_T M10))))))) : am_g 3 0 co_X3_readNewName d Q 24 [(2, 4), (2, v1), (0, v2), (0, v3)] [] sh_T M := by
  refine x_iload_n (by decide +kernel : am_at co_X3_readNewName 24 = some (1, .iload_n 3)) rfl ?_
  refine x_iconst (by decide +kernel : am_at co_X3_readNewName 25 = some (1, .iconst 3)) ?_
  refine x_icmp (tgt := 63) (by decide +kernel : am_at co_X3_readNewName 26 = some (3, .if_icmp .ge 37)) rfl Iff.rfl (fun c0 => ?_) (fun c0 => ?_)
  · have h := h.1 c0
    refine x_aload_n (by decide +kernel : am_at co_X3_readNewName 63 = some (1, .aload_n 0)) rfl ?_
    refine x_getF (by decide +kernel : am_at co_X3_readNewName 64 = some (3, .getfield 9)) pq_3_9 (by decide) rfl ob_4 ?_
    refine x_top2 (show 4 + (-3) = 1 from rfl) ?_
    refine x_callV (n := 1) (by decide +kernel : am_at co_X3_readNewName 67 = some (3, .invokevirtual 39)) pq_3_39 pm_X9_failed rfl rfl rfl ob_1 h (x_k0 fun x2 M2 h => ?_)
    refine x_if (tgt := 77) (by decide +kernel : am_at co_X3_readNewName 70 = some (3, .ifCond .eq 7)) rfl Iff.rfl (fun c2 => ?_) (fun c2 => ?_)
    · have h := h.1 c2
      refine x_aload_n (by decide +kernel : am_at co_X3_readNewName 77 = some (1, .aload_n 1)) rfl ?_
      refine x_iload_n (by decide +kernel : am_at co_X3_readNewName 78 = some (1, .iload_n 2)) rfl ?_
      refine x_aload_n (by decide +kernel : am_at co_X3_readNewName 79 = some (1, .aload_n 0)) rfl ?_
      refine x_getF (by decide +kernel : am_at co_X3_readNewName 80 = some (3, .getfield 9)) pq_3_9 (by decide) rfl ob_4 ?_
      refine x_top2 (show 4 + (-3) = 1 from rfl) ?_
      obtain ⟨o3, h⟩ := h
      refine x_callV (n := 3) (by decide +kernel : am_at co_X3_readNewName 83 = some (3, .invokevirtual 154)) pq_3_154 pm_X2_giveName rfl rfl rfl o3 h (x_k0 fun x5 M5 h => ?_)
      exact x_iret (by decide +kernel : am_at co_X3_readNewName 86 = some (1, .ireturn)) h
    · have c2 := c2
      have h := h.2 c2
      refine x_iconst (by decide +kernel : am_at co_X3_readNewName 73 = some (1, .iconst (-1))) ?_
      refine x_goto (tgt := 86) (by decide +kernel : am_at co_X3_readNewName 74 = some (3, .goto 12)) rfl ?_
      exact x_iret (by decide +kernel : am_at co_X3_readNewName 86 = some (1, .ireturn)) h
  · have c0 := (Int.not_le.mp c0)
    have h := h.2 c0
    refine x_aload_n (by decide +kernel : am_at co_X3_readNewName 29 = some (1, .aload_n 1)) rfl ?_
    refine x_iload_n (by decide +kernel : am_at co_X3_readNewName 30 = some (1, .iload_n 3)) rfl ?_
    refine x_aload_n (by decide +kernel : am_at co_X3_readNewName 31 = some (1, .aload_n 0)) rfl ?_
    refine x_getF (by decide +kernel : am_at co_X3_readNewName 32 = some (3, .getfield 9)) pq_3_9 (by decide) rfl ob_4 ?_
    refine x_top2 (show 4 + (-3) = 1 from rfl) ?_
    obtain ⟨o5, h⟩ := h
    refine x_callV (n := 3) (by decide +kernel : am_at co_X3_readNewName 35 = some (3, .invokevirtual 144)) pq_3_144 pm_X2_findName rfl rfl rfl o5 h (x_k0 fun x7 M7 h => ?_)
    refine x_iconst (by decide +kernel : am_at co_X3_readNewName 38 = some (1, .iconst (-1))) ?_
    refine x_icmp (tgt := 57) (by decide +kernel : am_at co_X3_readNewName 39 = some (3, .if_icmp .eq 18)) rfl Iff.rfl (fun c7 => ?_) (fun c7 => ?_)
    · have h := h.1 c7
      obtain ⟨o8, h⟩ := h
      refine x_iinc (L' := [(2, 4), (2, v1), (0, v2), (0, v3 + 1)]) (by decide +kernel : am_at co_X3_readNewName 57 = some (3, .iinc 3 1)) rfl o8 rfl ?_
      refine x_goto (tgt := 24) (by decide +kernel : am_at co_X3_readNewName 60 = some (3, .goto (-36))) rfl ?_
      exact am_weak (lk (lk (lk (lk ln)))) h
    · have c7 := c7
      have h := h.2 c7
      refine x_aload_n (by decide +kernel : am_at co_X3_readNewName 42 = some (1, .aload_n 0)) rfl ?_
      refine x_getF (by decide +kernel : am_at co_X3_readNewName 43 = some (3, .getfield 9)) pq_3_9 (by decide) rfl ob_4 ?_
      refine x_top2 (show 4 + (-3) = 1 from rfl) ?_
      refine x_iconst (by decide +kernel : am_at co_X3_readNewName 46 = some (1, .iconst 3)) ?_
      refine x_aload_n (by decide +kernel : am_at co_X3_readNewName 47 = some (1, .aload_n 0)) rfl ?_
      refine x_getF (by decide +kernel : am_at co_X3_readNewName 48 = some (3, .getfield 9)) pq_3_9 (by decide) rfl ob_4 ?_
      refine x_top2 (show 4 + (-3) = 1 from rfl) ?_
      refine x_getf (by decide +kernel : am_at co_X3_readNewName 51 = some (3, .getfield 148)) pq_3_148 rfl ob_1 ?_
      refine x_callV (n := 3) (by decide +kernel : am_at co_X3_readNewName 54 = some (3, .invokevirtual 151)) pq_3_151 pm_X9_blame rfl rfl rfl ob_1 h (x_kv fun M10 h => ?_)
      obtain ⟨o10, h⟩ := h
      refine x_iinc (L' := [(2, 4), (2, v1), (0, v2), (0, v3 + 1)]) (by decide +kernel : am_at co_X3_readNewName 57 = some (3, .iinc 3 1)) rfl o10 rfl ?_
      refine x_goto (tgt := 24) (by decide +kernel : am_at co_X3_readNewName 60 = some (3, .goto (-36))) rfl ?_
      exact am_weak (lk (lk (lk (lk ln)))) h
set_option maxRecDepth 20000 in
theorem bk_X3_readKnownName_0 {d : Nat} {Q : am_Q} {M : am_M} {v1 v2 : Int} (h : am_cal pg d 95 [(2, 1)] sh_T M (am_c0 sh_T fun x1 M1 => ((¬ x1 = 0 → Q (some (0, (-1)), sh_T, M1)) ∧ (x1 = 0 → am_cal pg d 110 [(2, 1)] sh_T M1 (am_c0 sh_T fun x3 M3 => ((¬ x3 = 0 → am_ob sh_T 2 v1 ∧ am_cal pg d 20 [(2, v1), (0, v2), (2, 1)] sh_T M3 (am_c0 sh_T fun x6 M6 => ((¬ x6 = (-1) → Q (some (0, x6), sh_T, M6)) ∧ (x6 = (-1) → am_cal pg d 96 [(2, 1), (0, 3), (0, M6 1 6)] sh_T M6 (am_cv sh_T fun M8 => Q (some (0, x6), sh_T, M8)))))) ∧ (x3 = 0 → Q (some (0, (-1)), sh_T, M3)))))))) : am_g 3 0 co_X3_readKnownName d Q 0 [(2, 4), (2, v1), (0, v2), (3, 0)] [] sh_T M := by
  refine x_aload_n (by decide +kernel : am_at co_X3_readKnownName 0 = some (1, .aload_n 0)) rfl ?_
  refine x_getF (by decide +kernel : am_at co_X3_readKnownName 1 = some (3, .getfield 9)) pq_3_9 (by decide) rfl ob_4 ?_
  refine x_top2 (show 4 + (-3) = 1 from rfl) ?_
  refine x_callV (n := 1) (by decide +kernel : am_at co_X3_readKnownName 4 = some (3, .invokevirtual 39)) pq_3_39 pm_X9_failed rfl rfl rfl ob_1 h (x_k0 fun x1 M1 h => ?_)
  refine x_if (tgt := 20) (by decide +kernel : am_at co_X3_readKnownName 7 = some (3, .ifCond .ne 13)) rfl Iff.rfl (fun c1 => ?_) (fun c1 => ?_)
  · have h := h.1 c1
    refine x_iconst (by decide +kernel : am_at co_X3_readKnownName 20 = some (1, .iconst (-1))) ?_
    exact x_iret (by decide +kernel : am_at co_X3_readKnownName 21 = some (1, .ireturn)) h
  · have c1 := (Classical.not_not.mp c1)
    have h := h.2 c1
    refine x_aload_n (by decide +kernel : am_at co_X3_readKnownName 10 = some (1, .aload_n 0)) rfl ?_
    refine x_getF (by decide +kernel : am_at co_X3_readKnownName 11 = some (3, .getfield 9)) pq_3_9 (by decide) rfl ob_4 ?_
    refine x_top2 (show 4 + (-3) = 1 from rfl) ?_
    refine x_callV (n := 1) (by decide +kernel : am_at co_X3_readKnownName 14 = some (3, .invokevirtual 141)) pq_3_141 pm_X9_takeName rfl rfl rfl ob_1 h (x_k0 fun x3 M3 h => ?_)
    refine x_if (tgt := 22) (by decide +kernel : am_at co_X3_readKnownName 17 = some (3, .ifCond .ne 5)) rfl Iff.rfl (fun c3 => ?_) (fun c3 => ?_)
    · have h := h.1 c3
      refine x_aload_n (by decide +kernel : am_at co_X3_readKnownName 22 = some (1, .aload_n 1)) rfl ?_
      refine x_iload_n (by decide +kernel : am_at co_X3_readKnownName 23 = some (1, .iload_n 2)) rfl ?_
      refine x_aload_n (by decide +kernel : am_at co_X3_readKnownName 24 = some (1, .aload_n 0)) rfl ?_
      refine x_getF (by decide +kernel : am_at co_X3_readKnownName 25 = some (3, .getfield 9)) pq_3_9 (by decide) rfl ob_4 ?_
      refine x_top2 (show 4 + (-3) = 1 from rfl) ?_
      obtain ⟨o4, h⟩ := h
      refine x_callV (n := 3) (by decide +kernel : am_at co_X3_readKnownName 28 = some (3, .invokevirtual 144)) pq_3_144 pm_X2_findName rfl rfl rfl o4 h (x_k0 fun x6 M6 h => ?_)
      refine x_istore_n (L' := [(2, 4), (2, v1), (0, v2), (0, x6)]) (by decide +kernel : am_at co_X3_readKnownName 31 = some (1, .istore_n 3)) rfl ?_
      refine x_iload_n (by decide +kernel : am_at co_X3_readKnownName 32 = some (1, .iload_n 3)) rfl ?_
      refine x_iconst (by decide +kernel : am_at co_X3_readKnownName 33 = some (1, .iconst (-1))) ?_
      refine x_icmp (tgt := 52) (by decide +kernel : am_at co_X3_readKnownName 34 = some (3, .if_icmp .ne 18)) rfl Iff.rfl (fun c6 => ?_) (fun c6 => ?_)
      · have h := h.1 c6
        refine x_iload_n (by decide +kernel : am_at co_X3_readKnownName 52 = some (1, .iload_n 3)) rfl ?_
        exact x_iret (by decide +kernel : am_at co_X3_readKnownName 53 = some (1, .ireturn)) h
      · have c6 := (Classical.not_not.mp c6)
        have h := h.2 c6
        refine x_aload_n (by decide +kernel : am_at co_X3_readKnownName 37 = some (1, .aload_n 0)) rfl ?_
        refine x_getF (by decide +kernel : am_at co_X3_readKnownName 38 = some (3, .getfield 9)) pq_3_9 (by decide) rfl ob_4 ?_
        refine x_top2 (show 4 + (-3) = 1 from rfl) ?_
        refine x_iconst (by decide +kernel : am_at co_X3_readKnownName 41 = some (1, .iconst 3)) ?_
        refine x_aload_n (by decide +kernel : am_at co_X3_readKnownName 42 = some (1, .aload_n 0)) rfl ?_
        refine x_getF (by decide +kernel : am_at co_X3_readKnownName 43 = some (3, .getfield 9)) pq_3_9 (by decide) rfl ob_4 ?_
        refine x_top2 (show 4 + (-3) = 1 from rfl) ?_
        refine x_getf (by decide +kernel : am_at co_X3_readKnownName 46 = some (3, .getfield 148)) pq_3_148 rfl ob_1 ?_
        refine x_callV (n := 3) (by decide +kernel : am_at co_X3_readKnownName 49 = some (3, .invokevirtual 151)) pq_3_151 pm_X9_blame rfl rfl rfl ob_1 h (x_kv fun M8 h => ?_)
        refine x_iload_n (by decide +kernel : am_at co_X3_readKnownName 52 = some (1, .iload_n 3)) rfl ?_
        exact x_iret (by decide +kernel : am_at co_X3_readKnownName 53 = some (1, .ireturn)) h
    · have c3 := (Classical.not_not.mp c3)
      have h := h.2 c3
      refine x_iconst (by decide +kernel : am_at co_X3_readKnownName 20 = some (1, .iconst (-1))) ?_
      exact x_iret (by decide +kernel : am_at co_X3_readKnownName 21 = some (1, .ireturn)) h
set_option maxRecDepth 20000 in
theorem bk_X4_canBeHome_0 {d : Nat} {Q : am_Q} {M : am_M} {v1 v2 v3 : Int} (h : am_cal pg d 71 [(2, 130), (2, v2)] sh_T M (am_cv sh_T fun M1 => am_cal pg d 48 [(2, 128), (2, v1), (0, 0), (0, v3)] sh_T M1 (am_c0 sh_T fun x2 M2 => (x2 = 0 ∨ x2 = 1) ∧ Q (some (0, x2), sh_T, M2)))) : am_g 4 5 co_X4_canBeHome d Q 0 [(2, 128), (2, v1), (2, v2), (0, v3)] [] sh_T M := by
  refine x_aload_n (by decide +kernel : am_at co_X4_canBeHome 0 = some (1, .aload_n 0)) rfl ?_
  refine x_getF (by decide +kernel : am_at co_X4_canBeHome 1 = some (3, .getfield 13)) pq_4_13 (by decide) rfl ob_128 ?_
  refine x_top2 (show 128 + 1 = 129 from rfl) ?_
  refine x_iconst (by decide +kernel : am_at co_X4_canBeHome 4 = some (1, .iconst 0)) ?_
  refine x_aald (by decide +kernel : am_at co_X4_canBeHome 5 = some (1, .aaload)) (ia_129 (by decide) (by decide)) ?_
  refine x_top2 (show 129 + 1 + 2 * 0 = 130 from rfl) ?_
  refine x_aload_n (by decide +kernel : am_at co_X4_canBeHome 6 = some (1, .aload_n 2)) rfl ?_
  refine x_callV (n := 2) (by decide +kernel : am_at co_X4_canBeHome 7 = some (3, .invokevirtual 29)) pq_4_29 pm_X7_copy rfl rfl rfl ob_130 h (x_kv fun M1 h => ?_)
  refine x_aload_n (by decide +kernel : am_at co_X4_canBeHome 10 = some (1, .aload_n 0)) rfl ?_
  refine x_aload_n (by decide +kernel : am_at co_X4_canBeHome 11 = some (1, .aload_n 1)) rfl ?_
  refine x_iconst (by decide +kernel : am_at co_X4_canBeHome 12 = some (1, .iconst 0)) ?_
  refine x_iload_n (by decide +kernel : am_at co_X4_canBeHome 13 = some (1, .iload_n 3)) rfl ?_
  refine x_callV (n := 4) (by decide +kernel : am_at co_X4_canBeHome 14 = some (3, .invokevirtual 33)) pq_4_33 pm_X4_escapes rfl rfl rfl ob_128 h (x_k0 fun x2 M2 h => ?_)
  exact x_zret (by decide +kernel : am_at co_X4_canBeHome 17 = some (1, .ireturn)) h.1 h.2
set_option maxRecDepth 20000 in
theorem bk_X4_escapes_0 {d : Nat} {Q : am_Q} {M : am_M} {v1 v2 v3 : Int} (h : ((v2 < 0 → Q (some (0, 0), sh_T, M)) ∧ (0 ≤ v2 → ((v2 < 4 → (0 ≤ v2 ∧ v2 < 4) ∧ am_ob sh_T 2 v1 ∧ am_cal pg d 31 [(2, v1), (2, 129 + 1 + 2 * v2)] sh_T M (am_c0 sh_T fun x5 M5 => ((x5 = 0 → ((v3 ≤ v2 → Q (some (0, 0), sh_T, M5)) ∧ (v2 < v3 → am_cal pg d 49 [(2, 128), (2, v1), (0, v2), (0, v3), (0, 0)] sh_T M5 (am_c0 sh_T fun x8 M8 => ((¬ x8 = 0 → Q (some (0, 1), sh_T, M8)) ∧ (x8 = 0 → am_cal pg d 49 [(2, 128), (2, v1), (0, v2), (0, v3), (0, 1)] sh_T M8 (am_c0 sh_T fun x10 M10 => ((x10 = 0 → Q (some (0, 0), sh_T, M10)) ∧ (¬ x10 = 0 → Q (some (0, 1), sh_T, M10)))))))))) ∧ (¬ x5 = 0 → Q (some (0, 1), sh_T, M5))))) ∧ (4 ≤ v2 → Q (some (0, 0), sh_T, M)))))) : am_g 4 5 co_X4_escapes d Q 0 [(2, 128), (2, v1), (0, v2), (0, v3)] [] sh_T M := by
  refine x_iload_n (by decide +kernel : am_at co_X4_escapes 0 = some (1, .iload_n 2)) rfl ?_
  refine x_if (tgt := 13) (by decide +kernel : am_at co_X4_escapes 1 = some (3, .ifCond .lt 12)) rfl Iff.rfl (fun c0 => ?_) (fun c0 => ?_)
  · have h := h.1 c0
    refine x_iconst (by decide +kernel : am_at co_X4_escapes 13 = some (1, .iconst 0)) ?_
    exact x_zret (by decide +kernel : am_at co_X4_escapes 14 = some (1, .ireturn)) (by decide) h
  · have c0 := (Int.not_lt.mp c0)
    have h := h.2 c0
    refine x_iload_n (by decide +kernel : am_at co_X4_escapes 4 = some (1, .iload_n 2)) rfl ?_
    refine x_aload_n (by decide +kernel : am_at co_X4_escapes 5 = some (1, .aload_n 0)) rfl ?_
    refine x_getF (by decide +kernel : am_at co_X4_escapes 6 = some (3, .getfield 13)) pq_4_13 (by decide) rfl ob_128 ?_
    refine x_top2 (show 128 + 1 = 129 from rfl) ?_
    refine x_alen (by decide +kernel : am_at co_X4_escapes 9 = some (1, .arraylength)) (n := 4) rfl ?_
    refine x_top0 (show ((4 : Nat) : Int) = 4 from rfl) ?_
    refine x_icmp (tgt := 15) (by decide +kernel : am_at co_X4_escapes 10 = some (3, .if_icmp .lt 5)) rfl Iff.rfl (fun c1 => ?_) (fun c1 => ?_)
    · have h := h.1 c1
      refine x_aload_n (by decide +kernel : am_at co_X4_escapes 15 = some (1, .aload_n 1)) rfl ?_
      refine x_aload_n (by decide +kernel : am_at co_X4_escapes 16 = some (1, .aload_n 0)) rfl ?_
      refine x_getF (by decide +kernel : am_at co_X4_escapes 17 = some (3, .getfield 13)) pq_4_13 (by decide) rfl ob_128 ?_
      refine x_top2 (show 128 + 1 = 129 from rfl) ?_
      refine x_iload_n (by decide +kernel : am_at co_X4_escapes 20 = some (1, .iload_n 2)) rfl ?_
      obtain ⟨o2, h⟩ := h
      refine x_aald (by decide +kernel : am_at co_X4_escapes 21 = some (1, .aaload)) (ia_129 o2.1 o2.2) ?_
      obtain ⟨o3, h⟩ := h
      refine x_callV (n := 2) (by decide +kernel : am_at co_X4_escapes 22 = some (3, .invokevirtual 37)) pq_4_37 pm_X2_isHome rfl rfl rfl o3 h (x_k0 fun x5 M5 h => ?_)
      refine x_if (tgt := 30) (by decide +kernel : am_at co_X4_escapes 25 = some (3, .ifCond .eq 5)) rfl Iff.rfl (fun c5 => ?_) (fun c5 => ?_)
      · have h := h.1 c5
        refine x_iload_n (by decide +kernel : am_at co_X4_escapes 30 = some (1, .iload_n 2)) rfl ?_
        refine x_iload_n (by decide +kernel : am_at co_X4_escapes 31 = some (1, .iload_n 3)) rfl ?_
        refine x_icmp (tgt := 61) (by decide +kernel : am_at co_X4_escapes 32 = some (3, .if_icmp .ge 29)) rfl Iff.rfl (fun c6 => ?_) (fun c6 => ?_)
        · have h := h.1 c6
          refine x_iconst (by decide +kernel : am_at co_X4_escapes 61 = some (1, .iconst 0)) ?_
          exact x_zret (by decide +kernel : am_at co_X4_escapes 62 = some (1, .ireturn)) (by decide) h
        · have c6 := (Int.not_le.mp c6)
          have h := h.2 c6
          refine x_aload_n (by decide +kernel : am_at co_X4_escapes 35 = some (1, .aload_n 0)) rfl ?_
          refine x_aload_n (by decide +kernel : am_at co_X4_escapes 36 = some (1, .aload_n 1)) rfl ?_
          refine x_iload_n (by decide +kernel : am_at co_X4_escapes 37 = some (1, .iload_n 2)) rfl ?_
          refine x_iload_n (by decide +kernel : am_at co_X4_escapes 38 = some (1, .iload_n 3)) rfl ?_
          refine x_iconst (by decide +kernel : am_at co_X4_escapes 39 = some (1, .iconst 0)) ?_
          refine x_callV (n := 5) (by decide +kernel : am_at co_X4_escapes 40 = some (3, .invokevirtual 43)) pq_4_43 pm_X4_bears rfl rfl rfl ob_128 h (x_k0 fun x8 M8 h => ?_)
          refine x_if (tgt := 57) (by decide +kernel : am_at co_X4_escapes 43 = some (3, .ifCond .ne 14)) rfl Iff.rfl (fun c8 => ?_) (fun c8 => ?_)
          · have h := h.1 c8
            refine x_iconst (by decide +kernel : am_at co_X4_escapes 57 = some (1, .iconst 1)) ?_
            refine x_goto (tgt := 62) (by decide +kernel : am_at co_X4_escapes 58 = some (3, .goto 4)) rfl ?_
            exact x_zret (by decide +kernel : am_at co_X4_escapes 62 = some (1, .ireturn)) (by decide) h
          · have c8 := (Classical.not_not.mp c8)
            have h := h.2 c8
            refine x_aload_n (by decide +kernel : am_at co_X4_escapes 46 = some (1, .aload_n 0)) rfl ?_
            refine x_aload_n (by decide +kernel : am_at co_X4_escapes 47 = some (1, .aload_n 1)) rfl ?_
            refine x_iload_n (by decide +kernel : am_at co_X4_escapes 48 = some (1, .iload_n 2)) rfl ?_
            refine x_iload_n (by decide +kernel : am_at co_X4_escapes 49 = some (1, .iload_n 3)) rfl ?_
            refine x_iconst (by decide +kernel : am_at co_X4_escapes 50 = some (1, .iconst 1)) ?_
            refine x_callV (n := 5) (by decide +kernel : am_at co_X4_escapes 51 = some (3, .invokevirtual 43)) pq_4_43 pm_X4_bears rfl rfl rfl ob_128 h (x_k0 fun x10 M10 h => ?_)
            refine x_if (tgt := 61) (by decide +kernel : am_at co_X4_escapes 54 = some (3, .ifCond .eq 7)) rfl Iff.rfl (fun c10 => ?_) (fun c10 => ?_)
            · have h := h.1 c10
              refine x_iconst (by decide +kernel : am_at co_X4_escapes 61 = some (1, .iconst 0)) ?_
              exact x_zret (by decide +kernel : am_at co_X4_escapes 62 = some (1, .ireturn)) (by decide) h
            · have c10 := c10
              have h := h.2 c10
              refine x_iconst (by decide +kernel : am_at co_X4_escapes 57 = some (1, .iconst 1)) ?_
              refine x_goto (tgt := 62) (by decide +kernel : am_at co_X4_escapes 58 = some (3, .goto 4)) rfl ?_
              exact x_zret (by decide +kernel : am_at co_X4_escapes 62 = some (1, .ireturn)) (by decide) h
      · have c5 := c5
        have h := h.2 c5
        refine x_iconst (by decide +kernel : am_at co_X4_escapes 28 = some (1, .iconst 1)) ?_
        exact x_zret (by decide +kernel : am_at co_X4_escapes 29 = some (1, .ireturn)) (by decide) h
    · have c1 := (Int.not_lt.mp c1)
      have h := h.2 c1
      refine x_iconst (by decide +kernel : am_at co_X4_escapes 13 = some (1, .iconst 0)) ?_
      exact x_zret (by decide +kernel : am_at co_X4_escapes 14 = some (1, .ireturn)) (by decide) h
set_option maxRecDepth 20000 in
theorem bk_X4_bears_0 {d : Nat} {Q : am_Q} {M : am_M} {v1 v2 v3 v4 : Int} (h : ((v2 < 0 → Q (some (0, 0), sh_T, M)) ∧ (0 ≤ v2 → am_r (v2 + 1) ∧ ((4 ≤ v2 + 1 → Q (some (0, 0), sh_T, M)) ∧ (v2 + 1 < 4 → ((v2 < 4 → (0 ≤ v2 ∧ v2 < 4) ∧ (0 ≤ v2 ∧ v2 < 4) ∧ am_ob sh_T 7 (138 + 1 + 2 * v2) ∧ am_cal pg d 71 [(2, 138 + 1 + 2 * v2), (2, 129 + 1 + 2 * v2)] sh_T M (am_cv sh_T fun M8 => am_ob sh_T 2 v1 ∧ am_cal pg d 34 [(2, v1), (2, 138 + 1 + 2 * v2), (0, v4)] sh_T M8 (am_c0 sh_T fun x10 M10 => ((x10 = (-1) → am_g 4 5 co_X4_bears d Q 67 [(2, 128), (2, v1), (0, v2), (0, v3), (3, 0), (0, 0), (0, 0)] [] sh_T M10) ∧ (¬ x10 = (-1) → am_g 4 5 co_X4_bears d Q 67 [(2, 128), (2, v1), (0, v2), (0, v3), (3, 0), (0, 1), (0, 0)] [] sh_T M10))))) ∧ (4 ≤ v2 → Q (some (0, 0), sh_T, M)))))))) : am_g 4 5 co_X4_bears d Q 0 [(2, 128), (2, v1), (0, v2), (0, v3), (0, v4), (3, 0), (3, 0)] [] sh_T M := by
  refine x_iload_n (by decide +kernel : am_at co_X4_bears 0 = some (1, .iload_n 2)) rfl ?_
  refine x_if (tgt := 24) (by decide +kernel : am_at co_X4_bears 1 = some (3, .ifCond .lt 23)) rfl Iff.rfl (fun c0 => ?_) (fun c0 => ?_)
  · have h := h.1 c0
    refine x_iconst (by decide +kernel : am_at co_X4_bears 24 = some (1, .iconst 0)) ?_
    exact x_zret (by decide +kernel : am_at co_X4_bears 25 = some (1, .ireturn)) (by decide) h
  · have c0 := (Int.not_lt.mp c0)
    have h := h.2 c0
    refine x_iload_n (by decide +kernel : am_at co_X4_bears 4 = some (1, .iload_n 2)) rfl ?_
    refine x_iconst (by decide +kernel : am_at co_X4_bears 5 = some (1, .iconst 1)) ?_
    obtain ⟨o1, h⟩ := h
    refine x_iadd (by decide +kernel : am_at co_X4_bears 6 = some (1, .iadd)) o1 ?_
    refine x_aload_n (by decide +kernel : am_at co_X4_bears 7 = some (1, .aload_n 0)) rfl ?_
    refine x_getF (by decide +kernel : am_at co_X4_bears 8 = some (3, .getfield 13)) pq_4_13 (by decide) rfl ob_128 ?_
    refine x_top2 (show 128 + 1 = 129 from rfl) ?_
    refine x_alen (by decide +kernel : am_at co_X4_bears 11 = some (1, .arraylength)) (n := 4) rfl ?_
    refine x_top0 (show ((4 : Nat) : Int) = 4 from rfl) ?_
    refine x_icmp (tgt := 24) (by decide +kernel : am_at co_X4_bears 12 = some (3, .if_icmp .ge 12)) rfl Iff.rfl (fun c2 => ?_) (fun c2 => ?_)
    · have h := h.1 c2
      refine x_iconst (by decide +kernel : am_at co_X4_bears 24 = some (1, .iconst 0)) ?_
      exact x_zret (by decide +kernel : am_at co_X4_bears 25 = some (1, .ireturn)) (by decide) h
    · have c2 := (Int.not_le.mp c2)
      have h := h.2 c2
      refine x_iload_n (by decide +kernel : am_at co_X4_bears 15 = some (1, .iload_n 2)) rfl ?_
      refine x_aload_n (by decide +kernel : am_at co_X4_bears 16 = some (1, .aload_n 0)) rfl ?_
      refine x_getF (by decide +kernel : am_at co_X4_bears 17 = some (3, .getfield 19)) pq_4_19 (by decide) rfl ob_128 ?_
      refine x_top2 (show 128 + 10 = 138 from rfl) ?_
      refine x_alen (by decide +kernel : am_at co_X4_bears 20 = some (1, .arraylength)) (n := 4) rfl ?_
      refine x_top0 (show ((4 : Nat) : Int) = 4 from rfl) ?_
      refine x_icmp (tgt := 26) (by decide +kernel : am_at co_X4_bears 21 = some (3, .if_icmp .lt 5)) rfl Iff.rfl (fun c3 => ?_) (fun c3 => ?_)
      · have h := h.1 c3
        refine x_aload_n (by decide +kernel : am_at co_X4_bears 26 = some (1, .aload_n 0)) rfl ?_
        refine x_getF (by decide +kernel : am_at co_X4_bears 27 = some (3, .getfield 19)) pq_4_19 (by decide) rfl ob_128 ?_
        refine x_top2 (show 128 + 10 = 138 from rfl) ?_
        refine x_iload_n (by decide +kernel : am_at co_X4_bears 30 = some (1, .iload_n 2)) rfl ?_
        obtain ⟨o4, h⟩ := h
        refine x_aald (by decide +kernel : am_at co_X4_bears 31 = some (1, .aaload)) (ia_138 o4.1 o4.2) ?_
        refine x_aload_n (by decide +kernel : am_at co_X4_bears 32 = some (1, .aload_n 0)) rfl ?_
        refine x_getF (by decide +kernel : am_at co_X4_bears 33 = some (3, .getfield 13)) pq_4_13 (by decide) rfl ob_128 ?_
        refine x_top2 (show 128 + 1 = 129 from rfl) ?_
        refine x_iload_n (by decide +kernel : am_at co_X4_bears 36 = some (1, .iload_n 2)) rfl ?_
        obtain ⟨o5, h⟩ := h
        refine x_aald (by decide +kernel : am_at co_X4_bears 37 = some (1, .aaload)) (ia_129 o5.1 o5.2) ?_
        obtain ⟨o6, h⟩ := h
        refine x_callV (n := 2) (by decide +kernel : am_at co_X4_bears 38 = some (3, .invokevirtual 29)) pq_4_29 pm_X7_copy rfl rfl rfl o6 h (x_kv fun M8 h => ?_)
        refine x_aload_n (by decide +kernel : am_at co_X4_bears 41 = some (1, .aload_n 1)) rfl ?_
        refine x_aload_n (by decide +kernel : am_at co_X4_bears 42 = some (1, .aload_n 0)) rfl ?_
        refine x_getF (by decide +kernel : am_at co_X4_bears 43 = some (3, .getfield 19)) pq_4_19 (by decide) rfl ob_128 ?_
        refine x_top2 (show 128 + 10 = 138 from rfl) ?_
        refine x_iload_n (by decide +kernel : am_at co_X4_bears 46 = some (1, .iload_n 2)) rfl ?_
        refine x_aald (by decide +kernel : am_at co_X4_bears 47 = some (1, .aaload)) (ia_138 o4.1 o4.2) ?_
        refine x_iload (by decide +kernel : am_at co_X4_bears 48 = some (2, .iload 4)) rfl ?_
        obtain ⟨o8, h⟩ := h
        refine x_callV (n := 3) (by decide +kernel : am_at co_X4_bears 50 = some (3, .invokevirtual 47)) pq_4_47 pm_X2_enter rfl rfl rfl o8 h (x_k0 fun x10 M10 h => ?_)
        refine x_iconst (by decide +kernel : am_at co_X4_bears 53 = some (1, .iconst (-1))) ?_
        refine x_icmp (tgt := 61) (by decide +kernel : am_at co_X4_bears 54 = some (3, .if_icmp .eq 7)) rfl Iff.rfl (fun c10 => ?_) (fun c10 => ?_)
        · have h := h.1 c10
          refine x_iconst (by decide +kernel : am_at co_X4_bears 61 = some (1, .iconst 0)) ?_
          refine x_istore (L' := [(2, 128), (2, v1), (0, v2), (0, v3), (0, v4), (0, 0), (3, 0)]) (by decide +kernel : am_at co_X4_bears 62 = some (2, .istore 5)) rfl ?_
          refine x_iconst (by decide +kernel : am_at co_X4_bears 64 = some (1, .iconst 0)) ?_
          refine x_istore (L' := [(2, 128), (2, v1), (0, v2), (0, v3), (0, v4), (0, 0), (0, 0)]) (by decide +kernel : am_at co_X4_bears 65 = some (2, .istore 6)) rfl ?_
          exact am_weak (lk (lk (lk (lk (ld (lk (lk ln))))))) h
        · have c10 := c10
          have h := h.2 c10
          refine x_iconst (by decide +kernel : am_at co_X4_bears 57 = some (1, .iconst 1)) ?_
          refine x_goto (tgt := 62) (by decide +kernel : am_at co_X4_bears 58 = some (3, .goto 4)) rfl ?_
          refine x_istore (L' := [(2, 128), (2, v1), (0, v2), (0, v3), (0, v4), (0, 1), (3, 0)]) (by decide +kernel : am_at co_X4_bears 62 = some (2, .istore 5)) rfl ?_
          refine x_iconst (by decide +kernel : am_at co_X4_bears 64 = some (1, .iconst 0)) ?_
          refine x_istore (L' := [(2, 128), (2, v1), (0, v2), (0, v3), (0, v4), (0, 1), (0, 0)]) (by decide +kernel : am_at co_X4_bears 65 = some (2, .istore 6)) rfl ?_
          exact am_weak (lk (lk (lk (lk (ld (lk (lk ln))))))) h
      · have c3 := (Int.not_lt.mp c3)
        have h := h.2 c3
        refine x_iconst (by decide +kernel : am_at co_X4_bears 24 = some (1, .iconst 0)) ?_
        exact x_zret (by decide +kernel : am_at co_X4_bears 25 = some (1, .ireturn)) (by decide) h
set_option maxRecDepth 20000 in
theorem bk_X4_bears_67 {d : Nat} {Q : am_Q} {M : am_M} {v1 v2 v3 v5 v6 : Int} (h : am_ob sh_T 2 v1 ∧ am_cal pg d 14 [(2, v1), (0, 0)] sh_T M (am_c0 sh_T fun x2 M2 => ((x2 ≤ v6 → (v5 = 0 ∨ v5 = 1) ∧ Q (some (0, v5), sh_T, M2)) ∧ (v6 < x2 → ((v5 = 0 → (v5 = 0 ∨ v5 = 1) ∧ Q (some (0, v5), sh_T, M2)) ∧ (¬ v5 = 0 → am_r (v2 + 1) ∧ (0 ≤ v2 + 1 ∧ v2 + 1 < 4) ∧ (0 ≤ v2 ∧ v2 < 4) ∧ am_ob sh_T 7 (129 + 1 + 2 * (v2 + 1)) ∧ am_cal pg d 71 [(2, 129 + 1 + 2 * (v2 + 1)), (2, 138 + 1 + 2 * v2)] sh_T M2 (am_cv sh_T fun M9 => am_r (v2 + 1) ∧ am_ob sh_T 7 (138 + 1 + 2 * v2) ∧ am_cal pg d 72 [(2, 138 + 1 + 2 * v2), (0, v6)] sh_T M9 (am_c0 sh_T fun x12 M12 => am_r (x12 + (M12 v1 7)) ∧ am_cal pg d 318 [(0, 999), (0, x12 + (M12 v1 7))] sh_T M12 (am_c0 sh_T fun x14 M14 => am_cal pg d 73 [(2, 129 + 1 + 2 * (v2 + 1)), (0, v6), (0, x14)] sh_T M14 (am_cv sh_T fun M15 => am_r (v2 + 1) ∧ am_cal pg d 48 [(2, 128), (2, v1), (0, v2 + 1), (0, v3)] sh_T M15 (am_c0 sh_T fun x17 M17 => am_r (v6 + 1) ∧ am_g 4 5 co_X4_bears d Q 67 [(2, 128), (2, v1), (0, v2), (0, v3), (3, 0), (0, x17), (0, v6 + 1)] [] sh_T M17))))))))))) : am_g 4 5 co_X4_bears d Q 67 [(2, 128), (2, v1), (0, v2), (0, v3), (3, 0), (0, v5), (0, v6)] [] sh_T M := by
  refine x_iload (by decide +kernel : am_at co_X4_bears 67 = some (2, .iload 6)) rfl ?_
  refine x_aload_n (by decide +kernel : am_at co_X4_bears 69 = some (1, .aload_n 1)) rfl ?_
  refine x_iconst (by decide +kernel : am_at co_X4_bears 70 = some (1, .iconst 0)) ?_
  obtain ⟨o0, h⟩ := h
  refine x_callV (n := 2) (by decide +kernel : am_at co_X4_bears 71 = some (3, .invokevirtual 51)) pq_4_51 pm_X2_count rfl rfl rfl o0 h (x_k0 fun x2 M2 h => ?_)
  refine x_icmp (tgt := 151) (by decide +kernel : am_at co_X4_bears 74 = some (3, .if_icmp .ge 77)) rfl Iff.rfl (fun c2 => ?_) (fun c2 => ?_)
  · have h := h.1 c2
    refine x_iload (by decide +kernel : am_at co_X4_bears 151 = some (2, .iload 5)) rfl ?_
    exact x_zret (by decide +kernel : am_at co_X4_bears 153 = some (1, .ireturn)) h.1 h.2
  · have c2 := (Int.not_le.mp c2)
    have h := h.2 c2
    refine x_iload (by decide +kernel : am_at co_X4_bears 77 = some (2, .iload 5)) rfl ?_
    refine x_if (tgt := 151) (by decide +kernel : am_at co_X4_bears 79 = some (3, .ifCond .eq 72)) rfl Iff.rfl (fun c3 => ?_) (fun c3 => ?_)
    · have h := h.1 c3
      refine x_iload (by decide +kernel : am_at co_X4_bears 151 = some (2, .iload 5)) rfl ?_
      exact x_zret (by decide +kernel : am_at co_X4_bears 153 = some (1, .ireturn)) h.1 h.2
    · have c3 := c3
      have h := h.2 c3
      refine x_aload_n (by decide +kernel : am_at co_X4_bears 82 = some (1, .aload_n 0)) rfl ?_
      refine x_getF (by decide +kernel : am_at co_X4_bears 83 = some (3, .getfield 13)) pq_4_13 (by decide) rfl ob_128 ?_
      refine x_top2 (show 128 + 1 = 129 from rfl) ?_
      refine x_iload_n (by decide +kernel : am_at co_X4_bears 86 = some (1, .iload_n 2)) rfl ?_
      refine x_iconst (by decide +kernel : am_at co_X4_bears 87 = some (1, .iconst 1)) ?_
      obtain ⟨o4, h⟩ := h
      refine x_iadd (by decide +kernel : am_at co_X4_bears 88 = some (1, .iadd)) o4 ?_
      obtain ⟨o5, h⟩ := h
      refine x_aald (by decide +kernel : am_at co_X4_bears 89 = some (1, .aaload)) (ia_129 o5.1 o5.2) ?_
      refine x_aload_n (by decide +kernel : am_at co_X4_bears 90 = some (1, .aload_n 0)) rfl ?_
      refine x_getF (by decide +kernel : am_at co_X4_bears 91 = some (3, .getfield 19)) pq_4_19 (by decide) rfl ob_128 ?_
      refine x_top2 (show 128 + 10 = 138 from rfl) ?_
      refine x_iload_n (by decide +kernel : am_at co_X4_bears 94 = some (1, .iload_n 2)) rfl ?_
      obtain ⟨o6, h⟩ := h
      refine x_aald (by decide +kernel : am_at co_X4_bears 95 = some (1, .aaload)) (ia_138 o6.1 o6.2) ?_
      obtain ⟨o7, h⟩ := h
      refine x_callV (n := 2) (by decide +kernel : am_at co_X4_bears 96 = some (3, .invokevirtual 29)) pq_4_29 pm_X7_copy rfl rfl rfl o7 h (x_kv fun M9 h => ?_)
      refine x_aload_n (by decide +kernel : am_at co_X4_bears 99 = some (1, .aload_n 0)) rfl ?_
      refine x_getF (by decide +kernel : am_at co_X4_bears 100 = some (3, .getfield 13)) pq_4_13 (by decide) rfl ob_128 ?_
      refine x_top2 (show 128 + 1 = 129 from rfl) ?_
      refine x_iload_n (by decide +kernel : am_at co_X4_bears 103 = some (1, .iload_n 2)) rfl ?_
      refine x_iconst (by decide +kernel : am_at co_X4_bears 104 = some (1, .iconst 1)) ?_
      obtain ⟨o9, h⟩ := h
      refine x_iadd (by decide +kernel : am_at co_X4_bears 105 = some (1, .iadd)) o9 ?_
      refine x_aald (by decide +kernel : am_at co_X4_bears 106 = some (1, .aaload)) (ia_129 o5.1 o5.2) ?_
      refine x_iload (by decide +kernel : am_at co_X4_bears 107 = some (2, .iload 6)) rfl ?_
      refine x_sipush (by decide +kernel : am_at co_X4_bears 109 = some (3, .sipush 999)) ?_
      refine x_aload_n (by decide +kernel : am_at co_X4_bears 112 = some (1, .aload_n 0)) rfl ?_
      refine x_getF (by decide +kernel : am_at co_X4_bears 113 = some (3, .getfield 19)) pq_4_19 (by decide) rfl ob_128 ?_
      refine x_top2 (show 128 + 10 = 138 from rfl) ?_
      refine x_iload_n (by decide +kernel : am_at co_X4_bears 116 = some (1, .iload_n 2)) rfl ?_
      refine x_aald (by decide +kernel : am_at co_X4_bears 117 = some (1, .aaload)) (ia_138 o6.1 o6.2) ?_
      refine x_iload (by decide +kernel : am_at co_X4_bears 118 = some (2, .iload 6)) rfl ?_
      obtain ⟨o10, h⟩ := h
      refine x_callV (n := 2) (by decide +kernel : am_at co_X4_bears 120 = some (3, .invokevirtual 55)) pq_4_55 pm_X7_at rfl rfl rfl o10 h (x_k0 fun x12 M12 h => ?_)
      refine x_aload_n (by decide +kernel : am_at co_X4_bears 123 = some (1, .aload_n 1)) rfl ?_
      refine x_getf (by decide +kernel : am_at co_X4_bears 124 = some (3, .getfield 58)) pq_4_58 rfl o0 ?_
      obtain ⟨o12, h⟩ := h
      refine x_iadd (by decide +kernel : am_at co_X4_bears 127 = some (1, .iadd)) o12 ?_
      refine x_callS (n := 2) (by decide +kernel : am_at co_X4_bears 128 = some (3, .invokestatic 62)) pq_4_62 rfl rfl rfl h (x_k0 fun x14 M14 h => ?_)
      refine x_callV (n := 3) (by decide +kernel : am_at co_X4_bears 131 = some (3, .invokevirtual 68)) pq_4_68 pm_X7_put rfl rfl rfl o7 h (x_kv fun M15 h => ?_)
      refine x_aload_n (by decide +kernel : am_at co_X4_bears 134 = some (1, .aload_n 0)) rfl ?_
      refine x_aload_n (by decide +kernel : am_at co_X4_bears 135 = some (1, .aload_n 1)) rfl ?_
      refine x_iload_n (by decide +kernel : am_at co_X4_bears 136 = some (1, .iload_n 2)) rfl ?_
      refine x_iconst (by decide +kernel : am_at co_X4_bears 137 = some (1, .iconst 1)) ?_
      obtain ⟨o15, h⟩ := h
      refine x_iadd (by decide +kernel : am_at co_X4_bears 138 = some (1, .iadd)) o15 ?_
      refine x_iload_n (by decide +kernel : am_at co_X4_bears 139 = some (1, .iload_n 3)) rfl ?_
      refine x_callV (n := 4) (by decide +kernel : am_at co_X4_bears 140 = some (3, .invokevirtual 33)) pq_4_33 pm_X4_escapes rfl rfl rfl ob_128 h (x_k0 fun x17 M17 h => ?_)
      refine x_istore (L' := [(2, 128), (2, v1), (0, v2), (0, v3), (3, 0), (0, x17), (0, v6)]) (by decide +kernel : am_at co_X4_bears 143 = some (2, .istore 5)) rfl ?_
      obtain ⟨o17, h⟩ := h
      refine x_iinc (L' := [(2, 128), (2, v1), (0, v2), (0, v3), (3, 0), (0, x17), (0, v6 + 1)]) (by decide +kernel : am_at co_X4_bears 145 = some (3, .iinc 6 1)) rfl o17 rfl ?_
      refine x_goto (tgt := 67) (by decide +kernel : am_at co_X4_bears 148 = some (3, .goto (-81))) rfl ?_
      exact am_weak (lk (lk (lk (lk (lk (lk (lk ln))))))) h
