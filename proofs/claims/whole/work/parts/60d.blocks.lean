/-! blocks (printed) -/
set_option maxRecDepth 20000 in
theorem bk_X12_sumAt_0 {d : Nat} {Q : am_Q} {M : am_M} {v1 : Int} (h : am_g 12 0 co_X12_sumAt d Q 4 [(2, 152), (0, v1), (0, 0), (0, 0)] [] sh_T M) : am_g 12 0 co_X12_sumAt d Q 0 [(2, 152), (0, v1), (3, 0), (3, 0)] [] sh_T M := by
  refine x_iconst (by decide +kernel : am_at co_X12_sumAt 0 = some (1, .iconst 0)) ?_
  refine x_istore_n (L' := [(2, 152), (0, v1), (0, 0), (3, 0)]) (by decide +kernel : am_at co_X12_sumAt 1 = some (1, .istore_n 2)) rfl ?_
  refine x_iconst (by decide +kernel : am_at co_X12_sumAt 2 = some (1, .iconst 0)) ?_
  refine x_istore_n (L' := [(2, 152), (0, v1), (0, 0), (0, 0)]) (by decide +kernel : am_at co_X12_sumAt 3 = some (1, .istore_n 3)) rfl ?_
  exact am_weak (lk (lk (lk (lk ln)))) h
set_option maxRecDepth 20000 in
theorem bk_X12_sumAt_4 {d : Nat} {Q : am_Q} {M : am_M} {v1 v2 v3 : Int} (h : am_cal pg d 211 [(2, 152)] sh_T M (am_c0 sh_T fun x1 M1 => ((x1 ≤ v3 → Q (some (0, v2), sh_T, M1)) ∧ (v3 < x1 → am_r (v1 + v3) ∧ (0 ≤ v1 + v3 ∧ v1 + v3 < 1500) ∧ am_r (v2 + (M1 187 (v1 + v3))) ∧ am_r (v3 + 1) ∧ am_g 12 0 co_X12_sumAt d Q 4 [(2, 152), (0, v1), (0, v2 + (M1 187 (v1 + v3))), (0, v3 + 1)] [] sh_T M1)))) : am_g 12 0 co_X12_sumAt d Q 4 [(2, 152), (0, v1), (0, v2), (0, v3)] [] sh_T M := by
  refine x_iload_n (by decide +kernel : am_at co_X12_sumAt 4 = some (1, .iload_n 3)) rfl ?_
  refine x_aload_n (by decide +kernel : am_at co_X12_sumAt 5 = some (1, .aload_n 0)) rfl ?_
  refine x_callV (n := 1) (by decide +kernel : am_at co_X12_sumAt 6 = some (3, .invokevirtual 389)) pq_12_389 pm_X12_dreadMany rfl rfl rfl ob_152 h (x_k0 fun x1 M1 h => ?_)
  refine x_icmp (tgt := 29) (by decide +kernel : am_at co_X12_sumAt 9 = some (3, .if_icmp .ge 20)) rfl Iff.rfl (fun c1 => ?_) (fun c1 => ?_)
  · have h := h.1 c1
    refine x_iload_n (by decide +kernel : am_at co_X12_sumAt 29 = some (1, .iload_n 2)) rfl ?_
    exact x_iret (by decide +kernel : am_at co_X12_sumAt 30 = some (1, .ireturn)) h
  · have c1 := (Int.not_le.mp c1)
    have h := h.2 c1
    refine x_iload_n (by decide +kernel : am_at co_X12_sumAt 12 = some (1, .iload_n 2)) rfl ?_
    refine x_aload_n (by decide +kernel : am_at co_X12_sumAt 13 = some (1, .aload_n 0)) rfl ?_
    refine x_getF (by decide +kernel : am_at co_X12_sumAt 14 = some (3, .getfield 118)) pq_12_118 (by decide) rfl ob_152 ?_
    refine x_top2 (show 152 + 35 = 187 from rfl) ?_
    refine x_iload_n (by decide +kernel : am_at co_X12_sumAt 17 = some (1, .iload_n 1)) rfl ?_
    refine x_iload_n (by decide +kernel : am_at co_X12_sumAt 18 = some (1, .iload_n 3)) rfl ?_
    obtain ⟨o2, h⟩ := h
    refine x_iadd (by decide +kernel : am_at co_X12_sumAt 19 = some (1, .iadd)) o2 ?_
    obtain ⟨o3, h⟩ := h
    refine x_iald (by decide +kernel : am_at co_X12_sumAt 20 = some (1, .iaload)) (ia_187 o3.1 o3.2) ?_
    obtain ⟨o4, h⟩ := h
    refine x_iadd (by decide +kernel : am_at co_X12_sumAt 21 = some (1, .iadd)) o4 ?_
    refine x_istore_n (L' := [(2, 152), (0, v1), (0, v2 + (M1 187 (v1 + v3))), (0, v3)]) (by decide +kernel : am_at co_X12_sumAt 22 = some (1, .istore_n 2)) rfl ?_
    obtain ⟨o5, h⟩ := h
    refine x_iinc (L' := [(2, 152), (0, v1), (0, v2 + (M1 187 (v1 + v3))), (0, v3 + 1)]) (by decide +kernel : am_at co_X12_sumAt 23 = some (3, .iinc 3 1)) rfl o5 rfl ?_
    refine x_goto (tgt := 4) (by decide +kernel : am_at co_X12_sumAt 26 = some (3, .goto (-22))) rfl ?_
    exact am_weak (lk (lk (lk (lk ln)))) h
set_option maxRecDepth 20000 in
theorem bk_X12_greatestAt_0 {d : Nat} {Q : am_Q} {M : am_M} {v1 : Int} (h : am_g 12 0 co_X12_greatestAt d Q 4 [(2, 152), (0, v1), (0, 0), (0, 0)] [] sh_T M) : am_g 12 0 co_X12_greatestAt d Q 0 [(2, 152), (0, v1), (3, 0), (3, 0)] [] sh_T M := by
  refine x_iconst (by decide +kernel : am_at co_X12_greatestAt 0 = some (1, .iconst 0)) ?_
  refine x_istore_n (L' := [(2, 152), (0, v1), (0, 0), (3, 0)]) (by decide +kernel : am_at co_X12_greatestAt 1 = some (1, .istore_n 2)) rfl ?_
  refine x_iconst (by decide +kernel : am_at co_X12_greatestAt 2 = some (1, .iconst 0)) ?_
  refine x_istore_n (L' := [(2, 152), (0, v1), (0, 0), (0, 0)]) (by decide +kernel : am_at co_X12_greatestAt 3 = some (1, .istore_n 3)) rfl ?_
  exact am_weak (lk (lk (lk (lk ln)))) h
set_option maxRecDepth 20000 in
theorem bk_X12_greatestAt_4 {d : Nat} {Q : am_Q} {M : am_M} {v1 v2 v3 : Int} (h : am_cal pg d 211 [(2, 152)] sh_T M (am_c0 sh_T fun x1 M1 => ((x1 ≤ v3 → Q (some (0, v2), sh_T, M1)) ∧ (v3 < x1 → am_r (v1 + v3) ∧ (0 ≤ v1 + v3 ∧ v1 + v3 < 1500) ∧ ((M1 187 (v1 + v3) ≤ v2 → am_r (v3 + 1) ∧ am_g 12 0 co_X12_greatestAt d Q 4 [(2, 152), (0, v1), (0, v2), (0, v3 + 1)] [] sh_T M1) ∧ (v2 < M1 187 (v1 + v3) → am_r (v1 + v3) ∧ am_r (v3 + 1) ∧ am_g 12 0 co_X12_greatestAt d Q 4 [(2, 152), (0, v1), (0, M1 187 (v1 + v3)), (0, v3 + 1)] [] sh_T M1)))))) : am_g 12 0 co_X12_greatestAt d Q 4 [(2, 152), (0, v1), (0, v2), (0, v3)] [] sh_T M := by
  refine x_iload_n (by decide +kernel : am_at co_X12_greatestAt 4 = some (1, .iload_n 3)) rfl ?_
  refine x_aload_n (by decide +kernel : am_at co_X12_greatestAt 5 = some (1, .aload_n 0)) rfl ?_
  refine x_callV (n := 1) (by decide +kernel : am_at co_X12_greatestAt 6 = some (3, .invokevirtual 389)) pq_12_389 pm_X12_dreadMany rfl rfl rfl ob_152 h (x_k0 fun x1 M1 h => ?_)
  refine x_icmp (tgt := 39) (by decide +kernel : am_at co_X12_greatestAt 9 = some (3, .if_icmp .ge 30)) rfl Iff.rfl (fun c1 => ?_) (fun c1 => ?_)
  · have h := h.1 c1
    refine x_iload_n (by decide +kernel : am_at co_X12_greatestAt 39 = some (1, .iload_n 2)) rfl ?_
    exact x_iret (by decide +kernel : am_at co_X12_greatestAt 40 = some (1, .ireturn)) h
  · have c1 := (Int.not_le.mp c1)
    have h := h.2 c1
    refine x_aload_n (by decide +kernel : am_at co_X12_greatestAt 12 = some (1, .aload_n 0)) rfl ?_
    refine x_getF (by decide +kernel : am_at co_X12_greatestAt 13 = some (3, .getfield 118)) pq_12_118 (by decide) rfl ob_152 ?_
    refine x_top2 (show 152 + 35 = 187 from rfl) ?_
    refine x_iload_n (by decide +kernel : am_at co_X12_greatestAt 16 = some (1, .iload_n 1)) rfl ?_
    refine x_iload_n (by decide +kernel : am_at co_X12_greatestAt 17 = some (1, .iload_n 3)) rfl ?_
    obtain ⟨o2, h⟩ := h
    refine x_iadd (by decide +kernel : am_at co_X12_greatestAt 18 = some (1, .iadd)) o2 ?_
    obtain ⟨o3, h⟩ := h
    refine x_iald (by decide +kernel : am_at co_X12_greatestAt 19 = some (1, .iaload)) (ia_187 o3.1 o3.2) ?_
    refine x_iload_n (by decide +kernel : am_at co_X12_greatestAt 20 = some (1, .iload_n 2)) rfl ?_
    refine x_icmp (tgt := 33) (by decide +kernel : am_at co_X12_greatestAt 21 = some (3, .if_icmp .le 12)) rfl Iff.rfl (fun c4 => ?_) (fun c4 => ?_)
    · have h := h.1 c4
      obtain ⟨o5, h⟩ := h
      refine x_iinc (L' := [(2, 152), (0, v1), (0, v2), (0, v3 + 1)]) (by decide +kernel : am_at co_X12_greatestAt 33 = some (3, .iinc 3 1)) rfl o5 rfl ?_
      refine x_goto (tgt := 4) (by decide +kernel : am_at co_X12_greatestAt 36 = some (3, .goto (-32))) rfl ?_
      exact am_weak (lk (lk (lk (lk ln)))) h
    · have c4 := (Int.not_le.mp c4)
      have h := h.2 c4
      refine x_aload_n (by decide +kernel : am_at co_X12_greatestAt 24 = some (1, .aload_n 0)) rfl ?_
      refine x_getF (by decide +kernel : am_at co_X12_greatestAt 25 = some (3, .getfield 118)) pq_12_118 (by decide) rfl ob_152 ?_
      refine x_top2 (show 152 + 35 = 187 from rfl) ?_
      refine x_iload_n (by decide +kernel : am_at co_X12_greatestAt 28 = some (1, .iload_n 1)) rfl ?_
      refine x_iload_n (by decide +kernel : am_at co_X12_greatestAt 29 = some (1, .iload_n 3)) rfl ?_
      obtain ⟨o6, h⟩ := h
      refine x_iadd (by decide +kernel : am_at co_X12_greatestAt 30 = some (1, .iadd)) o6 ?_
      refine x_iald (by decide +kernel : am_at co_X12_greatestAt 31 = some (1, .iaload)) (ia_187 o3.1 o3.2) ?_
      refine x_istore_n (L' := [(2, 152), (0, v1), (0, M1 187 (v1 + v3)), (0, v3)]) (by decide +kernel : am_at co_X12_greatestAt 32 = some (1, .istore_n 2)) rfl ?_
      obtain ⟨o7, h⟩ := h
      refine x_iinc (L' := [(2, 152), (0, v1), (0, M1 187 (v1 + v3)), (0, v3 + 1)]) (by decide +kernel : am_at co_X12_greatestAt 33 = some (3, .iinc 3 1)) rfl o7 rfl ?_
      refine x_goto (tgt := 4) (by decide +kernel : am_at co_X12_greatestAt 36 = some (3, .goto (-32))) rfl ?_
      exact am_weak (lk (lk (lk (lk ln)))) h
set_option maxRecDepth 20000 in
theorem bk_X12_manyAt_0 {d : Nat} {Q : am_Q} {M : am_M} {v1 : Int} (h : am_g 12 0 co_X12_manyAt d Q 4 [(2, 152), (0, v1), (0, 0), (0, 0)] [] sh_T M) : am_g 12 0 co_X12_manyAt d Q 0 [(2, 152), (0, v1), (3, 0), (3, 0)] [] sh_T M := by
  refine x_iconst (by decide +kernel : am_at co_X12_manyAt 0 = some (1, .iconst 0)) ?_
  refine x_istore_n (L' := [(2, 152), (0, v1), (0, 0), (3, 0)]) (by decide +kernel : am_at co_X12_manyAt 1 = some (1, .istore_n 2)) rfl ?_
  refine x_iconst (by decide +kernel : am_at co_X12_manyAt 2 = some (1, .iconst 0)) ?_
  refine x_istore_n (L' := [(2, 152), (0, v1), (0, 0), (0, 0)]) (by decide +kernel : am_at co_X12_manyAt 3 = some (1, .istore_n 3)) rfl ?_
  exact am_weak (lk (lk (lk (lk ln)))) h
set_option maxRecDepth 20000 in
theorem bk_X12_manyAt_4 {d : Nat} {Q : am_Q} {M : am_M} {v1 v2 v3 : Int} (h : am_cal pg d 211 [(2, 152)] sh_T M (am_c0 sh_T fun x1 M1 => ((x1 ≤ v3 → Q (some (0, v2), sh_T, M1)) ∧ (v3 < x1 → am_r (v1 + v3) ∧ (0 ≤ v1 + v3 ∧ v1 + v3 < 1500) ∧ ((M1 187 (v1 + v3) ≤ 0 → am_r (v3 + 1) ∧ am_g 12 0 co_X12_manyAt d Q 4 [(2, 152), (0, v1), (0, v2), (0, v3 + 1)] [] sh_T M1) ∧ (0 < M1 187 (v1 + v3) → am_r (v2 + 1) ∧ am_r (v3 + 1) ∧ am_g 12 0 co_X12_manyAt d Q 4 [(2, 152), (0, v1), (0, v2 + 1), (0, v3 + 1)] [] sh_T M1)))))) : am_g 12 0 co_X12_manyAt d Q 4 [(2, 152), (0, v1), (0, v2), (0, v3)] [] sh_T M := by
  refine x_iload_n (by decide +kernel : am_at co_X12_manyAt 4 = some (1, .iload_n 3)) rfl ?_
  refine x_aload_n (by decide +kernel : am_at co_X12_manyAt 5 = some (1, .aload_n 0)) rfl ?_
  refine x_callV (n := 1) (by decide +kernel : am_at co_X12_manyAt 6 = some (3, .invokevirtual 389)) pq_12_389 pm_X12_dreadMany rfl rfl rfl ob_152 h (x_k0 fun x1 M1 h => ?_)
  refine x_icmp (tgt := 32) (by decide +kernel : am_at co_X12_manyAt 9 = some (3, .if_icmp .ge 23)) rfl Iff.rfl (fun c1 => ?_) (fun c1 => ?_)
  · have h := h.1 c1
    refine x_iload_n (by decide +kernel : am_at co_X12_manyAt 32 = some (1, .iload_n 2)) rfl ?_
    exact x_iret (by decide +kernel : am_at co_X12_manyAt 33 = some (1, .ireturn)) h
  · have c1 := (Int.not_le.mp c1)
    have h := h.2 c1
    refine x_aload_n (by decide +kernel : am_at co_X12_manyAt 12 = some (1, .aload_n 0)) rfl ?_
    refine x_getF (by decide +kernel : am_at co_X12_manyAt 13 = some (3, .getfield 118)) pq_12_118 (by decide) rfl ob_152 ?_
    refine x_top2 (show 152 + 35 = 187 from rfl) ?_
    refine x_iload_n (by decide +kernel : am_at co_X12_manyAt 16 = some (1, .iload_n 1)) rfl ?_
    refine x_iload_n (by decide +kernel : am_at co_X12_manyAt 17 = some (1, .iload_n 3)) rfl ?_
    obtain ⟨o2, h⟩ := h
    refine x_iadd (by decide +kernel : am_at co_X12_manyAt 18 = some (1, .iadd)) o2 ?_
    obtain ⟨o3, h⟩ := h
    refine x_iald (by decide +kernel : am_at co_X12_manyAt 19 = some (1, .iaload)) (ia_187 o3.1 o3.2) ?_
    refine x_if (tgt := 26) (by decide +kernel : am_at co_X12_manyAt 20 = some (3, .ifCond .le 6)) rfl Iff.rfl (fun c4 => ?_) (fun c4 => ?_)
    · have h := h.1 c4
      obtain ⟨o5, h⟩ := h
      refine x_iinc (L' := [(2, 152), (0, v1), (0, v2), (0, v3 + 1)]) (by decide +kernel : am_at co_X12_manyAt 26 = some (3, .iinc 3 1)) rfl o5 rfl ?_
      refine x_goto (tgt := 4) (by decide +kernel : am_at co_X12_manyAt 29 = some (3, .goto (-25))) rfl ?_
      exact am_weak (lk (lk (lk (lk ln)))) h
    · have c4 := (Int.not_le.mp c4)
      have h := h.2 c4
      obtain ⟨o6, h⟩ := h
      refine x_iinc (L' := [(2, 152), (0, v1), (0, v2 + 1), (0, v3)]) (by decide +kernel : am_at co_X12_manyAt 23 = some (3, .iinc 2 1)) rfl o6 rfl ?_
      obtain ⟨o7, h⟩ := h
      refine x_iinc (L' := [(2, 152), (0, v1), (0, v2 + 1), (0, v3 + 1)]) (by decide +kernel : am_at co_X12_manyAt 26 = some (3, .iinc 3 1)) rfl o7 rfl ?_
      refine x_goto (tgt := 4) (by decide +kernel : am_at co_X12_manyAt 29 = some (3, .goto (-25))) rfl ?_
      exact am_weak (lk (lk (lk (lk ln)))) h
set_option maxRecDepth 20000 in
theorem bk_X12_isHomeAt_0 {d : Nat} {Q : am_Q} {M : am_M} {v1 : Int} (h : am_cal pg d 221 [(2, 152), (0, v1)] sh_T M (am_c0 sh_T fun x1 M1 => am_cal pg d 216 [(2, 152), (0, 0)] sh_T M1 (am_c0 sh_T fun x2 M2 => ((x2 < x1 → Q (some (0, 0), sh_T, M2)) ∧ (x1 ≤ x2 → Q (some (0, 1), sh_T, M2)))))) : am_g 12 5 co_X12_isHomeAt d Q 0 [(2, 152), (0, v1)] [] sh_T M := by
  refine x_aload_n (by decide +kernel : am_at co_X12_isHomeAt 0 = some (1, .aload_n 0)) rfl ?_
  refine x_iload_n (by decide +kernel : am_at co_X12_isHomeAt 1 = some (1, .iload_n 1)) rfl ?_
  refine x_callV (n := 2) (by decide +kernel : am_at co_X12_isHomeAt 2 = some (3, .invokevirtual 398)) pq_12_398 pm_X12_sumAt rfl rfl rfl ob_152 h (x_k0 fun x1 M1 h => ?_)
  refine x_aload_n (by decide +kernel : am_at co_X12_isHomeAt 5 = some (1, .aload_n 0)) rfl ?_
  refine x_iconst (by decide +kernel : am_at co_X12_isHomeAt 6 = some (1, .iconst 0)) ?_
  refine x_callV (n := 2) (by decide +kernel : am_at co_X12_isHomeAt 7 = some (3, .invokevirtual 401)) pq_12_401 pm_X12_settingOf rfl rfl rfl ob_152 h (x_k0 fun x2 M2 h => ?_)
  refine x_icmp (tgt := 17) (by decide +kernel : am_at co_X12_isHomeAt 10 = some (3, .if_icmp .gt 7)) rfl Iff.rfl (fun c2 => ?_) (fun c2 => ?_)
  · have h := h.1 c2
    refine x_iconst (by decide +kernel : am_at co_X12_isHomeAt 17 = some (1, .iconst 0)) ?_
    exact x_zret (by decide +kernel : am_at co_X12_isHomeAt 18 = some (1, .ireturn)) (by decide) h
  · have c2 := (Int.not_lt.mp c2)
    have h := h.2 c2
    refine x_iconst (by decide +kernel : am_at co_X12_isHomeAt 13 = some (1, .iconst 1)) ?_
    refine x_goto (tgt := 18) (by decide +kernel : am_at co_X12_isHomeAt 14 = some (3, .goto 4)) rfl ?_
    exact x_zret (by decide +kernel : am_at co_X12_isHomeAt 18 = some (1, .ireturn)) (by decide) h
set_option maxRecDepth 20000 in
theorem bk_X12_counts_0 {d : Nat} {Q : am_Q} {M : am_M} {v1 v2 v3 : Int} (h : ((¬ v3 = (-1) → am_r (4 + v3) ∧ (0 ≤ 4 + v3 ∧ 4 + v3 < 8) ∧ ((¬ M 178 (4 + v3) = v2 → am_r (v1.tdiv 2) ∧ Q (some (0, v1.tdiv 2), sh_T, M)) ∧ (M 178 (4 + v3) = v2 → am_r (2 * v1) ∧ Q (some (0, 2 * v1), sh_T, M)))) ∧ (v3 = (-1) → Q (some (0, v1), sh_T, M)))) : am_g 12 0 co_X12_counts d Q 0 [(2, 152), (0, v1), (0, v2), (0, v3)] [] sh_T M := by
  refine x_iload_n (by decide +kernel : am_at co_X12_counts 0 = some (1, .iload_n 3)) rfl ?_
  refine x_iconst (by decide +kernel : am_at co_X12_counts 1 = some (1, .iconst (-1))) ?_
  refine x_icmp (tgt := 9) (by decide +kernel : am_at co_X12_counts 2 = some (3, .if_icmp .ne 7)) rfl Iff.rfl (fun c0 => ?_) (fun c0 => ?_)
  · have h := h.1 c0
    refine x_aload_n (by decide +kernel : am_at co_X12_counts 9 = some (1, .aload_n 0)) rfl ?_
    refine x_getF (by decide +kernel : am_at co_X12_counts 10 = some (3, .getfield 91)) pq_12_91 (by decide) rfl ob_152 ?_
    refine x_top2 (show 152 + 26 = 178 from rfl) ?_
    refine x_iconst (by decide +kernel : am_at co_X12_counts 13 = some (1, .iconst 4)) ?_
    refine x_iload_n (by decide +kernel : am_at co_X12_counts 14 = some (1, .iload_n 3)) rfl ?_
    obtain ⟨o1, h⟩ := h
    refine x_iadd (by decide +kernel : am_at co_X12_counts 15 = some (1, .iadd)) o1 ?_
    obtain ⟨o2, h⟩ := h
    refine x_iald (by decide +kernel : am_at co_X12_counts 16 = some (1, .iaload)) (ia_178 o2.1 o2.2) ?_
    refine x_iload_n (by decide +kernel : am_at co_X12_counts 17 = some (1, .iload_n 2)) rfl ?_
    refine x_icmp (tgt := 27) (by decide +kernel : am_at co_X12_counts 18 = some (3, .if_icmp .ne 9)) rfl Iff.rfl (fun c3 => ?_) (fun c3 => ?_)
    · have h := h.1 c3
      refine x_iload_n (by decide +kernel : am_at co_X12_counts 27 = some (1, .iload_n 1)) rfl ?_
      refine x_iconst (by decide +kernel : am_at co_X12_counts 28 = some (1, .iconst 2)) ?_
      obtain ⟨o4, h⟩ := h
      refine x_idiv (by decide +kernel : am_at co_X12_counts 29 = some (1, .idiv)) (by decide) o4 ?_
      exact x_iret (by decide +kernel : am_at co_X12_counts 30 = some (1, .ireturn)) h
    · have c3 := (Classical.not_not.mp c3)
      have h := h.2 c3
      refine x_iconst (by decide +kernel : am_at co_X12_counts 21 = some (1, .iconst 2)) ?_
      refine x_iload_n (by decide +kernel : am_at co_X12_counts 22 = some (1, .iload_n 1)) rfl ?_
      obtain ⟨o5, h⟩ := h
      refine x_imul (by decide +kernel : am_at co_X12_counts 23 = some (1, .imul)) o5 ?_
      refine x_goto (tgt := 30) (by decide +kernel : am_at co_X12_counts 24 = some (3, .goto 6)) rfl ?_
      exact x_iret (by decide +kernel : am_at co_X12_counts 30 = some (1, .ireturn)) h
  · have c0 := (Classical.not_not.mp c0)
    have h := h.2 c0
    refine x_iload_n (by decide +kernel : am_at co_X12_counts 5 = some (1, .iload_n 1)) rfl ?_
    refine x_goto (tgt := 30) (by decide +kernel : am_at co_X12_counts 6 = some (3, .goto 24)) rfl ?_
    exact x_iret (by decide +kernel : am_at co_X12_counts 30 = some (1, .ireturn)) h
set_option maxRecDepth 20000 in
theorem bk_X12_worstAt_0 {d : Nat} {Q : am_Q} {M : am_M} {v1 v2 v3 : Int} (h : am_g 12 0 co_X12_worstAt d Q 6 [(2, 152), (0, v1), (0, v2), (0, v3), (0, (-1)), (0, 0)] [] sh_T M) : am_g 12 0 co_X12_worstAt d Q 0 [(2, 152), (0, v1), (0, v2), (0, v3), (3, 0), (3, 0)] [] sh_T M := by
  refine x_iconst (by decide +kernel : am_at co_X12_worstAt 0 = some (1, .iconst (-1))) ?_
  refine x_istore (L' := [(2, 152), (0, v1), (0, v2), (0, v3), (0, (-1)), (3, 0)]) (by decide +kernel : am_at co_X12_worstAt 1 = some (2, .istore 4)) rfl ?_
  refine x_iconst (by decide +kernel : am_at co_X12_worstAt 3 = some (1, .iconst 0)) ?_
  refine x_istore (L' := [(2, 152), (0, v1), (0, v2), (0, v3), (0, (-1)), (0, 0)]) (by decide +kernel : am_at co_X12_worstAt 4 = some (2, .istore 5)) rfl ?_
  exact am_weak (lk (lk (lk (lk (lk (lk ln)))))) h
set_option maxRecDepth 20000 in
theorem bk_X12_worstAt_6 {d : Nat} {Q : am_Q} {M : am_M} {v1 v2 v3 v4 v5 : Int} (h : am_cal pg d 211 [(2, 152)] sh_T M (am_c0 sh_T fun x1 M1 => ((x1 ≤ v5 → Q (some (0, v4), sh_T, M1)) ∧ (v5 < x1 → ((¬ v5 = v3 → ((v4 = (-1) → am_r (v5 + 1) ∧ am_g 12 0 co_X12_worstAt d Q 6 [(2, 152), (0, v1), (0, v2), (0, v3), (0, v5), (0, v5 + 1)] [] sh_T M1) ∧ (¬ v4 = (-1) → am_r (v1 + v5) ∧ (0 ≤ v1 + v5 ∧ v1 + v5 < 1500) ∧ am_cal pg d 225 [(2, 152), (0, M1 187 (v1 + v5)), (0, v5), (0, v2)] sh_T M1 (am_c0 sh_T fun x8 M8 => am_r (v1 + v4) ∧ (0 ≤ v1 + v4 ∧ v1 + v4 < 1500) ∧ am_cal pg d 225 [(2, 152), (0, M8 187 (v1 + v4)), (0, v4), (0, v2)] sh_T M8 (am_c0 sh_T fun x11 M11 => ((x8 ≤ x11 → am_r (v5 + 1) ∧ am_g 12 0 co_X12_worstAt d Q 6 [(2, 152), (0, v1), (0, v2), (0, v3), (0, v4), (0, v5 + 1)] [] sh_T M11) ∧ (x11 < x8 → am_r (v5 + 1) ∧ am_g 12 0 co_X12_worstAt d Q 6 [(2, 152), (0, v1), (0, v2), (0, v3), (0, v5), (0, v5 + 1)] [] sh_T M11))))))) ∧ (v5 = v3 → am_r (v5 + 1) ∧ am_g 12 0 co_X12_worstAt d Q 6 [(2, 152), (0, v1), (0, v2), (0, v3), (0, v4), (0, v5 + 1)] [] sh_T M1)))))) : am_g 12 0 co_X12_worstAt d Q 6 [(2, 152), (0, v1), (0, v2), (0, v3), (0, v4), (0, v5)] [] sh_T M := by
  refine x_iload (by decide +kernel : am_at co_X12_worstAt 6 = some (2, .iload 5)) rfl ?_
  refine x_aload_n (by decide +kernel : am_at co_X12_worstAt 8 = some (1, .aload_n 0)) rfl ?_
  refine x_callV (n := 1) (by decide +kernel : am_at co_X12_worstAt 9 = some (3, .invokevirtual 389)) pq_12_389 pm_X12_dreadMany rfl rfl rfl ob_152 h (x_k0 fun x1 M1 h => ?_)
  refine x_icmp (tgt := 75) (by decide +kernel : am_at co_X12_worstAt 12 = some (3, .if_icmp .ge 63)) rfl Iff.rfl (fun c1 => ?_) (fun c1 => ?_)
  · have h := h.1 c1
    refine x_iload (by decide +kernel : am_at co_X12_worstAt 75 = some (2, .iload 4)) rfl ?_
    exact x_iret (by decide +kernel : am_at co_X12_worstAt 77 = some (1, .ireturn)) h
  · have c1 := (Int.not_le.mp c1)
    have h := h.2 c1
    refine x_iload (by decide +kernel : am_at co_X12_worstAt 15 = some (2, .iload 5)) rfl ?_
    refine x_iload_n (by decide +kernel : am_at co_X12_worstAt 17 = some (1, .iload_n 3)) rfl ?_
    refine x_icmp (tgt := 24) (by decide +kernel : am_at co_X12_worstAt 18 = some (3, .if_icmp .ne 6)) rfl Iff.rfl (fun c2 => ?_) (fun c2 => ?_)
    · have h := h.1 c2
      refine x_iload (by decide +kernel : am_at co_X12_worstAt 24 = some (2, .iload 4)) rfl ?_
      refine x_iconst (by decide +kernel : am_at co_X12_worstAt 26 = some (1, .iconst (-1))) ?_
      refine x_icmp (tgt := 65) (by decide +kernel : am_at co_X12_worstAt 27 = some (3, .if_icmp .eq 38)) rfl Iff.rfl (fun c3 => ?_) (fun c3 => ?_)
      · have h := h.1 c3
        refine x_iload (by decide +kernel : am_at co_X12_worstAt 65 = some (2, .iload 5)) rfl ?_
        refine x_istore (L' := [(2, 152), (0, v1), (0, v2), (0, v3), (0, v5), (0, v5)]) (by decide +kernel : am_at co_X12_worstAt 67 = some (2, .istore 4)) rfl ?_
        obtain ⟨o4, h⟩ := h
        refine x_iinc (L' := [(2, 152), (0, v1), (0, v2), (0, v3), (0, v5), (0, v5 + 1)]) (by decide +kernel : am_at co_X12_worstAt 69 = some (3, .iinc 5 1)) rfl o4 rfl ?_
        refine x_goto (tgt := 6) (by decide +kernel : am_at co_X12_worstAt 72 = some (3, .goto (-66))) rfl ?_
        exact am_weak (lk (lk (lk (lk (lk (lk ln)))))) h
      · have c3 := c3
        have h := h.2 c3
        refine x_aload_n (by decide +kernel : am_at co_X12_worstAt 30 = some (1, .aload_n 0)) rfl ?_
        refine x_aload_n (by decide +kernel : am_at co_X12_worstAt 31 = some (1, .aload_n 0)) rfl ?_
        refine x_getF (by decide +kernel : am_at co_X12_worstAt 32 = some (3, .getfield 118)) pq_12_118 (by decide) rfl ob_152 ?_
        refine x_top2 (show 152 + 35 = 187 from rfl) ?_
        refine x_iload_n (by decide +kernel : am_at co_X12_worstAt 35 = some (1, .iload_n 1)) rfl ?_
        refine x_iload (by decide +kernel : am_at co_X12_worstAt 36 = some (2, .iload 5)) rfl ?_
        obtain ⟨o5, h⟩ := h
        refine x_iadd (by decide +kernel : am_at co_X12_worstAt 38 = some (1, .iadd)) o5 ?_
        obtain ⟨o6, h⟩ := h
        refine x_iald (by decide +kernel : am_at co_X12_worstAt 39 = some (1, .iaload)) (ia_187 o6.1 o6.2) ?_
        refine x_iload (by decide +kernel : am_at co_X12_worstAt 40 = some (2, .iload 5)) rfl ?_
        refine x_iload_n (by decide +kernel : am_at co_X12_worstAt 42 = some (1, .iload_n 2)) rfl ?_
        refine x_callV (n := 4) (by decide +kernel : am_at co_X12_worstAt 43 = some (3, .invokevirtual 404)) pq_12_404 pm_X12_counts rfl rfl rfl ob_152 h (x_k0 fun x8 M8 h => ?_)
        refine x_aload_n (by decide +kernel : am_at co_X12_worstAt 46 = some (1, .aload_n 0)) rfl ?_
        refine x_aload_n (by decide +kernel : am_at co_X12_worstAt 47 = some (1, .aload_n 0)) rfl ?_
        refine x_getF (by decide +kernel : am_at co_X12_worstAt 48 = some (3, .getfield 118)) pq_12_118 (by decide) rfl ob_152 ?_
        refine x_top2 (show 152 + 35 = 187 from rfl) ?_
        refine x_iload_n (by decide +kernel : am_at co_X12_worstAt 51 = some (1, .iload_n 1)) rfl ?_
        refine x_iload (by decide +kernel : am_at co_X12_worstAt 52 = some (2, .iload 4)) rfl ?_
        obtain ⟨o8, h⟩ := h
        refine x_iadd (by decide +kernel : am_at co_X12_worstAt 54 = some (1, .iadd)) o8 ?_
        obtain ⟨o9, h⟩ := h
        refine x_iald (by decide +kernel : am_at co_X12_worstAt 55 = some (1, .iaload)) (ia_187 o9.1 o9.2) ?_
        refine x_iload (by decide +kernel : am_at co_X12_worstAt 56 = some (2, .iload 4)) rfl ?_
        refine x_iload_n (by decide +kernel : am_at co_X12_worstAt 58 = some (1, .iload_n 2)) rfl ?_
        refine x_callV (n := 4) (by decide +kernel : am_at co_X12_worstAt 59 = some (3, .invokevirtual 404)) pq_12_404 pm_X12_counts rfl rfl rfl ob_152 h (x_k0 fun x11 M11 h => ?_)
        refine x_icmp (tgt := 69) (by decide +kernel : am_at co_X12_worstAt 62 = some (3, .if_icmp .le 7)) rfl Iff.rfl (fun c11 => ?_) (fun c11 => ?_)
        · have h := h.1 c11
          obtain ⟨o12, h⟩ := h
          refine x_iinc (L' := [(2, 152), (0, v1), (0, v2), (0, v3), (0, v4), (0, v5 + 1)]) (by decide +kernel : am_at co_X12_worstAt 69 = some (3, .iinc 5 1)) rfl o12 rfl ?_
          refine x_goto (tgt := 6) (by decide +kernel : am_at co_X12_worstAt 72 = some (3, .goto (-66))) rfl ?_
          exact am_weak (lk (lk (lk (lk (lk (lk ln)))))) h
        · have c11 := (Int.not_le.mp c11)
          have h := h.2 c11
          refine x_iload (by decide +kernel : am_at co_X12_worstAt 65 = some (2, .iload 5)) rfl ?_
          refine x_istore (L' := [(2, 152), (0, v1), (0, v2), (0, v3), (0, v5), (0, v5)]) (by decide +kernel : am_at co_X12_worstAt 67 = some (2, .istore 4)) rfl ?_
          obtain ⟨o13, h⟩ := h
          refine x_iinc (L' := [(2, 152), (0, v1), (0, v2), (0, v3), (0, v5), (0, v5 + 1)]) (by decide +kernel : am_at co_X12_worstAt 69 = some (3, .iinc 5 1)) rfl o13 rfl ?_
          refine x_goto (tgt := 6) (by decide +kernel : am_at co_X12_worstAt 72 = some (3, .goto (-66))) rfl ?_
          exact am_weak (lk (lk (lk (lk (lk (lk ln)))))) h
    · have c2 := (Classical.not_not.mp c2)
      have h := h.2 c2
      refine x_goto (tgt := 69) (by decide +kernel : am_at co_X12_worstAt 21 = some (3, .goto 48)) rfl ?_
      obtain ⟨o14, h⟩ := h
      refine x_iinc (L' := [(2, 152), (0, v1), (0, v2), (0, v3), (0, v4), (0, v5 + 1)]) (by decide +kernel : am_at co_X12_worstAt 69 = some (3, .iinc 5 1)) rfl o14 rfl ?_
      refine x_goto (tgt := 6) (by decide +kernel : am_at co_X12_worstAt 72 = some (3, .goto (-66))) rfl ?_
      exact am_weak (lk (lk (lk (lk (lk (lk ln)))))) h
set_option maxRecDepth 20000 in
theorem bk_X12_made_0 {d : Nat} {Q : am_Q} {M : am_M} {v1 v2 v3 v4 : Int} (h : am_r (3 + v1) ∧ (0 ≤ 3 + v1 ∧ 3 + v1 < 6) ∧ ((¬ M 180 (3 + v1) = (-1) → am_r (v2 + v3) ∧ (0 ≤ v2 + v3 ∧ v2 + v3 < 1500) ∧ am_cal pg d 222 [(2, 152), (0, v2)] sh_T (am_up M 185 0 (M 187 (v2 + v3))) (am_c0 sh_T fun x6 M6 => am_cal pg d 221 [(2, 152), (0, v2)] sh_T (am_up M6 185 1 x6) (am_c0 sh_T fun x7 M7 => am_cal pg d 223 [(2, 152), (0, v2)] sh_T (am_up M7 185 2 x7) (am_c0 sh_T fun x8 M8 => am_r (4 + v4) ∧ (0 ≤ 4 + v4 ∧ 4 + v4 < 8) ∧ am_r (3 + v1) ∧ am_g 12 0 co_X12_made d Q 105 [(2, 152), (0, v1), (3, 0), (3, 0), (3, 0), (0, M8 180 (3 + v1)), (3, 0)] [] sh_T (am_up (am_up (am_up (am_up M8 185 3 x8) 185 4 v3) 185 5 (M8 176 (4 + v4))) 152 46 0))))) ∧ (M 180 (3 + v1) = (-1) → am_r (v2 + v3) ∧ (0 ≤ v2 + v3 ∧ v2 + v3 < 1500) ∧ Q (some (0, M 187 (v2 + v3)), sh_T, M)))) : am_g 12 0 co_X12_made d Q 0 [(2, 152), (0, v1), (0, v2), (0, v3), (0, v4), (3, 0), (3, 0)] [] sh_T M := by
  refine x_aload_n (by decide +kernel : am_at co_X12_made 0 = some (1, .aload_n 0)) rfl ?_
  refine x_getF (by decide +kernel : am_at co_X12_made 1 = some (3, .getfield 97)) pq_12_97 (by decide) rfl ob_152 ?_
  refine x_top2 (show 152 + 28 = 180 from rfl) ?_
  refine x_iconst (by decide +kernel : am_at co_X12_made 4 = some (1, .iconst 3)) ?_
  refine x_iload_n (by decide +kernel : am_at co_X12_made 5 = some (1, .iload_n 1)) rfl ?_
  obtain ⟨o0, h⟩ := h
  refine x_iadd (by decide +kernel : am_at co_X12_made 6 = some (1, .iadd)) o0 ?_
  obtain ⟨o1, h⟩ := h
  refine x_iald (by decide +kernel : am_at co_X12_made 7 = some (1, .iaload)) (ia_180 o1.1 o1.2) ?_
  refine x_iconst (by decide +kernel : am_at co_X12_made 8 = some (1, .iconst (-1))) ?_
  refine x_icmp (tgt := 21) (by decide +kernel : am_at co_X12_made 9 = some (3, .if_icmp .ne 12)) rfl Iff.rfl (fun c2 => ?_) (fun c2 => ?_)
  · have h := h.1 c2
    refine x_aload_n (by decide +kernel : am_at co_X12_made 21 = some (1, .aload_n 0)) rfl ?_
    refine x_getF (by decide +kernel : am_at co_X12_made 22 = some (3, .getfield 112)) pq_12_112 (by decide) rfl ob_152 ?_
    refine x_top2 (show 152 + 33 = 185 from rfl) ?_
    refine x_iconst (by decide +kernel : am_at co_X12_made 25 = some (1, .iconst 0)) ?_
    refine x_aload_n (by decide +kernel : am_at co_X12_made 26 = some (1, .aload_n 0)) rfl ?_
    refine x_getF (by decide +kernel : am_at co_X12_made 27 = some (3, .getfield 118)) pq_12_118 (by decide) rfl ob_152 ?_
    refine x_top2 (show 152 + 35 = 187 from rfl) ?_
    refine x_iload_n (by decide +kernel : am_at co_X12_made 30 = some (1, .iload_n 2)) rfl ?_
    refine x_iload_n (by decide +kernel : am_at co_X12_made 31 = some (1, .iload_n 3)) rfl ?_
    obtain ⟨o3, h⟩ := h
    refine x_iadd (by decide +kernel : am_at co_X12_made 32 = some (1, .iadd)) o3 ?_
    obtain ⟨o4, h⟩ := h
    refine x_iald (by decide +kernel : am_at co_X12_made 33 = some (1, .iaload)) (ia_187 o4.1 o4.2) ?_
    refine x_iast (by decide +kernel : am_at co_X12_made 34 = some (1, .iastore)) (ow_185 (by decide) (by decide)) ?_
    refine x_aload_n (by decide +kernel : am_at co_X12_made 35 = some (1, .aload_n 0)) rfl ?_
    refine x_getF (by decide +kernel : am_at co_X12_made 36 = some (3, .getfield 112)) pq_12_112 (by decide) rfl ob_152 ?_
    refine x_top2 (show 152 + 33 = 185 from rfl) ?_
    refine x_iconst (by decide +kernel : am_at co_X12_made 39 = some (1, .iconst 1)) ?_
    refine x_aload_n (by decide +kernel : am_at co_X12_made 40 = some (1, .aload_n 0)) rfl ?_
    refine x_iload_n (by decide +kernel : am_at co_X12_made 41 = some (1, .iload_n 2)) rfl ?_
    refine x_callV (n := 2) (by decide +kernel : am_at co_X12_made 42 = some (3, .invokevirtual 408)) pq_12_408 pm_X12_greatestAt rfl rfl rfl ob_152 h (x_k0 fun x6 M6 h => ?_)
    refine x_iast (by decide +kernel : am_at co_X12_made 45 = some (1, .iastore)) (ow_185 (by decide) (by decide)) ?_
    refine x_aload_n (by decide +kernel : am_at co_X12_made 46 = some (1, .aload_n 0)) rfl ?_
    refine x_getF (by decide +kernel : am_at co_X12_made 47 = some (3, .getfield 112)) pq_12_112 (by decide) rfl ob_152 ?_
    refine x_top2 (show 152 + 33 = 185 from rfl) ?_
    refine x_iconst (by decide +kernel : am_at co_X12_made 50 = some (1, .iconst 2)) ?_
    refine x_aload_n (by decide +kernel : am_at co_X12_made 51 = some (1, .aload_n 0)) rfl ?_
    refine x_iload_n (by decide +kernel : am_at co_X12_made 52 = some (1, .iload_n 2)) rfl ?_
    refine x_callV (n := 2) (by decide +kernel : am_at co_X12_made 53 = some (3, .invokevirtual 398)) pq_12_398 pm_X12_sumAt rfl rfl rfl ob_152 h (x_k0 fun x7 M7 h => ?_)
    refine x_iast (by decide +kernel : am_at co_X12_made 56 = some (1, .iastore)) (ow_185 (by decide) (by decide)) ?_
    refine x_aload_n (by decide +kernel : am_at co_X12_made 57 = some (1, .aload_n 0)) rfl ?_
    refine x_getF (by decide +kernel : am_at co_X12_made 58 = some (3, .getfield 112)) pq_12_112 (by decide) rfl ob_152 ?_
    refine x_top2 (show 152 + 33 = 185 from rfl) ?_
    refine x_iconst (by decide +kernel : am_at co_X12_made 61 = some (1, .iconst 3)) ?_
    refine x_aload_n (by decide +kernel : am_at co_X12_made 62 = some (1, .aload_n 0)) rfl ?_
    refine x_iload_n (by decide +kernel : am_at co_X12_made 63 = some (1, .iload_n 2)) rfl ?_
    refine x_callV (n := 2) (by decide +kernel : am_at co_X12_made 64 = some (3, .invokevirtual 411)) pq_12_411 pm_X12_manyAt rfl rfl rfl ob_152 h (x_k0 fun x8 M8 h => ?_)
    refine x_iast (by decide +kernel : am_at co_X12_made 67 = some (1, .iastore)) (ow_185 (by decide) (by decide)) ?_
    refine x_aload_n (by decide +kernel : am_at co_X12_made 68 = some (1, .aload_n 0)) rfl ?_
    refine x_getF (by decide +kernel : am_at co_X12_made 69 = some (3, .getfield 112)) pq_12_112 (by decide) rfl ob_152 ?_
    refine x_top2 (show 152 + 33 = 185 from rfl) ?_
    refine x_iconst (by decide +kernel : am_at co_X12_made 72 = some (1, .iconst 4)) ?_
    refine x_iload_n (by decide +kernel : am_at co_X12_made 73 = some (1, .iload_n 3)) rfl ?_
    refine x_iast (by decide +kernel : am_at co_X12_made 74 = some (1, .iastore)) (ow_185 (by decide) (by decide)) ?_
    refine x_aload_n (by decide +kernel : am_at co_X12_made 75 = some (1, .aload_n 0)) rfl ?_
    refine x_getF (by decide +kernel : am_at co_X12_made 76 = some (3, .getfield 112)) pq_12_112 (by decide) rfl ob_152 ?_
    refine x_top2 (show 152 + 33 = 185 from rfl) ?_
    refine x_iconst (by decide +kernel : am_at co_X12_made 79 = some (1, .iconst 5)) ?_
    refine x_aload_n (by decide +kernel : am_at co_X12_made 80 = some (1, .aload_n 0)) rfl ?_
    refine x_getF (by decide +kernel : am_at co_X12_made 81 = some (3, .getfield 85)) pq_12_85 (by decide) rfl ob_152 ?_
    refine x_top2 (show 152 + 24 = 176 from rfl) ?_
    refine x_iconst (by decide +kernel : am_at co_X12_made 84 = some (1, .iconst 4)) ?_
    refine x_iload (by decide +kernel : am_at co_X12_made 85 = some (2, .iload 4)) rfl ?_
    obtain ⟨o8, h⟩ := h
    refine x_iadd (by decide +kernel : am_at co_X12_made 87 = some (1, .iadd)) o8 ?_
    obtain ⟨o9, h⟩ := h
    refine x_iald (by decide +kernel : am_at co_X12_made 88 = some (1, .iaload)) (ia_176 o9.1 o9.2) ?_
    refine x_top0 (show (am_up (am_up M8 185 3 x8) 185 4 v3) 176 (4 + v4) = M8 176 (4 + v4) from by first | rfl | simp [am_up]) ?_
    refine x_iast (by decide +kernel : am_at co_X12_made 89 = some (1, .iastore)) (ow_185 (by decide) (by decide)) ?_
    refine x_aload_n (by decide +kernel : am_at co_X12_made 90 = some (1, .aload_n 0)) rfl ?_
    refine x_iconst (by decide +kernel : am_at co_X12_made 91 = some (1, .iconst 0)) ?_
    refine x_putf0 (by decide +kernel : am_at co_X12_made 92 = some (3, .putfield 374)) pq_12_374 rfl ob_152 ?_
    refine x_aload_n (by decide +kernel : am_at co_X12_made 95 = some (1, .aload_n 0)) rfl ?_
    refine x_getF (by decide +kernel : am_at co_X12_made 96 = some (3, .getfield 97)) pq_12_97 (by decide) rfl ob_152 ?_
    refine x_top2 (show 152 + 28 = 180 from rfl) ?_
    refine x_iconst (by decide +kernel : am_at co_X12_made 99 = some (1, .iconst 3)) ?_
    refine x_iload_n (by decide +kernel : am_at co_X12_made 100 = some (1, .iload_n 1)) rfl ?_
    obtain ⟨o10, h⟩ := h
    refine x_iadd (by decide +kernel : am_at co_X12_made 101 = some (1, .iadd)) o10 ?_
    refine x_iald (by decide +kernel : am_at co_X12_made 102 = some (1, .iaload)) (ia_180 o1.1 o1.2) ?_
    refine x_top0 (show (am_up (am_up (am_up (am_up M8 185 3 x8) 185 4 v3) 185 5 (M8 176 (4 + v4))) 152 46 0) 180 (3 + v1) = M8 180 (3 + v1) from by first | rfl | simp [am_up]) ?_
    refine x_istore (L' := [(2, 152), (0, v1), (0, v2), (0, v3), (0, v4), (0, M8 180 (3 + v1)), (3, 0)]) (by decide +kernel : am_at co_X12_made 103 = some (2, .istore 5)) rfl ?_
    exact am_weak (lk (lk (ld (ld (ld (lk (lk ln))))))) h
  · have c2 := (Classical.not_not.mp c2)
    have h := h.2 c2
    refine x_aload_n (by decide +kernel : am_at co_X12_made 12 = some (1, .aload_n 0)) rfl ?_
    refine x_getF (by decide +kernel : am_at co_X12_made 13 = some (3, .getfield 118)) pq_12_118 (by decide) rfl ob_152 ?_
    refine x_top2 (show 152 + 35 = 187 from rfl) ?_
    refine x_iload_n (by decide +kernel : am_at co_X12_made 16 = some (1, .iload_n 2)) rfl ?_
    refine x_iload_n (by decide +kernel : am_at co_X12_made 17 = some (1, .iload_n 3)) rfl ?_
    obtain ⟨o11, h⟩ := h
    refine x_iadd (by decide +kernel : am_at co_X12_made 18 = some (1, .iadd)) o11 ?_
    obtain ⟨o12, h⟩ := h
    refine x_iald (by decide +kernel : am_at co_X12_made 19 = some (1, .iaload)) (ia_187 o12.1 o12.2) ?_
    exact x_iret (by decide +kernel : am_at co_X12_made 20 = some (1, .ireturn)) h
set_option maxRecDepth 20000 in
theorem bk_X12_made_105 {d : Nat} {Q : am_Q} {M : am_M} {v1 v5 : Int} (h : am_r (3 + v1) ∧ (0 ≤ 3 + v1 ∧ 3 + v1 < 6) ∧ ((M 181 (3 + v1) ≤ v5 → ((0 ≤ M 184 0 → ((M 184 0 ≤ 999 → am_r (M 184 0) ∧ Q (some (0, M 184 0), sh_T, M)) ∧ (999 < M 184 0 → Q (some (0, 999), sh_T, M)))) ∧ (M 184 0 < 0 → Q (some (0, 0), sh_T, M)))) ∧ (v5 < M 181 (3 + v1) → am_r (1600 + v5) ∧ (0 ≤ 1600 + v5 ∧ 1600 + v5 < 3200) ∧ ((M 182 (1600 + v5) < 1000 → am_cal pg d 169 [(1, M 182 (1600 + v5)), (1, 7), (1, 12)] sh_T M (am_c0 sh_T fun x10 M10 => ((x10 = 0 → am_cal pg d 210 [(2, 152), (0, M 182 (1600 + v5))] sh_T M10 (am_cv sh_T fun M12 => am_g 12 0 co_X12_made d Q 192 [(2, 152), (0, v1), (3, 0), (3, 0), (3, 0), (0, v5), (3, 0)] [] sh_T M12)) ∧ (¬ x10 = 0 → am_r ((M 182 (1600 + v5)) - 7) ∧ (0 ≤ (M 182 (1600 + v5)) - 7 ∧ (M 182 (1600 + v5)) - 7 < 6) ∧ am_cal pg d 209 [(2, 152), (1, M10 185 ((M 182 (1600 + v5)) - 7))] sh_T M10 (am_cv sh_T fun M15 => am_g 12 0 co_X12_made d Q 192 [(2, 152), (0, v1), (3, 0), (3, 0), (3, 0), (0, v5), (3, 0)] [] sh_T M15))))) ∧ (1000 ≤ M 182 (1600 + v5) → am_r ((M 182 (1600 + v5)) - 1000) ∧ am_cal pg d 209 [(2, 152), (1, (M 182 (1600 + v5)) - 1000)] sh_T M (am_cv sh_T fun M17 => am_g 12 0 co_X12_made d Q 192 [(2, 152), (0, v1), (3, 0), (3, 0), (3, 0), (0, v5), (3, 0)] [] sh_T M17)))))) : am_g 12 0 co_X12_made d Q 105 [(2, 152), (0, v1), (3, 0), (3, 0), (3, 0), (0, v5), (3, 0)] [] sh_T M := by
  refine x_iload (by decide +kernel : am_at co_X12_made 105 = some (2, .iload 5)) rfl ?_
  refine x_aload_n (by decide +kernel : am_at co_X12_made 107 = some (1, .aload_n 0)) rfl ?_
  refine x_getF (by decide +kernel : am_at co_X12_made 108 = some (3, .getfield 100)) pq_12_100 (by decide) rfl ob_152 ?_
  refine x_top2 (show 152 + 29 = 181 from rfl) ?_
  refine x_iconst (by decide +kernel : am_at co_X12_made 111 = some (1, .iconst 3)) ?_
  refine x_iload_n (by decide +kernel : am_at co_X12_made 112 = some (1, .iload_n 1)) rfl ?_
  obtain ⟨o0, h⟩ := h
  refine x_iadd (by decide +kernel : am_at co_X12_made 113 = some (1, .iadd)) o0 ?_
  obtain ⟨o1, h⟩ := h
  refine x_iald (by decide +kernel : am_at co_X12_made 114 = some (1, .iaload)) (ia_181 o1.1 o1.2) ?_
  refine x_icmp (tgt := 198) (by decide +kernel : am_at co_X12_made 115 = some (3, .if_icmp .ge 83)) rfl Iff.rfl (fun c2 => ?_) (fun c2 => ?_)
  · have h := h.1 c2
    refine x_aload_n (by decide +kernel : am_at co_X12_made 198 = some (1, .aload_n 0)) rfl ?_
    refine x_getF (by decide +kernel : am_at co_X12_made 199 = some (3, .getfield 109)) pq_12_109 (by decide) rfl ob_152 ?_
    refine x_top2 (show 152 + 32 = 184 from rfl) ?_
    refine x_iconst (by decide +kernel : am_at co_X12_made 202 = some (1, .iconst 0)) ?_
    refine x_lald (by decide +kernel : am_at co_X12_made 203 = some (1, .laload)) (ia_184 (by decide) (by decide)) ?_
    refine x_lconst (by decide +kernel : am_at co_X12_made 204 = some (1, .lconst 0)) ?_
    refine x_lif (tgt := 213) (by decide +kernel : am_at co_X12_made 205 = some (1, .lcmp)) (by decide +kernel : am_at co_X12_made 206 = some (3, .ifCond .ge 7)) rfl Iff.rfl (fun c3 => ?_) (fun c3 => ?_)
    · have h := h.1 c3
      refine x_aload_n (by decide +kernel : am_at co_X12_made 213 = some (1, .aload_n 0)) rfl ?_
      refine x_getF (by decide +kernel : am_at co_X12_made 214 = some (3, .getfield 109)) pq_12_109 (by decide) rfl ob_152 ?_
      refine x_top2 (show 152 + 32 = 184 from rfl) ?_
      refine x_iconst (by decide +kernel : am_at co_X12_made 217 = some (1, .iconst 0)) ?_
      refine x_lald (by decide +kernel : am_at co_X12_made 218 = some (1, .laload)) (ia_184 (by decide) (by decide)) ?_
      refine x_ldc2 (by decide +kernel : am_at co_X12_made 219 = some (3, .ldc2_w 421)) pq_12_421 ?_
      refine x_lif (tgt := 232) (by decide +kernel : am_at co_X12_made 222 = some (1, .lcmp)) (by decide +kernel : am_at co_X12_made 223 = some (3, .ifCond .le 9)) rfl Iff.rfl (fun c4 => ?_) (fun c4 => ?_)
      · have h := h.1 c4
        refine x_aload_n (by decide +kernel : am_at co_X12_made 232 = some (1, .aload_n 0)) rfl ?_
        refine x_getF (by decide +kernel : am_at co_X12_made 233 = some (3, .getfield 109)) pq_12_109 (by decide) rfl ob_152 ?_
        refine x_top2 (show 152 + 32 = 184 from rfl) ?_
        refine x_iconst (by decide +kernel : am_at co_X12_made 236 = some (1, .iconst 0)) ?_
        refine x_lald (by decide +kernel : am_at co_X12_made 237 = some (1, .laload)) (ia_184 (by decide) (by decide)) ?_
        obtain ⟨o5, h⟩ := h
        refine x_l2i (by decide +kernel : am_at co_X12_made 238 = some (1, .l2i)) o5 ?_
        exact x_iret (by decide +kernel : am_at co_X12_made 239 = some (1, .ireturn)) h
      · have c4 := (Int.not_le.mp c4)
        have h := h.2 c4
        refine x_sipush (by decide +kernel : am_at co_X12_made 226 = some (3, .sipush 999)) ?_
        refine x_goto (tgt := 239) (by decide +kernel : am_at co_X12_made 229 = some (3, .goto 10)) rfl ?_
        exact x_iret (by decide +kernel : am_at co_X12_made 239 = some (1, .ireturn)) h
    · have c3 := (Int.not_le.mp c3)
      have h := h.2 c3
      refine x_iconst (by decide +kernel : am_at co_X12_made 209 = some (1, .iconst 0)) ?_
      refine x_goto (tgt := 239) (by decide +kernel : am_at co_X12_made 210 = some (3, .goto 29)) rfl ?_
      exact x_iret (by decide +kernel : am_at co_X12_made 239 = some (1, .ireturn)) h
  · have c2 := (Int.not_le.mp c2)
    have h := h.2 c2
    refine x_aload_n (by decide +kernel : am_at co_X12_made 118 = some (1, .aload_n 0)) rfl ?_
    refine x_getF (by decide +kernel : am_at co_X12_made 119 = some (3, .getfield 103)) pq_12_103 (by decide) rfl ob_152 ?_
    refine x_top2 (show 152 + 30 = 182 from rfl) ?_
    refine x_sipush (by decide +kernel : am_at co_X12_made 122 = some (3, .sipush 1600)) ?_
    refine x_iload (by decide +kernel : am_at co_X12_made 125 = some (2, .iload 5)) rfl ?_
    obtain ⟨o6, h⟩ := h
    refine x_iadd (by decide +kernel : am_at co_X12_made 127 = some (1, .iadd)) o6 ?_
    obtain ⟨o7, h⟩ := h
    refine x_iald (by decide +kernel : am_at co_X12_made 128 = some (1, .iaload)) (ia_182 o7.1 o7.2) ?_
    refine x_istore (L' := [(2, 152), (0, v1), (3, 0), (3, 0), (3, 0), (0, v5), (0, M 182 (1600 + v5))]) (by decide +kernel : am_at co_X12_made 129 = some (2, .istore 6)) rfl ?_
    refine x_iload (by decide +kernel : am_at co_X12_made 131 = some (2, .iload 6)) rfl ?_
    refine x_sipush (by decide +kernel : am_at co_X12_made 133 = some (3, .sipush 1000)) ?_
    refine x_icmp (tgt := 153) (by decide +kernel : am_at co_X12_made 136 = some (3, .if_icmp .lt 17)) rfl Iff.rfl (fun c8 => ?_) (fun c8 => ?_)
    · have h := h.1 c8
      refine x_iload (by decide +kernel : am_at co_X12_made 153 = some (2, .iload 6)) rfl ?_
      refine x_i2l (by decide +kernel : am_at co_X12_made 155 = some (1, .i2l)) ?_
      refine x_ldc2 (by decide +kernel : am_at co_X12_made 156 = some (3, .ldc2_w 414)) pq_12_414 ?_
      refine x_ldc2 (by decide +kernel : am_at co_X12_made 159 = some (3, .ldc2_w 416)) pq_12_416 ?_
      refine x_callS (n := 3) (by decide +kernel : am_at co_X12_made 162 = some (3, .invokestatic 249)) pq_12_249 rfl rfl rfl h (x_k0 fun x10 M10 h => ?_)
      refine x_if (tgt := 186) (by decide +kernel : am_at co_X12_made 165 = some (3, .ifCond .eq 21)) rfl Iff.rfl (fun c10 => ?_) (fun c10 => ?_)
      · have h := h.1 c10
        refine x_aload_n (by decide +kernel : am_at co_X12_made 186 = some (1, .aload_n 0)) rfl ?_
        refine x_iload (by decide +kernel : am_at co_X12_made 187 = some (2, .iload 6)) rfl ?_
        refine x_callV (n := 2) (by decide +kernel : am_at co_X12_made 189 = some (3, .invokevirtual 418)) pq_12_418 pm_X12_joins rfl rfl rfl ob_152 h (x_kv fun M12 h => ?_)
        exact am_weak (lk (lk (lk (lk (lk (lk (ld ln))))))) h
      · have c10 := c10
        have h := h.2 c10
        refine x_aload_n (by decide +kernel : am_at co_X12_made 168 = some (1, .aload_n 0)) rfl ?_
        refine x_aload_n (by decide +kernel : am_at co_X12_made 169 = some (1, .aload_n 0)) rfl ?_
        refine x_getF (by decide +kernel : am_at co_X12_made 170 = some (3, .getfield 112)) pq_12_112 (by decide) rfl ob_152 ?_
        refine x_top2 (show 152 + 33 = 185 from rfl) ?_
        refine x_iload (by decide +kernel : am_at co_X12_made 173 = some (2, .iload 6)) rfl ?_
        refine x_bipush (by decide +kernel : am_at co_X12_made 175 = some (2, .bipush 7)) ?_
        obtain ⟨o12, h⟩ := h
        refine x_isub (by decide +kernel : am_at co_X12_made 177 = some (1, .isub)) o12 ?_
        obtain ⟨o13, h⟩ := h
        refine x_iald (by decide +kernel : am_at co_X12_made 178 = some (1, .iaload)) (ia_185 o13.1 o13.2) ?_
        refine x_i2l (by decide +kernel : am_at co_X12_made 179 = some (1, .i2l)) ?_
        refine x_callV (n := 2) (by decide +kernel : am_at co_X12_made 180 = some (3, .invokevirtual 381)) pq_12_381 pm_X12_puts rfl rfl rfl ob_152 h (x_kv fun M15 h => ?_)
        refine x_goto (tgt := 192) (by decide +kernel : am_at co_X12_made 183 = some (3, .goto 9)) rfl ?_
        exact am_weak (lk (lk (lk (lk (lk (lk (ld ln))))))) h
    · have c8 := (Int.not_lt.mp c8)
      have h := h.2 c8
      refine x_aload_n (by decide +kernel : am_at co_X12_made 139 = some (1, .aload_n 0)) rfl ?_
      refine x_iload (by decide +kernel : am_at co_X12_made 140 = some (2, .iload 6)) rfl ?_
      refine x_sipush (by decide +kernel : am_at co_X12_made 142 = some (3, .sipush 1000)) ?_
      obtain ⟨o15, h⟩ := h
      refine x_isub (by decide +kernel : am_at co_X12_made 145 = some (1, .isub)) o15 ?_
      refine x_i2l (by decide +kernel : am_at co_X12_made 146 = some (1, .i2l)) ?_
      refine x_callV (n := 2) (by decide +kernel : am_at co_X12_made 147 = some (3, .invokevirtual 381)) pq_12_381 pm_X12_puts rfl rfl rfl ob_152 h (x_kv fun M17 h => ?_)
      refine x_goto (tgt := 192) (by decide +kernel : am_at co_X12_made 150 = some (3, .goto 42)) rfl ?_
      exact am_weak (lk (lk (lk (lk (lk (lk (ld ln))))))) h
set_option maxRecDepth 20000 in
theorem bk_X12_made_192 {d : Nat} {Q : am_Q} {M : am_M} {v1 v5 : Int} (h : am_r (v5 + 1) ∧ am_g 12 0 co_X12_made d Q 105 [(2, 152), (0, v1), (3, 0), (3, 0), (3, 0), (0, v5 + 1), (3, 0)] [] sh_T M) : am_g 12 0 co_X12_made d Q 192 [(2, 152), (0, v1), (3, 0), (3, 0), (3, 0), (0, v5), (3, 0)] [] sh_T M := by
  obtain ⟨o0, h⟩ := h
  refine x_iinc (L' := [(2, 152), (0, v1), (3, 0), (3, 0), (3, 0), (0, v5 + 1), (3, 0)]) (by decide +kernel : am_at co_X12_made 192 = some (3, .iinc 5 1)) rfl o0 rfl ?_
  refine x_goto (tgt := 105) (by decide +kernel : am_at co_X12_made 195 = some (3, .goto (-90))) rfl ?_
  exact am_weak (lk (lk (lk (lk (lk (lk (lk ln))))))) h
set_option maxRecDepth 20000 in
theorem bk_X12_roomGoes_0 {d : Nat} {Q : am_Q} {M : am_M} {v1 v2 v3 v4 : Int} (h : am_cal pg d 226 [(2, 152), (0, v1), (0, v3), (0, (-1))] sh_T M (am_c0 sh_T fun x1 M1 => ((¬ v4 = 0 → am_cal pg d 226 [(2, 152), (0, v1), (0, v3), (0, x1)] sh_T M1 (am_c0 sh_T fun x3 M3 => am_cal pg d 227 [(2, 152), (0, 0), (0, v1), (0, x3), (0, v2)] sh_T M3 (am_c0 sh_T fun x4 M4 => am_r (v1 + x1) ∧ am_cal pg d 227 [(2, 152), (0, 1), (0, v1), (0, x1), (0, v2)] sh_T M4 (am_c0 sh_T fun x6 M6 => (0 ≤ v1 + x1 ∧ v1 + x1 < 1500) ∧ am_r (v1 + x3) ∧ (0 ≤ v1 + x3 ∧ v1 + x3 < 1500) ∧ Q (some (0, x3), sh_T, (am_up (am_up M6 187 (v1 + x1) x6) 187 (v1 + x3) x4)))))) ∧ (v4 = 0 → am_r (v1 + x1) ∧ am_cal pg d 227 [(2, 152), (0, 0), (0, v1), (0, x1), (0, v2)] sh_T M1 (am_c0 sh_T fun x11 M11 => (0 ≤ v1 + x1 ∧ v1 + x1 < 1500) ∧ Q (some (0, x1), sh_T, (am_up M11 187 (v1 + x1) x11))))))) : am_g 12 0 co_X12_roomGoes d Q 0 [(2, 152), (0, v1), (0, v2), (0, v3), (0, v4), (3, 0), (3, 0), (3, 0)] [] sh_T M := by
  refine x_aload_n (by decide +kernel : am_at co_X12_roomGoes 0 = some (1, .aload_n 0)) rfl ?_
  refine x_iload_n (by decide +kernel : am_at co_X12_roomGoes 1 = some (1, .iload_n 1)) rfl ?_
  refine x_iload_n (by decide +kernel : am_at co_X12_roomGoes 2 = some (1, .iload_n 3)) rfl ?_
  refine x_iconst (by decide +kernel : am_at co_X12_roomGoes 3 = some (1, .iconst (-1))) ?_
  refine x_callV (n := 4) (by decide +kernel : am_at co_X12_roomGoes 4 = some (3, .invokevirtual 423)) pq_12_423 pm_X12_worstAt rfl rfl rfl ob_152 h (x_k0 fun x1 M1 h => ?_)
  refine x_istore (L' := [(2, 152), (0, v1), (0, v2), (0, v3), (0, v4), (0, x1), (3, 0), (3, 0)]) (by decide +kernel : am_at co_X12_roomGoes 7 = some (2, .istore 5)) rfl ?_
  refine x_iload (by decide +kernel : am_at co_X12_roomGoes 9 = some (2, .iload 4)) rfl ?_
  refine x_if (tgt := 35) (by decide +kernel : am_at co_X12_roomGoes 11 = some (3, .ifCond .ne 24)) rfl Iff.rfl (fun c1 => ?_) (fun c1 => ?_)
  · have h := h.1 c1
    refine x_aload_n (by decide +kernel : am_at co_X12_roomGoes 35 = some (1, .aload_n 0)) rfl ?_
    refine x_iload_n (by decide +kernel : am_at co_X12_roomGoes 36 = some (1, .iload_n 1)) rfl ?_
    refine x_iload_n (by decide +kernel : am_at co_X12_roomGoes 37 = some (1, .iload_n 3)) rfl ?_
    refine x_iload (by decide +kernel : am_at co_X12_roomGoes 38 = some (2, .iload 5)) rfl ?_
    refine x_callV (n := 4) (by decide +kernel : am_at co_X12_roomGoes 40 = some (3, .invokevirtual 423)) pq_12_423 pm_X12_worstAt rfl rfl rfl ob_152 h (x_k0 fun x3 M3 h => ?_)
    refine x_istore (L' := [(2, 152), (0, v1), (0, v2), (0, v3), (0, v4), (0, x1), (0, x3), (3, 0)]) (by decide +kernel : am_at co_X12_roomGoes 43 = some (2, .istore 6)) rfl ?_
    refine x_aload_n (by decide +kernel : am_at co_X12_roomGoes 45 = some (1, .aload_n 0)) rfl ?_
    refine x_iconst (by decide +kernel : am_at co_X12_roomGoes 46 = some (1, .iconst 0)) ?_
    refine x_iload_n (by decide +kernel : am_at co_X12_roomGoes 47 = some (1, .iload_n 1)) rfl ?_
    refine x_iload (by decide +kernel : am_at co_X12_roomGoes 48 = some (2, .iload 6)) rfl ?_
    refine x_iload_n (by decide +kernel : am_at co_X12_roomGoes 50 = some (1, .iload_n 2)) rfl ?_
    refine x_callV (n := 5) (by decide +kernel : am_at co_X12_roomGoes 51 = some (3, .invokevirtual 426)) pq_12_426 pm_X12_made rfl rfl rfl ob_152 h (x_k0 fun x4 M4 h => ?_)
    refine x_istore (L' := [(2, 152), (0, v1), (0, v2), (0, v3), (0, v4), (0, x1), (0, x3), (0, x4)]) (by decide +kernel : am_at co_X12_roomGoes 54 = some (2, .istore 7)) rfl ?_
    refine x_aload_n (by decide +kernel : am_at co_X12_roomGoes 56 = some (1, .aload_n 0)) rfl ?_
    refine x_getF (by decide +kernel : am_at co_X12_roomGoes 57 = some (3, .getfield 118)) pq_12_118 (by decide) rfl ob_152 ?_
    refine x_top2 (show 152 + 35 = 187 from rfl) ?_
    refine x_iload_n (by decide +kernel : am_at co_X12_roomGoes 60 = some (1, .iload_n 1)) rfl ?_
    refine x_iload (by decide +kernel : am_at co_X12_roomGoes 61 = some (2, .iload 5)) rfl ?_
    obtain ⟨o4, h⟩ := h
    refine x_iadd (by decide +kernel : am_at co_X12_roomGoes 63 = some (1, .iadd)) o4 ?_
    refine x_aload_n (by decide +kernel : am_at co_X12_roomGoes 64 = some (1, .aload_n 0)) rfl ?_
    refine x_iconst (by decide +kernel : am_at co_X12_roomGoes 65 = some (1, .iconst 1)) ?_
    refine x_iload_n (by decide +kernel : am_at co_X12_roomGoes 66 = some (1, .iload_n 1)) rfl ?_
    refine x_iload (by decide +kernel : am_at co_X12_roomGoes 67 = some (2, .iload 5)) rfl ?_
    refine x_iload_n (by decide +kernel : am_at co_X12_roomGoes 69 = some (1, .iload_n 2)) rfl ?_
    refine x_callV (n := 5) (by decide +kernel : am_at co_X12_roomGoes 70 = some (3, .invokevirtual 426)) pq_12_426 pm_X12_made rfl rfl rfl ob_152 h (x_k0 fun x6 M6 h => ?_)
    obtain ⟨o6, h⟩ := h
    refine x_iast (by decide +kernel : am_at co_X12_roomGoes 73 = some (1, .iastore)) (ow_187 o6.1 o6.2) ?_
    refine x_aload_n (by decide +kernel : am_at co_X12_roomGoes 74 = some (1, .aload_n 0)) rfl ?_
    refine x_getF (by decide +kernel : am_at co_X12_roomGoes 75 = some (3, .getfield 118)) pq_12_118 (by decide) rfl ob_152 ?_
    refine x_top2 (show 152 + 35 = 187 from rfl) ?_
    refine x_iload_n (by decide +kernel : am_at co_X12_roomGoes 78 = some (1, .iload_n 1)) rfl ?_
    refine x_iload (by decide +kernel : am_at co_X12_roomGoes 79 = some (2, .iload 6)) rfl ?_
    obtain ⟨o7, h⟩ := h
    refine x_iadd (by decide +kernel : am_at co_X12_roomGoes 81 = some (1, .iadd)) o7 ?_
    refine x_iload (by decide +kernel : am_at co_X12_roomGoes 82 = some (2, .iload 7)) rfl ?_
    obtain ⟨o8, h⟩ := h
    refine x_iast (by decide +kernel : am_at co_X12_roomGoes 84 = some (1, .iastore)) (ow_187 o8.1 o8.2) ?_
    refine x_iload (by decide +kernel : am_at co_X12_roomGoes 85 = some (2, .iload 6)) rfl ?_
    exact x_iret (by decide +kernel : am_at co_X12_roomGoes 87 = some (1, .ireturn)) h
  · have c1 := (Classical.not_not.mp c1)
    have h := h.2 c1
    refine x_aload_n (by decide +kernel : am_at co_X12_roomGoes 14 = some (1, .aload_n 0)) rfl ?_
    refine x_getF (by decide +kernel : am_at co_X12_roomGoes 15 = some (3, .getfield 118)) pq_12_118 (by decide) rfl ob_152 ?_
    refine x_top2 (show 152 + 35 = 187 from rfl) ?_
    refine x_iload_n (by decide +kernel : am_at co_X12_roomGoes 18 = some (1, .iload_n 1)) rfl ?_
    refine x_iload (by decide +kernel : am_at co_X12_roomGoes 19 = some (2, .iload 5)) rfl ?_
    obtain ⟨o9, h⟩ := h
    refine x_iadd (by decide +kernel : am_at co_X12_roomGoes 21 = some (1, .iadd)) o9 ?_
    refine x_aload_n (by decide +kernel : am_at co_X12_roomGoes 22 = some (1, .aload_n 0)) rfl ?_
    refine x_iconst (by decide +kernel : am_at co_X12_roomGoes 23 = some (1, .iconst 0)) ?_
    refine x_iload_n (by decide +kernel : am_at co_X12_roomGoes 24 = some (1, .iload_n 1)) rfl ?_
    refine x_iload (by decide +kernel : am_at co_X12_roomGoes 25 = some (2, .iload 5)) rfl ?_
    refine x_iload_n (by decide +kernel : am_at co_X12_roomGoes 27 = some (1, .iload_n 2)) rfl ?_
    refine x_callV (n := 5) (by decide +kernel : am_at co_X12_roomGoes 28 = some (3, .invokevirtual 426)) pq_12_426 pm_X12_made rfl rfl rfl ob_152 h (x_k0 fun x11 M11 h => ?_)
    obtain ⟨o11, h⟩ := h
    refine x_iast (by decide +kernel : am_at co_X12_roomGoes 31 = some (1, .iastore)) (ow_187 o11.1 o11.2) ?_
    refine x_iload (by decide +kernel : am_at co_X12_roomGoes 32 = some (2, .iload 5)) rfl ?_
    exact x_iret (by decide +kernel : am_at co_X12_roomGoes 34 = some (1, .ireturn)) h
set_option maxRecDepth 20000 in
theorem bk_X12_laughs_0 {d : Nat} {Q : am_Q} {M : am_M} {v1 : Int} (h : am_g 12 9 co_X12_laughs d Q 2 [(2, 152), (0, v1), (0, 0)] [] sh_T M) : am_g 12 9 co_X12_laughs d Q 0 [(2, 152), (0, v1), (3, 0)] [] sh_T M := by
  refine x_iconst (by decide +kernel : am_at co_X12_laughs 0 = some (1, .iconst 0)) ?_
  refine x_istore_n (L' := [(2, 152), (0, v1), (0, 0)]) (by decide +kernel : am_at co_X12_laughs 1 = some (1, .istore_n 2)) rfl ?_
  exact am_weak (lk (lk (lk ln))) h
set_option maxRecDepth 20000 in
theorem bk_X12_laughs_2 {d : Nat} {Q : am_Q} {M : am_M} {v1 v2 : Int} (h : am_cal pg d 211 [(2, 152)] sh_T M (am_c0 sh_T fun x1 M1 => ((x1 ≤ v2 → Q (none, sh_T, M1)) ∧ (v2 < x1 → am_r (v1 + v2) ∧ (0 ≤ v1 + v2 ∧ v1 + v2 < 1500) ∧ am_r ((M1 187 (v1 + v2)).tdiv 2) ∧ am_r (v2 + 1) ∧ am_g 12 9 co_X12_laughs d Q 2 [(2, 152), (0, v1), (0, v2 + 1)] [] sh_T (am_up M1 187 (v1 + v2) ((M1 187 (v1 + v2)).tdiv 2)))))) : am_g 12 9 co_X12_laughs d Q 2 [(2, 152), (0, v1), (0, v2)] [] sh_T M := by
  refine x_iload_n (by decide +kernel : am_at co_X12_laughs 2 = some (1, .iload_n 2)) rfl ?_
  refine x_aload_n (by decide +kernel : am_at co_X12_laughs 3 = some (1, .aload_n 0)) rfl ?_
  refine x_callV (n := 1) (by decide +kernel : am_at co_X12_laughs 4 = some (3, .invokevirtual 389)) pq_12_389 pm_X12_dreadMany rfl rfl rfl ob_152 h (x_k0 fun x1 M1 h => ?_)
  refine x_icmp (tgt := 28) (by decide +kernel : am_at co_X12_laughs 7 = some (3, .if_icmp .ge 21)) rfl Iff.rfl (fun c1 => ?_) (fun c1 => ?_)
  · have h := h.1 c1
    exact x_vret (by decide +kernel : am_at co_X12_laughs 28 = some (1, .return_)) h
  · have c1 := (Int.not_le.mp c1)
    have h := h.2 c1
    refine x_aload_n (by decide +kernel : am_at co_X12_laughs 10 = some (1, .aload_n 0)) rfl ?_
    refine x_getF (by decide +kernel : am_at co_X12_laughs 11 = some (3, .getfield 118)) pq_12_118 (by decide) rfl ob_152 ?_
    refine x_top2 (show 152 + 35 = 187 from rfl) ?_
    refine x_iload_n (by decide +kernel : am_at co_X12_laughs 14 = some (1, .iload_n 1)) rfl ?_
    refine x_iload_n (by decide +kernel : am_at co_X12_laughs 15 = some (1, .iload_n 2)) rfl ?_
    obtain ⟨o2, h⟩ := h
    refine x_iadd (by decide +kernel : am_at co_X12_laughs 16 = some (1, .iadd)) o2 ?_
    refine x_dup2 (by decide +kernel : am_at co_X12_laughs 17 = some (1, .dup2)) ?_
    obtain ⟨o3, h⟩ := h
    refine x_iald (by decide +kernel : am_at co_X12_laughs 18 = some (1, .iaload)) (ia_187 o3.1 o3.2) ?_
    refine x_iconst (by decide +kernel : am_at co_X12_laughs 19 = some (1, .iconst 2)) ?_
    obtain ⟨o4, h⟩ := h
    refine x_idiv (by decide +kernel : am_at co_X12_laughs 20 = some (1, .idiv)) (by decide) o4 ?_
    refine x_iast (by decide +kernel : am_at co_X12_laughs 21 = some (1, .iastore)) (ow_187 o3.1 o3.2) ?_
    obtain ⟨o5, h⟩ := h
    refine x_iinc (L' := [(2, 152), (0, v1), (0, v2 + 1)]) (by decide +kernel : am_at co_X12_laughs 22 = some (3, .iinc 2 1)) rfl o5 rfl ?_
    refine x_goto (tgt := 2) (by decide +kernel : am_at co_X12_laughs 25 = some (3, .goto (-23))) rfl ?_
    exact am_weak (lk (lk (lk ln))) h
set_option maxRecDepth 20000 in
theorem bk_X12_guideOf_0 {d : Nat} {Q : am_Q} {M : am_M} {v1 : Int} (h : am_r (7 * v1) ∧ (0 ≤ 7 * v1 ∧ 7 * v1 < 28) ∧ Q (some (0, M 186 (7 * v1)), sh_T, M)) : am_g 12 0 co_X12_guideOf d Q 0 [(2, 152), (0, v1)] [] sh_T M := by
  refine x_aload_n (by decide +kernel : am_at co_X12_guideOf 0 = some (1, .aload_n 0)) rfl ?_
  refine x_getF (by decide +kernel : am_at co_X12_guideOf 1 = some (3, .getfield 115)) pq_12_115 (by decide) rfl ob_152 ?_
  refine x_top2 (show 152 + 34 = 186 from rfl) ?_
  refine x_bipush (by decide +kernel : am_at co_X12_guideOf 4 = some (2, .bipush 7)) ?_
  refine x_iload_n (by decide +kernel : am_at co_X12_guideOf 6 = some (1, .iload_n 1)) rfl ?_
  obtain ⟨o0, h⟩ := h
  refine x_imul (by decide +kernel : am_at co_X12_guideOf 7 = some (1, .imul)) o0 ?_
  obtain ⟨o1, h⟩ := h
  refine x_iald (by decide +kernel : am_at co_X12_guideOf 8 = some (1, .iaload)) (ia_186 o1.1 o1.2) ?_
  exact x_iret (by decide +kernel : am_at co_X12_guideOf 9 = some (1, .ireturn)) h
set_option maxRecDepth 20000 in
theorem bk_X12_atHome_0 {d : Nat} {Q : am_Q} {M : am_M} (h : am_g 12 0 co_X12_atHome d Q 4 [(2, 152), (0, 0), (0, 0)] [] sh_T M) : am_g 12 0 co_X12_atHome d Q 0 [(2, 152), (3, 0), (3, 0)] [] sh_T M := by
  refine x_iconst (by decide +kernel : am_at co_X12_atHome 0 = some (1, .iconst 0)) ?_
  refine x_istore_n (L' := [(2, 152), (0, 0), (3, 0)]) (by decide +kernel : am_at co_X12_atHome 1 = some (1, .istore_n 1)) rfl ?_
  refine x_iconst (by decide +kernel : am_at co_X12_atHome 2 = some (1, .iconst 0)) ?_
  refine x_istore_n (L' := [(2, 152), (0, 0), (0, 0)]) (by decide +kernel : am_at co_X12_atHome 3 = some (1, .istore_n 2)) rfl ?_
  exact am_weak (lk (lk (lk ln))) h
set_option maxRecDepth 20000 in
theorem bk_X12_atHome_4 {d : Nat} {Q : am_Q} {M : am_M} {v1 v2 : Int} (h : am_cal pg d 212 [(2, 152)] sh_T M (am_c0 sh_T fun x1 M1 => ((x1 ≤ v2 → Q (some (0, v1), sh_T, M1)) ∧ (v2 < x1 → am_cal pg d 218 [(2, 152), (0, v2), (0, 0)] sh_T M1 (am_cv sh_T fun M3 => am_cal pg d 224 [(2, 152), (0, 0)] sh_T M3 (am_c0 sh_T fun x4 M4 => ((x4 = 0 → am_r (v2 + 1) ∧ am_g 12 0 co_X12_atHome d Q 4 [(2, 152), (0, v1), (0, v2 + 1)] [] sh_T M4) ∧ (¬ x4 = 0 → am_r (v1 + 1) ∧ am_r (v2 + 1) ∧ am_g 12 0 co_X12_atHome d Q 4 [(2, 152), (0, v1 + 1), (0, v2 + 1)] [] sh_T M4)))))))) : am_g 12 0 co_X12_atHome d Q 4 [(2, 152), (0, v1), (0, v2)] [] sh_T M := by
  refine x_iload_n (by decide +kernel : am_at co_X12_atHome 4 = some (1, .iload_n 2)) rfl ?_
  refine x_aload_n (by decide +kernel : am_at co_X12_atHome 5 = some (1, .aload_n 0)) rfl ?_
  refine x_callV (n := 1) (by decide +kernel : am_at co_X12_atHome 6 = some (3, .invokevirtual 392)) pq_12_392 pm_X12_dreamerMany rfl rfl rfl ob_152 h (x_k0 fun x1 M1 h => ?_)
  refine x_icmp (tgt := 35) (by decide +kernel : am_at co_X12_atHome 9 = some (3, .if_icmp .ge 26)) rfl Iff.rfl (fun c1 => ?_) (fun c1 => ?_)
  · have h := h.1 c1
    refine x_iload_n (by decide +kernel : am_at co_X12_atHome 35 = some (1, .iload_n 1)) rfl ?_
    exact x_iret (by decide +kernel : am_at co_X12_atHome 36 = some (1, .ireturn)) h
  · have c1 := (Int.not_le.mp c1)
    have h := h.2 c1
    refine x_aload_n (by decide +kernel : am_at co_X12_atHome 12 = some (1, .aload_n 0)) rfl ?_
    refine x_iload_n (by decide +kernel : am_at co_X12_atHome 13 = some (1, .iload_n 2)) rfl ?_
    refine x_iconst (by decide +kernel : am_at co_X12_atHome 14 = some (1, .iconst 0)) ?_
    refine x_callV (n := 3) (by decide +kernel : am_at co_X12_atHome 15 = some (3, .invokevirtual 430)) pq_12_430 pm_X12_laysNow rfl rfl rfl ob_152 h (x_kv fun M3 h => ?_)
    refine x_aload_n (by decide +kernel : am_at co_X12_atHome 18 = some (1, .aload_n 0)) rfl ?_
    refine x_iconst (by decide +kernel : am_at co_X12_atHome 19 = some (1, .iconst 0)) ?_
    refine x_callV (n := 2) (by decide +kernel : am_at co_X12_atHome 20 = some (3, .invokevirtual 433)) pq_12_433 pm_X12_isHomeAt rfl rfl rfl ob_152 h (x_k0 fun x4 M4 h => ?_)
    refine x_if (tgt := 29) (by decide +kernel : am_at co_X12_atHome 23 = some (3, .ifCond .eq 6)) rfl Iff.rfl (fun c4 => ?_) (fun c4 => ?_)
    · have h := h.1 c4
      obtain ⟨o5, h⟩ := h
      refine x_iinc (L' := [(2, 152), (0, v1), (0, v2 + 1)]) (by decide +kernel : am_at co_X12_atHome 29 = some (3, .iinc 2 1)) rfl o5 rfl ?_
      refine x_goto (tgt := 4) (by decide +kernel : am_at co_X12_atHome 32 = some (3, .goto (-28))) rfl ?_
      exact am_weak (lk (lk (lk ln))) h
    · have c4 := c4
      have h := h.2 c4
      obtain ⟨o6, h⟩ := h
      refine x_iinc (L' := [(2, 152), (0, v1 + 1), (0, v2)]) (by decide +kernel : am_at co_X12_atHome 26 = some (3, .iinc 1 1)) rfl o6 rfl ?_
      obtain ⟨o7, h⟩ := h
      refine x_iinc (L' := [(2, 152), (0, v1 + 1), (0, v2 + 1)]) (by decide +kernel : am_at co_X12_atHome 29 = some (3, .iinc 2 1)) rfl o7 rfl ?_
      refine x_goto (tgt := 4) (by decide +kernel : am_at co_X12_atHome 32 = some (3, .goto (-28))) rfl ?_
      exact am_weak (lk (lk (lk ln))) h
set_option maxRecDepth 20000 in
theorem bk_X12_has_0 {d : Nat} {Q : am_Q} {M : am_M} {v1 : Int} (h : ((v1 < 0 ∨ 7 < v1 → Q (some (0, (-1)), sh_T, M)) ∧ (v1 = 0 → am_cal pg d 211 [(2, 152)] sh_T M (am_c0 sh_T fun x1 M1 => Q (some (0, x1), sh_T, M1))) ∧ (v1 = 1 → am_cal pg d 212 [(2, 152)] sh_T M (am_c0 sh_T fun x2 M2 => Q (some (0, x2), sh_T, M2))) ∧ (v1 = 2 → am_cal pg d 213 [(2, 152)] sh_T M (am_c0 sh_T fun x3 M3 => Q (some (0, x3), sh_T, M3))) ∧ (v1 = 3 → am_r (v1 - 3) ∧ am_cal pg d 216 [(2, 152), (0, v1 - 3)] sh_T M (am_c0 sh_T fun x5 M5 => Q (some (0, x5), sh_T, M5))) ∧ (v1 = 4 → am_r (v1 - 3) ∧ am_cal pg d 216 [(2, 152), (0, v1 - 3)] sh_T M (am_c0 sh_T fun x7 M7 => Q (some (0, x7), sh_T, M7))) ∧ (v1 = 5 → am_r (v1 - 3) ∧ am_cal pg d 216 [(2, 152), (0, v1 - 3)] sh_T M (am_c0 sh_T fun x9 M9 => Q (some (0, x9), sh_T, M9))) ∧ (v1 = 6 → am_cal pg d 231 [(2, 152)] sh_T M (am_c0 sh_T fun x10 M10 => Q (some (0, x10), sh_T, M10))) ∧ (v1 = 7 → Q (some (0, M 152 58), sh_T, M)))) : am_g 12 0 co_X12_has d Q 0 [(2, 152), (0, v1)] [] sh_T M := by
  refine x_iload_n (by decide +kernel : am_at co_X12_has 0 = some (1, .iload_n 1)) rfl ?_
  refine x_tsw (by decide +kernel : am_at co_X12_has 1 = some (47, .tableswitch 80 0 7 #[47, 52, 57, 62, 62, 62, 70, 75])) (fun q => ?_) (fun q1 q2 => ?_)
  · have h := h.1 q
    refine x_iconst (by decide +kernel : am_at co_X12_has 81 = some (1, .iconst (-1))) ?_
    exact x_iret (by decide +kernel : am_at co_X12_has 82 = some (1, .ireturn)) h
  · rcases (show v1 = 0 ∨ v1 = 1 ∨ v1 = 2 ∨ v1 = 3 ∨ v1 = 4 ∨ v1 = 5 ∨ v1 = 6 ∨ v1 = 7 by omega) with q | q | q | q | q | q | q | q
    · refine ⟨47, by rw [q]; rfl, ?_⟩
      have h := h.2.1 q
      refine x_aload_n (by decide +kernel : am_at co_X12_has 48 = some (1, .aload_n 0)) rfl ?_
      refine x_callV (n := 1) (by decide +kernel : am_at co_X12_has 49 = some (3, .invokevirtual 389)) pq_12_389 pm_X12_dreadMany rfl rfl rfl ob_152 h (x_k0 fun x1 M1 h => ?_)
      exact x_iret (by decide +kernel : am_at co_X12_has 52 = some (1, .ireturn)) h
    · refine ⟨52, by rw [q]; rfl, ?_⟩
      have h := h.2.2.1 q
      refine x_aload_n (by decide +kernel : am_at co_X12_has 53 = some (1, .aload_n 0)) rfl ?_
      refine x_callV (n := 1) (by decide +kernel : am_at co_X12_has 54 = some (3, .invokevirtual 392)) pq_12_392 pm_X12_dreamerMany rfl rfl rfl ob_152 h (x_k0 fun x2 M2 h => ?_)
      exact x_iret (by decide +kernel : am_at co_X12_has 57 = some (1, .ireturn)) h
    · refine ⟨57, by rw [q]; rfl, ?_⟩
      have h := h.2.2.2.1 q
      refine x_aload_n (by decide +kernel : am_at co_X12_has 58 = some (1, .aload_n 0)) rfl ?_
      refine x_callV (n := 1) (by decide +kernel : am_at co_X12_has 59 = some (3, .invokevirtual 436)) pq_12_436 pm_X12_guideMany rfl rfl rfl ob_152 h (x_k0 fun x3 M3 h => ?_)
      exact x_iret (by decide +kernel : am_at co_X12_has 62 = some (1, .ireturn)) h
    · refine ⟨62, by rw [q]; rfl, ?_⟩
      have h := h.2.2.2.2.1 q
      refine x_aload_n (by decide +kernel : am_at co_X12_has 63 = some (1, .aload_n 0)) rfl ?_
      refine x_iload_n (by decide +kernel : am_at co_X12_has 64 = some (1, .iload_n 1)) rfl ?_
      refine x_iconst (by decide +kernel : am_at co_X12_has 65 = some (1, .iconst 3)) ?_
      obtain ⟨o3, h⟩ := h
      refine x_isub (by decide +kernel : am_at co_X12_has 66 = some (1, .isub)) o3 ?_
      refine x_callV (n := 2) (by decide +kernel : am_at co_X12_has 67 = some (3, .invokevirtual 401)) pq_12_401 pm_X12_settingOf rfl rfl rfl ob_152 h (x_k0 fun x5 M5 h => ?_)
      exact x_iret (by decide +kernel : am_at co_X12_has 70 = some (1, .ireturn)) h
    · refine ⟨62, by rw [q]; rfl, ?_⟩
      have h := h.2.2.2.2.2.1 q
      refine x_aload_n (by decide +kernel : am_at co_X12_has 63 = some (1, .aload_n 0)) rfl ?_
      refine x_iload_n (by decide +kernel : am_at co_X12_has 64 = some (1, .iload_n 1)) rfl ?_
      refine x_iconst (by decide +kernel : am_at co_X12_has 65 = some (1, .iconst 3)) ?_
      obtain ⟨o5, h⟩ := h
      refine x_isub (by decide +kernel : am_at co_X12_has 66 = some (1, .isub)) o5 ?_
      refine x_callV (n := 2) (by decide +kernel : am_at co_X12_has 67 = some (3, .invokevirtual 401)) pq_12_401 pm_X12_settingOf rfl rfl rfl ob_152 h (x_k0 fun x7 M7 h => ?_)
      exact x_iret (by decide +kernel : am_at co_X12_has 70 = some (1, .ireturn)) h
    · refine ⟨62, by rw [q]; rfl, ?_⟩
      have h := h.2.2.2.2.2.2.1 q
      refine x_aload_n (by decide +kernel : am_at co_X12_has 63 = some (1, .aload_n 0)) rfl ?_
      refine x_iload_n (by decide +kernel : am_at co_X12_has 64 = some (1, .iload_n 1)) rfl ?_
      refine x_iconst (by decide +kernel : am_at co_X12_has 65 = some (1, .iconst 3)) ?_
      obtain ⟨o7, h⟩ := h
      refine x_isub (by decide +kernel : am_at co_X12_has 66 = some (1, .isub)) o7 ?_
      refine x_callV (n := 2) (by decide +kernel : am_at co_X12_has 67 = some (3, .invokevirtual 401)) pq_12_401 pm_X12_settingOf rfl rfl rfl ob_152 h (x_k0 fun x9 M9 h => ?_)
      exact x_iret (by decide +kernel : am_at co_X12_has 70 = some (1, .ireturn)) h
    · refine ⟨70, by rw [q]; rfl, ?_⟩
      have h := h.2.2.2.2.2.2.2.1 q
      refine x_aload_n (by decide +kernel : am_at co_X12_has 71 = some (1, .aload_n 0)) rfl ?_
      refine x_callV (n := 1) (by decide +kernel : am_at co_X12_has 72 = some (3, .invokevirtual 439)) pq_12_439 pm_X12_atHome rfl rfl rfl ob_152 h (x_k0 fun x10 M10 h => ?_)
      exact x_iret (by decide +kernel : am_at co_X12_has 75 = some (1, .ireturn)) h
    · refine ⟨75, by rw [q]; rfl, ?_⟩
      have h := h.2.2.2.2.2.2.2.2 q
      refine x_aload_n (by decide +kernel : am_at co_X12_has 76 = some (1, .aload_n 0)) rfl ?_
      refine x_getf (by decide +kernel : am_at co_X12_has 77 = some (3, .getfield 337)) pq_12_337 rfl ob_152 ?_
      exact x_iret (by decide +kernel : am_at co_X12_has 80 = some (1, .ireturn)) h
set_option maxRecDepth 20000 in
theorem bk_X12_letter_0 {d : Nat} {Q : am_Q} {M : am_M} {v1 v2 v3 : Int} (h : am_cal pg d 169 [(1, v1), (1, 0), (1, 2)] sh_T M (am_c0 sh_T fun x1 M1 => ((x1 = 0 → Q (some (0, (-1)), sh_T, M1)) ∧ (¬ x1 = 0 → am_r (3 + v1) ∧ (0 ≤ 3 + v1 ∧ 3 + v1 < 6) ∧ am_r ((M1 174 (3 + v1)) - 1) ∧ am_cal pg d 169 [(1, v2), (1, 0), (1, (M1 174 (3 + v1)) - 1)] sh_T M1 (am_c0 sh_T fun x6 M6 => ((x6 = 0 → Q (some (0, (-1)), sh_T, M6)) ∧ (¬ x6 = 0 → am_cal pg d 169 [(1, v3), (1, 0), (1, 5)] sh_T M6 (am_c0 sh_T fun x8 M8 => ((¬ x8 = 0 → am_r (6 * v1) ∧ am_r (18 + (6 * v1)) ∧ am_r ((18 + (6 * v1)) + v2) ∧ (0 ≤ (18 + (6 * v1)) + v2 ∧ (18 + (6 * v1)) + v2 < 36) ∧ am_g 12 0 co_X12_letter d Q 69 [(3, 0), (3, 0), (3, 0), (0, v3), (1, M8 175 ((18 + (6 * v1)) + v2)), (3, 0), (0, 0), (1, M8 175 ((18 + (6 * v1)) + v2)), (3, 0)] [] sh_T M8) ∧ (x8 = 0 → Q (some (0, (-1)), sh_T, M8))))))))))) : am_g 12 0 co_X12_letter d Q 0 [(2, 152), (0, v1), (0, v2), (0, v3), (3, 0), (3, 0), (3, 0), (3, 0), (3, 0)] [] sh_T M := by
  refine x_iload_n (by decide +kernel : am_at co_X12_letter 0 = some (1, .iload_n 1)) rfl ?_
  refine x_i2l (by decide +kernel : am_at co_X12_letter 1 = some (1, .i2l)) ?_
  refine x_lconst (by decide +kernel : am_at co_X12_letter 2 = some (1, .lconst 0)) ?_
  refine x_ldc2 (by decide +kernel : am_at co_X12_letter 3 = some (3, .ldc2_w 442)) pq_12_442 ?_
  refine x_callS (n := 3) (by decide +kernel : am_at co_X12_letter 6 = some (3, .invokestatic 249)) pq_12_249 rfl rfl rfl h (x_k0 fun x1 M1 h => ?_)
  refine x_if (tgt := 44) (by decide +kernel : am_at co_X12_letter 9 = some (3, .ifCond .eq 35)) rfl Iff.rfl (fun c1 => ?_) (fun c1 => ?_)
  · have h := h.1 c1
    refine x_iconst (by decide +kernel : am_at co_X12_letter 44 = some (1, .iconst (-1))) ?_
    exact x_iret (by decide +kernel : am_at co_X12_letter 45 = some (1, .ireturn)) h
  · have c1 := c1
    have h := h.2 c1
    refine x_iload_n (by decide +kernel : am_at co_X12_letter 12 = some (1, .iload_n 2)) rfl ?_
    refine x_i2l (by decide +kernel : am_at co_X12_letter 13 = some (1, .i2l)) ?_
    refine x_lconst (by decide +kernel : am_at co_X12_letter 14 = some (1, .lconst 0)) ?_
    refine x_aload_n (by decide +kernel : am_at co_X12_letter 15 = some (1, .aload_n 0)) rfl ?_
    refine x_getF (by decide +kernel : am_at co_X12_letter 16 = some (3, .getfield 78)) pq_12_78 (by decide) rfl ob_152 ?_
    refine x_top2 (show 152 + 22 = 174 from rfl) ?_
    refine x_iconst (by decide +kernel : am_at co_X12_letter 19 = some (1, .iconst 3)) ?_
    refine x_iload_n (by decide +kernel : am_at co_X12_letter 20 = some (1, .iload_n 1)) rfl ?_
    obtain ⟨o2, h⟩ := h
    refine x_iadd (by decide +kernel : am_at co_X12_letter 21 = some (1, .iadd)) o2 ?_
    obtain ⟨o3, h⟩ := h
    refine x_iald (by decide +kernel : am_at co_X12_letter 22 = some (1, .iaload)) (ia_174 o3.1 o3.2) ?_
    refine x_iconst (by decide +kernel : am_at co_X12_letter 23 = some (1, .iconst 1)) ?_
    obtain ⟨o4, h⟩ := h
    refine x_isub (by decide +kernel : am_at co_X12_letter 24 = some (1, .isub)) o4 ?_
    refine x_i2l (by decide +kernel : am_at co_X12_letter 25 = some (1, .i2l)) ?_
    refine x_callS (n := 3) (by decide +kernel : am_at co_X12_letter 26 = some (3, .invokestatic 249)) pq_12_249 rfl rfl rfl h (x_k0 fun x6 M6 h => ?_)
    refine x_if (tgt := 44) (by decide +kernel : am_at co_X12_letter 29 = some (3, .ifCond .eq 15)) rfl Iff.rfl (fun c6 => ?_) (fun c6 => ?_)
    · have h := h.1 c6
      refine x_iconst (by decide +kernel : am_at co_X12_letter 44 = some (1, .iconst (-1))) ?_
      exact x_iret (by decide +kernel : am_at co_X12_letter 45 = some (1, .ireturn)) h
    · have c6 := c6
      have h := h.2 c6
      refine x_iload_n (by decide +kernel : am_at co_X12_letter 32 = some (1, .iload_n 3)) rfl ?_
      refine x_i2l (by decide +kernel : am_at co_X12_letter 33 = some (1, .i2l)) ?_
      refine x_lconst (by decide +kernel : am_at co_X12_letter 34 = some (1, .lconst 0)) ?_
      refine x_ldc2 (by decide +kernel : am_at co_X12_letter 35 = some (3, .ldc2_w 444)) pq_12_444 ?_
      refine x_callS (n := 3) (by decide +kernel : am_at co_X12_letter 38 = some (3, .invokestatic 249)) pq_12_249 rfl rfl rfl h (x_k0 fun x8 M8 h => ?_)
      refine x_if (tgt := 46) (by decide +kernel : am_at co_X12_letter 41 = some (3, .ifCond .ne 5)) rfl Iff.rfl (fun c8 => ?_) (fun c8 => ?_)
      · have h := h.1 c8
        refine x_aload_n (by decide +kernel : am_at co_X12_letter 46 = some (1, .aload_n 0)) rfl ?_
        refine x_getF (by decide +kernel : am_at co_X12_letter 47 = some (3, .getfield 81)) pq_12_81 (by decide) rfl ob_152 ?_
        refine x_top2 (show 152 + 23 = 175 from rfl) ?_
        refine x_bipush (by decide +kernel : am_at co_X12_letter 50 = some (2, .bipush 18)) ?_
        refine x_bipush (by decide +kernel : am_at co_X12_letter 52 = some (2, .bipush 6)) ?_
        refine x_iload_n (by decide +kernel : am_at co_X12_letter 54 = some (1, .iload_n 1)) rfl ?_
        obtain ⟨o9, h⟩ := h
        refine x_imul (by decide +kernel : am_at co_X12_letter 55 = some (1, .imul)) o9 ?_
        obtain ⟨o10, h⟩ := h
        refine x_iadd (by decide +kernel : am_at co_X12_letter 56 = some (1, .iadd)) o10 ?_
        refine x_iload_n (by decide +kernel : am_at co_X12_letter 57 = some (1, .iload_n 2)) rfl ?_
        obtain ⟨o11, h⟩ := h
        refine x_iadd (by decide +kernel : am_at co_X12_letter 58 = some (1, .iadd)) o11 ?_
        obtain ⟨o12, h⟩ := h
        refine x_lald (by decide +kernel : am_at co_X12_letter 59 = some (1, .laload)) (ia_175 o12.1 o12.2) ?_
        refine x_lstore (L' := [(2, 152), (0, v1), (0, v2), (0, v3), (1, M8 175 ((18 + (6 * v1)) + v2)), (3, 0), (3, 0), (3, 0), (3, 0)]) (by decide +kernel : am_at co_X12_letter 60 = some (2, .lstore 4)) rfl ?_
        refine x_iconst (by decide +kernel : am_at co_X12_letter 62 = some (1, .iconst 0)) ?_
        refine x_istore (L' := [(2, 152), (0, v1), (0, v2), (0, v3), (1, M8 175 ((18 + (6 * v1)) + v2)), (3, 0), (0, 0), (3, 0), (3, 0)]) (by decide +kernel : am_at co_X12_letter 63 = some (2, .istore 6)) rfl ?_
        refine x_lload (by decide +kernel : am_at co_X12_letter 65 = some (2, .lload 4)) rfl ?_
        refine x_lstore (L' := [(2, 152), (0, v1), (0, v2), (0, v3), (1, M8 175 ((18 + (6 * v1)) + v2)), (3, 0), (0, 0), (1, M8 175 ((18 + (6 * v1)) + v2)), (3, 0)]) (by decide +kernel : am_at co_X12_letter 67 = some (2, .lstore 7)) rfl ?_
        exact am_weak (ld (ld (ld (lk (lk (lk (lk (lk (lk ln))))))))) h
      · have c8 := (Classical.not_not.mp c8)
        have h := h.2 c8
        refine x_iconst (by decide +kernel : am_at co_X12_letter 44 = some (1, .iconst (-1))) ?_
        exact x_iret (by decide +kernel : am_at co_X12_letter 45 = some (1, .ireturn)) h
set_option maxRecDepth 20000 in
theorem bk_X12_letter_69 {d : Nat} {Q : am_Q} {M : am_M} {v3 v4 v6 v7 : Int} (h : ((v7 ≤ 0 → ((v3 < v6 → am_r (v6 - 1) ∧ am_g 12 0 co_X12_letter d Q 104 [(3, 0), (3, 0), (3, 0), (0, v3), (1, v4), (3, 0), (3, 0), (0, v6 - 1), (3, 0)] [] sh_T M) ∧ (v6 ≤ v3 → Q (some (0, 0), sh_T, M)))) ∧ (0 < v7 → am_r (v6 + 1) ∧ am_rl (v7.tdiv 27) ∧ am_g 12 0 co_X12_letter d Q 69 [(3, 0), (3, 0), (3, 0), (0, v3), (1, v4), (3, 0), (0, v6 + 1), (1, v7.tdiv 27), (3, 0)] [] sh_T M))) : am_g 12 0 co_X12_letter d Q 69 [(3, 0), (3, 0), (3, 0), (0, v3), (1, v4), (3, 0), (0, v6), (1, v7), (3, 0)] [] sh_T M := by
  refine x_lload (by decide +kernel : am_at co_X12_letter 69 = some (2, .lload 7)) rfl ?_
  refine x_lconst (by decide +kernel : am_at co_X12_letter 71 = some (1, .lconst 0)) ?_
  refine x_lif (tgt := 90) (by decide +kernel : am_at co_X12_letter 72 = some (1, .lcmp)) (by decide +kernel : am_at co_X12_letter 73 = some (3, .ifCond .le 17)) rfl Iff.rfl (fun c0 => ?_) (fun c0 => ?_)
  · have h := h.1 c0
    refine x_iload_n (by decide +kernel : am_at co_X12_letter 90 = some (1, .iload_n 3)) rfl ?_
    refine x_iload (by decide +kernel : am_at co_X12_letter 91 = some (2, .iload 6)) rfl ?_
    refine x_icmp (tgt := 98) (by decide +kernel : am_at co_X12_letter 93 = some (3, .if_icmp .lt 5)) rfl Iff.rfl (fun c1 => ?_) (fun c1 => ?_)
    · have h := h.1 c1
      refine x_iload (by decide +kernel : am_at co_X12_letter 98 = some (2, .iload 6)) rfl ?_
      refine x_iconst (by decide +kernel : am_at co_X12_letter 100 = some (1, .iconst 1)) ?_
      obtain ⟨o2, h⟩ := h
      refine x_isub (by decide +kernel : am_at co_X12_letter 101 = some (1, .isub)) o2 ?_
      refine x_istore (L' := [(3, 0), (3, 0), (3, 0), (0, v3), (1, v4), (3, 0), (0, v6), (0, v6 - 1), (3, 0)]) (by decide +kernel : am_at co_X12_letter 102 = some (2, .istore 7)) rfl ?_
      exact am_weak (lk (lk (lk (lk (lk (lk (ld (lk (lk ln))))))))) h
    · have c1 := (Int.not_lt.mp c1)
      have h := h.2 c1
      refine x_iconst (by decide +kernel : am_at co_X12_letter 96 = some (1, .iconst 0)) ?_
      exact x_iret (by decide +kernel : am_at co_X12_letter 97 = some (1, .ireturn)) h
  · have c0 := (Int.not_le.mp c0)
    have h := h.2 c0
    obtain ⟨o3, h⟩ := h
    refine x_iinc (L' := [(3, 0), (3, 0), (3, 0), (0, v3), (1, v4), (3, 0), (0, v6 + 1), (1, v7), (3, 0)]) (by decide +kernel : am_at co_X12_letter 76 = some (3, .iinc 6 1)) rfl o3 rfl ?_
    refine x_lload (by decide +kernel : am_at co_X12_letter 79 = some (2, .lload 7)) rfl ?_
    refine x_ldc2 (by decide +kernel : am_at co_X12_letter 81 = some (3, .ldc2_w 260)) pq_12_260 ?_
    obtain ⟨o4, h⟩ := h
    refine x_ldiv (by decide +kernel : am_at co_X12_letter 84 = some (1, .ldiv)) (by decide) o4 ?_
    refine x_lstore (L' := [(3, 0), (3, 0), (3, 0), (0, v3), (1, v4), (3, 0), (0, v6 + 1), (1, v7.tdiv 27), (3, 0)]) (by decide +kernel : am_at co_X12_letter 85 = some (2, .lstore 7)) rfl ?_
    refine x_goto (tgt := 69) (by decide +kernel : am_at co_X12_letter 87 = some (3, .goto (-18))) rfl ?_
    exact am_weak (lk (lk (lk (lk (lk (lk (lk (lk (lk ln))))))))) h
set_option maxRecDepth 20000 in
theorem bk_X12_letter_104 {d : Nat} {Q : am_Q} {M : am_M} {v3 v4 v7 : Int} (h : ((v7 ≤ v3 → am_r (v4.tmod 27) ∧ Q (some (0, v4.tmod 27), sh_T, M)) ∧ (v3 < v7 → am_rl (v4.tdiv 27) ∧ am_r (v7 + (-1)) ∧ am_g 12 0 co_X12_letter d Q 104 [(3, 0), (3, 0), (3, 0), (0, v3), (1, v4.tdiv 27), (3, 0), (3, 0), (0, v7 + (-1)), (3, 0)] [] sh_T M))) : am_g 12 0 co_X12_letter d Q 104 [(3, 0), (3, 0), (3, 0), (0, v3), (1, v4), (3, 0), (3, 0), (0, v7), (3, 0)] [] sh_T M := by
  refine x_iload (by decide +kernel : am_at co_X12_letter 104 = some (2, .iload 7)) rfl ?_
  refine x_iload_n (by decide +kernel : am_at co_X12_letter 106 = some (1, .iload_n 3)) rfl ?_
  refine x_icmp (tgt := 124) (by decide +kernel : am_at co_X12_letter 107 = some (3, .if_icmp .le 17)) rfl Iff.rfl (fun c0 => ?_) (fun c0 => ?_)
  · have h := h.1 c0
    refine x_lload (by decide +kernel : am_at co_X12_letter 124 = some (2, .lload 4)) rfl ?_
    refine x_ldc2 (by decide +kernel : am_at co_X12_letter 126 = some (3, .ldc2_w 260)) pq_12_260 ?_
    refine x_lrem (by decide +kernel : am_at co_X12_letter 129 = some (1, .lrem)) (by decide) ?_
    obtain ⟨o1, h⟩ := h
    refine x_l2i (by decide +kernel : am_at co_X12_letter 130 = some (1, .l2i)) o1 ?_
    exact x_iret (by decide +kernel : am_at co_X12_letter 131 = some (1, .ireturn)) h
  · have c0 := (Int.not_le.mp c0)
    have h := h.2 c0
    refine x_lload (by decide +kernel : am_at co_X12_letter 110 = some (2, .lload 4)) rfl ?_
    refine x_ldc2 (by decide +kernel : am_at co_X12_letter 112 = some (3, .ldc2_w 260)) pq_12_260 ?_
    obtain ⟨o2, h⟩ := h
    refine x_ldiv (by decide +kernel : am_at co_X12_letter 115 = some (1, .ldiv)) (by decide) o2 ?_
    refine x_lstore (L' := [(3, 0), (3, 0), (3, 0), (0, v3), (1, v4.tdiv 27), (3, 0), (3, 0), (0, v7), (3, 0)]) (by decide +kernel : am_at co_X12_letter 116 = some (2, .lstore 4)) rfl ?_
    obtain ⟨o3, h⟩ := h
    refine x_iinc (L' := [(3, 0), (3, 0), (3, 0), (0, v3), (1, v4.tdiv 27), (3, 0), (3, 0), (0, v7 + (-1)), (3, 0)]) (by decide +kernel : am_at co_X12_letter 118 = some (3, .iinc 7 (-1))) rfl o3 rfl ?_
    refine x_goto (tgt := 104) (by decide +kernel : am_at co_X12_letter 121 = some (3, .goto (-17))) rfl ?_
    exact am_weak (lk (lk (lk (lk (lk (lk (lk (lk (lk ln))))))))) h
set_option maxRecDepth 20000 in
theorem bk_X12_dreamer_0 {d : Nat} {Q : am_Q} {M : am_M} {v1 v2 : Int} (h : am_cal pg d 215 [(2, 152), (0, v1)] sh_T M (am_c0 sh_T fun x1 M1 => ((¬ x1 = 0 → am_cal pg d 218 [(2, 152), (0, v1), (0, 0)] sh_T M1 (am_cv sh_T fun M3 => am_cal pg d 230 [(2, 152), (0, v1)] sh_T M3 (am_c0 sh_T fun x4 M4 => am_cal pg d 226 [(2, 152), (0, 0), (0, x4), (0, (-1))] sh_T M4 (am_c0 sh_T fun x5 M5 => ((v2 < 0 ∨ 7 < v2 → Q (some (0, (-1)), sh_T, M5)) ∧ (v2 = 0 → am_r (4 + v1) ∧ (0 ≤ 4 + v1 ∧ 4 + v1 < 8) ∧ Q (some (0, M5 176 (4 + v1)), sh_T, M5)) ∧ (v2 = 1 → am_cal pg d 230 [(2, 152), (0, v1)] sh_T M5 (am_c0 sh_T fun x8 M8 => Q (some (0, x8), sh_T, M8))) ∧ (v2 = 2 → am_cal pg d 221 [(2, 152), (0, 0)] sh_T M5 (am_c0 sh_T fun x9 M9 => Q (some (0, x9), sh_T, M9))) ∧ (v2 = 3 → am_cal pg d 222 [(2, 152), (0, 0)] sh_T M5 (am_c0 sh_T fun x10 M10 => Q (some (0, x10), sh_T, M10))) ∧ (v2 = 4 → am_cal pg d 223 [(2, 152), (0, 0)] sh_T M5 (am_c0 sh_T fun x11 M11 => Q (some (0, x11), sh_T, M11))) ∧ (v2 = 5 → Q (some (0, x5), sh_T, M5)) ∧ (v2 = 6 → am_cal pg d 230 [(2, 152), (0, v1)] sh_T M5 (am_c0 sh_T fun x12 M12 => am_cal pg d 226 [(2, 152), (0, 0), (0, x12), (0, x5)] sh_T M12 (am_c0 sh_T fun x13 M13 => Q (some (0, x13), sh_T, M13)))) ∧ (v2 = 7 → am_cal pg d 224 [(2, 152), (0, 0)] sh_T M5 (am_c0 sh_T fun x14 M14 => ((x14 = 0 → Q (some (0, 0), sh_T, M14)) ∧ (¬ x14 = 0 → Q (some (0, 1), sh_T, M14)))))))))) ∧ (x1 = 0 → Q (some (0, (-1)), sh_T, M1))))) : am_g 12 0 co_X12_dreamer d Q 0 [(2, 152), (0, v1), (0, v2), (3, 0)] [] sh_T M := by
  refine x_aload_n (by decide +kernel : am_at co_X12_dreamer 0 = some (1, .aload_n 0)) rfl ?_
  refine x_iload_n (by decide +kernel : am_at co_X12_dreamer 1 = some (1, .iload_n 1)) rfl ?_
  refine x_callV (n := 2) (by decide +kernel : am_at co_X12_dreamer 2 = some (3, .invokevirtual 446)) pq_12_446 pm_X12_isDreamer rfl rfl rfl ob_152 h (x_k0 fun x1 M1 h => ?_)
  refine x_if (tgt := 10) (by decide +kernel : am_at co_X12_dreamer 5 = some (3, .ifCond .ne 5)) rfl Iff.rfl (fun c1 => ?_) (fun c1 => ?_)
  · have h := h.1 c1
    refine x_aload_n (by decide +kernel : am_at co_X12_dreamer 10 = some (1, .aload_n 0)) rfl ?_
    refine x_iload_n (by decide +kernel : am_at co_X12_dreamer 11 = some (1, .iload_n 1)) rfl ?_
    refine x_iconst (by decide +kernel : am_at co_X12_dreamer 12 = some (1, .iconst 0)) ?_
    refine x_callV (n := 3) (by decide +kernel : am_at co_X12_dreamer 13 = some (3, .invokevirtual 430)) pq_12_430 pm_X12_laysNow rfl rfl rfl ob_152 h (x_kv fun M3 h => ?_)
    refine x_aload_n (by decide +kernel : am_at co_X12_dreamer 16 = some (1, .aload_n 0)) rfl ?_
    refine x_iconst (by decide +kernel : am_at co_X12_dreamer 17 = some (1, .iconst 0)) ?_
    refine x_aload_n (by decide +kernel : am_at co_X12_dreamer 18 = some (1, .aload_n 0)) rfl ?_
    refine x_iload_n (by decide +kernel : am_at co_X12_dreamer 19 = some (1, .iload_n 1)) rfl ?_
    refine x_callV (n := 2) (by decide +kernel : am_at co_X12_dreamer 20 = some (3, .invokevirtual 449)) pq_12_449 pm_X12_guideOf rfl rfl rfl ob_152 h (x_k0 fun x4 M4 h => ?_)
    refine x_iconst (by decide +kernel : am_at co_X12_dreamer 23 = some (1, .iconst (-1))) ?_
    refine x_callV (n := 4) (by decide +kernel : am_at co_X12_dreamer 24 = some (3, .invokevirtual 423)) pq_12_423 pm_X12_worstAt rfl rfl rfl ob_152 h (x_k0 fun x5 M5 h => ?_)
    refine x_istore_n (L' := [(2, 152), (0, v1), (0, v2), (0, x5)]) (by decide +kernel : am_at co_X12_dreamer 27 = some (1, .istore_n 3)) rfl ?_
    refine x_iload_n (by decide +kernel : am_at co_X12_dreamer 28 = some (1, .iload_n 2)) rfl ?_
    refine x_tsw (by decide +kernel : am_at co_X12_dreamer 29 = some (47, .tableswitch 108 0 7 #[47, 56, 62, 68, 74, 80, 82, 94])) (fun q => ?_) (fun q1 q2 => ?_)
    · have h := h.1 q
      refine x_iconst (by decide +kernel : am_at co_X12_dreamer 137 = some (1, .iconst (-1))) ?_
      exact x_iret (by decide +kernel : am_at co_X12_dreamer 138 = some (1, .ireturn)) h
    · rcases (show v2 = 0 ∨ v2 = 1 ∨ v2 = 2 ∨ v2 = 3 ∨ v2 = 4 ∨ v2 = 5 ∨ v2 = 6 ∨ v2 = 7 by omega) with q | q | q | q | q | q | q | q
      · refine ⟨47, by rw [q]; rfl, ?_⟩
        have h := h.2.1 q
        refine x_aload_n (by decide +kernel : am_at co_X12_dreamer 76 = some (1, .aload_n 0)) rfl ?_
        refine x_getF (by decide +kernel : am_at co_X12_dreamer 77 = some (3, .getfield 85)) pq_12_85 (by decide) rfl ob_152 ?_
        refine x_top2 (show 152 + 24 = 176 from rfl) ?_
        refine x_iconst (by decide +kernel : am_at co_X12_dreamer 80 = some (1, .iconst 4)) ?_
        refine x_iload_n (by decide +kernel : am_at co_X12_dreamer 81 = some (1, .iload_n 1)) rfl ?_
        obtain ⟨o5, h⟩ := h
        refine x_iadd (by decide +kernel : am_at co_X12_dreamer 82 = some (1, .iadd)) o5 ?_
        obtain ⟨o6, h⟩ := h
        refine x_iald (by decide +kernel : am_at co_X12_dreamer 83 = some (1, .iaload)) (ia_176 o6.1 o6.2) ?_
        exact x_iret (by decide +kernel : am_at co_X12_dreamer 84 = some (1, .ireturn)) h
      · refine ⟨56, by rw [q]; rfl, ?_⟩
        have h := h.2.2.1 q
        refine x_aload_n (by decide +kernel : am_at co_X12_dreamer 85 = some (1, .aload_n 0)) rfl ?_
        refine x_iload_n (by decide +kernel : am_at co_X12_dreamer 86 = some (1, .iload_n 1)) rfl ?_
        refine x_callV (n := 2) (by decide +kernel : am_at co_X12_dreamer 87 = some (3, .invokevirtual 449)) pq_12_449 pm_X12_guideOf rfl rfl rfl ob_152 h (x_k0 fun x8 M8 h => ?_)
        exact x_iret (by decide +kernel : am_at co_X12_dreamer 90 = some (1, .ireturn)) h
      · refine ⟨62, by rw [q]; rfl, ?_⟩
        have h := h.2.2.2.1 q
        refine x_aload_n (by decide +kernel : am_at co_X12_dreamer 91 = some (1, .aload_n 0)) rfl ?_
        refine x_iconst (by decide +kernel : am_at co_X12_dreamer 92 = some (1, .iconst 0)) ?_
        refine x_callV (n := 2) (by decide +kernel : am_at co_X12_dreamer 93 = some (3, .invokevirtual 398)) pq_12_398 pm_X12_sumAt rfl rfl rfl ob_152 h (x_k0 fun x9 M9 h => ?_)
        exact x_iret (by decide +kernel : am_at co_X12_dreamer 96 = some (1, .ireturn)) h
      · refine ⟨68, by rw [q]; rfl, ?_⟩
        have h := h.2.2.2.2.1 q
        refine x_aload_n (by decide +kernel : am_at co_X12_dreamer 97 = some (1, .aload_n 0)) rfl ?_
        refine x_iconst (by decide +kernel : am_at co_X12_dreamer 98 = some (1, .iconst 0)) ?_
        refine x_callV (n := 2) (by decide +kernel : am_at co_X12_dreamer 99 = some (3, .invokevirtual 408)) pq_12_408 pm_X12_greatestAt rfl rfl rfl ob_152 h (x_k0 fun x10 M10 h => ?_)
        exact x_iret (by decide +kernel : am_at co_X12_dreamer 102 = some (1, .ireturn)) h
      · refine ⟨74, by rw [q]; rfl, ?_⟩
        have h := h.2.2.2.2.2.1 q
        refine x_aload_n (by decide +kernel : am_at co_X12_dreamer 103 = some (1, .aload_n 0)) rfl ?_
        refine x_iconst (by decide +kernel : am_at co_X12_dreamer 104 = some (1, .iconst 0)) ?_
        refine x_callV (n := 2) (by decide +kernel : am_at co_X12_dreamer 105 = some (3, .invokevirtual 411)) pq_12_411 pm_X12_manyAt rfl rfl rfl ob_152 h (x_k0 fun x11 M11 h => ?_)
        exact x_iret (by decide +kernel : am_at co_X12_dreamer 108 = some (1, .ireturn)) h
      · refine ⟨80, by rw [q]; rfl, ?_⟩
        have h := h.2.2.2.2.2.2.1 q
        refine x_iload_n (by decide +kernel : am_at co_X12_dreamer 109 = some (1, .iload_n 3)) rfl ?_
        exact x_iret (by decide +kernel : am_at co_X12_dreamer 110 = some (1, .ireturn)) h
      · refine ⟨82, by rw [q]; rfl, ?_⟩
        have h := h.2.2.2.2.2.2.2.1 q
        refine x_aload_n (by decide +kernel : am_at co_X12_dreamer 111 = some (1, .aload_n 0)) rfl ?_
        refine x_iconst (by decide +kernel : am_at co_X12_dreamer 112 = some (1, .iconst 0)) ?_
        refine x_aload_n (by decide +kernel : am_at co_X12_dreamer 113 = some (1, .aload_n 0)) rfl ?_
        refine x_iload_n (by decide +kernel : am_at co_X12_dreamer 114 = some (1, .iload_n 1)) rfl ?_
        refine x_callV (n := 2) (by decide +kernel : am_at co_X12_dreamer 115 = some (3, .invokevirtual 449)) pq_12_449 pm_X12_guideOf rfl rfl rfl ob_152 h (x_k0 fun x12 M12 h => ?_)
        refine x_iload_n (by decide +kernel : am_at co_X12_dreamer 118 = some (1, .iload_n 3)) rfl ?_
        refine x_callV (n := 4) (by decide +kernel : am_at co_X12_dreamer 119 = some (3, .invokevirtual 423)) pq_12_423 pm_X12_worstAt rfl rfl rfl ob_152 h (x_k0 fun x13 M13 h => ?_)
        exact x_iret (by decide +kernel : am_at co_X12_dreamer 122 = some (1, .ireturn)) h
      · refine ⟨94, by rw [q]; rfl, ?_⟩
        have h := h.2.2.2.2.2.2.2.2 q
        refine x_aload_n (by decide +kernel : am_at co_X12_dreamer 123 = some (1, .aload_n 0)) rfl ?_
        refine x_iconst (by decide +kernel : am_at co_X12_dreamer 124 = some (1, .iconst 0)) ?_
        refine x_callV (n := 2) (by decide +kernel : am_at co_X12_dreamer 125 = some (3, .invokevirtual 433)) pq_12_433 pm_X12_isHomeAt rfl rfl rfl ob_152 h (x_k0 fun x14 M14 h => ?_)
        refine x_if (tgt := 135) (by decide +kernel : am_at co_X12_dreamer 128 = some (3, .ifCond .eq 7)) rfl Iff.rfl (fun c14 => ?_) (fun c14 => ?_)
        · have h := h.1 c14
          refine x_iconst (by decide +kernel : am_at co_X12_dreamer 135 = some (1, .iconst 0)) ?_
          exact x_iret (by decide +kernel : am_at co_X12_dreamer 136 = some (1, .ireturn)) h
        · have c14 := c14
          have h := h.2 c14
          refine x_iconst (by decide +kernel : am_at co_X12_dreamer 131 = some (1, .iconst 1)) ?_
          refine x_goto (tgt := 136) (by decide +kernel : am_at co_X12_dreamer 132 = some (3, .goto 4)) rfl ?_
          exact x_iret (by decide +kernel : am_at co_X12_dreamer 136 = some (1, .ireturn)) h
  · have c1 := (Classical.not_not.mp c1)
    have h := h.2 c1
    refine x_iconst (by decide +kernel : am_at co_X12_dreamer 8 = some (1, .iconst (-1))) ?_
    exact x_iret (by decide +kernel : am_at co_X12_dreamer 9 = some (1, .ireturn)) h
set_option maxRecDepth 20000 in
theorem bk_X12_weigh_0 {d : Nat} {Q : am_Q} {M : am_M} {v1 v2 v3 : Int} (h : am_cal pg d 215 [(2, 152), (0, v1)] sh_T M (am_c0 sh_T fun x1 M1 => ((x1 = 0 → Q (some (0, (-1)), sh_T, M1)) ∧ (¬ x1 = 0 → am_cal pg d 214 [(2, 152), (0, v2)] sh_T M1 (am_c0 sh_T fun x3 M3 => ((x3 = 0 → Q (some (0, (-1)), sh_T, M3)) ∧ (¬ x3 = 0 → am_cal pg d 169 [(1, v3), (1, 0), (1, 4)] sh_T M3 (am_c0 sh_T fun x5 M5 => ((¬ x5 = 0 → am_cal pg d 218 [(2, 152), (0, v1), (0, 0)] sh_T M5 (am_cv sh_T fun M7 => ((¬ v3 = 0 → ((¬ v3 = 1 → am_r (v3 - 2) ∧ am_cal pg d 227 [(2, 152), (0, v3 - 2), (0, 0), (0, v2), (0, v1)] sh_T M7 (am_c0 sh_T fun x11 M11 => Q (some (0, x11), sh_T, M11))) ∧ (v3 = 1 → (0 ≤ v2 ∧ v2 < 1500) ∧ am_cal pg d 230 [(2, 152), (0, v1)] sh_T M7 (am_c0 sh_T fun x13 M13 => am_cal pg d 225 [(2, 152), (0, M7 187 v2), (0, v2), (0, x13)] sh_T M13 (am_c0 sh_T fun x14 M14 => Q (some (0, x14), sh_T, M14)))))) ∧ (v3 = 0 → (0 ≤ v2 ∧ v2 < 1500) ∧ Q (some (0, M7 187 v2), sh_T, M7))))) ∧ (x5 = 0 → Q (some (0, (-1)), sh_T, M5))))))))))) : am_g 12 0 co_X12_weigh d Q 0 [(2, 152), (0, v1), (0, v2), (0, v3)] [] sh_T M := by
  refine x_aload_n (by decide +kernel : am_at co_X12_weigh 0 = some (1, .aload_n 0)) rfl ?_
  refine x_iload_n (by decide +kernel : am_at co_X12_weigh 1 = some (1, .iload_n 1)) rfl ?_
  refine x_callV (n := 2) (by decide +kernel : am_at co_X12_weigh 2 = some (3, .invokevirtual 446)) pq_12_446 pm_X12_isDreamer rfl rfl rfl ob_152 h (x_k0 fun x1 M1 h => ?_)
  refine x_if (tgt := 28) (by decide +kernel : am_at co_X12_weigh 5 = some (3, .ifCond .eq 23)) rfl Iff.rfl (fun c1 => ?_) (fun c1 => ?_)
  · have h := h.1 c1
    refine x_iconst (by decide +kernel : am_at co_X12_weigh 28 = some (1, .iconst (-1))) ?_
    exact x_iret (by decide +kernel : am_at co_X12_weigh 29 = some (1, .ireturn)) h
  · have c1 := c1
    have h := h.2 c1
    refine x_aload_n (by decide +kernel : am_at co_X12_weigh 8 = some (1, .aload_n 0)) rfl ?_
    refine x_iload_n (by decide +kernel : am_at co_X12_weigh 9 = some (1, .iload_n 2)) rfl ?_
    refine x_callV (n := 2) (by decide +kernel : am_at co_X12_weigh 10 = some (3, .invokevirtual 452)) pq_12_452 pm_X12_isDread rfl rfl rfl ob_152 h (x_k0 fun x3 M3 h => ?_)
    refine x_if (tgt := 28) (by decide +kernel : am_at co_X12_weigh 13 = some (3, .ifCond .eq 15)) rfl Iff.rfl (fun c3 => ?_) (fun c3 => ?_)
    · have h := h.1 c3
      refine x_iconst (by decide +kernel : am_at co_X12_weigh 28 = some (1, .iconst (-1))) ?_
      exact x_iret (by decide +kernel : am_at co_X12_weigh 29 = some (1, .ireturn)) h
    · have c3 := c3
      have h := h.2 c3
      refine x_iload_n (by decide +kernel : am_at co_X12_weigh 16 = some (1, .iload_n 3)) rfl ?_
      refine x_i2l (by decide +kernel : am_at co_X12_weigh 17 = some (1, .i2l)) ?_
      refine x_lconst (by decide +kernel : am_at co_X12_weigh 18 = some (1, .lconst 0)) ?_
      refine x_ldc2 (by decide +kernel : am_at co_X12_weigh 19 = some (3, .ldc2_w 455)) pq_12_455 ?_
      refine x_callS (n := 3) (by decide +kernel : am_at co_X12_weigh 22 = some (3, .invokestatic 249)) pq_12_249 rfl rfl rfl h (x_k0 fun x5 M5 h => ?_)
      refine x_if (tgt := 30) (by decide +kernel : am_at co_X12_weigh 25 = some (3, .ifCond .ne 5)) rfl Iff.rfl (fun c5 => ?_) (fun c5 => ?_)
      · have h := h.1 c5
        refine x_aload_n (by decide +kernel : am_at co_X12_weigh 30 = some (1, .aload_n 0)) rfl ?_
        refine x_iload_n (by decide +kernel : am_at co_X12_weigh 31 = some (1, .iload_n 1)) rfl ?_
        refine x_iconst (by decide +kernel : am_at co_X12_weigh 32 = some (1, .iconst 0)) ?_
        refine x_callV (n := 3) (by decide +kernel : am_at co_X12_weigh 33 = some (3, .invokevirtual 430)) pq_12_430 pm_X12_laysNow rfl rfl rfl ob_152 h (x_kv fun M7 h => ?_)
        refine x_iload_n (by decide +kernel : am_at co_X12_weigh 36 = some (1, .iload_n 3)) rfl ?_
        refine x_if (tgt := 49) (by decide +kernel : am_at co_X12_weigh 37 = some (3, .ifCond .ne 12)) rfl Iff.rfl (fun c7 => ?_) (fun c7 => ?_)
        · have h := h.1 c7
          refine x_iload_n (by decide +kernel : am_at co_X12_weigh 49 = some (1, .iload_n 3)) rfl ?_
          refine x_iconst (by decide +kernel : am_at co_X12_weigh 50 = some (1, .iconst 1)) ?_
          refine x_icmp (tgt := 73) (by decide +kernel : am_at co_X12_weigh 51 = some (3, .if_icmp .ne 22)) rfl Iff.rfl (fun c8 => ?_) (fun c8 => ?_)
          · have h := h.1 c8
            refine x_aload_n (by decide +kernel : am_at co_X12_weigh 73 = some (1, .aload_n 0)) rfl ?_
            refine x_iload_n (by decide +kernel : am_at co_X12_weigh 74 = some (1, .iload_n 3)) rfl ?_
            refine x_iconst (by decide +kernel : am_at co_X12_weigh 75 = some (1, .iconst 2)) ?_
            obtain ⟨o9, h⟩ := h
            refine x_isub (by decide +kernel : am_at co_X12_weigh 76 = some (1, .isub)) o9 ?_
            refine x_iconst (by decide +kernel : am_at co_X12_weigh 77 = some (1, .iconst 0)) ?_
            refine x_iload_n (by decide +kernel : am_at co_X12_weigh 78 = some (1, .iload_n 2)) rfl ?_
            refine x_iload_n (by decide +kernel : am_at co_X12_weigh 79 = some (1, .iload_n 1)) rfl ?_
            refine x_callV (n := 5) (by decide +kernel : am_at co_X12_weigh 80 = some (3, .invokevirtual 426)) pq_12_426 pm_X12_made rfl rfl rfl ob_152 h (x_k0 fun x11 M11 h => ?_)
            exact x_iret (by decide +kernel : am_at co_X12_weigh 83 = some (1, .ireturn)) h
          · have c8 := (Classical.not_not.mp c8)
            have h := h.2 c8
            refine x_aload_n (by decide +kernel : am_at co_X12_weigh 54 = some (1, .aload_n 0)) rfl ?_
            refine x_aload_n (by decide +kernel : am_at co_X12_weigh 55 = some (1, .aload_n 0)) rfl ?_
            refine x_getF (by decide +kernel : am_at co_X12_weigh 56 = some (3, .getfield 118)) pq_12_118 (by decide) rfl ob_152 ?_
            refine x_top2 (show 152 + 35 = 187 from rfl) ?_
            refine x_iload_n (by decide +kernel : am_at co_X12_weigh 59 = some (1, .iload_n 2)) rfl ?_
            obtain ⟨o11, h⟩ := h
            refine x_iald (by decide +kernel : am_at co_X12_weigh 60 = some (1, .iaload)) (ia_187 o11.1 o11.2) ?_
            refine x_iload_n (by decide +kernel : am_at co_X12_weigh 61 = some (1, .iload_n 2)) rfl ?_
            refine x_aload_n (by decide +kernel : am_at co_X12_weigh 62 = some (1, .aload_n 0)) rfl ?_
            refine x_iload_n (by decide +kernel : am_at co_X12_weigh 63 = some (1, .iload_n 1)) rfl ?_
            refine x_callV (n := 2) (by decide +kernel : am_at co_X12_weigh 64 = some (3, .invokevirtual 449)) pq_12_449 pm_X12_guideOf rfl rfl rfl ob_152 h (x_k0 fun x13 M13 h => ?_)
            refine x_callV (n := 4) (by decide +kernel : am_at co_X12_weigh 67 = some (3, .invokevirtual 404)) pq_12_404 pm_X12_counts rfl rfl rfl ob_152 h (x_k0 fun x14 M14 h => ?_)
            refine x_goto (tgt := 83) (by decide +kernel : am_at co_X12_weigh 70 = some (3, .goto 13)) rfl ?_
            exact x_iret (by decide +kernel : am_at co_X12_weigh 83 = some (1, .ireturn)) h
        · have c7 := (Classical.not_not.mp c7)
          have h := h.2 c7
          refine x_aload_n (by decide +kernel : am_at co_X12_weigh 40 = some (1, .aload_n 0)) rfl ?_
          refine x_getF (by decide +kernel : am_at co_X12_weigh 41 = some (3, .getfield 118)) pq_12_118 (by decide) rfl ob_152 ?_
          refine x_top2 (show 152 + 35 = 187 from rfl) ?_
          refine x_iload_n (by decide +kernel : am_at co_X12_weigh 44 = some (1, .iload_n 2)) rfl ?_
          obtain ⟨o14, h⟩ := h
          refine x_iald (by decide +kernel : am_at co_X12_weigh 45 = some (1, .iaload)) (ia_187 o14.1 o14.2) ?_
          refine x_goto (tgt := 83) (by decide +kernel : am_at co_X12_weigh 46 = some (3, .goto 37)) rfl ?_
          exact x_iret (by decide +kernel : am_at co_X12_weigh 83 = some (1, .ireturn)) h
      · have c5 := (Classical.not_not.mp c5)
        have h := h.2 c5
        refine x_iconst (by decide +kernel : am_at co_X12_weigh 28 = some (1, .iconst (-1))) ?_
        exact x_iret (by decide +kernel : am_at co_X12_weigh 29 = some (1, .ireturn)) h
set_option maxRecDepth 20000 in
theorem bk_X12_guide_0 {d : Nat} {Q : am_Q} {M : am_M} {v1 : Int} (h : am_cal pg d 213 [(2, 152)] sh_T M (am_c0 sh_T fun x1 M1 => am_r (x1 - 1) ∧ am_cal pg d 169 [(1, v1), (1, 0), (1, x1 - 1)] sh_T M1 (am_c0 sh_T fun x3 M3 => ((x3 = 0 → Q (some (0, (-1)), sh_T, M3)) ∧ (¬ x3 = 0 → am_r (4 + v1) ∧ (0 ≤ 4 + v1 ∧ 4 + v1 < 8) ∧ Q (some (0, M3 178 (4 + v1)), sh_T, M3)))))) : am_g 12 0 co_X12_guide d Q 0 [(2, 152), (0, v1)] [] sh_T M := by
  refine x_iload_n (by decide +kernel : am_at co_X12_guide 0 = some (1, .iload_n 1)) rfl ?_
  refine x_i2l (by decide +kernel : am_at co_X12_guide 1 = some (1, .i2l)) ?_
  refine x_lconst (by decide +kernel : am_at co_X12_guide 2 = some (1, .lconst 0)) ?_
  refine x_aload_n (by decide +kernel : am_at co_X12_guide 3 = some (1, .aload_n 0)) rfl ?_
  refine x_callV (n := 1) (by decide +kernel : am_at co_X12_guide 4 = some (3, .invokevirtual 436)) pq_12_436 pm_X12_guideMany rfl rfl rfl ob_152 h (x_k0 fun x1 M1 h => ?_)
  refine x_iconst (by decide +kernel : am_at co_X12_guide 7 = some (1, .iconst 1)) ?_
  obtain ⟨o1, h⟩ := h
  refine x_isub (by decide +kernel : am_at co_X12_guide 8 = some (1, .isub)) o1 ?_
  refine x_i2l (by decide +kernel : am_at co_X12_guide 9 = some (1, .i2l)) ?_
  refine x_callS (n := 3) (by decide +kernel : am_at co_X12_guide 10 = some (3, .invokestatic 249)) pq_12_249 rfl rfl rfl h (x_k0 fun x3 M3 h => ?_)
  refine x_if (tgt := 27) (by decide +kernel : am_at co_X12_guide 13 = some (3, .ifCond .eq 14)) rfl Iff.rfl (fun c3 => ?_) (fun c3 => ?_)
  · have h := h.1 c3
    refine x_iconst (by decide +kernel : am_at co_X12_guide 27 = some (1, .iconst (-1))) ?_
    exact x_iret (by decide +kernel : am_at co_X12_guide 28 = some (1, .ireturn)) h
  · have c3 := c3
    have h := h.2 c3
    refine x_aload_n (by decide +kernel : am_at co_X12_guide 16 = some (1, .aload_n 0)) rfl ?_
    refine x_getF (by decide +kernel : am_at co_X12_guide 17 = some (3, .getfield 91)) pq_12_91 (by decide) rfl ob_152 ?_
    refine x_top2 (show 152 + 26 = 178 from rfl) ?_
    refine x_iconst (by decide +kernel : am_at co_X12_guide 20 = some (1, .iconst 4)) ?_
    refine x_iload_n (by decide +kernel : am_at co_X12_guide 21 = some (1, .iload_n 1)) rfl ?_
    obtain ⟨o4, h⟩ := h
    refine x_iadd (by decide +kernel : am_at co_X12_guide 22 = some (1, .iadd)) o4 ?_
    obtain ⟨o5, h⟩ := h
    refine x_iald (by decide +kernel : am_at co_X12_guide 23 = some (1, .iaload)) (ia_178 o5.1 o5.2) ?_
    refine x_goto (tgt := 28) (by decide +kernel : am_at co_X12_guide 24 = some (3, .goto 4)) rfl ?_
    exact x_iret (by decide +kernel : am_at co_X12_guide 28 = some (1, .ireturn)) h
set_option maxRecDepth 20000 in
theorem bk_X12_goesAhead_0 {d : Nat} {Q : am_Q} {M : am_M} {v1 : Int} (h : am_cal pg d 218 [(2, 152), (0, v1), (0, 0)] sh_T (am_up M 152 50 0) (am_cv sh_T fun M1 => am_g 12 9 co_X12_goesAhead d Q 11 [(2, 152), (0, v1)] [] sh_T M1)) : am_g 12 9 co_X12_goesAhead d Q 0 [(2, 152), (0, v1)] [] sh_T M := by
  refine x_aload_n (by decide +kernel : am_at co_X12_goesAhead 0 = some (1, .aload_n 0)) rfl ?_
  refine x_iconst (by decide +kernel : am_at co_X12_goesAhead 1 = some (1, .iconst 0)) ?_
  refine x_putf0 (by decide +kernel : am_at co_X12_goesAhead 2 = some (3, .putfield 457)) pq_12_457 rfl ob_152 ?_
  refine x_aload_n (by decide +kernel : am_at co_X12_goesAhead 5 = some (1, .aload_n 0)) rfl ?_
  refine x_iload_n (by decide +kernel : am_at co_X12_goesAhead 6 = some (1, .iload_n 1)) rfl ?_
  refine x_iconst (by decide +kernel : am_at co_X12_goesAhead 7 = some (1, .iconst 0)) ?_
  refine x_callV (n := 3) (by decide +kernel : am_at co_X12_goesAhead 8 = some (3, .invokevirtual 430)) pq_12_430 pm_X12_laysNow rfl rfl rfl ob_152 h (x_kv fun M1 h => ?_)
  exact am_weak (lk (lk ln)) h
set_option maxRecDepth 20000 in
theorem bk_X12_goesAhead_11 {d : Nat} {Q : am_Q} {M : am_M} {v1 : Int} (h : ((200 ≤ M 152 50 → Q (none, sh_T, M)) ∧ (M 152 50 < 200 → am_r (7 * (M 152 50)) ∧ am_cal pg d 224 [(2, 152), (0, 7 * (M 152 50))] sh_T M (am_c0 sh_T fun x3 M3 => ((¬ x3 = 0 → Q (none, sh_T, M3)) ∧ (x3 = 0 → am_r (7 * (M3 152 50)) ∧ am_r (7 * (M3 152 50)) ∧ am_r ((7 * (M3 152 50)) + 7) ∧ am_cal pg d 219 [(2, 152), (0, 7 * (M3 152 50)), (0, (7 * (M3 152 50)) + 7)] sh_T M3 (am_cv sh_T fun M8 => am_r (7 * (M8 152 50)) ∧ am_r ((7 * (M8 152 50)) + 7) ∧ am_cal pg d 230 [(2, 152), (0, v1)] sh_T M8 (am_c0 sh_T fun x11 M11 => am_cal pg d 228 [(2, 152), (0, (7 * (M8 152 50)) + 7), (0, v1), (0, x11), (0, 0)] sh_T M11 (am_c0 sh_T fun x12 M12 => (0 ≤ M8 152 50 ∧ M8 152 50 < 200) ∧ am_r ((M12 152 50) + 1) ∧ am_g 12 9 co_X12_goesAhead d Q 11 [(2, 152), (0, v1)] [] sh_T (am_up (am_up M12 188 (M8 152 50) x12) 152 50 ((M12 152 50) + 1))))))))))) : am_g 12 9 co_X12_goesAhead d Q 11 [(2, 152), (0, v1)] [] sh_T M := by
  refine x_aload_n (by decide +kernel : am_at co_X12_goesAhead 11 = some (1, .aload_n 0)) rfl ?_
  refine x_getf (by decide +kernel : am_at co_X12_goesAhead 12 = some (3, .getfield 457)) pq_12_457 rfl ob_152 ?_
  refine x_sipush (by decide +kernel : am_at co_X12_goesAhead 15 = some (3, .sipush 200)) ?_
  refine x_icmp (tgt := 99) (by decide +kernel : am_at co_X12_goesAhead 18 = some (3, .if_icmp .ge 81)) rfl Iff.rfl (fun c0 => ?_) (fun c0 => ?_)
  · have h := h.1 c0
    exact x_vret (by decide +kernel : am_at co_X12_goesAhead 99 = some (1, .return_)) h
  · have c0 := (Int.not_le.mp c0)
    have h := h.2 c0
    refine x_aload_n (by decide +kernel : am_at co_X12_goesAhead 21 = some (1, .aload_n 0)) rfl ?_
    refine x_bipush (by decide +kernel : am_at co_X12_goesAhead 22 = some (2, .bipush 7)) ?_
    refine x_aload_n (by decide +kernel : am_at co_X12_goesAhead 24 = some (1, .aload_n 0)) rfl ?_
    refine x_getf (by decide +kernel : am_at co_X12_goesAhead 25 = some (3, .getfield 457)) pq_12_457 rfl ob_152 ?_
    obtain ⟨o1, h⟩ := h
    refine x_imul (by decide +kernel : am_at co_X12_goesAhead 28 = some (1, .imul)) o1 ?_
    refine x_callV (n := 2) (by decide +kernel : am_at co_X12_goesAhead 29 = some (3, .invokevirtual 433)) pq_12_433 pm_X12_isHomeAt rfl rfl rfl ob_152 h (x_k0 fun x3 M3 h => ?_)
    refine x_if (tgt := 99) (by decide +kernel : am_at co_X12_goesAhead 32 = some (3, .ifCond .ne 67)) rfl Iff.rfl (fun c3 => ?_) (fun c3 => ?_)
    · have h := h.1 c3
      exact x_vret (by decide +kernel : am_at co_X12_goesAhead 99 = some (1, .return_)) h
    · have c3 := (Classical.not_not.mp c3)
      have h := h.2 c3
      refine x_aload_n (by decide +kernel : am_at co_X12_goesAhead 35 = some (1, .aload_n 0)) rfl ?_
      refine x_bipush (by decide +kernel : am_at co_X12_goesAhead 36 = some (2, .bipush 7)) ?_
      refine x_aload_n (by decide +kernel : am_at co_X12_goesAhead 38 = some (1, .aload_n 0)) rfl ?_
      refine x_getf (by decide +kernel : am_at co_X12_goesAhead 39 = some (3, .getfield 457)) pq_12_457 rfl ob_152 ?_
      obtain ⟨o4, h⟩ := h
      refine x_imul (by decide +kernel : am_at co_X12_goesAhead 42 = some (1, .imul)) o4 ?_
      refine x_bipush (by decide +kernel : am_at co_X12_goesAhead 43 = some (2, .bipush 7)) ?_
      refine x_aload_n (by decide +kernel : am_at co_X12_goesAhead 45 = some (1, .aload_n 0)) rfl ?_
      refine x_getf (by decide +kernel : am_at co_X12_goesAhead 46 = some (3, .getfield 457)) pq_12_457 rfl ob_152 ?_
      obtain ⟨o5, h⟩ := h
      refine x_imul (by decide +kernel : am_at co_X12_goesAhead 49 = some (1, .imul)) o5 ?_
      refine x_bipush (by decide +kernel : am_at co_X12_goesAhead 50 = some (2, .bipush 7)) ?_
      obtain ⟨o6, h⟩ := h
      refine x_iadd (by decide +kernel : am_at co_X12_goesAhead 52 = some (1, .iadd)) o6 ?_
      refine x_callV (n := 3) (by decide +kernel : am_at co_X12_goesAhead 53 = some (3, .invokevirtual 460)) pq_12_460 pm_X12_laysRow rfl rfl rfl ob_152 h (x_kv fun M8 h => ?_)
      refine x_aload_n (by decide +kernel : am_at co_X12_goesAhead 56 = some (1, .aload_n 0)) rfl ?_
      refine x_getF (by decide +kernel : am_at co_X12_goesAhead 57 = some (3, .getfield 121)) pq_12_121 (by decide) rfl ob_152 ?_
      refine x_top2 (show 152 + 36 = 188 from rfl) ?_
      refine x_aload_n (by decide +kernel : am_at co_X12_goesAhead 60 = some (1, .aload_n 0)) rfl ?_
      refine x_getf (by decide +kernel : am_at co_X12_goesAhead 61 = some (3, .getfield 457)) pq_12_457 rfl ob_152 ?_
      refine x_aload_n (by decide +kernel : am_at co_X12_goesAhead 64 = some (1, .aload_n 0)) rfl ?_
      refine x_bipush (by decide +kernel : am_at co_X12_goesAhead 65 = some (2, .bipush 7)) ?_
      refine x_aload_n (by decide +kernel : am_at co_X12_goesAhead 67 = some (1, .aload_n 0)) rfl ?_
      refine x_getf (by decide +kernel : am_at co_X12_goesAhead 68 = some (3, .getfield 457)) pq_12_457 rfl ob_152 ?_
      obtain ⟨o8, h⟩ := h
      refine x_imul (by decide +kernel : am_at co_X12_goesAhead 71 = some (1, .imul)) o8 ?_
      refine x_bipush (by decide +kernel : am_at co_X12_goesAhead 72 = some (2, .bipush 7)) ?_
      obtain ⟨o9, h⟩ := h
      refine x_iadd (by decide +kernel : am_at co_X12_goesAhead 74 = some (1, .iadd)) o9 ?_
      refine x_iload_n (by decide +kernel : am_at co_X12_goesAhead 75 = some (1, .iload_n 1)) rfl ?_
      refine x_aload_n (by decide +kernel : am_at co_X12_goesAhead 76 = some (1, .aload_n 0)) rfl ?_
      refine x_iload_n (by decide +kernel : am_at co_X12_goesAhead 77 = some (1, .iload_n 1)) rfl ?_
      refine x_callV (n := 2) (by decide +kernel : am_at co_X12_goesAhead 78 = some (3, .invokevirtual 449)) pq_12_449 pm_X12_guideOf rfl rfl rfl ob_152 h (x_k0 fun x11 M11 h => ?_)
      refine x_iconst (by decide +kernel : am_at co_X12_goesAhead 81 = some (1, .iconst 0)) ?_
      refine x_callV (n := 5) (by decide +kernel : am_at co_X12_goesAhead 82 = some (3, .invokevirtual 463)) pq_12_463 pm_X12_roomGoes rfl rfl rfl ob_152 h (x_k0 fun x12 M12 h => ?_)
      obtain ⟨o12, h⟩ := h
      refine x_iast (by decide +kernel : am_at co_X12_goesAhead 85 = some (1, .iastore)) (ow_188 o12.1 o12.2) ?_
      refine x_aload_n (by decide +kernel : am_at co_X12_goesAhead 86 = some (1, .aload_n 0)) rfl ?_
      refine x_dup2' (by decide +kernel : am_at co_X12_goesAhead 87 = some (1, .dup)) ?_
      refine x_getf (by decide +kernel : am_at co_X12_goesAhead 88 = some (3, .getfield 457)) pq_12_457 rfl ob_152 ?_
      refine x_top0 (show (am_up M12 188 (M8 152 50) x12) 152 50 = M12 152 50 from by first | rfl | simp [am_up]) ?_
      refine x_iconst (by decide +kernel : am_at co_X12_goesAhead 91 = some (1, .iconst 1)) ?_
      obtain ⟨o13, h⟩ := h
      refine x_iadd (by decide +kernel : am_at co_X12_goesAhead 92 = some (1, .iadd)) o13 ?_
      refine x_putf0 (by decide +kernel : am_at co_X12_goesAhead 93 = some (3, .putfield 457)) pq_12_457 rfl ob_152 ?_
      refine x_goto (tgt := 11) (by decide +kernel : am_at co_X12_goesAhead 96 = some (3, .goto (-85))) rfl ?_
      exact am_weak (lk (lk ln)) h
set_option maxRecDepth 20000 in
theorem bk_X12_room_0 {d : Nat} {Q : am_Q} {M : am_M} {v1 v2 : Int} (h : am_cal pg d 215 [(2, 152), (0, v1)] sh_T M (am_c0 sh_T fun x1 M1 => ((x1 = 0 → Q (some (0, (-1)), sh_T, M1)) ∧ (¬ x1 = 0 → am_cal pg d 169 [(1, v2), (1, 0), (1, 199)] sh_T M1 (am_c0 sh_T fun x3 M3 => ((¬ x3 = 0 → am_cal pg d 237 [(2, 152), (0, v1)] sh_T M3 (am_cv sh_T fun M5 => ((M5 152 50 ≤ v2 → Q (some (0, (-1)), sh_T, M5)) ∧ (v2 < M5 152 50 → (0 ≤ v2 ∧ v2 < 200) ∧ Q (some (0, M5 188 v2), sh_T, M5))))) ∧ (x3 = 0 → Q (some (0, (-1)), sh_T, M3)))))))) : am_g 12 0 co_X12_room d Q 0 [(2, 152), (0, v1), (0, v2)] [] sh_T M := by
  refine x_aload_n (by decide +kernel : am_at co_X12_room 0 = some (1, .aload_n 0)) rfl ?_
  refine x_iload_n (by decide +kernel : am_at co_X12_room 1 = some (1, .iload_n 1)) rfl ?_
  refine x_callV (n := 2) (by decide +kernel : am_at co_X12_room 2 = some (3, .invokevirtual 446)) pq_12_446 pm_X12_isDreamer rfl rfl rfl ob_152 h (x_k0 fun x1 M1 h => ?_)
  refine x_if (tgt := 20) (by decide +kernel : am_at co_X12_room 5 = some (3, .ifCond .eq 15)) rfl Iff.rfl (fun c1 => ?_) (fun c1 => ?_)
  · have h := h.1 c1
    refine x_iconst (by decide +kernel : am_at co_X12_room 20 = some (1, .iconst (-1))) ?_
    exact x_iret (by decide +kernel : am_at co_X12_room 21 = some (1, .ireturn)) h
  · have c1 := c1
    have h := h.2 c1
    refine x_iload_n (by decide +kernel : am_at co_X12_room 8 = some (1, .iload_n 2)) rfl ?_
    refine x_i2l (by decide +kernel : am_at co_X12_room 9 = some (1, .i2l)) ?_
    refine x_lconst (by decide +kernel : am_at co_X12_room 10 = some (1, .lconst 0)) ?_
    refine x_ldc2 (by decide +kernel : am_at co_X12_room 11 = some (3, .ldc2_w 467)) pq_12_467 ?_
    refine x_callS (n := 3) (by decide +kernel : am_at co_X12_room 14 = some (3, .invokestatic 249)) pq_12_249 rfl rfl rfl h (x_k0 fun x3 M3 h => ?_)
    refine x_if (tgt := 22) (by decide +kernel : am_at co_X12_room 17 = some (3, .ifCond .ne 5)) rfl Iff.rfl (fun c3 => ?_) (fun c3 => ?_)
    · have h := h.1 c3
      refine x_aload_n (by decide +kernel : am_at co_X12_room 22 = some (1, .aload_n 0)) rfl ?_
      refine x_iload_n (by decide +kernel : am_at co_X12_room 23 = some (1, .iload_n 1)) rfl ?_
      refine x_callV (n := 2) (by decide +kernel : am_at co_X12_room 24 = some (3, .invokevirtual 469)) pq_12_469 pm_X12_goesAhead rfl rfl rfl ob_152 h (x_kv fun M5 h => ?_)
      refine x_iload_n (by decide +kernel : am_at co_X12_room 27 = some (1, .iload_n 2)) rfl ?_
      refine x_aload_n (by decide +kernel : am_at co_X12_room 28 = some (1, .aload_n 0)) rfl ?_
      refine x_getf (by decide +kernel : am_at co_X12_room 29 = some (3, .getfield 457)) pq_12_457 rfl ob_152 ?_
      refine x_icmp (tgt := 44) (by decide +kernel : am_at co_X12_room 32 = some (3, .if_icmp .ge 12)) rfl Iff.rfl (fun c5 => ?_) (fun c5 => ?_)
      · have h := h.1 c5
        refine x_iconst (by decide +kernel : am_at co_X12_room 44 = some (1, .iconst (-1))) ?_
        exact x_iret (by decide +kernel : am_at co_X12_room 45 = some (1, .ireturn)) h
      · have c5 := (Int.not_le.mp c5)
        have h := h.2 c5
        refine x_aload_n (by decide +kernel : am_at co_X12_room 35 = some (1, .aload_n 0)) rfl ?_
        refine x_getF (by decide +kernel : am_at co_X12_room 36 = some (3, .getfield 121)) pq_12_121 (by decide) rfl ob_152 ?_
        refine x_top2 (show 152 + 36 = 188 from rfl) ?_
        refine x_iload_n (by decide +kernel : am_at co_X12_room 39 = some (1, .iload_n 2)) rfl ?_
        obtain ⟨o6, h⟩ := h
        refine x_iald (by decide +kernel : am_at co_X12_room 40 = some (1, .iaload)) (ia_188 o6.1 o6.2) ?_
        refine x_goto (tgt := 45) (by decide +kernel : am_at co_X12_room 41 = some (3, .goto 4)) rfl ?_
        exact x_iret (by decide +kernel : am_at co_X12_room 45 = some (1, .ireturn)) h
    · have c3 := (Classical.not_not.mp c3)
      have h := h.2 c3
      refine x_iconst (by decide +kernel : am_at co_X12_room 20 = some (1, .iconst (-1))) ?_
      exact x_iret (by decide +kernel : am_at co_X12_room 21 = some (1, .ireturn)) h
set_option maxRecDepth 20000 in
theorem bk_X12_later_0 {d : Nat} {Q : am_Q} {M : am_M} {v1 v2 v3 : Int} (h : am_cal pg d 215 [(2, 152), (0, v1)] sh_T M (am_c0 sh_T fun x1 M1 => ((x1 = 0 → Q (some (0, (-1)), sh_T, M1)) ∧ (¬ x1 = 0 → am_cal pg d 214 [(2, 152), (0, v2)] sh_T M1 (am_c0 sh_T fun x3 M3 => ((x3 = 0 → Q (some (0, (-1)), sh_T, M3)) ∧ (¬ x3 = 0 → am_cal pg d 169 [(1, v3), (1, 0), (1, 200)] sh_T M3 (am_c0 sh_T fun x5 M5 => ((¬ x5 = 0 → am_cal pg d 237 [(2, 152), (0, v1)] sh_T M5 (am_cv sh_T fun M7 => ((M7 152 50 ≤ v3 → am_r (7 * (M7 152 50)) ∧ am_r ((7 * (M7 152 50)) + v2) ∧ (0 ≤ (7 * (M7 152 50)) + v2 ∧ (7 * (M7 152 50)) + v2 < 1500) ∧ Q (some (0, M7 187 ((7 * (M7 152 50)) + v2)), sh_T, M7)) ∧ (v3 < M7 152 50 → am_r (7 * v3) ∧ am_r ((7 * v3) + v2) ∧ (0 ≤ (7 * v3) + v2 ∧ (7 * v3) + v2 < 1500) ∧ Q (some (0, M7 187 ((7 * v3) + v2)), sh_T, M7))))) ∧ (x5 = 0 → Q (some (0, (-1)), sh_T, M5))))))))))) : am_g 12 0 co_X12_later d Q 0 [(2, 152), (0, v1), (0, v2), (0, v3)] [] sh_T M := by
  refine x_aload_n (by decide +kernel : am_at co_X12_later 0 = some (1, .aload_n 0)) rfl ?_
  refine x_iload_n (by decide +kernel : am_at co_X12_later 1 = some (1, .iload_n 1)) rfl ?_
  refine x_callV (n := 2) (by decide +kernel : am_at co_X12_later 2 = some (3, .invokevirtual 446)) pq_12_446 pm_X12_isDreamer rfl rfl rfl ob_152 h (x_k0 fun x1 M1 h => ?_)
  refine x_if (tgt := 28) (by decide +kernel : am_at co_X12_later 5 = some (3, .ifCond .eq 23)) rfl Iff.rfl (fun c1 => ?_) (fun c1 => ?_)
  · have h := h.1 c1
    refine x_iconst (by decide +kernel : am_at co_X12_later 28 = some (1, .iconst (-1))) ?_
    exact x_iret (by decide +kernel : am_at co_X12_later 29 = some (1, .ireturn)) h
  · have c1 := c1
    have h := h.2 c1
    refine x_aload_n (by decide +kernel : am_at co_X12_later 8 = some (1, .aload_n 0)) rfl ?_
    refine x_iload_n (by decide +kernel : am_at co_X12_later 9 = some (1, .iload_n 2)) rfl ?_
    refine x_callV (n := 2) (by decide +kernel : am_at co_X12_later 10 = some (3, .invokevirtual 452)) pq_12_452 pm_X12_isDread rfl rfl rfl ob_152 h (x_k0 fun x3 M3 h => ?_)
    refine x_if (tgt := 28) (by decide +kernel : am_at co_X12_later 13 = some (3, .ifCond .eq 15)) rfl Iff.rfl (fun c3 => ?_) (fun c3 => ?_)
    · have h := h.1 c3
      refine x_iconst (by decide +kernel : am_at co_X12_later 28 = some (1, .iconst (-1))) ?_
      exact x_iret (by decide +kernel : am_at co_X12_later 29 = some (1, .ireturn)) h
    · have c3 := c3
      have h := h.2 c3
      refine x_iload_n (by decide +kernel : am_at co_X12_later 16 = some (1, .iload_n 3)) rfl ?_
      refine x_i2l (by decide +kernel : am_at co_X12_later 17 = some (1, .i2l)) ?_
      refine x_lconst (by decide +kernel : am_at co_X12_later 18 = some (1, .lconst 0)) ?_
      refine x_ldc2 (by decide +kernel : am_at co_X12_later 19 = some (3, .ldc2_w 472)) pq_12_472 ?_
      refine x_callS (n := 3) (by decide +kernel : am_at co_X12_later 22 = some (3, .invokestatic 249)) pq_12_249 rfl rfl rfl h (x_k0 fun x5 M5 h => ?_)
      refine x_if (tgt := 30) (by decide +kernel : am_at co_X12_later 25 = some (3, .ifCond .ne 5)) rfl Iff.rfl (fun c5 => ?_) (fun c5 => ?_)
      · have h := h.1 c5
        refine x_aload_n (by decide +kernel : am_at co_X12_later 30 = some (1, .aload_n 0)) rfl ?_
        refine x_iload_n (by decide +kernel : am_at co_X12_later 31 = some (1, .iload_n 1)) rfl ?_
        refine x_callV (n := 2) (by decide +kernel : am_at co_X12_later 32 = some (3, .invokevirtual 469)) pq_12_469 pm_X12_goesAhead rfl rfl rfl ob_152 h (x_kv fun M7 h => ?_)
        refine x_aload_n (by decide +kernel : am_at co_X12_later 35 = some (1, .aload_n 0)) rfl ?_
        refine x_getF (by decide +kernel : am_at co_X12_later 36 = some (3, .getfield 118)) pq_12_118 (by decide) rfl ob_152 ?_
        refine x_top2 (show 152 + 35 = 187 from rfl) ?_
        refine x_bipush (by decide +kernel : am_at co_X12_later 39 = some (2, .bipush 7)) ?_
        refine x_iload_n (by decide +kernel : am_at co_X12_later 41 = some (1, .iload_n 3)) rfl ?_
        refine x_aload_n (by decide +kernel : am_at co_X12_later 42 = some (1, .aload_n 0)) rfl ?_
        refine x_getf (by decide +kernel : am_at co_X12_later 43 = some (3, .getfield 457)) pq_12_457 rfl ob_152 ?_
        refine x_icmp (tgt := 53) (by decide +kernel : am_at co_X12_later 46 = some (3, .if_icmp .ge 7)) rfl Iff.rfl (fun c7 => ?_) (fun c7 => ?_)
        · have h := h.1 c7
          refine x_aload_n (by decide +kernel : am_at co_X12_later 53 = some (1, .aload_n 0)) rfl ?_
          refine x_getf (by decide +kernel : am_at co_X12_later 54 = some (3, .getfield 457)) pq_12_457 rfl ob_152 ?_
          obtain ⟨o8, h⟩ := h
          refine x_imul (by decide +kernel : am_at co_X12_later 57 = some (1, .imul)) o8 ?_
          refine x_iload_n (by decide +kernel : am_at co_X12_later 58 = some (1, .iload_n 2)) rfl ?_
          obtain ⟨o9, h⟩ := h
          refine x_iadd (by decide +kernel : am_at co_X12_later 59 = some (1, .iadd)) o9 ?_
          obtain ⟨o10, h⟩ := h
          refine x_iald (by decide +kernel : am_at co_X12_later 60 = some (1, .iaload)) (ia_187 o10.1 o10.2) ?_
          exact x_iret (by decide +kernel : am_at co_X12_later 61 = some (1, .ireturn)) h
        · have c7 := (Int.not_le.mp c7)
          have h := h.2 c7
          refine x_iload_n (by decide +kernel : am_at co_X12_later 49 = some (1, .iload_n 3)) rfl ?_
          refine x_goto (tgt := 57) (by decide +kernel : am_at co_X12_later 50 = some (3, .goto 7)) rfl ?_
          obtain ⟨o11, h⟩ := h
          refine x_imul (by decide +kernel : am_at co_X12_later 57 = some (1, .imul)) o11 ?_
          refine x_iload_n (by decide +kernel : am_at co_X12_later 58 = some (1, .iload_n 2)) rfl ?_
          obtain ⟨o12, h⟩ := h
          refine x_iadd (by decide +kernel : am_at co_X12_later 59 = some (1, .iadd)) o12 ?_
          obtain ⟨o13, h⟩ := h
          refine x_iald (by decide +kernel : am_at co_X12_later 60 = some (1, .iaload)) (ia_187 o13.1 o13.2) ?_
          exact x_iret (by decide +kernel : am_at co_X12_later 61 = some (1, .ireturn)) h
      · have c5 := (Classical.not_not.mp c5)
        have h := h.2 c5
        refine x_iconst (by decide +kernel : am_at co_X12_later 28 = some (1, .iconst (-1))) ?_
        exact x_iret (by decide +kernel : am_at co_X12_later 29 = some (1, .ireturn)) h
set_option maxRecDepth 20000 in
theorem bk_X12_till_0 {d : Nat} {Q : am_Q} {M : am_M} {v1 : Int} (h : am_cal pg d 215 [(2, 152), (0, v1)] sh_T M (am_c0 sh_T fun x1 M1 => ((¬ x1 = 0 → am_cal pg d 237 [(2, 152), (0, v1)] sh_T M1 (am_cv sh_T fun M3 => am_r (7 * (M3 152 50)) ∧ am_cal pg d 224 [(2, 152), (0, 7 * (M3 152 50))] sh_T M3 (am_c0 sh_T fun x5 M5 => ((x5 = 0 → Q (some (0, (-1)), sh_T, M5)) ∧ (¬ x5 = 0 → Q (some (0, M5 152 50), sh_T, M5)))))) ∧ (x1 = 0 → Q (some (0, (-1)), sh_T, M1))))) : am_g 12 0 co_X12_till d Q 0 [(2, 152), (0, v1)] [] sh_T M := by
  refine x_aload_n (by decide +kernel : am_at co_X12_till 0 = some (1, .aload_n 0)) rfl ?_
  refine x_iload_n (by decide +kernel : am_at co_X12_till 1 = some (1, .iload_n 1)) rfl ?_
  refine x_callV (n := 2) (by decide +kernel : am_at co_X12_till 2 = some (3, .invokevirtual 446)) pq_12_446 pm_X12_isDreamer rfl rfl rfl ob_152 h (x_k0 fun x1 M1 h => ?_)
  refine x_if (tgt := 10) (by decide +kernel : am_at co_X12_till 5 = some (3, .ifCond .ne 5)) rfl Iff.rfl (fun c1 => ?_) (fun c1 => ?_)
  · have h := h.1 c1
    refine x_aload_n (by decide +kernel : am_at co_X12_till 10 = some (1, .aload_n 0)) rfl ?_
    refine x_iload_n (by decide +kernel : am_at co_X12_till 11 = some (1, .iload_n 1)) rfl ?_
    refine x_callV (n := 2) (by decide +kernel : am_at co_X12_till 12 = some (3, .invokevirtual 469)) pq_12_469 pm_X12_goesAhead rfl rfl rfl ob_152 h (x_kv fun M3 h => ?_)
    refine x_aload_n (by decide +kernel : am_at co_X12_till 15 = some (1, .aload_n 0)) rfl ?_
    refine x_bipush (by decide +kernel : am_at co_X12_till 16 = some (2, .bipush 7)) ?_
    refine x_aload_n (by decide +kernel : am_at co_X12_till 18 = some (1, .aload_n 0)) rfl ?_
    refine x_getf (by decide +kernel : am_at co_X12_till 19 = some (3, .getfield 457)) pq_12_457 rfl ob_152 ?_
    obtain ⟨o3, h⟩ := h
    refine x_imul (by decide +kernel : am_at co_X12_till 22 = some (1, .imul)) o3 ?_
    refine x_callV (n := 2) (by decide +kernel : am_at co_X12_till 23 = some (3, .invokevirtual 433)) pq_12_433 pm_X12_isHomeAt rfl rfl rfl ob_152 h (x_k0 fun x5 M5 h => ?_)
    refine x_if (tgt := 36) (by decide +kernel : am_at co_X12_till 26 = some (3, .ifCond .eq 10)) rfl Iff.rfl (fun c5 => ?_) (fun c5 => ?_)
    · have h := h.1 c5
      refine x_iconst (by decide +kernel : am_at co_X12_till 36 = some (1, .iconst (-1))) ?_
      exact x_iret (by decide +kernel : am_at co_X12_till 37 = some (1, .ireturn)) h
    · have c5 := c5
      have h := h.2 c5
      refine x_aload_n (by decide +kernel : am_at co_X12_till 29 = some (1, .aload_n 0)) rfl ?_
      refine x_getf (by decide +kernel : am_at co_X12_till 30 = some (3, .getfield 457)) pq_12_457 rfl ob_152 ?_
      refine x_goto (tgt := 37) (by decide +kernel : am_at co_X12_till 33 = some (3, .goto 4)) rfl ?_
      exact x_iret (by decide +kernel : am_at co_X12_till 37 = some (1, .ireturn)) h
  · have c1 := (Classical.not_not.mp c1)
    have h := h.2 c1
    refine x_iconst (by decide +kernel : am_at co_X12_till 8 = some (1, .iconst (-1))) ?_
    exact x_iret (by decide +kernel : am_at co_X12_till 9 = some (1, .ireturn)) h
