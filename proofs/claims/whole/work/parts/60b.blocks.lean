/-! blocks (printed) -/
set_option maxRecDepth 20000 in
theorem bk_X12_nameOf_0 {d : Nat} {Q : am_Q} {M : am_M} {v1 v2 : Int} (h : am_g 12 0 co_X12_nameOf d Q 3 [(2, 152), (0, v1), (1, v2), (3, 0), (0, 0)] [] sh_T M) : am_g 12 0 co_X12_nameOf d Q 0 [(2, 152), (0, v1), (1, v2), (3, 0), (3, 0)] [] sh_T M := by
  refine x_iconst (by decide +kernel : am_at co_X12_nameOf 0 = some (1, .iconst 0)) ?_
  refine x_istore (L' := [(2, 152), (0, v1), (1, v2), (3, 0), (0, 0)]) (by decide +kernel : am_at co_X12_nameOf 1 = some (2, .istore 4)) rfl ?_
  exact am_weak (lk (lk (lk (lk (lk ln))))) h
set_option maxRecDepth 20000 in
theorem bk_X12_nameOf_3 {d : Nat} {Q : am_Q} {M : am_M} {v1 v2 v4 : Int} (h : (0 ≤ v1 ∧ v1 < 6) ∧ ((M 174 v1 ≤ v4 → Q (some (0, (-1)), sh_T, M)) ∧ (v4 < M 174 v1 → am_r (6 * v1) ∧ am_r ((6 * v1) + v4) ∧ (0 ≤ (6 * v1) + v4 ∧ (6 * v1) + v4 < 36) ∧ ((¬ M 175 ((6 * v1) + v4) = v2 → am_r (v4 + 1) ∧ am_g 12 0 co_X12_nameOf d Q 3 [(2, 152), (0, v1), (1, v2), (3, 0), (0, v4 + 1)] [] sh_T M) ∧ (M 175 ((6 * v1) + v4) = v2 → Q (some (0, v4), sh_T, M)))))) : am_g 12 0 co_X12_nameOf d Q 3 [(2, 152), (0, v1), (1, v2), (3, 0), (0, v4)] [] sh_T M := by
  refine x_iload (by decide +kernel : am_at co_X12_nameOf 3 = some (2, .iload 4)) rfl ?_
  refine x_aload_n (by decide +kernel : am_at co_X12_nameOf 5 = some (1, .aload_n 0)) rfl ?_
  refine x_getF (by decide +kernel : am_at co_X12_nameOf 6 = some (3, .getfield 78)) pq_12_78 (by decide) rfl ob_152 ?_
  refine x_top2 (show 152 + 22 = 174 from rfl) ?_
  refine x_iload_n (by decide +kernel : am_at co_X12_nameOf 9 = some (1, .iload_n 1)) rfl ?_
  obtain ⟨o0, h⟩ := h
  refine x_iald (by decide +kernel : am_at co_X12_nameOf 10 = some (1, .iaload)) (ia_174 o0.1 o0.2) ?_
  refine x_icmp (tgt := 40) (by decide +kernel : am_at co_X12_nameOf 11 = some (3, .if_icmp .ge 29)) rfl Iff.rfl (fun c1 => ?_) (fun c1 => ?_)
  · have h := h.1 c1
    refine x_iconst (by decide +kernel : am_at co_X12_nameOf 40 = some (1, .iconst (-1))) ?_
    exact x_iret (by decide +kernel : am_at co_X12_nameOf 41 = some (1, .ireturn)) h
  · have c1 := (Int.not_le.mp c1)
    have h := h.2 c1
    refine x_aload_n (by decide +kernel : am_at co_X12_nameOf 14 = some (1, .aload_n 0)) rfl ?_
    refine x_getF (by decide +kernel : am_at co_X12_nameOf 15 = some (3, .getfield 81)) pq_12_81 (by decide) rfl ob_152 ?_
    refine x_top2 (show 152 + 23 = 175 from rfl) ?_
    refine x_bipush (by decide +kernel : am_at co_X12_nameOf 18 = some (2, .bipush 6)) ?_
    refine x_iload_n (by decide +kernel : am_at co_X12_nameOf 20 = some (1, .iload_n 1)) rfl ?_
    obtain ⟨o2, h⟩ := h
    refine x_imul (by decide +kernel : am_at co_X12_nameOf 21 = some (1, .imul)) o2 ?_
    refine x_iload (by decide +kernel : am_at co_X12_nameOf 22 = some (2, .iload 4)) rfl ?_
    obtain ⟨o3, h⟩ := h
    refine x_iadd (by decide +kernel : am_at co_X12_nameOf 24 = some (1, .iadd)) o3 ?_
    obtain ⟨o4, h⟩ := h
    refine x_lald (by decide +kernel : am_at co_X12_nameOf 25 = some (1, .laload)) (ia_175 o4.1 o4.2) ?_
    refine x_lload_n (by decide +kernel : am_at co_X12_nameOf 26 = some (1, .lload_n 2)) rfl ?_
    refine x_lif (tgt := 34) (by decide +kernel : am_at co_X12_nameOf 27 = some (1, .lcmp)) (by decide +kernel : am_at co_X12_nameOf 28 = some (3, .ifCond .ne 6)) rfl Iff.rfl (fun c5 => ?_) (fun c5 => ?_)
    · have h := h.1 c5
      obtain ⟨o6, h⟩ := h
      refine x_iinc (L' := [(2, 152), (0, v1), (1, v2), (3, 0), (0, v4 + 1)]) (by decide +kernel : am_at co_X12_nameOf 34 = some (3, .iinc 4 1)) rfl o6 rfl ?_
      refine x_goto (tgt := 3) (by decide +kernel : am_at co_X12_nameOf 37 = some (3, .goto (-34))) rfl ?_
      exact am_weak (lk (lk (lk (lk (lk ln))))) h
    · have c5 := (Classical.not_not.mp c5)
      have h := h.2 c5
      refine x_iload (by decide +kernel : am_at co_X12_nameOf 31 = some (2, .iload 4)) rfl ?_
      exact x_iret (by decide +kernel : am_at co_X12_nameOf 33 = some (1, .ireturn)) h
set_option maxRecDepth 20000 in
theorem bk_X12_newName_0 {d : Nat} {Q : am_Q} {M : am_M} (h : am_cal pg d 183 [(2, 152)] sh_T M (am_c1 sh_T fun x1 M1 => am_g 12 1 co_X12_newName d Q 7 [(2, 152), (1, x1), (3, 0), (0, 0)] [] sh_T M1)) : am_g 12 1 co_X12_newName d Q 0 [(2, 152), (3, 0), (3, 0), (3, 0)] [] sh_T M := by
  refine x_aload_n (by decide +kernel : am_at co_X12_newName 0 = some (1, .aload_n 0)) rfl ?_
  refine x_callV (n := 1) (by decide +kernel : am_at co_X12_newName 1 = some (3, .invokevirtual 264)) pq_12_264 pm_X12_name rfl rfl rfl ob_152 h (x_k1 fun x1 M1 h => ?_)
  refine x_lstore_n (L' := [(2, 152), (1, x1), (3, 0), (3, 0)]) (by decide +kernel : am_at co_X12_newName 4 = some (1, .lstore_n 1)) rfl ?_
  refine x_iconst (by decide +kernel : am_at co_X12_newName 5 = some (1, .iconst 0)) ?_
  refine x_istore_n (L' := [(2, 152), (1, x1), (3, 0), (0, 0)]) (by decide +kernel : am_at co_X12_newName 6 = some (1, .istore_n 3)) rfl ?_
  exact am_weak (lk (lk (lk (lk ln)))) h
set_option maxRecDepth 20000 in
theorem bk_X12_newName_7 {d : Nat} {Q : am_Q} {M : am_M} {v1 v3 : Int} (h : ((3 ≤ v3 → Q (some (1, v1), sh_T, M)) ∧ (v3 < 3 → ((¬ M 152 5 = 0 → am_r (v3 + 1) ∧ am_g 12 1 co_X12_newName d Q 7 [(2, 152), (1, v1), (3, 0), (0, v3 + 1)] [] sh_T M) ∧ (M 152 5 = 0 → am_cal pg d 185 [(2, 152), (0, v3), (1, v1)] sh_T M (am_c0 sh_T fun x4 M4 => ((x4 = (-1) → am_r (v3 + 1) ∧ am_g 12 1 co_X12_newName d Q 7 [(2, 152), (1, v1), (3, 0), (0, v3 + 1)] [] sh_T M4) ∧ (¬ x4 = (-1) → am_cal pg d 172 [(2, 152), (0, 3), (0, M4 152 29)] sh_T M4 (am_cv sh_T fun M7 => am_r (v3 + 1) ∧ am_g 12 1 co_X12_newName d Q 7 [(2, 152), (1, v1), (3, 0), (0, v3 + 1)] [] sh_T M7))))))))) : am_g 12 1 co_X12_newName d Q 7 [(2, 152), (1, v1), (3, 0), (0, v3)] [] sh_T M := by
  refine x_iload_n (by decide +kernel : am_at co_X12_newName 7 = some (1, .iload_n 3)) rfl ?_
  refine x_iconst (by decide +kernel : am_at co_X12_newName 8 = some (1, .iconst 3)) ?_
  refine x_icmp (tgt := 44) (by decide +kernel : am_at co_X12_newName 9 = some (3, .if_icmp .ge 35)) rfl Iff.rfl (fun c0 => ?_) (fun c0 => ?_)
  · have h := h.1 c0
    refine x_lload_n (by decide +kernel : am_at co_X12_newName 44 = some (1, .lload_n 1)) rfl ?_
    exact x_lret (by decide +kernel : am_at co_X12_newName 45 = some (1, .lreturn)) h
  · have c0 := (Int.not_le.mp c0)
    have h := h.2 c0
    refine x_aload_n (by decide +kernel : am_at co_X12_newName 12 = some (1, .aload_n 0)) rfl ?_
    refine x_getf (by decide +kernel : am_at co_X12_newName 13 = some (3, .getfield 209)) pq_12_209 rfl ob_152 ?_
    refine x_if (tgt := 38) (by decide +kernel : am_at co_X12_newName 16 = some (3, .ifCond .ne 22)) rfl Iff.rfl (fun c1 => ?_) (fun c1 => ?_)
    · have h := h.1 c1
      obtain ⟨o2, h⟩ := h
      refine x_iinc (L' := [(2, 152), (1, v1), (3, 0), (0, v3 + 1)]) (by decide +kernel : am_at co_X12_newName 38 = some (3, .iinc 3 1)) rfl o2 rfl ?_
      refine x_goto (tgt := 7) (by decide +kernel : am_at co_X12_newName 41 = some (3, .goto (-34))) rfl ?_
      exact am_weak (lk (lk (lk (lk ln)))) h
    · have c1 := (Classical.not_not.mp c1)
      have h := h.2 c1
      refine x_aload_n (by decide +kernel : am_at co_X12_newName 19 = some (1, .aload_n 0)) rfl ?_
      refine x_iload_n (by decide +kernel : am_at co_X12_newName 20 = some (1, .iload_n 3)) rfl ?_
      refine x_lload_n (by decide +kernel : am_at co_X12_newName 21 = some (1, .lload_n 1)) rfl ?_
      refine x_callV (n := 3) (by decide +kernel : am_at co_X12_newName 22 = some (3, .invokevirtual 268)) pq_12_268 pm_X12_nameOf rfl rfl rfl ob_152 h (x_k0 fun x4 M4 h => ?_)
      refine x_iconst (by decide +kernel : am_at co_X12_newName 25 = some (1, .iconst (-1))) ?_
      refine x_icmp (tgt := 38) (by decide +kernel : am_at co_X12_newName 26 = some (3, .if_icmp .eq 12)) rfl Iff.rfl (fun c4 => ?_) (fun c4 => ?_)
      · have h := h.1 c4
        obtain ⟨o5, h⟩ := h
        refine x_iinc (L' := [(2, 152), (1, v1), (3, 0), (0, v3 + 1)]) (by decide +kernel : am_at co_X12_newName 38 = some (3, .iinc 3 1)) rfl o5 rfl ?_
        refine x_goto (tgt := 7) (by decide +kernel : am_at co_X12_newName 41 = some (3, .goto (-34))) rfl ?_
        exact am_weak (lk (lk (lk (lk ln)))) h
      · have c4 := c4
        have h := h.2 c4
        refine x_aload_n (by decide +kernel : am_at co_X12_newName 29 = some (1, .aload_n 0)) rfl ?_
        refine x_iconst (by decide +kernel : am_at co_X12_newName 30 = some (1, .iconst 3)) ?_
        refine x_aload_n (by decide +kernel : am_at co_X12_newName 31 = some (1, .aload_n 0)) rfl ?_
        refine x_getf (by decide +kernel : am_at co_X12_newName 32 = some (3, .getfield 257)) pq_12_257 rfl ob_152 ?_
        refine x_callV (n := 3) (by decide +kernel : am_at co_X12_newName 35 = some (3, .invokevirtual 239)) pq_12_239 pm_X12_fail rfl rfl rfl ob_152 h (x_kv fun M7 h => ?_)
        obtain ⟨o7, h⟩ := h
        refine x_iinc (L' := [(2, 152), (1, v1), (3, 0), (0, v3 + 1)]) (by decide +kernel : am_at co_X12_newName 38 = some (3, .iinc 3 1)) rfl o7 rfl ?_
        refine x_goto (tgt := 7) (by decide +kernel : am_at co_X12_newName 41 = some (3, .goto (-34))) rfl ?_
        exact am_weak (lk (lk (lk (lk ln)))) h
set_option maxRecDepth 20000 in
theorem bk_X12_oneOf_0 {d : Nat} {Q : am_Q} {M : am_M} {v1 : Int} (h : am_cal pg d 183 [(2, 152)] sh_T M (am_c1 sh_T fun x1 M1 => am_cal pg d 185 [(2, 152), (0, v1), (1, x1)] sh_T M1 (am_c0 sh_T fun x2 M2 => ((¬ M2 152 5 = 0 → Q (some (0, 0), sh_T, M2)) ∧ (M2 152 5 = 0 → ((¬ x2 = (-1) → Q (some (0, x2), sh_T, M2)) ∧ (x2 = (-1) → am_cal pg d 172 [(2, 152), (0, 3), (0, M2 152 29)] sh_T M2 (am_cv sh_T fun M7 => ((¬ M7 152 5 = 0 → Q (some (0, 0), sh_T, M7)) ∧ (M7 152 5 = 0 → Q (some (0, x2), sh_T, M7))))))))))) : am_g 12 0 co_X12_oneOf d Q 0 [(2, 152), (0, v1), (3, 0), (3, 0), (3, 0)] [] sh_T M := by
  refine x_aload_n (by decide +kernel : am_at co_X12_oneOf 0 = some (1, .aload_n 0)) rfl ?_
  refine x_callV (n := 1) (by decide +kernel : am_at co_X12_oneOf 1 = some (3, .invokevirtual 264)) pq_12_264 pm_X12_name rfl rfl rfl ob_152 h (x_k1 fun x1 M1 h => ?_)
  refine x_lstore_n (L' := [(2, 152), (0, v1), (1, x1), (3, 0), (3, 0)]) (by decide +kernel : am_at co_X12_oneOf 4 = some (1, .lstore_n 2)) rfl ?_
  refine x_aload_n (by decide +kernel : am_at co_X12_oneOf 5 = some (1, .aload_n 0)) rfl ?_
  refine x_iload_n (by decide +kernel : am_at co_X12_oneOf 6 = some (1, .iload_n 1)) rfl ?_
  refine x_lload_n (by decide +kernel : am_at co_X12_oneOf 7 = some (1, .lload_n 2)) rfl ?_
  refine x_callV (n := 3) (by decide +kernel : am_at co_X12_oneOf 8 = some (3, .invokevirtual 268)) pq_12_268 pm_X12_nameOf rfl rfl rfl ob_152 h (x_k0 fun x2 M2 h => ?_)
  refine x_istore (L' := [(2, 152), (0, v1), (1, x1), (3, 0), (0, x2)]) (by decide +kernel : am_at co_X12_oneOf 11 = some (2, .istore 4)) rfl ?_
  refine x_aload_n (by decide +kernel : am_at co_X12_oneOf 13 = some (1, .aload_n 0)) rfl ?_
  refine x_getf (by decide +kernel : am_at co_X12_oneOf 14 = some (3, .getfield 209)) pq_12_209 rfl ob_152 ?_
  refine x_if (tgt := 35) (by decide +kernel : am_at co_X12_oneOf 17 = some (3, .ifCond .ne 18)) rfl Iff.rfl (fun c2 => ?_) (fun c2 => ?_)
  · have h := h.1 c2
    refine x_aload_n (by decide +kernel : am_at co_X12_oneOf 35 = some (1, .aload_n 0)) rfl ?_
    refine x_getf (by decide +kernel : am_at co_X12_oneOf 36 = some (3, .getfield 209)) pq_12_209 rfl ob_152 ?_
    refine x_if (tgt := 47) (by decide +kernel : am_at co_X12_oneOf 39 = some (3, .ifCond .ne 8)) rfl Iff.rfl (fun _ => ?_) (fun c3 => absurd c2 c3)
    refine x_iconst (by decide +kernel : am_at co_X12_oneOf 47 = some (1, .iconst 0)) ?_
    exact x_iret (by decide +kernel : am_at co_X12_oneOf 48 = some (1, .ireturn)) h
  · have c2 := (Classical.not_not.mp c2)
    have h := h.2 c2
    refine x_iload (by decide +kernel : am_at co_X12_oneOf 20 = some (2, .iload 4)) rfl ?_
    refine x_iconst (by decide +kernel : am_at co_X12_oneOf 22 = some (1, .iconst (-1))) ?_
    refine x_icmp (tgt := 35) (by decide +kernel : am_at co_X12_oneOf 23 = some (3, .if_icmp .ne 12)) rfl Iff.rfl (fun c4 => ?_) (fun c4 => ?_)
    · have h := h.1 c4
      refine x_aload_n (by decide +kernel : am_at co_X12_oneOf 35 = some (1, .aload_n 0)) rfl ?_
      refine x_getf (by decide +kernel : am_at co_X12_oneOf 36 = some (3, .getfield 209)) pq_12_209 rfl ob_152 ?_
      refine x_if (tgt := 47) (by decide +kernel : am_at co_X12_oneOf 39 = some (3, .ifCond .ne 8)) rfl Iff.rfl (fun c5 => absurd c5 (fun z => z c2)) (fun _ => ?_)
      refine x_iload (by decide +kernel : am_at co_X12_oneOf 42 = some (2, .iload 4)) rfl ?_
      refine x_goto (tgt := 48) (by decide +kernel : am_at co_X12_oneOf 44 = some (3, .goto 4)) rfl ?_
      exact x_iret (by decide +kernel : am_at co_X12_oneOf 48 = some (1, .ireturn)) h
    · have c4 := (Classical.not_not.mp c4)
      have h := h.2 c4
      refine x_aload_n (by decide +kernel : am_at co_X12_oneOf 26 = some (1, .aload_n 0)) rfl ?_
      refine x_iconst (by decide +kernel : am_at co_X12_oneOf 27 = some (1, .iconst 3)) ?_
      refine x_aload_n (by decide +kernel : am_at co_X12_oneOf 28 = some (1, .aload_n 0)) rfl ?_
      refine x_getf (by decide +kernel : am_at co_X12_oneOf 29 = some (3, .getfield 257)) pq_12_257 rfl ob_152 ?_
      refine x_callV (n := 3) (by decide +kernel : am_at co_X12_oneOf 32 = some (3, .invokevirtual 239)) pq_12_239 pm_X12_fail rfl rfl rfl ob_152 h (x_kv fun M7 h => ?_)
      refine x_aload_n (by decide +kernel : am_at co_X12_oneOf 35 = some (1, .aload_n 0)) rfl ?_
      refine x_getf (by decide +kernel : am_at co_X12_oneOf 36 = some (3, .getfield 209)) pq_12_209 rfl ob_152 ?_
      refine x_if (tgt := 47) (by decide +kernel : am_at co_X12_oneOf 39 = some (3, .ifCond .ne 8)) rfl Iff.rfl (fun c7 => ?_) (fun c7 => ?_)
      · have h := h.1 c7
        refine x_iconst (by decide +kernel : am_at co_X12_oneOf 47 = some (1, .iconst 0)) ?_
        exact x_iret (by decide +kernel : am_at co_X12_oneOf 48 = some (1, .ireturn)) h
      · have c7 := (Classical.not_not.mp c7)
        have h := h.2 c7
        refine x_iload (by decide +kernel : am_at co_X12_oneOf 42 = some (2, .iload 4)) rfl ?_
        refine x_goto (tgt := 48) (by decide +kernel : am_at co_X12_oneOf 44 = some (3, .goto 4)) rfl ?_
        exact x_iret (by decide +kernel : am_at co_X12_oneOf 48 = some (1, .ireturn)) h
set_option maxRecDepth 20000 in
theorem bk_X12_dreadTold_0 {d : Nat} {Q : am_Q} {M : am_M} {v1 : Int} (h : am_cal pg d 184 [(2, 152), (0, 0), (0, 6), (0, v1)] sh_T M (am_c0 sh_T fun x1 M1 => ((x1 = 0 → am_cal pg d 186 [(2, 152)] sh_T M1 (am_c1 sh_T fun x3 M3 => ((M3 152 5 = 0 → (0 ≤ M3 174 0 ∧ M3 174 0 < 36) ∧ am_r ((M3 174 0) + 1) ∧ Q (none, sh_T, (am_up (am_up M3 175 (M3 174 0) x3) 174 0 ((M3 174 0) + 1)))) ∧ (¬ M3 152 5 = 0 → Q (none, sh_T, M3))))) ∧ (¬ x1 = 0 → Q (none, sh_T, M1))))) : am_g 12 9 co_X12_dreadTold d Q 0 [(2, 152), (0, v1), (3, 0), (3, 0)] [] sh_T M := by
  refine x_aload_n (by decide +kernel : am_at co_X12_dreadTold 0 = some (1, .aload_n 0)) rfl ?_
  refine x_iconst (by decide +kernel : am_at co_X12_dreadTold 1 = some (1, .iconst 0)) ?_
  refine x_bipush (by decide +kernel : am_at co_X12_dreadTold 2 = some (2, .bipush 6)) ?_
  refine x_iload_n (by decide +kernel : am_at co_X12_dreadTold 4 = some (1, .iload_n 1)) rfl ?_
  refine x_callV (n := 4) (by decide +kernel : am_at co_X12_dreadTold 5 = some (3, .invokevirtual 272)) pq_12_272 pm_X12_isFull rfl rfl rfl ob_152 h (x_k0 fun x1 M1 h => ?_)
  refine x_if (tgt := 12) (by decide +kernel : am_at co_X12_dreadTold 8 = some (3, .ifCond .eq 4)) rfl Iff.rfl (fun c1 => ?_) (fun c1 => ?_)
  · have h := h.1 c1
    refine x_aload_n (by decide +kernel : am_at co_X12_dreadTold 12 = some (1, .aload_n 0)) rfl ?_
    refine x_callV (n := 1) (by decide +kernel : am_at co_X12_dreadTold 13 = some (3, .invokevirtual 276)) pq_12_276 pm_X12_newName rfl rfl rfl ob_152 h (x_k1 fun x3 M3 h => ?_)
    refine x_lstore_n (L' := [(2, 152), (0, v1), (1, x3), (3, 0)]) (by decide +kernel : am_at co_X12_dreadTold 16 = some (1, .lstore_n 2)) rfl ?_
    refine x_aload_n (by decide +kernel : am_at co_X12_dreadTold 17 = some (1, .aload_n 0)) rfl ?_
    refine x_getf (by decide +kernel : am_at co_X12_dreadTold 18 = some (3, .getfield 209)) pq_12_209 rfl ob_152 ?_
    refine x_if (tgt := 25) (by decide +kernel : am_at co_X12_dreadTold 21 = some (3, .ifCond .eq 4)) rfl Iff.rfl (fun c3 => ?_) (fun c3 => ?_)
    · have h := h.1 c3
      refine x_aload_n (by decide +kernel : am_at co_X12_dreadTold 25 = some (1, .aload_n 0)) rfl ?_
      refine x_getF (by decide +kernel : am_at co_X12_dreadTold 26 = some (3, .getfield 81)) pq_12_81 (by decide) rfl ob_152 ?_
      refine x_top2 (show 152 + 23 = 175 from rfl) ?_
      refine x_aload_n (by decide +kernel : am_at co_X12_dreadTold 29 = some (1, .aload_n 0)) rfl ?_
      refine x_getF (by decide +kernel : am_at co_X12_dreadTold 30 = some (3, .getfield 78)) pq_12_78 (by decide) rfl ob_152 ?_
      refine x_top2 (show 152 + 22 = 174 from rfl) ?_
      refine x_iconst (by decide +kernel : am_at co_X12_dreadTold 33 = some (1, .iconst 0)) ?_
      refine x_iald (by decide +kernel : am_at co_X12_dreadTold 34 = some (1, .iaload)) (ia_174 (by decide) (by decide)) ?_
      refine x_lload_n (by decide +kernel : am_at co_X12_dreadTold 35 = some (1, .lload_n 2)) rfl ?_
      obtain ⟨o4, h⟩ := h
      refine x_last (by decide +kernel : am_at co_X12_dreadTold 36 = some (1, .lastore)) (ow_175 o4.1 o4.2) ?_
      refine x_aload_n (by decide +kernel : am_at co_X12_dreadTold 37 = some (1, .aload_n 0)) rfl ?_
      refine x_getF (by decide +kernel : am_at co_X12_dreadTold 38 = some (3, .getfield 78)) pq_12_78 (by decide) rfl ob_152 ?_
      refine x_top2 (show 152 + 22 = 174 from rfl) ?_
      refine x_iconst (by decide +kernel : am_at co_X12_dreadTold 41 = some (1, .iconst 0)) ?_
      refine x_dup2 (by decide +kernel : am_at co_X12_dreadTold 42 = some (1, .dup2)) ?_
      refine x_iald (by decide +kernel : am_at co_X12_dreadTold 43 = some (1, .iaload)) (ia_174 (by decide) (by decide)) ?_
      refine x_top0 (show (am_up M3 175 (M3 174 0) x3) 174 0 = M3 174 0 from by first | rfl | simp [am_up]) ?_
      refine x_iconst (by decide +kernel : am_at co_X12_dreadTold 44 = some (1, .iconst 1)) ?_
      obtain ⟨o5, h⟩ := h
      refine x_iadd (by decide +kernel : am_at co_X12_dreadTold 45 = some (1, .iadd)) o5 ?_
      refine x_iast (by decide +kernel : am_at co_X12_dreadTold 46 = some (1, .iastore)) (ow_174 (by decide) (by decide)) ?_
      exact x_vret (by decide +kernel : am_at co_X12_dreadTold 47 = some (1, .return_)) h
    · have c3 := c3
      have h := h.2 c3
      exact x_vret (by decide +kernel : am_at co_X12_dreadTold 24 = some (1, .return_)) h
  · have c1 := c1
    have h := h.2 c1
    exact x_vret (by decide +kernel : am_at co_X12_dreadTold 11 = some (1, .return_)) h
set_option maxRecDepth 20000 in
theorem bk_X12_dreamerTold_0 {d : Nat} {Q : am_Q} {M : am_M} {v1 : Int} (h : am_cal pg d 184 [(2, 152), (0, 1), (0, 4), (0, v1)] sh_T M (am_c0 sh_T fun x1 M1 => ((x1 = 0 → am_cal pg d 186 [(2, 152)] sh_T M1 (am_c1 sh_T fun x3 M3 => am_cal pg d 178 [(2, 152), (2, 157)] sh_T M3 (am_cv sh_T fun M4 => am_cal pg d 181 [(2, 152), (0, 0), (0, 9)] sh_T M4 (am_c0 sh_T fun x5 M5 => ((M5 152 5 = 0 → am_r (6 + (M5 174 1)) ∧ (0 ≤ 6 + (M5 174 1) ∧ 6 + (M5 174 1) < 36) ∧ (0 ≤ M5 174 1 ∧ M5 174 1 < 8) ∧ am_r ((M5 174 1) + 1) ∧ Q (none, sh_T, (am_up (am_up (am_up M5 175 (6 + (M5 174 1)) x3) 176 (M5 174 1) x5) 174 1 ((M5 174 1) + 1)))) ∧ (¬ M5 152 5 = 0 → Q (none, sh_T, M5))))))) ∧ (¬ x1 = 0 → Q (none, sh_T, M1))))) : am_g 12 9 co_X12_dreamerTold d Q 0 [(2, 152), (0, v1), (3, 0), (3, 0), (3, 0)] [] sh_T M := by
  refine x_aload_n (by decide +kernel : am_at co_X12_dreamerTold 0 = some (1, .aload_n 0)) rfl ?_
  refine x_iconst (by decide +kernel : am_at co_X12_dreamerTold 1 = some (1, .iconst 1)) ?_
  refine x_iconst (by decide +kernel : am_at co_X12_dreamerTold 2 = some (1, .iconst 4)) ?_
  refine x_iload_n (by decide +kernel : am_at co_X12_dreamerTold 3 = some (1, .iload_n 1)) rfl ?_
  refine x_callV (n := 4) (by decide +kernel : am_at co_X12_dreamerTold 4 = some (3, .invokevirtual 272)) pq_12_272 pm_X12_isFull rfl rfl rfl ob_152 h (x_k0 fun x1 M1 h => ?_)
  refine x_if (tgt := 11) (by decide +kernel : am_at co_X12_dreamerTold 7 = some (3, .ifCond .eq 4)) rfl Iff.rfl (fun c1 => ?_) (fun c1 => ?_)
  · have h := h.1 c1
    refine x_aload_n (by decide +kernel : am_at co_X12_dreamerTold 11 = some (1, .aload_n 0)) rfl ?_
    refine x_callV (n := 1) (by decide +kernel : am_at co_X12_dreamerTold 12 = some (3, .invokevirtual 276)) pq_12_276 pm_X12_newName rfl rfl rfl ob_152 h (x_k1 fun x3 M3 h => ?_)
    refine x_lstore_n (L' := [(2, 152), (0, v1), (1, x3), (3, 0), (3, 0)]) (by decide +kernel : am_at co_X12_dreamerTold 15 = some (1, .lstore_n 2)) rfl ?_
    refine x_aload_n (by decide +kernel : am_at co_X12_dreamerTold 16 = some (1, .aload_n 0)) rfl ?_
    refine x_aload_n (by decide +kernel : am_at co_X12_dreamerTold 17 = some (1, .aload_n 0)) rfl ?_
    refine x_getF (by decide +kernel : am_at co_X12_dreamerTold 18 = some (3, .getfield 27)) pq_12_27 (by decide) rfl ob_152 ?_
    refine x_top2 (show 152 + 5 = 157 from rfl) ?_
    refine x_callV (n := 2) (by decide +kernel : am_at co_X12_dreamerTold 21 = some (3, .invokevirtual 279)) pq_12_279 pm_X12_asks rfl rfl rfl ob_152 h (x_kv fun M4 h => ?_)
    refine x_aload_n (by decide +kernel : am_at co_X12_dreamerTold 24 = some (1, .aload_n 0)) rfl ?_
    refine x_iconst (by decide +kernel : am_at co_X12_dreamerTold 25 = some (1, .iconst 0)) ?_
    refine x_bipush (by decide +kernel : am_at co_X12_dreamerTold 26 = some (2, .bipush 9)) ?_
    refine x_callV (n := 3) (by decide +kernel : am_at co_X12_dreamerTold 28 = some (3, .invokevirtual 283)) pq_12_283 pm_X12_number rfl rfl rfl ob_152 h (x_k0 fun x5 M5 h => ?_)
    refine x_istore (L' := [(2, 152), (0, v1), (1, x3), (3, 0), (0, x5)]) (by decide +kernel : am_at co_X12_dreamerTold 31 = some (2, .istore 4)) rfl ?_
    refine x_aload_n (by decide +kernel : am_at co_X12_dreamerTold 33 = some (1, .aload_n 0)) rfl ?_
    refine x_getf (by decide +kernel : am_at co_X12_dreamerTold 34 = some (3, .getfield 209)) pq_12_209 rfl ob_152 ?_
    refine x_if (tgt := 41) (by decide +kernel : am_at co_X12_dreamerTold 37 = some (3, .ifCond .eq 4)) rfl Iff.rfl (fun c5 => ?_) (fun c5 => ?_)
    · have h := h.1 c5
      refine x_aload_n (by decide +kernel : am_at co_X12_dreamerTold 41 = some (1, .aload_n 0)) rfl ?_
      refine x_getF (by decide +kernel : am_at co_X12_dreamerTold 42 = some (3, .getfield 81)) pq_12_81 (by decide) rfl ob_152 ?_
      refine x_top2 (show 152 + 23 = 175 from rfl) ?_
      refine x_bipush (by decide +kernel : am_at co_X12_dreamerTold 45 = some (2, .bipush 6)) ?_
      refine x_aload_n (by decide +kernel : am_at co_X12_dreamerTold 47 = some (1, .aload_n 0)) rfl ?_
      refine x_getF (by decide +kernel : am_at co_X12_dreamerTold 48 = some (3, .getfield 78)) pq_12_78 (by decide) rfl ob_152 ?_
      refine x_top2 (show 152 + 22 = 174 from rfl) ?_
      refine x_iconst (by decide +kernel : am_at co_X12_dreamerTold 51 = some (1, .iconst 1)) ?_
      refine x_iald (by decide +kernel : am_at co_X12_dreamerTold 52 = some (1, .iaload)) (ia_174 (by decide) (by decide)) ?_
      obtain ⟨o6, h⟩ := h
      refine x_iadd (by decide +kernel : am_at co_X12_dreamerTold 53 = some (1, .iadd)) o6 ?_
      refine x_lload_n (by decide +kernel : am_at co_X12_dreamerTold 54 = some (1, .lload_n 2)) rfl ?_
      obtain ⟨o7, h⟩ := h
      refine x_last (by decide +kernel : am_at co_X12_dreamerTold 55 = some (1, .lastore)) (ow_175 o7.1 o7.2) ?_
      refine x_aload_n (by decide +kernel : am_at co_X12_dreamerTold 56 = some (1, .aload_n 0)) rfl ?_
      refine x_getF (by decide +kernel : am_at co_X12_dreamerTold 57 = some (3, .getfield 85)) pq_12_85 (by decide) rfl ob_152 ?_
      refine x_top2 (show 152 + 24 = 176 from rfl) ?_
      refine x_aload_n (by decide +kernel : am_at co_X12_dreamerTold 60 = some (1, .aload_n 0)) rfl ?_
      refine x_getF (by decide +kernel : am_at co_X12_dreamerTold 61 = some (3, .getfield 78)) pq_12_78 (by decide) rfl ob_152 ?_
      refine x_top2 (show 152 + 22 = 174 from rfl) ?_
      refine x_iconst (by decide +kernel : am_at co_X12_dreamerTold 64 = some (1, .iconst 1)) ?_
      refine x_iald (by decide +kernel : am_at co_X12_dreamerTold 65 = some (1, .iaload)) (ia_174 (by decide) (by decide)) ?_
      refine x_top0 (show (am_up M5 175 (6 + (M5 174 1)) x3) 174 1 = M5 174 1 from by first | rfl | simp [am_up]) ?_
      refine x_iload (by decide +kernel : am_at co_X12_dreamerTold 66 = some (2, .iload 4)) rfl ?_
      obtain ⟨o8, h⟩ := h
      refine x_iast (by decide +kernel : am_at co_X12_dreamerTold 68 = some (1, .iastore)) (ow_176 o8.1 o8.2) ?_
      refine x_aload_n (by decide +kernel : am_at co_X12_dreamerTold 69 = some (1, .aload_n 0)) rfl ?_
      refine x_getF (by decide +kernel : am_at co_X12_dreamerTold 70 = some (3, .getfield 78)) pq_12_78 (by decide) rfl ob_152 ?_
      refine x_top2 (show 152 + 22 = 174 from rfl) ?_
      refine x_iconst (by decide +kernel : am_at co_X12_dreamerTold 73 = some (1, .iconst 1)) ?_
      refine x_dup2 (by decide +kernel : am_at co_X12_dreamerTold 74 = some (1, .dup2)) ?_
      refine x_iald (by decide +kernel : am_at co_X12_dreamerTold 75 = some (1, .iaload)) (ia_174 (by decide) (by decide)) ?_
      refine x_top0 (show (am_up (am_up M5 175 (6 + (M5 174 1)) x3) 176 (M5 174 1) x5) 174 1 = M5 174 1 from by first | rfl | simp [am_up]) ?_
      refine x_iconst (by decide +kernel : am_at co_X12_dreamerTold 76 = some (1, .iconst 1)) ?_
      obtain ⟨o9, h⟩ := h
      refine x_iadd (by decide +kernel : am_at co_X12_dreamerTold 77 = some (1, .iadd)) o9 ?_
      refine x_iast (by decide +kernel : am_at co_X12_dreamerTold 78 = some (1, .iastore)) (ow_174 (by decide) (by decide)) ?_
      exact x_vret (by decide +kernel : am_at co_X12_dreamerTold 79 = some (1, .return_)) h
    · have c5 := c5
      have h := h.2 c5
      exact x_vret (by decide +kernel : am_at co_X12_dreamerTold 40 = some (1, .return_)) h
  · have c1 := c1
    have h := h.2 c1
    exact x_vret (by decide +kernel : am_at co_X12_dreamerTold 10 = some (1, .return_)) h
set_option maxRecDepth 20000 in
theorem bk_X12_fearsTold_0 {d : Nat} {Q : am_Q} {M : am_M} (h : am_cal pg d 187 [(2, 152), (0, 1)] sh_T M (am_c0 sh_T fun x1 M1 => am_cal pg d 187 [(2, 152), (0, 0)] sh_T M1 (am_c0 sh_T fun x2 M2 => am_cal pg d 181 [(2, 152), (0, 0), (0, 999)] sh_T M2 (am_c0 sh_T fun x3 M3 => ((¬ M3 152 5 = 0 → Q (none, sh_T, M3)) ∧ (M3 152 5 = 0 → am_r (6 * x1) ∧ am_r ((6 * x1) + x2) ∧ (0 ≤ (6 * x1) + x2 ∧ (6 * x1) + x2 < 24) ∧ Q (none, sh_T, (am_up M3 177 ((6 * x1) + x2) x3)))))))) : am_g 12 9 co_X12_fearsTold d Q 0 [(2, 152), (3, 0), (3, 0), (3, 0)] [] sh_T M := by
  refine x_aload_n (by decide +kernel : am_at co_X12_fearsTold 0 = some (1, .aload_n 0)) rfl ?_
  refine x_iconst (by decide +kernel : am_at co_X12_fearsTold 1 = some (1, .iconst 1)) ?_
  refine x_callV (n := 2) (by decide +kernel : am_at co_X12_fearsTold 2 = some (3, .invokevirtual 287)) pq_12_287 pm_X12_oneOf rfl rfl rfl ob_152 h (x_k0 fun x1 M1 h => ?_)
  refine x_istore_n (L' := [(2, 152), (0, x1), (3, 0), (3, 0)]) (by decide +kernel : am_at co_X12_fearsTold 5 = some (1, .istore_n 1)) rfl ?_
  refine x_aload_n (by decide +kernel : am_at co_X12_fearsTold 6 = some (1, .aload_n 0)) rfl ?_
  refine x_iconst (by decide +kernel : am_at co_X12_fearsTold 7 = some (1, .iconst 0)) ?_
  refine x_callV (n := 2) (by decide +kernel : am_at co_X12_fearsTold 8 = some (3, .invokevirtual 287)) pq_12_287 pm_X12_oneOf rfl rfl rfl ob_152 h (x_k0 fun x2 M2 h => ?_)
  refine x_istore_n (L' := [(2, 152), (0, x1), (0, x2), (3, 0)]) (by decide +kernel : am_at co_X12_fearsTold 11 = some (1, .istore_n 2)) rfl ?_
  refine x_aload_n (by decide +kernel : am_at co_X12_fearsTold 12 = some (1, .aload_n 0)) rfl ?_
  refine x_iconst (by decide +kernel : am_at co_X12_fearsTold 13 = some (1, .iconst 0)) ?_
  refine x_sipush (by decide +kernel : am_at co_X12_fearsTold 14 = some (3, .sipush 999)) ?_
  refine x_callV (n := 3) (by decide +kernel : am_at co_X12_fearsTold 17 = some (3, .invokevirtual 283)) pq_12_283 pm_X12_number rfl rfl rfl ob_152 h (x_k0 fun x3 M3 h => ?_)
  refine x_istore_n (L' := [(2, 152), (0, x1), (0, x2), (0, x3)]) (by decide +kernel : am_at co_X12_fearsTold 20 = some (1, .istore_n 3)) rfl ?_
  refine x_aload_n (by decide +kernel : am_at co_X12_fearsTold 21 = some (1, .aload_n 0)) rfl ?_
  refine x_getf (by decide +kernel : am_at co_X12_fearsTold 22 = some (3, .getfield 209)) pq_12_209 rfl ob_152 ?_
  refine x_if (tgt := 40) (by decide +kernel : am_at co_X12_fearsTold 25 = some (3, .ifCond .ne 15)) rfl Iff.rfl (fun c3 => ?_) (fun c3 => ?_)
  · have h := h.1 c3
    exact x_vret (by decide +kernel : am_at co_X12_fearsTold 40 = some (1, .return_)) h
  · have c3 := (Classical.not_not.mp c3)
    have h := h.2 c3
    refine x_aload_n (by decide +kernel : am_at co_X12_fearsTold 28 = some (1, .aload_n 0)) rfl ?_
    refine x_getF (by decide +kernel : am_at co_X12_fearsTold 29 = some (3, .getfield 88)) pq_12_88 (by decide) rfl ob_152 ?_
    refine x_top2 (show 152 + 25 = 177 from rfl) ?_
    refine x_bipush (by decide +kernel : am_at co_X12_fearsTold 32 = some (2, .bipush 6)) ?_
    refine x_iload_n (by decide +kernel : am_at co_X12_fearsTold 34 = some (1, .iload_n 1)) rfl ?_
    obtain ⟨o4, h⟩ := h
    refine x_imul (by decide +kernel : am_at co_X12_fearsTold 35 = some (1, .imul)) o4 ?_
    refine x_iload_n (by decide +kernel : am_at co_X12_fearsTold 36 = some (1, .iload_n 2)) rfl ?_
    obtain ⟨o5, h⟩ := h
    refine x_iadd (by decide +kernel : am_at co_X12_fearsTold 37 = some (1, .iadd)) o5 ?_
    refine x_iload_n (by decide +kernel : am_at co_X12_fearsTold 38 = some (1, .iload_n 3)) rfl ?_
    obtain ⟨o6, h⟩ := h
    refine x_iast (by decide +kernel : am_at co_X12_fearsTold 39 = some (1, .iastore)) (ow_177 o6.1 o6.2) ?_
    exact x_vret (by decide +kernel : am_at co_X12_fearsTold 40 = some (1, .return_)) h
set_option maxRecDepth 20000 in
theorem bk_X12_guideTold_0 {d : Nat} {Q : am_Q} {M : am_M} {v1 : Int} (h : am_cal pg d 184 [(2, 152), (0, 2), (0, 4), (0, v1)] sh_T M (am_c0 sh_T fun x1 M1 => ((x1 = 0 → am_cal pg d 186 [(2, 152)] sh_T M1 (am_c1 sh_T fun x3 M3 => am_cal pg d 178 [(2, 152), (2, 160)] sh_T M3 (am_cv sh_T fun M4 => am_cal pg d 187 [(2, 152), (0, 0)] sh_T M4 (am_c0 sh_T fun x5 M5 => ((M5 152 5 = 0 → am_r (12 + (M5 174 2)) ∧ (0 ≤ 12 + (M5 174 2) ∧ 12 + (M5 174 2) < 36) ∧ (0 ≤ M5 174 2 ∧ M5 174 2 < 8) ∧ am_r ((M5 174 2) + 1) ∧ Q (none, sh_T, (am_up (am_up (am_up M5 175 (12 + (M5 174 2)) x3) 178 (M5 174 2) x5) 174 2 ((M5 174 2) + 1)))) ∧ (¬ M5 152 5 = 0 → Q (none, sh_T, M5))))))) ∧ (¬ x1 = 0 → Q (none, sh_T, M1))))) : am_g 12 9 co_X12_guideTold d Q 0 [(2, 152), (0, v1), (3, 0), (3, 0), (3, 0)] [] sh_T M := by
  refine x_aload_n (by decide +kernel : am_at co_X12_guideTold 0 = some (1, .aload_n 0)) rfl ?_
  refine x_iconst (by decide +kernel : am_at co_X12_guideTold 1 = some (1, .iconst 2)) ?_
  refine x_iconst (by decide +kernel : am_at co_X12_guideTold 2 = some (1, .iconst 4)) ?_
  refine x_iload_n (by decide +kernel : am_at co_X12_guideTold 3 = some (1, .iload_n 1)) rfl ?_
  refine x_callV (n := 4) (by decide +kernel : am_at co_X12_guideTold 4 = some (3, .invokevirtual 272)) pq_12_272 pm_X12_isFull rfl rfl rfl ob_152 h (x_k0 fun x1 M1 h => ?_)
  refine x_if (tgt := 11) (by decide +kernel : am_at co_X12_guideTold 7 = some (3, .ifCond .eq 4)) rfl Iff.rfl (fun c1 => ?_) (fun c1 => ?_)
  · have h := h.1 c1
    refine x_aload_n (by decide +kernel : am_at co_X12_guideTold 11 = some (1, .aload_n 0)) rfl ?_
    refine x_callV (n := 1) (by decide +kernel : am_at co_X12_guideTold 12 = some (3, .invokevirtual 276)) pq_12_276 pm_X12_newName rfl rfl rfl ob_152 h (x_k1 fun x3 M3 h => ?_)
    refine x_lstore_n (L' := [(2, 152), (0, v1), (1, x3), (3, 0), (3, 0)]) (by decide +kernel : am_at co_X12_guideTold 15 = some (1, .lstore_n 2)) rfl ?_
    refine x_aload_n (by decide +kernel : am_at co_X12_guideTold 16 = some (1, .aload_n 0)) rfl ?_
    refine x_aload_n (by decide +kernel : am_at co_X12_guideTold 17 = some (1, .aload_n 0)) rfl ?_
    refine x_getF (by decide +kernel : am_at co_X12_guideTold 18 = some (3, .getfield 36)) pq_12_36 (by decide) rfl ob_152 ?_
    refine x_top2 (show 152 + 8 = 160 from rfl) ?_
    refine x_callV (n := 2) (by decide +kernel : am_at co_X12_guideTold 21 = some (3, .invokevirtual 279)) pq_12_279 pm_X12_asks rfl rfl rfl ob_152 h (x_kv fun M4 h => ?_)
    refine x_aload_n (by decide +kernel : am_at co_X12_guideTold 24 = some (1, .aload_n 0)) rfl ?_
    refine x_iconst (by decide +kernel : am_at co_X12_guideTold 25 = some (1, .iconst 0)) ?_
    refine x_callV (n := 2) (by decide +kernel : am_at co_X12_guideTold 26 = some (3, .invokevirtual 287)) pq_12_287 pm_X12_oneOf rfl rfl rfl ob_152 h (x_k0 fun x5 M5 h => ?_)
    refine x_istore (L' := [(2, 152), (0, v1), (1, x3), (3, 0), (0, x5)]) (by decide +kernel : am_at co_X12_guideTold 29 = some (2, .istore 4)) rfl ?_
    refine x_aload_n (by decide +kernel : am_at co_X12_guideTold 31 = some (1, .aload_n 0)) rfl ?_
    refine x_getf (by decide +kernel : am_at co_X12_guideTold 32 = some (3, .getfield 209)) pq_12_209 rfl ob_152 ?_
    refine x_if (tgt := 39) (by decide +kernel : am_at co_X12_guideTold 35 = some (3, .ifCond .eq 4)) rfl Iff.rfl (fun c5 => ?_) (fun c5 => ?_)
    · have h := h.1 c5
      refine x_aload_n (by decide +kernel : am_at co_X12_guideTold 39 = some (1, .aload_n 0)) rfl ?_
      refine x_getF (by decide +kernel : am_at co_X12_guideTold 40 = some (3, .getfield 81)) pq_12_81 (by decide) rfl ob_152 ?_
      refine x_top2 (show 152 + 23 = 175 from rfl) ?_
      refine x_bipush (by decide +kernel : am_at co_X12_guideTold 43 = some (2, .bipush 12)) ?_
      refine x_aload_n (by decide +kernel : am_at co_X12_guideTold 45 = some (1, .aload_n 0)) rfl ?_
      refine x_getF (by decide +kernel : am_at co_X12_guideTold 46 = some (3, .getfield 78)) pq_12_78 (by decide) rfl ob_152 ?_
      refine x_top2 (show 152 + 22 = 174 from rfl) ?_
      refine x_iconst (by decide +kernel : am_at co_X12_guideTold 49 = some (1, .iconst 2)) ?_
      refine x_iald (by decide +kernel : am_at co_X12_guideTold 50 = some (1, .iaload)) (ia_174 (by decide) (by decide)) ?_
      obtain ⟨o6, h⟩ := h
      refine x_iadd (by decide +kernel : am_at co_X12_guideTold 51 = some (1, .iadd)) o6 ?_
      refine x_lload_n (by decide +kernel : am_at co_X12_guideTold 52 = some (1, .lload_n 2)) rfl ?_
      obtain ⟨o7, h⟩ := h
      refine x_last (by decide +kernel : am_at co_X12_guideTold 53 = some (1, .lastore)) (ow_175 o7.1 o7.2) ?_
      refine x_aload_n (by decide +kernel : am_at co_X12_guideTold 54 = some (1, .aload_n 0)) rfl ?_
      refine x_getF (by decide +kernel : am_at co_X12_guideTold 55 = some (3, .getfield 91)) pq_12_91 (by decide) rfl ob_152 ?_
      refine x_top2 (show 152 + 26 = 178 from rfl) ?_
      refine x_aload_n (by decide +kernel : am_at co_X12_guideTold 58 = some (1, .aload_n 0)) rfl ?_
      refine x_getF (by decide +kernel : am_at co_X12_guideTold 59 = some (3, .getfield 78)) pq_12_78 (by decide) rfl ob_152 ?_
      refine x_top2 (show 152 + 22 = 174 from rfl) ?_
      refine x_iconst (by decide +kernel : am_at co_X12_guideTold 62 = some (1, .iconst 2)) ?_
      refine x_iald (by decide +kernel : am_at co_X12_guideTold 63 = some (1, .iaload)) (ia_174 (by decide) (by decide)) ?_
      refine x_top0 (show (am_up M5 175 (12 + (M5 174 2)) x3) 174 2 = M5 174 2 from by first | rfl | simp [am_up]) ?_
      refine x_iload (by decide +kernel : am_at co_X12_guideTold 64 = some (2, .iload 4)) rfl ?_
      obtain ⟨o8, h⟩ := h
      refine x_iast (by decide +kernel : am_at co_X12_guideTold 66 = some (1, .iastore)) (ow_178 o8.1 o8.2) ?_
      refine x_aload_n (by decide +kernel : am_at co_X12_guideTold 67 = some (1, .aload_n 0)) rfl ?_
      refine x_getF (by decide +kernel : am_at co_X12_guideTold 68 = some (3, .getfield 78)) pq_12_78 (by decide) rfl ob_152 ?_
      refine x_top2 (show 152 + 22 = 174 from rfl) ?_
      refine x_iconst (by decide +kernel : am_at co_X12_guideTold 71 = some (1, .iconst 2)) ?_
      refine x_dup2 (by decide +kernel : am_at co_X12_guideTold 72 = some (1, .dup2)) ?_
      refine x_iald (by decide +kernel : am_at co_X12_guideTold 73 = some (1, .iaload)) (ia_174 (by decide) (by decide)) ?_
      refine x_top0 (show (am_up (am_up M5 175 (12 + (M5 174 2)) x3) 178 (M5 174 2) x5) 174 2 = M5 174 2 from by first | rfl | simp [am_up]) ?_
      refine x_iconst (by decide +kernel : am_at co_X12_guideTold 74 = some (1, .iconst 1)) ?_
      obtain ⟨o9, h⟩ := h
      refine x_iadd (by decide +kernel : am_at co_X12_guideTold 75 = some (1, .iadd)) o9 ?_
      refine x_iast (by decide +kernel : am_at co_X12_guideTold 76 = some (1, .iastore)) (ow_174 (by decide) (by decide)) ?_
      exact x_vret (by decide +kernel : am_at co_X12_guideTold 77 = some (1, .return_)) h
    · have c5 := c5
      have h := h.2 c5
      exact x_vret (by decide +kernel : am_at co_X12_guideTold 38 = some (1, .return_)) h
  · have c1 := c1
    have h := h.2 c1
    exact x_vret (by decide +kernel : am_at co_X12_guideTold 10 = some (1, .return_)) h
set_option maxRecDepth 20000 in
theorem bk_X12_sumIsTold_0 {d : Nat} {Q : am_Q} {M : am_M} {v1 v2 : Int} (h : ((¬ M 152 5 = 0 → Q (none, sh_T, M)) ∧ (M 152 5 = 0 → (0 ≤ v1 ∧ v1 < 6) ∧ ((M 180 v1 = (-1) → am_cal pg d 205 [(2, 152)] sh_T (am_up (am_up (am_up (am_up M 180 v1 (M 152 40)) 152 42 0) 152 43 0) 152 44 0) (am_cv sh_T fun M6 => (0 ≤ v1 ∧ v1 < 6) ∧ Q (none, sh_T, (am_up M6 181 v1 (M6 152 40))))) ∧ (¬ M 180 v1 = (-1) → am_cal pg d 172 [(2, 152), (0, 5), (0, v2)] sh_T M (am_cv sh_T fun M8 => ((M8 152 5 = 0 → am_cal pg d 205 [(2, 152)] sh_T (am_up (am_up (am_up (am_up M8 180 v1 (M8 152 40)) 152 42 0) 152 43 0) 152 44 0) (am_cv sh_T fun M10 => (0 ≤ v1 ∧ v1 < 6) ∧ Q (none, sh_T, (am_up M10 181 v1 (M10 152 40))))) ∧ (¬ M8 152 5 = 0 → Q (none, sh_T, M8))))))))) : am_g 12 9 co_X12_sumIsTold d Q 0 [(2, 152), (0, v1), (0, v2)] [] sh_T M := by
  refine x_aload_n (by decide +kernel : am_at co_X12_sumIsTold 0 = some (1, .aload_n 0)) rfl ?_
  refine x_getf (by decide +kernel : am_at co_X12_sumIsTold 1 = some (3, .getfield 209)) pq_12_209 rfl ob_152 ?_
  refine x_if (tgt := 23) (by decide +kernel : am_at co_X12_sumIsTold 4 = some (3, .ifCond .ne 19)) rfl Iff.rfl (fun c0 => ?_) (fun c0 => ?_)
  · have h := h.1 c0
    refine x_aload_n (by decide +kernel : am_at co_X12_sumIsTold 23 = some (1, .aload_n 0)) rfl ?_
    refine x_getf (by decide +kernel : am_at co_X12_sumIsTold 24 = some (3, .getfield 209)) pq_12_209 rfl ob_152 ?_
    refine x_if (tgt := 31) (by decide +kernel : am_at co_X12_sumIsTold 27 = some (3, .ifCond .eq 4)) rfl Iff.rfl (fun c1 => absurd c1 c0) (fun _ => ?_)
    exact x_vret (by decide +kernel : am_at co_X12_sumIsTold 30 = some (1, .return_)) h
  · have c0 := (Classical.not_not.mp c0)
    have h := h.2 c0
    refine x_aload_n (by decide +kernel : am_at co_X12_sumIsTold 7 = some (1, .aload_n 0)) rfl ?_
    refine x_getF (by decide +kernel : am_at co_X12_sumIsTold 8 = some (3, .getfield 97)) pq_12_97 (by decide) rfl ob_152 ?_
    refine x_top2 (show 152 + 28 = 180 from rfl) ?_
    refine x_iload_n (by decide +kernel : am_at co_X12_sumIsTold 11 = some (1, .iload_n 1)) rfl ?_
    obtain ⟨o2, h⟩ := h
    refine x_iald (by decide +kernel : am_at co_X12_sumIsTold 12 = some (1, .iaload)) (ia_180 o2.1 o2.2) ?_
    refine x_iconst (by decide +kernel : am_at co_X12_sumIsTold 13 = some (1, .iconst (-1))) ?_
    refine x_icmp (tgt := 23) (by decide +kernel : am_at co_X12_sumIsTold 14 = some (3, .if_icmp .eq 9)) rfl Iff.rfl (fun c3 => ?_) (fun c3 => ?_)
    · have h := h.1 c3
      refine x_aload_n (by decide +kernel : am_at co_X12_sumIsTold 23 = some (1, .aload_n 0)) rfl ?_
      refine x_getf (by decide +kernel : am_at co_X12_sumIsTold 24 = some (3, .getfield 209)) pq_12_209 rfl ob_152 ?_
      refine x_if (tgt := 31) (by decide +kernel : am_at co_X12_sumIsTold 27 = some (3, .ifCond .eq 4)) rfl Iff.rfl (fun _ => ?_) (fun c4 => absurd c0 c4)
      refine x_aload_n (by decide +kernel : am_at co_X12_sumIsTold 31 = some (1, .aload_n 0)) rfl ?_
      refine x_getF (by decide +kernel : am_at co_X12_sumIsTold 32 = some (3, .getfield 97)) pq_12_97 (by decide) rfl ob_152 ?_
      refine x_top2 (show 152 + 28 = 180 from rfl) ?_
      refine x_iload_n (by decide +kernel : am_at co_X12_sumIsTold 35 = some (1, .iload_n 1)) rfl ?_
      refine x_aload_n (by decide +kernel : am_at co_X12_sumIsTold 36 = some (1, .aload_n 0)) rfl ?_
      refine x_getf (by decide +kernel : am_at co_X12_sumIsTold 37 = some (3, .getfield 291)) pq_12_291 rfl ob_152 ?_
      refine x_iast (by decide +kernel : am_at co_X12_sumIsTold 40 = some (1, .iastore)) (ow_180 o2.1 o2.2) ?_
      refine x_aload_n (by decide +kernel : am_at co_X12_sumIsTold 41 = some (1, .aload_n 0)) rfl ?_
      refine x_iconst (by decide +kernel : am_at co_X12_sumIsTold 42 = some (1, .iconst 0)) ?_
      refine x_putf0 (by decide +kernel : am_at co_X12_sumIsTold 43 = some (3, .putfield 294)) pq_12_294 rfl ob_152 ?_
      refine x_aload_n (by decide +kernel : am_at co_X12_sumIsTold 46 = some (1, .aload_n 0)) rfl ?_
      refine x_iconst (by decide +kernel : am_at co_X12_sumIsTold 47 = some (1, .iconst 0)) ?_
      refine x_putf0 (by decide +kernel : am_at co_X12_sumIsTold 48 = some (3, .putfield 297)) pq_12_297 rfl ob_152 ?_
      refine x_aload_n (by decide +kernel : am_at co_X12_sumIsTold 51 = some (1, .aload_n 0)) rfl ?_
      refine x_iconst (by decide +kernel : am_at co_X12_sumIsTold 52 = some (1, .iconst 0)) ?_
      refine x_putf0 (by decide +kernel : am_at co_X12_sumIsTold 53 = some (3, .putfield 300)) pq_12_300 rfl ob_152 ?_
      refine x_aload_n (by decide +kernel : am_at co_X12_sumIsTold 56 = some (1, .aload_n 0)) rfl ?_
      refine x_callV (n := 1) (by decide +kernel : am_at co_X12_sumIsTold 57 = some (3, .invokevirtual 303)) pq_12_303 pm_X12_sumsTold rfl rfl rfl ob_152 h (x_kv fun M6 h => ?_)
      refine x_aload_n (by decide +kernel : am_at co_X12_sumIsTold 60 = some (1, .aload_n 0)) rfl ?_
      refine x_getF (by decide +kernel : am_at co_X12_sumIsTold 61 = some (3, .getfield 100)) pq_12_100 (by decide) rfl ob_152 ?_
      refine x_top2 (show 152 + 29 = 181 from rfl) ?_
      refine x_iload_n (by decide +kernel : am_at co_X12_sumIsTold 64 = some (1, .iload_n 1)) rfl ?_
      refine x_aload_n (by decide +kernel : am_at co_X12_sumIsTold 65 = some (1, .aload_n 0)) rfl ?_
      refine x_getf (by decide +kernel : am_at co_X12_sumIsTold 66 = some (3, .getfield 291)) pq_12_291 rfl ob_152 ?_
      obtain ⟨o6, h⟩ := h
      refine x_iast (by decide +kernel : am_at co_X12_sumIsTold 69 = some (1, .iastore)) (ow_181 o6.1 o6.2) ?_
      exact x_vret (by decide +kernel : am_at co_X12_sumIsTold 70 = some (1, .return_)) h
    · have c3 := c3
      have h := h.2 c3
      refine x_aload_n (by decide +kernel : am_at co_X12_sumIsTold 17 = some (1, .aload_n 0)) rfl ?_
      refine x_iconst (by decide +kernel : am_at co_X12_sumIsTold 18 = some (1, .iconst 5)) ?_
      refine x_iload_n (by decide +kernel : am_at co_X12_sumIsTold 19 = some (1, .iload_n 2)) rfl ?_
      refine x_callV (n := 3) (by decide +kernel : am_at co_X12_sumIsTold 20 = some (3, .invokevirtual 239)) pq_12_239 pm_X12_fail rfl rfl rfl ob_152 h (x_kv fun M8 h => ?_)
      refine x_aload_n (by decide +kernel : am_at co_X12_sumIsTold 23 = some (1, .aload_n 0)) rfl ?_
      refine x_getf (by decide +kernel : am_at co_X12_sumIsTold 24 = some (3, .getfield 209)) pq_12_209 rfl ob_152 ?_
      refine x_if (tgt := 31) (by decide +kernel : am_at co_X12_sumIsTold 27 = some (3, .ifCond .eq 4)) rfl Iff.rfl (fun c8 => ?_) (fun c8 => ?_)
      · have h := h.1 c8
        refine x_aload_n (by decide +kernel : am_at co_X12_sumIsTold 31 = some (1, .aload_n 0)) rfl ?_
        refine x_getF (by decide +kernel : am_at co_X12_sumIsTold 32 = some (3, .getfield 97)) pq_12_97 (by decide) rfl ob_152 ?_
        refine x_top2 (show 152 + 28 = 180 from rfl) ?_
        refine x_iload_n (by decide +kernel : am_at co_X12_sumIsTold 35 = some (1, .iload_n 1)) rfl ?_
        refine x_aload_n (by decide +kernel : am_at co_X12_sumIsTold 36 = some (1, .aload_n 0)) rfl ?_
        refine x_getf (by decide +kernel : am_at co_X12_sumIsTold 37 = some (3, .getfield 291)) pq_12_291 rfl ob_152 ?_
        refine x_iast (by decide +kernel : am_at co_X12_sumIsTold 40 = some (1, .iastore)) (ow_180 o2.1 o2.2) ?_
        refine x_aload_n (by decide +kernel : am_at co_X12_sumIsTold 41 = some (1, .aload_n 0)) rfl ?_
        refine x_iconst (by decide +kernel : am_at co_X12_sumIsTold 42 = some (1, .iconst 0)) ?_
        refine x_putf0 (by decide +kernel : am_at co_X12_sumIsTold 43 = some (3, .putfield 294)) pq_12_294 rfl ob_152 ?_
        refine x_aload_n (by decide +kernel : am_at co_X12_sumIsTold 46 = some (1, .aload_n 0)) rfl ?_
        refine x_iconst (by decide +kernel : am_at co_X12_sumIsTold 47 = some (1, .iconst 0)) ?_
        refine x_putf0 (by decide +kernel : am_at co_X12_sumIsTold 48 = some (3, .putfield 297)) pq_12_297 rfl ob_152 ?_
        refine x_aload_n (by decide +kernel : am_at co_X12_sumIsTold 51 = some (1, .aload_n 0)) rfl ?_
        refine x_iconst (by decide +kernel : am_at co_X12_sumIsTold 52 = some (1, .iconst 0)) ?_
        refine x_putf0 (by decide +kernel : am_at co_X12_sumIsTold 53 = some (3, .putfield 300)) pq_12_300 rfl ob_152 ?_
        refine x_aload_n (by decide +kernel : am_at co_X12_sumIsTold 56 = some (1, .aload_n 0)) rfl ?_
        refine x_callV (n := 1) (by decide +kernel : am_at co_X12_sumIsTold 57 = some (3, .invokevirtual 303)) pq_12_303 pm_X12_sumsTold rfl rfl rfl ob_152 h (x_kv fun M10 h => ?_)
        refine x_aload_n (by decide +kernel : am_at co_X12_sumIsTold 60 = some (1, .aload_n 0)) rfl ?_
        refine x_getF (by decide +kernel : am_at co_X12_sumIsTold 61 = some (3, .getfield 100)) pq_12_100 (by decide) rfl ob_152 ?_
        refine x_top2 (show 152 + 29 = 181 from rfl) ?_
        refine x_iload_n (by decide +kernel : am_at co_X12_sumIsTold 64 = some (1, .iload_n 1)) rfl ?_
        refine x_aload_n (by decide +kernel : am_at co_X12_sumIsTold 65 = some (1, .aload_n 0)) rfl ?_
        refine x_getf (by decide +kernel : am_at co_X12_sumIsTold 66 = some (3, .getfield 291)) pq_12_291 rfl ob_152 ?_
        obtain ⟨o10, h⟩ := h
        refine x_iast (by decide +kernel : am_at co_X12_sumIsTold 69 = some (1, .iastore)) (ow_181 o10.1 o10.2) ?_
        exact x_vret (by decide +kernel : am_at co_X12_sumIsTold 70 = some (1, .return_)) h
      · have c8 := c8
        have h := h.2 c8
        exact x_vret (by decide +kernel : am_at co_X12_sumIsTold 30 = some (1, .return_)) h
set_option maxRecDepth 20000 in
theorem bk_X12_statementTold_0 {d : Nat} {Q : am_Q} {M : am_M} (h : ((¬ M 152 38 = 70 → am_cal pg d 177 [(2, 152), (2, 155)] sh_T M (am_c0 sh_T fun x2 M2 => ((x2 = 0 → am_cal pg d 177 [(2, 152), (2, 156)] sh_T M2 (am_c0 sh_T fun x4 M4 => ((x4 = 0 → am_cal pg d 177 [(2, 152), (2, 158)] sh_T M4 (am_c0 sh_T fun x6 M6 => ((x6 = 0 → am_cal pg d 177 [(2, 152), (2, 159)] sh_T M6 (am_c0 sh_T fun x8 M8 => ((x8 = 0 → am_cal pg d 177 [(2, 152), (2, 161)] sh_T M8 (am_c0 sh_T fun x10 M10 => ((x10 = 0 → am_cal pg d 177 [(2, 152), (2, 162)] sh_T M10 (am_c0 sh_T fun x12 M12 => ((x12 = 0 → am_cal pg d 177 [(2, 152), (2, 163)] sh_T M12 (am_c0 sh_T fun x14 M14 => ((x14 = 0 → am_cal pg d 177 [(2, 152), (2, 164)] sh_T M14 (am_c0 sh_T fun x16 M16 => ((x16 = 0 → am_cal pg d 177 [(2, 152), (2, 165)] sh_T M16 (am_c0 sh_T fun x18 M18 => ((x18 = 0 → am_cal pg d 178 [(2, 152), (2, 166)] sh_T M18 (am_cv sh_T fun M20 => am_cal pg d 181 [(2, 152), (0, 0), (0, 999)] sh_T M20 (am_c0 sh_T fun x21 M21 => am_g 12 9 co_X12_statementTold d Q 233 [(2, 152), (3, 0)] [] sh_T (am_up M21 179 2 x21)))) ∧ (¬ x18 = 0 → am_cal pg d 181 [(2, 152), (0, 0), (0, 100)] sh_T M18 (am_c0 sh_T fun x22 M22 => am_g 12 9 co_X12_statementTold d Q 233 [(2, 152), (3, 0)] [] sh_T (am_up M22 179 1 x22)))))) ∧ (¬ x16 = 0 → am_cal pg d 181 [(2, 152), (0, 0), (0, 9999)] sh_T M16 (am_c0 sh_T fun x23 M23 => am_g 12 9 co_X12_statementTold d Q 233 [(2, 152), (3, 0)] [] sh_T (am_up M23 179 0 x23)))))) ∧ (¬ x14 = 0 → am_cal pg d 192 [(2, 152), (0, 2), (0, M 152 2)] sh_T M14 (am_cv sh_T fun M24 => am_g 12 9 co_X12_statementTold d Q 233 [(2, 152), (3, 0)] [] sh_T M24))))) ∧ (¬ x12 = 0 → am_cal pg d 192 [(2, 152), (0, 1), (0, M 152 2)] sh_T M12 (am_cv sh_T fun M25 => am_g 12 9 co_X12_statementTold d Q 233 [(2, 152), (3, 0)] [] sh_T M25))))) ∧ (¬ x10 = 0 → am_cal pg d 192 [(2, 152), (0, 0), (0, M 152 2)] sh_T M10 (am_cv sh_T fun M26 => am_g 12 9 co_X12_statementTold d Q 233 [(2, 152), (3, 0)] [] sh_T M26))))) ∧ (¬ x8 = 0 → am_cal pg d 191 [(2, 152), (0, M 152 2)] sh_T M8 (am_cv sh_T fun M27 => am_g 12 9 co_X12_statementTold d Q 233 [(2, 152), (3, 0)] [] sh_T M27))))) ∧ (¬ x6 = 0 → am_cal pg d 190 [(2, 152)] sh_T M6 (am_cv sh_T fun M28 => am_g 12 9 co_X12_statementTold d Q 233 [(2, 152), (3, 0)] [] sh_T M28))))) ∧ (¬ x4 = 0 → am_cal pg d 189 [(2, 152), (0, M 152 2)] sh_T M4 (am_cv sh_T fun M29 => am_g 12 9 co_X12_statementTold d Q 233 [(2, 152), (3, 0)] [] sh_T M29))))) ∧ (¬ x2 = 0 → am_cal pg d 188 [(2, 152), (0, M 152 2)] sh_T M2 (am_cv sh_T fun M30 => am_g 12 9 co_X12_statementTold d Q 233 [(2, 152), (3, 0)] [] sh_T M30))))) ∧ (M 152 38 = 70 → am_cal pg d 172 [(2, 152), (0, 5), (0, M 152 2)] sh_T M (am_cv sh_T fun M31 => Q (none, sh_T, M31))))) : am_g 12 9 co_X12_statementTold d Q 0 [(2, 152), (3, 0)] [] sh_T M := by
  refine x_aload_n (by decide +kernel : am_at co_X12_statementTold 0 = some (1, .aload_n 0)) rfl ?_
  refine x_getf (by decide +kernel : am_at co_X12_statementTold 1 = some (3, .getfield 215)) pq_12_215 rfl ob_152 ?_
  refine x_istore_n (L' := [(2, 152), (0, M 152 2)]) (by decide +kernel : am_at co_X12_statementTold 4 = some (1, .istore_n 1)) rfl ?_
  refine x_aload_n (by decide +kernel : am_at co_X12_statementTold 5 = some (1, .aload_n 0)) rfl ?_
  refine x_getf (by decide +kernel : am_at co_X12_statementTold 6 = some (3, .getfield 306)) pq_12_306 rfl ob_152 ?_
  refine x_bipush (by decide +kernel : am_at co_X12_statementTold 9 = some (2, .bipush 70)) ?_
  refine x_icmp (tgt := 21) (by decide +kernel : am_at co_X12_statementTold 11 = some (3, .if_icmp .ne 10)) rfl Iff.rfl (fun c0 => ?_) (fun c0 => ?_)
  · have h := h.1 c0
    refine x_aload_n (by decide +kernel : am_at co_X12_statementTold 21 = some (1, .aload_n 0)) rfl ?_
    refine x_aload_n (by decide +kernel : am_at co_X12_statementTold 22 = some (1, .aload_n 0)) rfl ?_
    refine x_getF (by decide +kernel : am_at co_X12_statementTold 23 = some (3, .getfield 20)) pq_12_20 (by decide) rfl ob_152 ?_
    refine x_top2 (show 152 + 3 = 155 from rfl) ?_
    refine x_callV (n := 2) (by decide +kernel : am_at co_X12_statementTold 26 = some (3, .invokevirtual 236)) pq_12_236 pm_X12_takes rfl rfl rfl ob_152 h (x_k0 fun x2 M2 h => ?_)
    refine x_if (tgt := 40) (by decide +kernel : am_at co_X12_statementTold 29 = some (3, .ifCond .eq 11)) rfl Iff.rfl (fun c2 => ?_) (fun c2 => ?_)
    · have h := h.1 c2
      refine x_aload_n (by decide +kernel : am_at co_X12_statementTold 40 = some (1, .aload_n 0)) rfl ?_
      refine x_aload_n (by decide +kernel : am_at co_X12_statementTold 41 = some (1, .aload_n 0)) rfl ?_
      refine x_getF (by decide +kernel : am_at co_X12_statementTold 42 = some (3, .getfield 24)) pq_12_24 (by decide) rfl ob_152 ?_
      refine x_top2 (show 152 + 4 = 156 from rfl) ?_
      refine x_callV (n := 2) (by decide +kernel : am_at co_X12_statementTold 45 = some (3, .invokevirtual 236)) pq_12_236 pm_X12_takes rfl rfl rfl ob_152 h (x_k0 fun x4 M4 h => ?_)
      refine x_if (tgt := 59) (by decide +kernel : am_at co_X12_statementTold 48 = some (3, .ifCond .eq 11)) rfl Iff.rfl (fun c4 => ?_) (fun c4 => ?_)
      · have h := h.1 c4
        refine x_aload_n (by decide +kernel : am_at co_X12_statementTold 59 = some (1, .aload_n 0)) rfl ?_
        refine x_aload_n (by decide +kernel : am_at co_X12_statementTold 60 = some (1, .aload_n 0)) rfl ?_
        refine x_getF (by decide +kernel : am_at co_X12_statementTold 61 = some (3, .getfield 30)) pq_12_30 (by decide) rfl ob_152 ?_
        refine x_top2 (show 152 + 6 = 158 from rfl) ?_
        refine x_callV (n := 2) (by decide +kernel : am_at co_X12_statementTold 64 = some (3, .invokevirtual 236)) pq_12_236 pm_X12_takes rfl rfl rfl ob_152 h (x_k0 fun x6 M6 h => ?_)
        refine x_if (tgt := 77) (by decide +kernel : am_at co_X12_statementTold 67 = some (3, .ifCond .eq 10)) rfl Iff.rfl (fun c6 => ?_) (fun c6 => ?_)
        · have h := h.1 c6
          refine x_aload_n (by decide +kernel : am_at co_X12_statementTold 77 = some (1, .aload_n 0)) rfl ?_
          refine x_aload_n (by decide +kernel : am_at co_X12_statementTold 78 = some (1, .aload_n 0)) rfl ?_
          refine x_getF (by decide +kernel : am_at co_X12_statementTold 79 = some (3, .getfield 33)) pq_12_33 (by decide) rfl ob_152 ?_
          refine x_top2 (show 152 + 7 = 159 from rfl) ?_
          refine x_callV (n := 2) (by decide +kernel : am_at co_X12_statementTold 82 = some (3, .invokevirtual 236)) pq_12_236 pm_X12_takes rfl rfl rfl ob_152 h (x_k0 fun x8 M8 h => ?_)
          refine x_if (tgt := 96) (by decide +kernel : am_at co_X12_statementTold 85 = some (3, .ifCond .eq 11)) rfl Iff.rfl (fun c8 => ?_) (fun c8 => ?_)
          · have h := h.1 c8
            refine x_aload_n (by decide +kernel : am_at co_X12_statementTold 96 = some (1, .aload_n 0)) rfl ?_
            refine x_aload_n (by decide +kernel : am_at co_X12_statementTold 97 = some (1, .aload_n 0)) rfl ?_
            refine x_getF (by decide +kernel : am_at co_X12_statementTold 98 = some (3, .getfield 39)) pq_12_39 (by decide) rfl ob_152 ?_
            refine x_top2 (show 152 + 9 = 161 from rfl) ?_
            refine x_callV (n := 2) (by decide +kernel : am_at co_X12_statementTold 101 = some (3, .invokevirtual 236)) pq_12_236 pm_X12_takes rfl rfl rfl ob_152 h (x_k0 fun x10 M10 h => ?_)
            refine x_if (tgt := 116) (by decide +kernel : am_at co_X12_statementTold 104 = some (3, .ifCond .eq 12)) rfl Iff.rfl (fun c10 => ?_) (fun c10 => ?_)
            · have h := h.1 c10
              refine x_aload_n (by decide +kernel : am_at co_X12_statementTold 116 = some (1, .aload_n 0)) rfl ?_
              refine x_aload_n (by decide +kernel : am_at co_X12_statementTold 117 = some (1, .aload_n 0)) rfl ?_
              refine x_getF (by decide +kernel : am_at co_X12_statementTold 118 = some (3, .getfield 42)) pq_12_42 (by decide) rfl ob_152 ?_
              refine x_top2 (show 152 + 10 = 162 from rfl) ?_
              refine x_callV (n := 2) (by decide +kernel : am_at co_X12_statementTold 121 = some (3, .invokevirtual 236)) pq_12_236 pm_X12_takes rfl rfl rfl ob_152 h (x_k0 fun x12 M12 h => ?_)
              refine x_if (tgt := 136) (by decide +kernel : am_at co_X12_statementTold 124 = some (3, .ifCond .eq 12)) rfl Iff.rfl (fun c12 => ?_) (fun c12 => ?_)
              · have h := h.1 c12
                refine x_aload_n (by decide +kernel : am_at co_X12_statementTold 136 = some (1, .aload_n 0)) rfl ?_
                refine x_aload_n (by decide +kernel : am_at co_X12_statementTold 137 = some (1, .aload_n 0)) rfl ?_
                refine x_getF (by decide +kernel : am_at co_X12_statementTold 138 = some (3, .getfield 45)) pq_12_45 (by decide) rfl ob_152 ?_
                refine x_top2 (show 152 + 11 = 163 from rfl) ?_
                refine x_callV (n := 2) (by decide +kernel : am_at co_X12_statementTold 141 = some (3, .invokevirtual 236)) pq_12_236 pm_X12_takes rfl rfl rfl ob_152 h (x_k0 fun x14 M14 h => ?_)
                refine x_if (tgt := 156) (by decide +kernel : am_at co_X12_statementTold 144 = some (3, .ifCond .eq 12)) rfl Iff.rfl (fun c14 => ?_) (fun c14 => ?_)
                · have h := h.1 c14
                  refine x_aload_n (by decide +kernel : am_at co_X12_statementTold 156 = some (1, .aload_n 0)) rfl ?_
                  refine x_aload_n (by decide +kernel : am_at co_X12_statementTold 157 = some (1, .aload_n 0)) rfl ?_
                  refine x_getF (by decide +kernel : am_at co_X12_statementTold 158 = some (3, .getfield 48)) pq_12_48 (by decide) rfl ob_152 ?_
                  refine x_top2 (show 152 + 12 = 164 from rfl) ?_
                  refine x_callV (n := 2) (by decide +kernel : am_at co_X12_statementTold 161 = some (3, .invokevirtual 236)) pq_12_236 pm_X12_takes rfl rfl rfl ob_152 h (x_k0 fun x16 M16 h => ?_)
                  refine x_if (tgt := 184) (by decide +kernel : am_at co_X12_statementTold 164 = some (3, .ifCond .eq 20)) rfl Iff.rfl (fun c16 => ?_) (fun c16 => ?_)
                  · have h := h.1 c16
                    refine x_aload_n (by decide +kernel : am_at co_X12_statementTold 184 = some (1, .aload_n 0)) rfl ?_
                    refine x_aload_n (by decide +kernel : am_at co_X12_statementTold 185 = some (1, .aload_n 0)) rfl ?_
                    refine x_getF (by decide +kernel : am_at co_X12_statementTold 186 = some (3, .getfield 51)) pq_12_51 (by decide) rfl ob_152 ?_
                    refine x_top2 (show 152 + 13 = 165 from rfl) ?_
                    refine x_callV (n := 2) (by decide +kernel : am_at co_X12_statementTold 189 = some (3, .invokevirtual 236)) pq_12_236 pm_X12_takes rfl rfl rfl ob_152 h (x_k0 fun x18 M18 h => ?_)
                    refine x_if (tgt := 211) (by decide +kernel : am_at co_X12_statementTold 192 = some (3, .ifCond .eq 19)) rfl Iff.rfl (fun c18 => ?_) (fun c18 => ?_)
                    · have h := h.1 c18
                      refine x_aload_n (by decide +kernel : am_at co_X12_statementTold 211 = some (1, .aload_n 0)) rfl ?_
                      refine x_aload_n (by decide +kernel : am_at co_X12_statementTold 212 = some (1, .aload_n 0)) rfl ?_
                      refine x_getF (by decide +kernel : am_at co_X12_statementTold 213 = some (3, .getfield 54)) pq_12_54 (by decide) rfl ob_152 ?_
                      refine x_top2 (show 152 + 14 = 166 from rfl) ?_
                      refine x_callV (n := 2) (by decide +kernel : am_at co_X12_statementTold 216 = some (3, .invokevirtual 279)) pq_12_279 pm_X12_asks rfl rfl rfl ob_152 h (x_kv fun M20 h => ?_)
                      refine x_aload_n (by decide +kernel : am_at co_X12_statementTold 219 = some (1, .aload_n 0)) rfl ?_
                      refine x_getF (by decide +kernel : am_at co_X12_statementTold 220 = some (3, .getfield 94)) pq_12_94 (by decide) rfl ob_152 ?_
                      refine x_top2 (show 152 + 27 = 179 from rfl) ?_
                      refine x_iconst (by decide +kernel : am_at co_X12_statementTold 223 = some (1, .iconst 2)) ?_
                      refine x_aload_n (by decide +kernel : am_at co_X12_statementTold 224 = some (1, .aload_n 0)) rfl ?_
                      refine x_iconst (by decide +kernel : am_at co_X12_statementTold 225 = some (1, .iconst 0)) ?_
                      refine x_sipush (by decide +kernel : am_at co_X12_statementTold 226 = some (3, .sipush 999)) ?_
                      refine x_callV (n := 3) (by decide +kernel : am_at co_X12_statementTold 229 = some (3, .invokevirtual 283)) pq_12_283 pm_X12_number rfl rfl rfl ob_152 h (x_k0 fun x21 M21 h => ?_)
                      refine x_iast (by decide +kernel : am_at co_X12_statementTold 232 = some (1, .iastore)) (ow_179 (by decide) (by decide)) ?_
                      exact am_weak (lk (ld ln)) h
                    · have c18 := c18
                      have h := h.2 c18
                      refine x_aload_n (by decide +kernel : am_at co_X12_statementTold 195 = some (1, .aload_n 0)) rfl ?_
                      refine x_getF (by decide +kernel : am_at co_X12_statementTold 196 = some (3, .getfield 94)) pq_12_94 (by decide) rfl ob_152 ?_
                      refine x_top2 (show 152 + 27 = 179 from rfl) ?_
                      refine x_iconst (by decide +kernel : am_at co_X12_statementTold 199 = some (1, .iconst 1)) ?_
                      refine x_aload_n (by decide +kernel : am_at co_X12_statementTold 200 = some (1, .aload_n 0)) rfl ?_
                      refine x_iconst (by decide +kernel : am_at co_X12_statementTold 201 = some (1, .iconst 0)) ?_
                      refine x_bipush (by decide +kernel : am_at co_X12_statementTold 202 = some (2, .bipush 100)) ?_
                      refine x_callV (n := 3) (by decide +kernel : am_at co_X12_statementTold 204 = some (3, .invokevirtual 283)) pq_12_283 pm_X12_number rfl rfl rfl ob_152 h (x_k0 fun x22 M22 h => ?_)
                      refine x_iast (by decide +kernel : am_at co_X12_statementTold 207 = some (1, .iastore)) (ow_179 (by decide) (by decide)) ?_
                      refine x_goto (tgt := 233) (by decide +kernel : am_at co_X12_statementTold 208 = some (3, .goto 25)) rfl ?_
                      exact am_weak (lk (ld ln)) h
                  · have c16 := c16
                    have h := h.2 c16
                    refine x_aload_n (by decide +kernel : am_at co_X12_statementTold 167 = some (1, .aload_n 0)) rfl ?_
                    refine x_getF (by decide +kernel : am_at co_X12_statementTold 168 = some (3, .getfield 94)) pq_12_94 (by decide) rfl ob_152 ?_
                    refine x_top2 (show 152 + 27 = 179 from rfl) ?_
                    refine x_iconst (by decide +kernel : am_at co_X12_statementTold 171 = some (1, .iconst 0)) ?_
                    refine x_aload_n (by decide +kernel : am_at co_X12_statementTold 172 = some (1, .aload_n 0)) rfl ?_
                    refine x_iconst (by decide +kernel : am_at co_X12_statementTold 173 = some (1, .iconst 0)) ?_
                    refine x_sipush (by decide +kernel : am_at co_X12_statementTold 174 = some (3, .sipush 9999)) ?_
                    refine x_callV (n := 3) (by decide +kernel : am_at co_X12_statementTold 177 = some (3, .invokevirtual 283)) pq_12_283 pm_X12_number rfl rfl rfl ob_152 h (x_k0 fun x23 M23 h => ?_)
                    refine x_iast (by decide +kernel : am_at co_X12_statementTold 180 = some (1, .iastore)) (ow_179 (by decide) (by decide)) ?_
                    refine x_goto (tgt := 233) (by decide +kernel : am_at co_X12_statementTold 181 = some (3, .goto 52)) rfl ?_
                    exact am_weak (lk (ld ln)) h
                · have c14 := c14
                  have h := h.2 c14
                  refine x_aload_n (by decide +kernel : am_at co_X12_statementTold 147 = some (1, .aload_n 0)) rfl ?_
                  refine x_iconst (by decide +kernel : am_at co_X12_statementTold 148 = some (1, .iconst 2)) ?_
                  refine x_iload_n (by decide +kernel : am_at co_X12_statementTold 149 = some (1, .iload_n 1)) rfl ?_
                  refine x_callV (n := 3) (by decide +kernel : am_at co_X12_statementTold 150 = some (3, .invokevirtual 322)) pq_12_322 pm_X12_sumIsTold rfl rfl rfl ob_152 h (x_kv fun M24 h => ?_)
                  refine x_goto (tgt := 233) (by decide +kernel : am_at co_X12_statementTold 153 = some (3, .goto 80)) rfl ?_
                  exact am_weak (lk (ld ln)) h
              · have c12 := c12
                have h := h.2 c12
                refine x_aload_n (by decide +kernel : am_at co_X12_statementTold 127 = some (1, .aload_n 0)) rfl ?_
                refine x_iconst (by decide +kernel : am_at co_X12_statementTold 128 = some (1, .iconst 1)) ?_
                refine x_iload_n (by decide +kernel : am_at co_X12_statementTold 129 = some (1, .iload_n 1)) rfl ?_
                refine x_callV (n := 3) (by decide +kernel : am_at co_X12_statementTold 130 = some (3, .invokevirtual 322)) pq_12_322 pm_X12_sumIsTold rfl rfl rfl ob_152 h (x_kv fun M25 h => ?_)
                refine x_goto (tgt := 233) (by decide +kernel : am_at co_X12_statementTold 133 = some (3, .goto 100)) rfl ?_
                exact am_weak (lk (ld ln)) h
            · have c10 := c10
              have h := h.2 c10
              refine x_aload_n (by decide +kernel : am_at co_X12_statementTold 107 = some (1, .aload_n 0)) rfl ?_
              refine x_iconst (by decide +kernel : am_at co_X12_statementTold 108 = some (1, .iconst 0)) ?_
              refine x_iload_n (by decide +kernel : am_at co_X12_statementTold 109 = some (1, .iload_n 1)) rfl ?_
              refine x_callV (n := 3) (by decide +kernel : am_at co_X12_statementTold 110 = some (3, .invokevirtual 322)) pq_12_322 pm_X12_sumIsTold rfl rfl rfl ob_152 h (x_kv fun M26 h => ?_)
              refine x_goto (tgt := 233) (by decide +kernel : am_at co_X12_statementTold 113 = some (3, .goto 120)) rfl ?_
              exact am_weak (lk (ld ln)) h
          · have c8 := c8
            have h := h.2 c8
            refine x_aload_n (by decide +kernel : am_at co_X12_statementTold 88 = some (1, .aload_n 0)) rfl ?_
            refine x_iload_n (by decide +kernel : am_at co_X12_statementTold 89 = some (1, .iload_n 1)) rfl ?_
            refine x_callV (n := 2) (by decide +kernel : am_at co_X12_statementTold 90 = some (3, .invokevirtual 319)) pq_12_319 pm_X12_guideTold rfl rfl rfl ob_152 h (x_kv fun M27 h => ?_)
            refine x_goto (tgt := 233) (by decide +kernel : am_at co_X12_statementTold 93 = some (3, .goto 140)) rfl ?_
            exact am_weak (lk (ld ln)) h
        · have c6 := c6
          have h := h.2 c6
          refine x_aload_n (by decide +kernel : am_at co_X12_statementTold 70 = some (1, .aload_n 0)) rfl ?_
          refine x_callV (n := 1) (by decide +kernel : am_at co_X12_statementTold 71 = some (3, .invokevirtual 316)) pq_12_316 pm_X12_fearsTold rfl rfl rfl ob_152 h (x_kv fun M28 h => ?_)
          refine x_goto (tgt := 233) (by decide +kernel : am_at co_X12_statementTold 74 = some (3, .goto 159)) rfl ?_
          exact am_weak (lk (ld ln)) h
      · have c4 := c4
        have h := h.2 c4
        refine x_aload_n (by decide +kernel : am_at co_X12_statementTold 51 = some (1, .aload_n 0)) rfl ?_
        refine x_iload_n (by decide +kernel : am_at co_X12_statementTold 52 = some (1, .iload_n 1)) rfl ?_
        refine x_callV (n := 2) (by decide +kernel : am_at co_X12_statementTold 53 = some (3, .invokevirtual 313)) pq_12_313 pm_X12_dreamerTold rfl rfl rfl ob_152 h (x_kv fun M29 h => ?_)
        refine x_goto (tgt := 233) (by decide +kernel : am_at co_X12_statementTold 56 = some (3, .goto 177)) rfl ?_
        exact am_weak (lk (ld ln)) h
    · have c2 := c2
      have h := h.2 c2
      refine x_aload_n (by decide +kernel : am_at co_X12_statementTold 32 = some (1, .aload_n 0)) rfl ?_
      refine x_iload_n (by decide +kernel : am_at co_X12_statementTold 33 = some (1, .iload_n 1)) rfl ?_
      refine x_callV (n := 2) (by decide +kernel : am_at co_X12_statementTold 34 = some (3, .invokevirtual 309)) pq_12_309 pm_X12_dreadTold rfl rfl rfl ob_152 h (x_kv fun M30 h => ?_)
      refine x_goto (tgt := 233) (by decide +kernel : am_at co_X12_statementTold 37 = some (3, .goto 196)) rfl ?_
      exact am_weak (lk (ld ln)) h
  · have c0 := (Classical.not_not.mp c0)
    have h := h.2 c0
    refine x_aload_n (by decide +kernel : am_at co_X12_statementTold 14 = some (1, .aload_n 0)) rfl ?_
    refine x_iconst (by decide +kernel : am_at co_X12_statementTold 15 = some (1, .iconst 5)) ?_
    refine x_iload_n (by decide +kernel : am_at co_X12_statementTold 16 = some (1, .iload_n 1)) rfl ?_
    refine x_callV (n := 3) (by decide +kernel : am_at co_X12_statementTold 17 = some (3, .invokevirtual 239)) pq_12_239 pm_X12_fail rfl rfl rfl ob_152 h (x_kv fun M31 h => ?_)
    exact x_vret (by decide +kernel : am_at co_X12_statementTold 20 = some (1, .return_)) h
set_option maxRecDepth 20000 in
theorem bk_X12_statementTold_233 {d : Nat} {Q : am_Q} {M : am_M} (h : am_cal pg d 180 [(2, 152), (0, 59)] sh_T M (am_cv sh_T fun M1 => am_r ((M1 152 38) + 1) ∧ Q (none, sh_T, (am_up M1 152 38 ((M1 152 38) + 1))))) : am_g 12 9 co_X12_statementTold d Q 233 [(2, 152), (3, 0)] [] sh_T M := by
  refine x_aload_n (by decide +kernel : am_at co_X12_statementTold 233 = some (1, .aload_n 0)) rfl ?_
  refine x_bipush (by decide +kernel : am_at co_X12_statementTold 234 = some (2, .bipush 59)) ?_
  refine x_callV (n := 2) (by decide +kernel : am_at co_X12_statementTold 236 = some (3, .invokevirtual 325)) pq_12_325 pm_X12_asksSign rfl rfl rfl ob_152 h (x_kv fun M1 h => ?_)
  refine x_aload_n (by decide +kernel : am_at co_X12_statementTold 239 = some (1, .aload_n 0)) rfl ?_
  refine x_dup2' (by decide +kernel : am_at co_X12_statementTold 240 = some (1, .dup)) ?_
  refine x_getf (by decide +kernel : am_at co_X12_statementTold 241 = some (3, .getfield 306)) pq_12_306 rfl ob_152 ?_
  refine x_iconst (by decide +kernel : am_at co_X12_statementTold 244 = some (1, .iconst 1)) ?_
  obtain ⟨o1, h⟩ := h
  refine x_iadd (by decide +kernel : am_at co_X12_statementTold 245 = some (1, .iadd)) o1 ?_
  refine x_putf0 (by decide +kernel : am_at co_X12_statementTold 246 = some (3, .putfield 306)) pq_12_306 rfl ob_152 ?_
  exact x_vret (by decide +kernel : am_at co_X12_statementTold 249 = some (1, .return_)) h
set_option maxRecDepth 20000 in
theorem bk_X12_dream_0 {d : Nat} {Q : am_Q} {M : am_M} (h : am_g 12 0 co_X12_dream d Q 45 [(2, 152), (0, 0)] [] sh_T (am_up (am_up (am_up (am_up (am_up (am_up (am_up (am_up M 152 3 (M 152 1)) 152 1 0) 152 2 0) 152 4 (-1)) 152 5 0) 152 6 (-1)) 152 38 0) 152 40 0)) : am_g 12 0 co_X12_dream d Q 0 [(2, 152), (3, 0)] [] sh_T M := by
  refine x_aload_n (by decide +kernel : am_at co_X12_dream 0 = some (1, .aload_n 0)) rfl ?_
  refine x_aload_n (by decide +kernel : am_at co_X12_dream 1 = some (1, .aload_n 0)) rfl ?_
  refine x_getf (by decide +kernel : am_at co_X12_dream 2 = some (3, .getfield 206)) pq_12_206 rfl ob_152 ?_
  refine x_putf0 (by decide +kernel : am_at co_X12_dream 5 = some (3, .putfield 218)) pq_12_218 rfl ob_152 ?_
  refine x_aload_n (by decide +kernel : am_at co_X12_dream 8 = some (1, .aload_n 0)) rfl ?_
  refine x_iconst (by decide +kernel : am_at co_X12_dream 9 = some (1, .iconst 0)) ?_
  refine x_putf0 (by decide +kernel : am_at co_X12_dream 10 = some (3, .putfield 206)) pq_12_206 rfl ob_152 ?_
  refine x_aload_n (by decide +kernel : am_at co_X12_dream 13 = some (1, .aload_n 0)) rfl ?_
  refine x_iconst (by decide +kernel : am_at co_X12_dream 14 = some (1, .iconst 0)) ?_
  refine x_putf0 (by decide +kernel : am_at co_X12_dream 15 = some (3, .putfield 215)) pq_12_215 rfl ob_152 ?_
  refine x_aload_n (by decide +kernel : am_at co_X12_dream 18 = some (1, .aload_n 0)) rfl ?_
  refine x_iconst (by decide +kernel : am_at co_X12_dream 19 = some (1, .iconst (-1))) ?_
  refine x_putf0 (by decide +kernel : am_at co_X12_dream 20 = some (3, .putfield 229)) pq_12_229 rfl ob_152 ?_
  refine x_aload_n (by decide +kernel : am_at co_X12_dream 23 = some (1, .aload_n 0)) rfl ?_
  refine x_iconst (by decide +kernel : am_at co_X12_dream 24 = some (1, .iconst 0)) ?_
  refine x_putf0 (by decide +kernel : am_at co_X12_dream 25 = some (3, .putfield 209)) pq_12_209 rfl ob_152 ?_
  refine x_aload_n (by decide +kernel : am_at co_X12_dream 28 = some (1, .aload_n 0)) rfl ?_
  refine x_iconst (by decide +kernel : am_at co_X12_dream 29 = some (1, .iconst (-1))) ?_
  refine x_putf0 (by decide +kernel : am_at co_X12_dream 30 = some (3, .putfield 212)) pq_12_212 rfl ob_152 ?_
  refine x_aload_n (by decide +kernel : am_at co_X12_dream 33 = some (1, .aload_n 0)) rfl ?_
  refine x_iconst (by decide +kernel : am_at co_X12_dream 34 = some (1, .iconst 0)) ?_
  refine x_putf0 (by decide +kernel : am_at co_X12_dream 35 = some (3, .putfield 306)) pq_12_306 rfl ob_152 ?_
  refine x_aload_n (by decide +kernel : am_at co_X12_dream 38 = some (1, .aload_n 0)) rfl ?_
  refine x_iconst (by decide +kernel : am_at co_X12_dream 39 = some (1, .iconst 0)) ?_
  refine x_putf0 (by decide +kernel : am_at co_X12_dream 40 = some (3, .putfield 291)) pq_12_291 rfl ob_152 ?_
  refine x_iconst (by decide +kernel : am_at co_X12_dream 43 = some (1, .iconst 0)) ?_
  refine x_istore_n (L' := [(2, 152), (0, 0)]) (by decide +kernel : am_at co_X12_dream 44 = some (1, .istore_n 1)) rfl ?_
  exact am_weak (lk (lk ln)) h
set_option maxRecDepth 20000 in
theorem bk_X12_dream_45 {d : Nat} {Q : am_Q} {M : am_M} {v1 : Int} (h : ((3 ≤ v1 → am_g 12 0 co_X12_dream d Q 79 [(2, 152), (0, 0)] [] sh_T M) ∧ (v1 < 3 → (0 ≤ v1 ∧ v1 < 6) ∧ (0 ≤ v1 ∧ v1 < 6) ∧ (0 ≤ v1 ∧ v1 < 6) ∧ am_r (v1 + 1) ∧ am_g 12 0 co_X12_dream d Q 45 [(2, 152), (0, v1 + 1)] [] sh_T (am_up (am_up (am_up M 174 v1 0) 179 v1 0) 180 v1 (-1))))) : am_g 12 0 co_X12_dream d Q 45 [(2, 152), (0, v1)] [] sh_T M := by
  refine x_iload_n (by decide +kernel : am_at co_X12_dream 45 = some (1, .iload_n 1)) rfl ?_
  refine x_iconst (by decide +kernel : am_at co_X12_dream 46 = some (1, .iconst 3)) ?_
  refine x_icmp (tgt := 77) (by decide +kernel : am_at co_X12_dream 47 = some (3, .if_icmp .ge 30)) rfl Iff.rfl (fun c0 => ?_) (fun c0 => ?_)
  · have h := h.1 c0
    refine x_iconst (by decide +kernel : am_at co_X12_dream 77 = some (1, .iconst 0)) ?_
    refine x_istore_n (L' := [(2, 152), (0, 0)]) (by decide +kernel : am_at co_X12_dream 78 = some (1, .istore_n 1)) rfl ?_
    exact am_weak (lk (lk ln)) h
  · have c0 := (Int.not_le.mp c0)
    have h := h.2 c0
    refine x_aload_n (by decide +kernel : am_at co_X12_dream 50 = some (1, .aload_n 0)) rfl ?_
    refine x_getF (by decide +kernel : am_at co_X12_dream 51 = some (3, .getfield 78)) pq_12_78 (by decide) rfl ob_152 ?_
    refine x_top2 (show 152 + 22 = 174 from rfl) ?_
    refine x_iload_n (by decide +kernel : am_at co_X12_dream 54 = some (1, .iload_n 1)) rfl ?_
    refine x_iconst (by decide +kernel : am_at co_X12_dream 55 = some (1, .iconst 0)) ?_
    obtain ⟨o1, h⟩ := h
    refine x_iast (by decide +kernel : am_at co_X12_dream 56 = some (1, .iastore)) (ow_174 o1.1 o1.2) ?_
    refine x_aload_n (by decide +kernel : am_at co_X12_dream 57 = some (1, .aload_n 0)) rfl ?_
    refine x_getF (by decide +kernel : am_at co_X12_dream 58 = some (3, .getfield 94)) pq_12_94 (by decide) rfl ob_152 ?_
    refine x_top2 (show 152 + 27 = 179 from rfl) ?_
    refine x_iload_n (by decide +kernel : am_at co_X12_dream 61 = some (1, .iload_n 1)) rfl ?_
    refine x_iconst (by decide +kernel : am_at co_X12_dream 62 = some (1, .iconst 0)) ?_
    obtain ⟨o2, h⟩ := h
    refine x_iast (by decide +kernel : am_at co_X12_dream 63 = some (1, .iastore)) (ow_179 o2.1 o2.2) ?_
    refine x_aload_n (by decide +kernel : am_at co_X12_dream 64 = some (1, .aload_n 0)) rfl ?_
    refine x_getF (by decide +kernel : am_at co_X12_dream 65 = some (3, .getfield 97)) pq_12_97 (by decide) rfl ob_152 ?_
    refine x_top2 (show 152 + 28 = 180 from rfl) ?_
    refine x_iload_n (by decide +kernel : am_at co_X12_dream 68 = some (1, .iload_n 1)) rfl ?_
    refine x_iconst (by decide +kernel : am_at co_X12_dream 69 = some (1, .iconst (-1))) ?_
    obtain ⟨o3, h⟩ := h
    refine x_iast (by decide +kernel : am_at co_X12_dream 70 = some (1, .iastore)) (ow_180 o3.1 o3.2) ?_
    obtain ⟨o4, h⟩ := h
    refine x_iinc (L' := [(2, 152), (0, v1 + 1)]) (by decide +kernel : am_at co_X12_dream 71 = some (3, .iinc 1 1)) rfl o4 rfl ?_
    refine x_goto (tgt := 45) (by decide +kernel : am_at co_X12_dream 74 = some (3, .goto (-29))) rfl ?_
    exact am_weak (lk (lk ln)) h
set_option maxRecDepth 20000 in
theorem bk_X12_dream_79 {d : Nat} {Q : am_Q} {M : am_M} {v1 : Int} (h : ((24 ≤ v1 → am_g 12 0 co_X12_dream d Q 98 [(2, 152), (3, 0)] [] sh_T M) ∧ (v1 < 24 → (0 ≤ v1 ∧ v1 < 24) ∧ am_r (v1 + 1) ∧ am_g 12 0 co_X12_dream d Q 79 [(2, 152), (0, v1 + 1)] [] sh_T (am_up M 177 v1 0)))) : am_g 12 0 co_X12_dream d Q 79 [(2, 152), (0, v1)] [] sh_T M := by
  refine x_iload_n (by decide +kernel : am_at co_X12_dream 79 = some (1, .iload_n 1)) rfl ?_
  refine x_bipush (by decide +kernel : am_at co_X12_dream 80 = some (2, .bipush 24)) ?_
  refine x_icmp (tgt := 98) (by decide +kernel : am_at co_X12_dream 82 = some (3, .if_icmp .ge 16)) rfl Iff.rfl (fun c0 => ?_) (fun c0 => ?_)
  · have h := h.1 c0
    exact am_weak (lk (ld ln)) h
  · have c0 := (Int.not_le.mp c0)
    have h := h.2 c0
    refine x_aload_n (by decide +kernel : am_at co_X12_dream 85 = some (1, .aload_n 0)) rfl ?_
    refine x_getF (by decide +kernel : am_at co_X12_dream 86 = some (3, .getfield 88)) pq_12_88 (by decide) rfl ob_152 ?_
    refine x_top2 (show 152 + 25 = 177 from rfl) ?_
    refine x_iload_n (by decide +kernel : am_at co_X12_dream 89 = some (1, .iload_n 1)) rfl ?_
    refine x_iconst (by decide +kernel : am_at co_X12_dream 90 = some (1, .iconst 0)) ?_
    obtain ⟨o1, h⟩ := h
    refine x_iast (by decide +kernel : am_at co_X12_dream 91 = some (1, .iastore)) (ow_177 o1.1 o1.2) ?_
    obtain ⟨o2, h⟩ := h
    refine x_iinc (L' := [(2, 152), (0, v1 + 1)]) (by decide +kernel : am_at co_X12_dream 92 = some (3, .iinc 1 1)) rfl o2 rfl ?_
    refine x_goto (tgt := 79) (by decide +kernel : am_at co_X12_dream 95 = some (3, .goto (-16))) rfl ?_
    exact am_weak (lk (lk ln)) h
set_option maxRecDepth 20000 in
theorem bk_X12_dream_98 {d : Nat} {Q : am_Q} {M : am_M} (h : ((¬ M 152 5 = 0 → am_g 12 0 co_X12_dream d Q 120 [(2, 152), (3, 0)] [] sh_T M) ∧ (M 152 5 = 0 → am_cal pg d 175 [(2, 152)] sh_T M (am_c0 sh_T fun x2 M2 => ((x2 = (-1) → am_g 12 0 co_X12_dream d Q 120 [(2, 152), (3, 0)] [] sh_T M2) ∧ (¬ x2 = (-1) → am_cal pg d 193 [(2, 152)] sh_T M2 (am_cv sh_T fun M4 => am_g 12 0 co_X12_dream d Q 98 [(2, 152), (3, 0)] [] sh_T M4))))))) : am_g 12 0 co_X12_dream d Q 98 [(2, 152), (3, 0)] [] sh_T M := by
  refine x_aload_n (by decide +kernel : am_at co_X12_dream 98 = some (1, .aload_n 0)) rfl ?_
  refine x_getf (by decide +kernel : am_at co_X12_dream 99 = some (3, .getfield 209)) pq_12_209 rfl ob_152 ?_
  refine x_if (tgt := 120) (by decide +kernel : am_at co_X12_dream 102 = some (3, .ifCond .ne 18)) rfl Iff.rfl (fun c0 => ?_) (fun c0 => ?_)
  · have h := h.1 c0
    exact am_weak (lk (lk ln)) h
  · have c0 := (Classical.not_not.mp c0)
    have h := h.2 c0
    refine x_aload_n (by decide +kernel : am_at co_X12_dream 105 = some (1, .aload_n 0)) rfl ?_
    refine x_callV (n := 1) (by decide +kernel : am_at co_X12_dream 106 = some (3, .invokevirtual 221)) pq_12_221 pm_X12_look rfl rfl rfl ob_152 h (x_k0 fun x2 M2 h => ?_)
    refine x_iconst (by decide +kernel : am_at co_X12_dream 109 = some (1, .iconst (-1))) ?_
    refine x_icmp (tgt := 120) (by decide +kernel : am_at co_X12_dream 110 = some (3, .if_icmp .eq 10)) rfl Iff.rfl (fun c2 => ?_) (fun c2 => ?_)
    · have h := h.1 c2
      exact am_weak (lk (lk ln)) h
    · have c2 := c2
      have h := h.2 c2
      refine x_aload_n (by decide +kernel : am_at co_X12_dream 113 = some (1, .aload_n 0)) rfl ?_
      refine x_callV (n := 1) (by decide +kernel : am_at co_X12_dream 114 = some (3, .invokevirtual 328)) pq_12_328 pm_X12_statementTold rfl rfl rfl ob_152 h (x_kv fun M4 h => ?_)
      refine x_goto (tgt := 98) (by decide +kernel : am_at co_X12_dream 117 = some (3, .goto (-19))) rfl ?_
      exact am_weak (lk (lk ln)) h
set_option maxRecDepth 20000 in
theorem bk_X12_dream_120 {d : Nat} {Q : am_Q} {M : am_M} (h : ((M 152 5 = 0 → am_cal pg d 195 [(2, 152)] sh_T (am_up (am_up M 152 7 (M 152 5)) 152 8 (M 152 6)) (am_cv sh_T fun M2 => Q (some (0, M2 152 38), sh_T, M2))) ∧ (¬ M 152 5 = 0 → am_r ((M 154 1) + 1) ∧ Q (some (0, (-1)), sh_T, (am_up (am_up (am_up M 152 7 (M 152 5)) 152 8 (M 152 6)) 154 1 ((M 154 1) + 1)))))) : am_g 12 0 co_X12_dream d Q 120 [(2, 152), (3, 0)] [] sh_T M := by
  refine x_aload_n (by decide +kernel : am_at co_X12_dream 120 = some (1, .aload_n 0)) rfl ?_
  refine x_aload_n (by decide +kernel : am_at co_X12_dream 121 = some (1, .aload_n 0)) rfl ?_
  refine x_getf (by decide +kernel : am_at co_X12_dream 122 = some (3, .getfield 209)) pq_12_209 rfl ob_152 ?_
  refine x_putf0 (by decide +kernel : am_at co_X12_dream 125 = some (3, .putfield 331)) pq_12_331 rfl ob_152 ?_
  refine x_aload_n (by decide +kernel : am_at co_X12_dream 128 = some (1, .aload_n 0)) rfl ?_
  refine x_aload_n (by decide +kernel : am_at co_X12_dream 129 = some (1, .aload_n 0)) rfl ?_
  refine x_getf (by decide +kernel : am_at co_X12_dream 130 = some (3, .getfield 212)) pq_12_212 rfl ob_152 ?_
  refine x_top0 (show (am_up M 152 7 (M 152 5)) 152 6 = M 152 6 from by first | rfl | simp [am_up]) ?_
  refine x_putf0 (by decide +kernel : am_at co_X12_dream 133 = some (3, .putfield 13)) pq_12_13 rfl ob_152 ?_
  refine x_aload_n (by decide +kernel : am_at co_X12_dream 136 = some (1, .aload_n 0)) rfl ?_
  refine x_getf (by decide +kernel : am_at co_X12_dream 137 = some (3, .getfield 209)) pq_12_209 rfl ob_152 ?_
  refine x_top0 (show (am_up (am_up M 152 7 (M 152 5)) 152 8 (M 152 6)) 152 5 = M 152 5 from by first | rfl | simp [am_up]) ?_
  refine x_if (tgt := 155) (by decide +kernel : am_at co_X12_dream 140 = some (3, .ifCond .eq 15)) rfl Iff.rfl (fun c0 => ?_) (fun c0 => ?_)
  · have h := h.1 c0
    refine x_aload_n (by decide +kernel : am_at co_X12_dream 155 = some (1, .aload_n 0)) rfl ?_
    refine x_callV (n := 1) (by decide +kernel : am_at co_X12_dream 156 = some (3, .invokevirtual 334)) pq_12_334 pm_X12_stands rfl rfl rfl ob_152 h (x_kv fun M2 h => ?_)
    refine x_aload_n (by decide +kernel : am_at co_X12_dream 159 = some (1, .aload_n 0)) rfl ?_
    refine x_getf (by decide +kernel : am_at co_X12_dream 160 = some (3, .getfield 306)) pq_12_306 rfl ob_152 ?_
    exact x_iret (by decide +kernel : am_at co_X12_dream 163 = some (1, .ireturn)) h
  · have c0 := c0
    have h := h.2 c0
    refine x_aload_n (by decide +kernel : am_at co_X12_dream 143 = some (1, .aload_n 0)) rfl ?_
    refine x_getF (by decide +kernel : am_at co_X12_dream 144 = some (3, .getfield 17)) pq_12_17 (by decide) rfl ob_152 ?_
    refine x_top2 (show 152 + 2 = 154 from rfl) ?_
    refine x_iconst (by decide +kernel : am_at co_X12_dream 147 = some (1, .iconst 1)) ?_
    refine x_dup2 (by decide +kernel : am_at co_X12_dream 148 = some (1, .dup2)) ?_
    refine x_iald (by decide +kernel : am_at co_X12_dream 149 = some (1, .iaload)) (ia_154 (by decide) (by decide)) ?_
    refine x_top0 (show (am_up (am_up M 152 7 (M 152 5)) 152 8 (M 152 6)) 154 1 = M 154 1 from by first | rfl | simp [am_up]) ?_
    refine x_iconst (by decide +kernel : am_at co_X12_dream 150 = some (1, .iconst 1)) ?_
    obtain ⟨o2, h⟩ := h
    refine x_iadd (by decide +kernel : am_at co_X12_dream 151 = some (1, .iadd)) o2 ?_
    refine x_iast (by decide +kernel : am_at co_X12_dream 152 = some (1, .iastore)) (ow_154 (by decide) (by decide)) ?_
    refine x_iconst (by decide +kernel : am_at co_X12_dream 153 = some (1, .iconst (-1))) ?_
    exact x_iret (by decide +kernel : am_at co_X12_dream 154 = some (1, .ireturn)) h
set_option maxRecDepth 20000 in
theorem bk_X12_stands_0 {d : Nat} {Q : am_Q} {M : am_M} (h : am_g 12 9 co_X12_stands d Q 2 [(2, 152), (0, 0), (3, 0)] [] sh_T M) : am_g 12 9 co_X12_stands d Q 0 [(2, 152), (3, 0), (3, 0)] [] sh_T M := by
  refine x_iconst (by decide +kernel : am_at co_X12_stands 0 = some (1, .iconst 0)) ?_
  refine x_istore_n (L' := [(2, 152), (0, 0), (3, 0)]) (by decide +kernel : am_at co_X12_stands 1 = some (1, .istore_n 1)) rfl ?_
  exact am_weak (lk (lk (lk ln))) h
set_option maxRecDepth 20000 in
theorem bk_X12_stands_2 {d : Nat} {Q : am_Q} {M : am_M} {v1 : Int} (h : ((3 ≤ v1 → am_g 12 9 co_X12_stands d Q 71 [(2, 152), (0, 0), (3, 0)] [] sh_T M) ∧ (v1 < 3 → am_r (3 + v1) ∧ (0 ≤ v1 ∧ v1 < 6) ∧ (0 ≤ 3 + v1 ∧ 3 + v1 < 6) ∧ am_r (3 + v1) ∧ (0 ≤ v1 ∧ v1 < 6) ∧ (0 ≤ 3 + v1 ∧ 3 + v1 < 6) ∧ am_r (3 + v1) ∧ (0 ≤ v1 ∧ v1 < 6) ∧ (0 ≤ 3 + v1 ∧ 3 + v1 < 6) ∧ am_r (3 + v1) ∧ (0 ≤ v1 ∧ v1 < 6) ∧ (0 ≤ 3 + v1 ∧ 3 + v1 < 6) ∧ am_r (v1 + 1) ∧ am_g 12 9 co_X12_stands d Q 2 [(2, 152), (0, v1 + 1), (3, 0)] [] sh_T (am_up (am_up (am_up (am_up M 174 (3 + v1) (M 174 v1)) 179 (3 + v1) (M 179 v1)) 180 (3 + v1) (M 180 v1)) 181 (3 + v1) (M 181 v1))))) : am_g 12 9 co_X12_stands d Q 2 [(2, 152), (0, v1), (3, 0)] [] sh_T M := by
  refine x_iload_n (by decide +kernel : am_at co_X12_stands 2 = some (1, .iload_n 1)) rfl ?_
  refine x_iconst (by decide +kernel : am_at co_X12_stands 3 = some (1, .iconst 3)) ?_
  refine x_icmp (tgt := 69) (by decide +kernel : am_at co_X12_stands 4 = some (3, .if_icmp .ge 65)) rfl Iff.rfl (fun c0 => ?_) (fun c0 => ?_)
  · have h := h.1 c0
    refine x_iconst (by decide +kernel : am_at co_X12_stands 69 = some (1, .iconst 0)) ?_
    refine x_istore_n (L' := [(2, 152), (0, 0), (3, 0)]) (by decide +kernel : am_at co_X12_stands 70 = some (1, .istore_n 1)) rfl ?_
    exact am_weak (lk (lk (lk ln))) h
  · have c0 := (Int.not_le.mp c0)
    have h := h.2 c0
    refine x_aload_n (by decide +kernel : am_at co_X12_stands 7 = some (1, .aload_n 0)) rfl ?_
    refine x_getF (by decide +kernel : am_at co_X12_stands 8 = some (3, .getfield 78)) pq_12_78 (by decide) rfl ob_152 ?_
    refine x_top2 (show 152 + 22 = 174 from rfl) ?_
    refine x_iconst (by decide +kernel : am_at co_X12_stands 11 = some (1, .iconst 3)) ?_
    refine x_iload_n (by decide +kernel : am_at co_X12_stands 12 = some (1, .iload_n 1)) rfl ?_
    obtain ⟨o1, h⟩ := h
    refine x_iadd (by decide +kernel : am_at co_X12_stands 13 = some (1, .iadd)) o1 ?_
    refine x_aload_n (by decide +kernel : am_at co_X12_stands 14 = some (1, .aload_n 0)) rfl ?_
    refine x_getF (by decide +kernel : am_at co_X12_stands 15 = some (3, .getfield 78)) pq_12_78 (by decide) rfl ob_152 ?_
    refine x_top2 (show 152 + 22 = 174 from rfl) ?_
    refine x_iload_n (by decide +kernel : am_at co_X12_stands 18 = some (1, .iload_n 1)) rfl ?_
    obtain ⟨o2, h⟩ := h
    refine x_iald (by decide +kernel : am_at co_X12_stands 19 = some (1, .iaload)) (ia_174 o2.1 o2.2) ?_
    obtain ⟨o3, h⟩ := h
    refine x_iast (by decide +kernel : am_at co_X12_stands 20 = some (1, .iastore)) (ow_174 o3.1 o3.2) ?_
    refine x_aload_n (by decide +kernel : am_at co_X12_stands 21 = some (1, .aload_n 0)) rfl ?_
    refine x_getF (by decide +kernel : am_at co_X12_stands 22 = some (3, .getfield 94)) pq_12_94 (by decide) rfl ob_152 ?_
    refine x_top2 (show 152 + 27 = 179 from rfl) ?_
    refine x_iconst (by decide +kernel : am_at co_X12_stands 25 = some (1, .iconst 3)) ?_
    refine x_iload_n (by decide +kernel : am_at co_X12_stands 26 = some (1, .iload_n 1)) rfl ?_
    obtain ⟨o4, h⟩ := h
    refine x_iadd (by decide +kernel : am_at co_X12_stands 27 = some (1, .iadd)) o4 ?_
    refine x_aload_n (by decide +kernel : am_at co_X12_stands 28 = some (1, .aload_n 0)) rfl ?_
    refine x_getF (by decide +kernel : am_at co_X12_stands 29 = some (3, .getfield 94)) pq_12_94 (by decide) rfl ob_152 ?_
    refine x_top2 (show 152 + 27 = 179 from rfl) ?_
    refine x_iload_n (by decide +kernel : am_at co_X12_stands 32 = some (1, .iload_n 1)) rfl ?_
    obtain ⟨o5, h⟩ := h
    refine x_iald (by decide +kernel : am_at co_X12_stands 33 = some (1, .iaload)) (ia_179 o5.1 o5.2) ?_
    refine x_top0 (show (am_up M 174 (3 + v1) (M 174 v1)) 179 v1 = M 179 v1 from by first | rfl | simp [am_up]) ?_
    obtain ⟨o6, h⟩ := h
    refine x_iast (by decide +kernel : am_at co_X12_stands 34 = some (1, .iastore)) (ow_179 o6.1 o6.2) ?_
    refine x_aload_n (by decide +kernel : am_at co_X12_stands 35 = some (1, .aload_n 0)) rfl ?_
    refine x_getF (by decide +kernel : am_at co_X12_stands 36 = some (3, .getfield 97)) pq_12_97 (by decide) rfl ob_152 ?_
    refine x_top2 (show 152 + 28 = 180 from rfl) ?_
    refine x_iconst (by decide +kernel : am_at co_X12_stands 39 = some (1, .iconst 3)) ?_
    refine x_iload_n (by decide +kernel : am_at co_X12_stands 40 = some (1, .iload_n 1)) rfl ?_
    obtain ⟨o7, h⟩ := h
    refine x_iadd (by decide +kernel : am_at co_X12_stands 41 = some (1, .iadd)) o7 ?_
    refine x_aload_n (by decide +kernel : am_at co_X12_stands 42 = some (1, .aload_n 0)) rfl ?_
    refine x_getF (by decide +kernel : am_at co_X12_stands 43 = some (3, .getfield 97)) pq_12_97 (by decide) rfl ob_152 ?_
    refine x_top2 (show 152 + 28 = 180 from rfl) ?_
    refine x_iload_n (by decide +kernel : am_at co_X12_stands 46 = some (1, .iload_n 1)) rfl ?_
    obtain ⟨o8, h⟩ := h
    refine x_iald (by decide +kernel : am_at co_X12_stands 47 = some (1, .iaload)) (ia_180 o8.1 o8.2) ?_
    refine x_top0 (show (am_up (am_up M 174 (3 + v1) (M 174 v1)) 179 (3 + v1) (M 179 v1)) 180 v1 = M 180 v1 from by first | rfl | simp [am_up]) ?_
    obtain ⟨o9, h⟩ := h
    refine x_iast (by decide +kernel : am_at co_X12_stands 48 = some (1, .iastore)) (ow_180 o9.1 o9.2) ?_
    refine x_aload_n (by decide +kernel : am_at co_X12_stands 49 = some (1, .aload_n 0)) rfl ?_
    refine x_getF (by decide +kernel : am_at co_X12_stands 50 = some (3, .getfield 100)) pq_12_100 (by decide) rfl ob_152 ?_
    refine x_top2 (show 152 + 29 = 181 from rfl) ?_
    refine x_iconst (by decide +kernel : am_at co_X12_stands 53 = some (1, .iconst 3)) ?_
    refine x_iload_n (by decide +kernel : am_at co_X12_stands 54 = some (1, .iload_n 1)) rfl ?_
    obtain ⟨o10, h⟩ := h
    refine x_iadd (by decide +kernel : am_at co_X12_stands 55 = some (1, .iadd)) o10 ?_
    refine x_aload_n (by decide +kernel : am_at co_X12_stands 56 = some (1, .aload_n 0)) rfl ?_
    refine x_getF (by decide +kernel : am_at co_X12_stands 57 = some (3, .getfield 100)) pq_12_100 (by decide) rfl ob_152 ?_
    refine x_top2 (show 152 + 29 = 181 from rfl) ?_
    refine x_iload_n (by decide +kernel : am_at co_X12_stands 60 = some (1, .iload_n 1)) rfl ?_
    obtain ⟨o11, h⟩ := h
    refine x_iald (by decide +kernel : am_at co_X12_stands 61 = some (1, .iaload)) (ia_181 o11.1 o11.2) ?_
    refine x_top0 (show (am_up (am_up (am_up M 174 (3 + v1) (M 174 v1)) 179 (3 + v1) (M 179 v1)) 180 (3 + v1) (M 180 v1)) 181 v1 = M 181 v1 from by first | rfl | simp [am_up]) ?_
    obtain ⟨o12, h⟩ := h
    refine x_iast (by decide +kernel : am_at co_X12_stands 62 = some (1, .iastore)) (ow_181 o12.1 o12.2) ?_
    obtain ⟨o13, h⟩ := h
    refine x_iinc (L' := [(2, 152), (0, v1 + 1), (3, 0)]) (by decide +kernel : am_at co_X12_stands 63 = some (3, .iinc 1 1)) rfl o13 rfl ?_
    refine x_goto (tgt := 2) (by decide +kernel : am_at co_X12_stands 66 = some (3, .goto (-64))) rfl ?_
    exact am_weak (lk (lk (lk ln))) h
set_option maxRecDepth 20000 in
theorem bk_X12_stands_71 {d : Nat} {Q : am_Q} {M : am_M} {v1 : Int} (h : ((18 ≤ v1 → am_g 12 9 co_X12_stands d Q 100 [(2, 152), (0, 0), (3, 0)] [] sh_T M) ∧ (v1 < 18 → am_r (18 + v1) ∧ (0 ≤ v1 ∧ v1 < 36) ∧ (0 ≤ 18 + v1 ∧ 18 + v1 < 36) ∧ am_r (v1 + 1) ∧ am_g 12 9 co_X12_stands d Q 71 [(2, 152), (0, v1 + 1), (3, 0)] [] sh_T (am_up M 175 (18 + v1) (M 175 v1))))) : am_g 12 9 co_X12_stands d Q 71 [(2, 152), (0, v1), (3, 0)] [] sh_T M := by
  refine x_iload_n (by decide +kernel : am_at co_X12_stands 71 = some (1, .iload_n 1)) rfl ?_
  refine x_bipush (by decide +kernel : am_at co_X12_stands 72 = some (2, .bipush 18)) ?_
  refine x_icmp (tgt := 98) (by decide +kernel : am_at co_X12_stands 74 = some (3, .if_icmp .ge 24)) rfl Iff.rfl (fun c0 => ?_) (fun c0 => ?_)
  · have h := h.1 c0
    refine x_iconst (by decide +kernel : am_at co_X12_stands 98 = some (1, .iconst 0)) ?_
    refine x_istore_n (L' := [(2, 152), (0, 0), (3, 0)]) (by decide +kernel : am_at co_X12_stands 99 = some (1, .istore_n 1)) rfl ?_
    exact am_weak (lk (lk (lk ln))) h
  · have c0 := (Int.not_le.mp c0)
    have h := h.2 c0
    refine x_aload_n (by decide +kernel : am_at co_X12_stands 77 = some (1, .aload_n 0)) rfl ?_
    refine x_getF (by decide +kernel : am_at co_X12_stands 78 = some (3, .getfield 81)) pq_12_81 (by decide) rfl ob_152 ?_
    refine x_top2 (show 152 + 23 = 175 from rfl) ?_
    refine x_bipush (by decide +kernel : am_at co_X12_stands 81 = some (2, .bipush 18)) ?_
    refine x_iload_n (by decide +kernel : am_at co_X12_stands 83 = some (1, .iload_n 1)) rfl ?_
    obtain ⟨o1, h⟩ := h
    refine x_iadd (by decide +kernel : am_at co_X12_stands 84 = some (1, .iadd)) o1 ?_
    refine x_aload_n (by decide +kernel : am_at co_X12_stands 85 = some (1, .aload_n 0)) rfl ?_
    refine x_getF (by decide +kernel : am_at co_X12_stands 86 = some (3, .getfield 81)) pq_12_81 (by decide) rfl ob_152 ?_
    refine x_top2 (show 152 + 23 = 175 from rfl) ?_
    refine x_iload_n (by decide +kernel : am_at co_X12_stands 89 = some (1, .iload_n 1)) rfl ?_
    obtain ⟨o2, h⟩ := h
    refine x_lald (by decide +kernel : am_at co_X12_stands 90 = some (1, .laload)) (ia_175 o2.1 o2.2) ?_
    obtain ⟨o3, h⟩ := h
    refine x_last (by decide +kernel : am_at co_X12_stands 91 = some (1, .lastore)) (ow_175 o3.1 o3.2) ?_
    obtain ⟨o4, h⟩ := h
    refine x_iinc (L' := [(2, 152), (0, v1 + 1), (3, 0)]) (by decide +kernel : am_at co_X12_stands 92 = some (3, .iinc 1 1)) rfl o4 rfl ?_
    refine x_goto (tgt := 71) (by decide +kernel : am_at co_X12_stands 95 = some (3, .goto (-24))) rfl ?_
    exact am_weak (lk (lk (lk ln))) h
set_option maxRecDepth 20000 in
theorem bk_X12_stands_100 {d : Nat} {Q : am_Q} {M : am_M} {v1 : Int} (h : ((4 ≤ v1 → am_g 12 9 co_X12_stands d Q 141 [(2, 152), (0, 0), (3, 0)] [] sh_T M) ∧ (v1 < 4 → am_r (4 + v1) ∧ (0 ≤ v1 ∧ v1 < 8) ∧ (0 ≤ 4 + v1 ∧ 4 + v1 < 8) ∧ am_r (4 + v1) ∧ (0 ≤ v1 ∧ v1 < 8) ∧ (0 ≤ 4 + v1 ∧ 4 + v1 < 8) ∧ am_r (v1 + 1) ∧ am_g 12 9 co_X12_stands d Q 100 [(2, 152), (0, v1 + 1), (3, 0)] [] sh_T (am_up (am_up M 176 (4 + v1) (M 176 v1)) 178 (4 + v1) (M 178 v1))))) : am_g 12 9 co_X12_stands d Q 100 [(2, 152), (0, v1), (3, 0)] [] sh_T M := by
  refine x_iload_n (by decide +kernel : am_at co_X12_stands 100 = some (1, .iload_n 1)) rfl ?_
  refine x_iconst (by decide +kernel : am_at co_X12_stands 101 = some (1, .iconst 4)) ?_
  refine x_icmp (tgt := 139) (by decide +kernel : am_at co_X12_stands 102 = some (3, .if_icmp .ge 37)) rfl Iff.rfl (fun c0 => ?_) (fun c0 => ?_)
  · have h := h.1 c0
    refine x_iconst (by decide +kernel : am_at co_X12_stands 139 = some (1, .iconst 0)) ?_
    refine x_istore_n (L' := [(2, 152), (0, 0), (3, 0)]) (by decide +kernel : am_at co_X12_stands 140 = some (1, .istore_n 1)) rfl ?_
    exact am_weak (lk (lk (lk ln))) h
  · have c0 := (Int.not_le.mp c0)
    have h := h.2 c0
    refine x_aload_n (by decide +kernel : am_at co_X12_stands 105 = some (1, .aload_n 0)) rfl ?_
    refine x_getF (by decide +kernel : am_at co_X12_stands 106 = some (3, .getfield 85)) pq_12_85 (by decide) rfl ob_152 ?_
    refine x_top2 (show 152 + 24 = 176 from rfl) ?_
    refine x_iconst (by decide +kernel : am_at co_X12_stands 109 = some (1, .iconst 4)) ?_
    refine x_iload_n (by decide +kernel : am_at co_X12_stands 110 = some (1, .iload_n 1)) rfl ?_
    obtain ⟨o1, h⟩ := h
    refine x_iadd (by decide +kernel : am_at co_X12_stands 111 = some (1, .iadd)) o1 ?_
    refine x_aload_n (by decide +kernel : am_at co_X12_stands 112 = some (1, .aload_n 0)) rfl ?_
    refine x_getF (by decide +kernel : am_at co_X12_stands 113 = some (3, .getfield 85)) pq_12_85 (by decide) rfl ob_152 ?_
    refine x_top2 (show 152 + 24 = 176 from rfl) ?_
    refine x_iload_n (by decide +kernel : am_at co_X12_stands 116 = some (1, .iload_n 1)) rfl ?_
    obtain ⟨o2, h⟩ := h
    refine x_iald (by decide +kernel : am_at co_X12_stands 117 = some (1, .iaload)) (ia_176 o2.1 o2.2) ?_
    obtain ⟨o3, h⟩ := h
    refine x_iast (by decide +kernel : am_at co_X12_stands 118 = some (1, .iastore)) (ow_176 o3.1 o3.2) ?_
    refine x_aload_n (by decide +kernel : am_at co_X12_stands 119 = some (1, .aload_n 0)) rfl ?_
    refine x_getF (by decide +kernel : am_at co_X12_stands 120 = some (3, .getfield 91)) pq_12_91 (by decide) rfl ob_152 ?_
    refine x_top2 (show 152 + 26 = 178 from rfl) ?_
    refine x_iconst (by decide +kernel : am_at co_X12_stands 123 = some (1, .iconst 4)) ?_
    refine x_iload_n (by decide +kernel : am_at co_X12_stands 124 = some (1, .iload_n 1)) rfl ?_
    obtain ⟨o4, h⟩ := h
    refine x_iadd (by decide +kernel : am_at co_X12_stands 125 = some (1, .iadd)) o4 ?_
    refine x_aload_n (by decide +kernel : am_at co_X12_stands 126 = some (1, .aload_n 0)) rfl ?_
    refine x_getF (by decide +kernel : am_at co_X12_stands 127 = some (3, .getfield 91)) pq_12_91 (by decide) rfl ob_152 ?_
    refine x_top2 (show 152 + 26 = 178 from rfl) ?_
    refine x_iload_n (by decide +kernel : am_at co_X12_stands 130 = some (1, .iload_n 1)) rfl ?_
    obtain ⟨o5, h⟩ := h
    refine x_iald (by decide +kernel : am_at co_X12_stands 131 = some (1, .iaload)) (ia_178 o5.1 o5.2) ?_
    refine x_top0 (show (am_up M 176 (4 + v1) (M 176 v1)) 178 v1 = M 178 v1 from by first | rfl | simp [am_up]) ?_
    obtain ⟨o6, h⟩ := h
    refine x_iast (by decide +kernel : am_at co_X12_stands 132 = some (1, .iastore)) (ow_178 o6.1 o6.2) ?_
    obtain ⟨o7, h⟩ := h
    refine x_iinc (L' := [(2, 152), (0, v1 + 1), (3, 0)]) (by decide +kernel : am_at co_X12_stands 133 = some (3, .iinc 1 1)) rfl o7 rfl ?_
    refine x_goto (tgt := 100) (by decide +kernel : am_at co_X12_stands 136 = some (3, .goto (-36))) rfl ?_
    exact am_weak (lk (lk (lk ln))) h
set_option maxRecDepth 20000 in
theorem bk_X12_stands_141 {d : Nat} {Q : am_Q} {M : am_M} {v1 : Int} (h : ((M 152 40 ≤ v1 → am_g 12 9 co_X12_stands d Q 173 [(2, 152), (0, 0), (3, 0)] [] sh_T M) ∧ (v1 < M 152 40 → am_r (1600 + v1) ∧ (0 ≤ v1 ∧ v1 < 3200) ∧ (0 ≤ 1600 + v1 ∧ 1600 + v1 < 3200) ∧ am_r (v1 + 1) ∧ am_g 12 9 co_X12_stands d Q 141 [(2, 152), (0, v1 + 1), (3, 0)] [] sh_T (am_up M 182 (1600 + v1) (M 182 v1))))) : am_g 12 9 co_X12_stands d Q 141 [(2, 152), (0, v1), (3, 0)] [] sh_T M := by
  refine x_iload_n (by decide +kernel : am_at co_X12_stands 141 = some (1, .iload_n 1)) rfl ?_
  refine x_aload_n (by decide +kernel : am_at co_X12_stands 142 = some (1, .aload_n 0)) rfl ?_
  refine x_getf (by decide +kernel : am_at co_X12_stands 143 = some (3, .getfield 291)) pq_12_291 rfl ob_152 ?_
  refine x_icmp (tgt := 171) (by decide +kernel : am_at co_X12_stands 146 = some (3, .if_icmp .ge 25)) rfl Iff.rfl (fun c0 => ?_) (fun c0 => ?_)
  · have h := h.1 c0
    refine x_iconst (by decide +kernel : am_at co_X12_stands 171 = some (1, .iconst 0)) ?_
    refine x_istore_n (L' := [(2, 152), (0, 0), (3, 0)]) (by decide +kernel : am_at co_X12_stands 172 = some (1, .istore_n 1)) rfl ?_
    exact am_weak (lk (lk (lk ln))) h
  · have c0 := (Int.not_le.mp c0)
    have h := h.2 c0
    refine x_aload_n (by decide +kernel : am_at co_X12_stands 149 = some (1, .aload_n 0)) rfl ?_
    refine x_getF (by decide +kernel : am_at co_X12_stands 150 = some (3, .getfield 103)) pq_12_103 (by decide) rfl ob_152 ?_
    refine x_top2 (show 152 + 30 = 182 from rfl) ?_
    refine x_sipush (by decide +kernel : am_at co_X12_stands 153 = some (3, .sipush 1600)) ?_
    refine x_iload_n (by decide +kernel : am_at co_X12_stands 156 = some (1, .iload_n 1)) rfl ?_
    obtain ⟨o1, h⟩ := h
    refine x_iadd (by decide +kernel : am_at co_X12_stands 157 = some (1, .iadd)) o1 ?_
    refine x_aload_n (by decide +kernel : am_at co_X12_stands 158 = some (1, .aload_n 0)) rfl ?_
    refine x_getF (by decide +kernel : am_at co_X12_stands 159 = some (3, .getfield 103)) pq_12_103 (by decide) rfl ob_152 ?_
    refine x_top2 (show 152 + 30 = 182 from rfl) ?_
    refine x_iload_n (by decide +kernel : am_at co_X12_stands 162 = some (1, .iload_n 1)) rfl ?_
    obtain ⟨o2, h⟩ := h
    refine x_iald (by decide +kernel : am_at co_X12_stands 163 = some (1, .iaload)) (ia_182 o2.1 o2.2) ?_
    obtain ⟨o3, h⟩ := h
    refine x_iast (by decide +kernel : am_at co_X12_stands 164 = some (1, .iastore)) (ow_182 o3.1 o3.2) ?_
    obtain ⟨o4, h⟩ := h
    refine x_iinc (L' := [(2, 152), (0, v1 + 1), (3, 0)]) (by decide +kernel : am_at co_X12_stands 165 = some (3, .iinc 1 1)) rfl o4 rfl ?_
    refine x_goto (tgt := 141) (by decide +kernel : am_at co_X12_stands 168 = some (3, .goto (-27))) rfl ?_
    exact am_weak (lk (lk (lk ln))) h
set_option maxRecDepth 20000 in
theorem bk_X12_stands_173 {d : Nat} {Q : am_Q} {M : am_M} {v1 : Int} (h : ((4 ≤ v1 → Q (none, sh_T, (am_up (am_up M 152 58 0) 152 61 0))) ∧ (v1 < 4 → am_r (7 * v1) ∧ (0 ≤ 7 * v1 ∧ 7 * v1 < 28) ∧ am_g 12 9 co_X12_stands d Q 190 [(2, 152), (0, v1), (0, 0)] [] sh_T (am_up M 186 (7 * v1) (-1))))) : am_g 12 9 co_X12_stands d Q 173 [(2, 152), (0, v1), (3, 0)] [] sh_T M := by
  refine x_iload_n (by decide +kernel : am_at co_X12_stands 173 = some (1, .iload_n 1)) rfl ?_
  refine x_iconst (by decide +kernel : am_at co_X12_stands 174 = some (1, .iconst 4)) ?_
  refine x_icmp (tgt := 232) (by decide +kernel : am_at co_X12_stands 175 = some (3, .if_icmp .ge 57)) rfl Iff.rfl (fun c0 => ?_) (fun c0 => ?_)
  · have h := h.1 c0
    refine x_aload_n (by decide +kernel : am_at co_X12_stands 232 = some (1, .aload_n 0)) rfl ?_
    refine x_iconst (by decide +kernel : am_at co_X12_stands 233 = some (1, .iconst 0)) ?_
    refine x_putf0 (by decide +kernel : am_at co_X12_stands 234 = some (3, .putfield 337)) pq_12_337 rfl ob_152 ?_
    refine x_aload_n (by decide +kernel : am_at co_X12_stands 237 = some (1, .aload_n 0)) rfl ?_
    refine x_iconst (by decide +kernel : am_at co_X12_stands 238 = some (1, .iconst 0)) ?_
    refine x_putf0 (by decide +kernel : am_at co_X12_stands 239 = some (3, .putfield 340)) pq_12_340 rfl ob_152 ?_
    exact x_vret (by decide +kernel : am_at co_X12_stands 242 = some (1, .return_)) h
  · have c0 := (Int.not_le.mp c0)
    have h := h.2 c0
    refine x_aload_n (by decide +kernel : am_at co_X12_stands 178 = some (1, .aload_n 0)) rfl ?_
    refine x_getF (by decide +kernel : am_at co_X12_stands 179 = some (3, .getfield 115)) pq_12_115 (by decide) rfl ob_152 ?_
    refine x_top2 (show 152 + 34 = 186 from rfl) ?_
    refine x_bipush (by decide +kernel : am_at co_X12_stands 182 = some (2, .bipush 7)) ?_
    refine x_iload_n (by decide +kernel : am_at co_X12_stands 184 = some (1, .iload_n 1)) rfl ?_
    obtain ⟨o1, h⟩ := h
    refine x_imul (by decide +kernel : am_at co_X12_stands 185 = some (1, .imul)) o1 ?_
    refine x_iconst (by decide +kernel : am_at co_X12_stands 186 = some (1, .iconst (-1))) ?_
    obtain ⟨o2, h⟩ := h
    refine x_iast (by decide +kernel : am_at co_X12_stands 187 = some (1, .iastore)) (ow_186 o2.1 o2.2) ?_
    refine x_iconst (by decide +kernel : am_at co_X12_stands 188 = some (1, .iconst 0)) ?_
    refine x_istore_n (L' := [(2, 152), (0, v1), (0, 0)]) (by decide +kernel : am_at co_X12_stands 189 = some (1, .istore_n 2)) rfl ?_
    exact am_weak (lk (lk (lk ln))) h
set_option maxRecDepth 20000 in
theorem bk_X12_stands_190 {d : Nat} {Q : am_Q} {M : am_M} {v1 v2 : Int} (h : ((6 ≤ v2 → am_r (v1 + 1) ∧ am_g 12 9 co_X12_stands d Q 173 [(2, 152), (0, v1 + 1), (3, 0)] [] sh_T M) ∧ (v2 < 6 → am_r (7 * v1) ∧ am_r ((7 * v1) + 1) ∧ am_r (((7 * v1) + 1) + v2) ∧ am_r (6 * v1) ∧ am_r ((6 * v1) + v2) ∧ (0 ≤ (6 * v1) + v2 ∧ (6 * v1) + v2 < 24) ∧ (0 ≤ ((7 * v1) + 1) + v2 ∧ ((7 * v1) + 1) + v2 < 28) ∧ am_r (v2 + 1) ∧ am_g 12 9 co_X12_stands d Q 190 [(2, 152), (0, v1), (0, v2 + 1)] [] sh_T (am_up M 186 (((7 * v1) + 1) + v2) (M 177 ((6 * v1) + v2)))))) : am_g 12 9 co_X12_stands d Q 190 [(2, 152), (0, v1), (0, v2)] [] sh_T M := by
  refine x_iload_n (by decide +kernel : am_at co_X12_stands 190 = some (1, .iload_n 2)) rfl ?_
  refine x_bipush (by decide +kernel : am_at co_X12_stands 191 = some (2, .bipush 6)) ?_
  refine x_icmp (tgt := 226) (by decide +kernel : am_at co_X12_stands 193 = some (3, .if_icmp .ge 33)) rfl Iff.rfl (fun c0 => ?_) (fun c0 => ?_)
  · have h := h.1 c0
    obtain ⟨o1, h⟩ := h
    refine x_iinc (L' := [(2, 152), (0, v1 + 1), (0, v2)]) (by decide +kernel : am_at co_X12_stands 226 = some (3, .iinc 1 1)) rfl o1 rfl ?_
    refine x_goto (tgt := 173) (by decide +kernel : am_at co_X12_stands 229 = some (3, .goto (-56))) rfl ?_
    exact am_weak (lk (lk (ld ln))) h
  · have c0 := (Int.not_le.mp c0)
    have h := h.2 c0
    refine x_aload_n (by decide +kernel : am_at co_X12_stands 196 = some (1, .aload_n 0)) rfl ?_
    refine x_getF (by decide +kernel : am_at co_X12_stands 197 = some (3, .getfield 115)) pq_12_115 (by decide) rfl ob_152 ?_
    refine x_top2 (show 152 + 34 = 186 from rfl) ?_
    refine x_bipush (by decide +kernel : am_at co_X12_stands 200 = some (2, .bipush 7)) ?_
    refine x_iload_n (by decide +kernel : am_at co_X12_stands 202 = some (1, .iload_n 1)) rfl ?_
    obtain ⟨o2, h⟩ := h
    refine x_imul (by decide +kernel : am_at co_X12_stands 203 = some (1, .imul)) o2 ?_
    refine x_iconst (by decide +kernel : am_at co_X12_stands 204 = some (1, .iconst 1)) ?_
    obtain ⟨o3, h⟩ := h
    refine x_iadd (by decide +kernel : am_at co_X12_stands 205 = some (1, .iadd)) o3 ?_
    refine x_iload_n (by decide +kernel : am_at co_X12_stands 206 = some (1, .iload_n 2)) rfl ?_
    obtain ⟨o4, h⟩ := h
    refine x_iadd (by decide +kernel : am_at co_X12_stands 207 = some (1, .iadd)) o4 ?_
    refine x_aload_n (by decide +kernel : am_at co_X12_stands 208 = some (1, .aload_n 0)) rfl ?_
    refine x_getF (by decide +kernel : am_at co_X12_stands 209 = some (3, .getfield 88)) pq_12_88 (by decide) rfl ob_152 ?_
    refine x_top2 (show 152 + 25 = 177 from rfl) ?_
    refine x_bipush (by decide +kernel : am_at co_X12_stands 212 = some (2, .bipush 6)) ?_
    refine x_iload_n (by decide +kernel : am_at co_X12_stands 214 = some (1, .iload_n 1)) rfl ?_
    obtain ⟨o5, h⟩ := h
    refine x_imul (by decide +kernel : am_at co_X12_stands 215 = some (1, .imul)) o5 ?_
    refine x_iload_n (by decide +kernel : am_at co_X12_stands 216 = some (1, .iload_n 2)) rfl ?_
    obtain ⟨o6, h⟩ := h
    refine x_iadd (by decide +kernel : am_at co_X12_stands 217 = some (1, .iadd)) o6 ?_
    obtain ⟨o7, h⟩ := h
    refine x_iald (by decide +kernel : am_at co_X12_stands 218 = some (1, .iaload)) (ia_177 o7.1 o7.2) ?_
    obtain ⟨o8, h⟩ := h
    refine x_iast (by decide +kernel : am_at co_X12_stands 219 = some (1, .iastore)) (ow_186 o8.1 o8.2) ?_
    obtain ⟨o9, h⟩ := h
    refine x_iinc (L' := [(2, 152), (0, v1), (0, v2 + 1)]) (by decide +kernel : am_at co_X12_stands 220 = some (3, .iinc 2 1)) rfl o9 rfl ?_
    refine x_goto (tgt := 190) (by decide +kernel : am_at co_X12_stands 223 = some (3, .goto (-33))) rfl ?_
    exact am_weak (lk (lk (lk ln))) h
set_option maxRecDepth 20000 in
theorem bk_X12_code_0 {d : Nat} {Q : am_Q} {M : am_M} {v1 : Int} (h : am_r (0 + (M 152 40)) ∧ (0 ≤ 0 + (M 152 40) ∧ 0 + (M 152 40) < 3200) ∧ am_r ((M 152 40) + 1) ∧ Q (none, sh_T, (am_up (am_up M 182 (0 + (M 152 40)) v1) 152 40 ((M 152 40) + 1)))) : am_g 12 9 co_X12_code d Q 0 [(2, 152), (0, v1)] [] sh_T M := by
  refine x_aload_n (by decide +kernel : am_at co_X12_code 0 = some (1, .aload_n 0)) rfl ?_
  refine x_getF (by decide +kernel : am_at co_X12_code 1 = some (3, .getfield 103)) pq_12_103 (by decide) rfl ob_152 ?_
  refine x_top2 (show 152 + 30 = 182 from rfl) ?_
  refine x_iconst (by decide +kernel : am_at co_X12_code 4 = some (1, .iconst 0)) ?_
  refine x_aload_n (by decide +kernel : am_at co_X12_code 5 = some (1, .aload_n 0)) rfl ?_
  refine x_getf (by decide +kernel : am_at co_X12_code 6 = some (3, .getfield 291)) pq_12_291 rfl ob_152 ?_
  obtain ⟨o0, h⟩ := h
  refine x_iadd (by decide +kernel : am_at co_X12_code 9 = some (1, .iadd)) o0 ?_
  refine x_iload_n (by decide +kernel : am_at co_X12_code 10 = some (1, .iload_n 1)) rfl ?_
  obtain ⟨o1, h⟩ := h
  refine x_iast (by decide +kernel : am_at co_X12_code 11 = some (1, .iastore)) (ow_182 o1.1 o1.2) ?_
  refine x_aload_n (by decide +kernel : am_at co_X12_code 12 = some (1, .aload_n 0)) rfl ?_
  refine x_dup2' (by decide +kernel : am_at co_X12_code 13 = some (1, .dup)) ?_
  refine x_getf (by decide +kernel : am_at co_X12_code 14 = some (3, .getfield 291)) pq_12_291 rfl ob_152 ?_
  refine x_top0 (show (am_up M 182 (0 + (M 152 40)) v1) 152 40 = M 152 40 from by first | rfl | simp [am_up]) ?_
  refine x_iconst (by decide +kernel : am_at co_X12_code 17 = some (1, .iconst 1)) ?_
  obtain ⟨o2, h⟩ := h
  refine x_iadd (by decide +kernel : am_at co_X12_code 18 = some (1, .iadd)) o2 ?_
  refine x_putf0 (by decide +kernel : am_at co_X12_code 19 = some (3, .putfield 291)) pq_12_291 rfl ob_152 ?_
  exact x_vret (by decide +kernel : am_at co_X12_code 22 = some (1, .return_)) h
set_option maxRecDepth 20000 in
theorem bk_X12_opens_0 {d : Nat} {Q : am_Q} {M : am_M} {v1 v2 : Int} (h : ((¬ M 152 43 = 6 → am_r ((M 152 43) + 1) ∧ (0 ≤ M 152 42 ∧ M 152 42 < 1700) ∧ am_r ((M 152 42) + 1) ∧ Q (none, sh_T, (am_up (am_up (am_up M 152 43 ((M 152 43) + 1)) 183 (M 152 42) v1) 152 42 ((M 152 42) + 1)))) ∧ (M 152 43 = 6 → am_cal pg d 172 [(2, 152), (0, 4), (0, v2)] sh_T M (am_cv sh_T fun M5 => Q (none, sh_T, M5))))) : am_g 12 9 co_X12_opens d Q 0 [(2, 152), (0, v1), (0, v2)] [] sh_T M := by
  refine x_aload_n (by decide +kernel : am_at co_X12_opens 0 = some (1, .aload_n 0)) rfl ?_
  refine x_getf (by decide +kernel : am_at co_X12_opens 1 = some (3, .getfield 297)) pq_12_297 rfl ob_152 ?_
  refine x_bipush (by decide +kernel : am_at co_X12_opens 4 = some (2, .bipush 6)) ?_
  refine x_icmp (tgt := 16) (by decide +kernel : am_at co_X12_opens 6 = some (3, .if_icmp .ne 10)) rfl Iff.rfl (fun c0 => ?_) (fun c0 => ?_)
  · have h := h.1 c0
    refine x_aload_n (by decide +kernel : am_at co_X12_opens 16 = some (1, .aload_n 0)) rfl ?_
    refine x_dup2' (by decide +kernel : am_at co_X12_opens 17 = some (1, .dup)) ?_
    refine x_getf (by decide +kernel : am_at co_X12_opens 18 = some (3, .getfield 297)) pq_12_297 rfl ob_152 ?_
    refine x_iconst (by decide +kernel : am_at co_X12_opens 21 = some (1, .iconst 1)) ?_
    obtain ⟨o1, h⟩ := h
    refine x_iadd (by decide +kernel : am_at co_X12_opens 22 = some (1, .iadd)) o1 ?_
    refine x_putf0 (by decide +kernel : am_at co_X12_opens 23 = some (3, .putfield 297)) pq_12_297 rfl ob_152 ?_
    refine x_aload_n (by decide +kernel : am_at co_X12_opens 26 = some (1, .aload_n 0)) rfl ?_
    refine x_getF (by decide +kernel : am_at co_X12_opens 27 = some (3, .getfield 106)) pq_12_106 (by decide) rfl ob_152 ?_
    refine x_top2 (show 152 + 31 = 183 from rfl) ?_
    refine x_aload_n (by decide +kernel : am_at co_X12_opens 30 = some (1, .aload_n 0)) rfl ?_
    refine x_getf (by decide +kernel : am_at co_X12_opens 31 = some (3, .getfield 294)) pq_12_294 rfl ob_152 ?_
    refine x_top0 (show (am_up M 152 43 ((M 152 43) + 1)) 152 42 = M 152 42 from by first | rfl | simp [am_up]) ?_
    refine x_iload_n (by decide +kernel : am_at co_X12_opens 34 = some (1, .iload_n 1)) rfl ?_
    obtain ⟨o2, h⟩ := h
    refine x_iast (by decide +kernel : am_at co_X12_opens 35 = some (1, .iastore)) (ow_183 o2.1 o2.2) ?_
    refine x_aload_n (by decide +kernel : am_at co_X12_opens 36 = some (1, .aload_n 0)) rfl ?_
    refine x_dup2' (by decide +kernel : am_at co_X12_opens 37 = some (1, .dup)) ?_
    refine x_getf (by decide +kernel : am_at co_X12_opens 38 = some (3, .getfield 294)) pq_12_294 rfl ob_152 ?_
    refine x_top0 (show (am_up (am_up M 152 43 ((M 152 43) + 1)) 183 (M 152 42) v1) 152 42 = M 152 42 from by first | rfl | simp [am_up]) ?_
    refine x_iconst (by decide +kernel : am_at co_X12_opens 41 = some (1, .iconst 1)) ?_
    obtain ⟨o3, h⟩ := h
    refine x_iadd (by decide +kernel : am_at co_X12_opens 42 = some (1, .iadd)) o3 ?_
    refine x_putf0 (by decide +kernel : am_at co_X12_opens 43 = some (3, .putfield 294)) pq_12_294 rfl ob_152 ?_
    exact x_vret (by decide +kernel : am_at co_X12_opens 46 = some (1, .return_)) h
  · have c0 := (Classical.not_not.mp c0)
    have h := h.2 c0
    refine x_aload_n (by decide +kernel : am_at co_X12_opens 9 = some (1, .aload_n 0)) rfl ?_
    refine x_iconst (by decide +kernel : am_at co_X12_opens 10 = some (1, .iconst 4)) ?_
    refine x_iload_n (by decide +kernel : am_at co_X12_opens 11 = some (1, .iload_n 2)) rfl ?_
    refine x_callV (n := 3) (by decide +kernel : am_at co_X12_opens 12 = some (3, .invokevirtual 239)) pq_12_239 pm_X12_fail rfl rfl rfl ob_152 h (x_kv fun M5 h => ?_)
    exact x_vret (by decide +kernel : am_at co_X12_opens 15 = some (1, .return_)) h
set_option maxRecDepth 20000 in
theorem bk_X12_isOn_0 {d : Nat} {Q : am_Q} {M : am_M} {v1 : Int} (h : ((M 152 42 ≤ 0 → Q (some (0, 0), sh_T, M)) ∧ (0 < M 152 42 → am_r ((M 152 42) - 1) ∧ (0 ≤ (M 152 42) - 1 ∧ (M 152 42) - 1 < 1700) ∧ ((¬ M 183 ((M 152 42) - 1) = v1 → Q (some (0, 0), sh_T, M)) ∧ (M 183 ((M 152 42) - 1) = v1 → Q (some (0, 1), sh_T, M)))))) : am_g 12 5 co_X12_isOn d Q 0 [(2, 152), (0, v1)] [] sh_T M := by
  refine x_aload_n (by decide +kernel : am_at co_X12_isOn 0 = some (1, .aload_n 0)) rfl ?_
  refine x_getf (by decide +kernel : am_at co_X12_isOn 1 = some (3, .getfield 294)) pq_12_294 rfl ob_152 ?_
  refine x_if (tgt := 26) (by decide +kernel : am_at co_X12_isOn 4 = some (3, .ifCond .le 22)) rfl Iff.rfl (fun c0 => ?_) (fun c0 => ?_)
  · have h := h.1 c0
    refine x_iconst (by decide +kernel : am_at co_X12_isOn 26 = some (1, .iconst 0)) ?_
    exact x_zret (by decide +kernel : am_at co_X12_isOn 27 = some (1, .ireturn)) (by decide) h
  · have c0 := (Int.not_le.mp c0)
    have h := h.2 c0
    refine x_aload_n (by decide +kernel : am_at co_X12_isOn 7 = some (1, .aload_n 0)) rfl ?_
    refine x_getF (by decide +kernel : am_at co_X12_isOn 8 = some (3, .getfield 106)) pq_12_106 (by decide) rfl ob_152 ?_
    refine x_top2 (show 152 + 31 = 183 from rfl) ?_
    refine x_aload_n (by decide +kernel : am_at co_X12_isOn 11 = some (1, .aload_n 0)) rfl ?_
    refine x_getf (by decide +kernel : am_at co_X12_isOn 12 = some (3, .getfield 294)) pq_12_294 rfl ob_152 ?_
    refine x_iconst (by decide +kernel : am_at co_X12_isOn 15 = some (1, .iconst 1)) ?_
    obtain ⟨o1, h⟩ := h
    refine x_isub (by decide +kernel : am_at co_X12_isOn 16 = some (1, .isub)) o1 ?_
    obtain ⟨o2, h⟩ := h
    refine x_iald (by decide +kernel : am_at co_X12_isOn 17 = some (1, .iaload)) (ia_183 o2.1 o2.2) ?_
    refine x_iload_n (by decide +kernel : am_at co_X12_isOn 18 = some (1, .iload_n 1)) rfl ?_
    refine x_icmp (tgt := 26) (by decide +kernel : am_at co_X12_isOn 19 = some (3, .if_icmp .ne 7)) rfl Iff.rfl (fun c3 => ?_) (fun c3 => ?_)
    · have h := h.1 c3
      refine x_iconst (by decide +kernel : am_at co_X12_isOn 26 = some (1, .iconst 0)) ?_
      exact x_zret (by decide +kernel : am_at co_X12_isOn 27 = some (1, .ireturn)) (by decide) h
    · have c3 := (Classical.not_not.mp c3)
      have h := h.2 c3
      refine x_iconst (by decide +kernel : am_at co_X12_isOn 22 = some (1, .iconst 1)) ?_
      refine x_goto (tgt := 27) (by decide +kernel : am_at co_X12_isOn 23 = some (3, .goto 4)) rfl ?_
      exact x_zret (by decide +kernel : am_at co_X12_isOn 27 = some (1, .ireturn)) (by decide) h
set_option maxRecDepth 20000 in
theorem bk_X12_drops_0 {d : Nat} {Q : am_Q} {M : am_M} (h : am_r ((M 152 42) - 1) ∧ (0 ≤ (M 152 42) - 1 ∧ (M 152 42) - 1 < 1700) ∧ am_cal pg d 196 [(2, 152), (0, M 183 ((M 152 42) - 1))] sh_T (am_up M 152 42 ((M 152 42) - 1)) (am_cv sh_T fun M3 => Q (none, sh_T, M3))) : am_g 12 9 co_X12_drops d Q 0 [(2, 152)] [] sh_T M := by
  refine x_aload_n (by decide +kernel : am_at co_X12_drops 0 = some (1, .aload_n 0)) rfl ?_
  refine x_dup2' (by decide +kernel : am_at co_X12_drops 1 = some (1, .dup)) ?_
  refine x_getf (by decide +kernel : am_at co_X12_drops 2 = some (3, .getfield 294)) pq_12_294 rfl ob_152 ?_
  refine x_iconst (by decide +kernel : am_at co_X12_drops 5 = some (1, .iconst 1)) ?_
  obtain ⟨o0, h⟩ := h
  refine x_isub (by decide +kernel : am_at co_X12_drops 6 = some (1, .isub)) o0 ?_
  refine x_putf0 (by decide +kernel : am_at co_X12_drops 7 = some (3, .putfield 294)) pq_12_294 rfl ob_152 ?_
  refine x_aload_n (by decide +kernel : am_at co_X12_drops 10 = some (1, .aload_n 0)) rfl ?_
  refine x_aload_n (by decide +kernel : am_at co_X12_drops 11 = some (1, .aload_n 0)) rfl ?_
  refine x_getF (by decide +kernel : am_at co_X12_drops 12 = some (3, .getfield 106)) pq_12_106 (by decide) rfl ob_152 ?_
  refine x_top2 (show 152 + 31 = 183 from rfl) ?_
  refine x_aload_n (by decide +kernel : am_at co_X12_drops 15 = some (1, .aload_n 0)) rfl ?_
  refine x_getf (by decide +kernel : am_at co_X12_drops 16 = some (3, .getfield 294)) pq_12_294 rfl ob_152 ?_
  refine x_top0 (show (am_up M 152 42 ((M 152 42) - 1)) 152 42 = (M 152 42) - 1 from by first | rfl | simp [am_up]) ?_
  obtain ⟨o1, h⟩ := h
  refine x_iald (by decide +kernel : am_at co_X12_drops 19 = some (1, .iaload)) (ia_183 o1.1 o1.2) ?_
  refine x_top0 (show (am_up M 152 42 ((M 152 42) - 1)) 183 ((M 152 42) - 1) = M 183 ((M 152 42) - 1) from by first | rfl | simp [am_up]) ?_
  refine x_callV (n := 2) (by decide +kernel : am_at co_X12_drops 20 = some (3, .invokevirtual 343)) pq_12_343 pm_X12_code rfl rfl rfl ob_152 h (x_kv fun M3 h => ?_)
  exact x_vret (by decide +kernel : am_at co_X12_drops 23 = some (1, .return_)) h
set_option maxRecDepth 20000 in
theorem bk_X12_isMark_0 {d : Nat} {Q : am_Q} {M : am_M} {v1 : Int} (h : ((v1 < 20 → Q (some (0, 0), sh_T, M)) ∧ (20 ≤ v1 → ((24 < v1 → Q (some (0, 0), sh_T, M)) ∧ (v1 ≤ 24 → Q (some (0, 1), sh_T, M)))))) : am_g 12 5 co_X12_isMark d Q 0 [(2, 152), (0, v1)] [] sh_T M := by
  refine x_iload_n (by decide +kernel : am_at co_X12_isMark 0 = some (1, .iload_n 1)) rfl ?_
  refine x_bipush (by decide +kernel : am_at co_X12_isMark 1 = some (2, .bipush 20)) ?_
  refine x_icmp (tgt := 16) (by decide +kernel : am_at co_X12_isMark 3 = some (3, .if_icmp .lt 13)) rfl Iff.rfl (fun c0 => ?_) (fun c0 => ?_)
  · have h := h.1 c0
    refine x_iconst (by decide +kernel : am_at co_X12_isMark 16 = some (1, .iconst 0)) ?_
    exact x_zret (by decide +kernel : am_at co_X12_isMark 17 = some (1, .ireturn)) (by decide) h
  · have c0 := (Int.not_lt.mp c0)
    have h := h.2 c0
    refine x_iload_n (by decide +kernel : am_at co_X12_isMark 6 = some (1, .iload_n 1)) rfl ?_
    refine x_bipush (by decide +kernel : am_at co_X12_isMark 7 = some (2, .bipush 24)) ?_
    refine x_icmp (tgt := 16) (by decide +kernel : am_at co_X12_isMark 9 = some (3, .if_icmp .gt 7)) rfl Iff.rfl (fun c1 => ?_) (fun c1 => ?_)
    · have h := h.1 c1
      refine x_iconst (by decide +kernel : am_at co_X12_isMark 16 = some (1, .iconst 0)) ?_
      exact x_zret (by decide +kernel : am_at co_X12_isMark 17 = some (1, .ireturn)) (by decide) h
    · have c1 := (Int.not_lt.mp c1)
      have h := h.2 c1
      refine x_iconst (by decide +kernel : am_at co_X12_isMark 12 = some (1, .iconst 1)) ?_
      refine x_goto (tgt := 17) (by decide +kernel : am_at co_X12_isMark 13 = some (3, .goto 4)) rfl ?_
      exact x_zret (by decide +kernel : am_at co_X12_isMark 17 = some (1, .ireturn)) (by decide) h
set_option maxRecDepth 20000 in
theorem bk_X12_waitsLast_0 {d : Nat} {Q : am_Q} {M : am_M} (h : am_r ((M 152 42) - 1) ∧ am_g 12 0 co_X12_waitsLast d Q 7 [(2, 152), (0, (M 152 42) - 1)] [] sh_T M) : am_g 12 0 co_X12_waitsLast d Q 0 [(2, 152), (3, 0)] [] sh_T M := by
  refine x_aload_n (by decide +kernel : am_at co_X12_waitsLast 0 = some (1, .aload_n 0)) rfl ?_
  refine x_getf (by decide +kernel : am_at co_X12_waitsLast 1 = some (3, .getfield 294)) pq_12_294 rfl ob_152 ?_
  refine x_iconst (by decide +kernel : am_at co_X12_waitsLast 4 = some (1, .iconst 1)) ?_
  obtain ⟨o0, h⟩ := h
  refine x_isub (by decide +kernel : am_at co_X12_waitsLast 5 = some (1, .isub)) o0 ?_
  refine x_istore_n (L' := [(2, 152), (0, (M 152 42) - 1)]) (by decide +kernel : am_at co_X12_waitsLast 6 = some (1, .istore_n 1)) rfl ?_
  exact am_weak (lk (lk ln)) h
set_option maxRecDepth 20000 in
theorem bk_X12_waitsLast_7 {d : Nat} {Q : am_Q} {M : am_M} {v1 : Int} (h : ((v1 < M 152 44 → Q (some (0, (-1)), sh_T, M)) ∧ (M 152 44 ≤ v1 → (0 ≤ v1 ∧ v1 < 1700) ∧ am_cal pg d 200 [(2, 152), (0, M 183 v1)] sh_T M (am_c0 sh_T fun x4 M4 => ((¬ x4 = 0 → ((v1 < M4 152 44 → Q (some (0, (-1)), sh_T, M4)) ∧ (M4 152 44 ≤ v1 → Q (some (0, M4 183 v1), sh_T, M4)))) ∧ (x4 = 0 → am_r (v1 + (-1)) ∧ am_g 12 0 co_X12_waitsLast d Q 7 [(2, 152), (0, v1 + (-1))] [] sh_T M4)))))) : am_g 12 0 co_X12_waitsLast d Q 7 [(2, 152), (0, v1)] [] sh_T M := by
  refine x_iload_n (by decide +kernel : am_at co_X12_waitsLast 7 = some (1, .iload_n 1)) rfl ?_
  refine x_aload_n (by decide +kernel : am_at co_X12_waitsLast 8 = some (1, .aload_n 0)) rfl ?_
  refine x_getf (by decide +kernel : am_at co_X12_waitsLast 9 = some (3, .getfield 300)) pq_12_300 rfl ob_152 ?_
  refine x_icmp (tgt := 34) (by decide +kernel : am_at co_X12_waitsLast 12 = some (3, .if_icmp .lt 22)) rfl Iff.rfl (fun c0 => ?_) (fun c0 => ?_)
  · have h := h.1 c0
    refine x_iload_n (by decide +kernel : am_at co_X12_waitsLast 34 = some (1, .iload_n 1)) rfl ?_
    refine x_aload_n (by decide +kernel : am_at co_X12_waitsLast 35 = some (1, .aload_n 0)) rfl ?_
    refine x_getf (by decide +kernel : am_at co_X12_waitsLast 36 = some (3, .getfield 300)) pq_12_300 rfl ob_152 ?_
    refine x_icmp (tgt := 51) (by decide +kernel : am_at co_X12_waitsLast 39 = some (3, .if_icmp .lt 12)) rfl Iff.rfl (fun _ => ?_) (fun c1 => absurd c0 c1)
    refine x_iconst (by decide +kernel : am_at co_X12_waitsLast 51 = some (1, .iconst (-1))) ?_
    exact x_iret (by decide +kernel : am_at co_X12_waitsLast 52 = some (1, .ireturn)) h
  · have c0 := (Int.not_lt.mp c0)
    have h := h.2 c0
    refine x_aload_n (by decide +kernel : am_at co_X12_waitsLast 15 = some (1, .aload_n 0)) rfl ?_
    refine x_aload_n (by decide +kernel : am_at co_X12_waitsLast 16 = some (1, .aload_n 0)) rfl ?_
    refine x_getF (by decide +kernel : am_at co_X12_waitsLast 17 = some (3, .getfield 106)) pq_12_106 (by decide) rfl ob_152 ?_
    refine x_top2 (show 152 + 31 = 183 from rfl) ?_
    refine x_iload_n (by decide +kernel : am_at co_X12_waitsLast 20 = some (1, .iload_n 1)) rfl ?_
    obtain ⟨o2, h⟩ := h
    refine x_iald (by decide +kernel : am_at co_X12_waitsLast 21 = some (1, .iaload)) (ia_183 o2.1 o2.2) ?_
    refine x_callV (n := 2) (by decide +kernel : am_at co_X12_waitsLast 22 = some (3, .invokevirtual 346)) pq_12_346 pm_X12_isMark rfl rfl rfl ob_152 h (x_k0 fun x4 M4 h => ?_)
    refine x_if (tgt := 34) (by decide +kernel : am_at co_X12_waitsLast 25 = some (3, .ifCond .ne 9)) rfl Iff.rfl (fun c4 => ?_) (fun c4 => ?_)
    · have h := h.1 c4
      refine x_iload_n (by decide +kernel : am_at co_X12_waitsLast 34 = some (1, .iload_n 1)) rfl ?_
      refine x_aload_n (by decide +kernel : am_at co_X12_waitsLast 35 = some (1, .aload_n 0)) rfl ?_
      refine x_getf (by decide +kernel : am_at co_X12_waitsLast 36 = some (3, .getfield 300)) pq_12_300 rfl ob_152 ?_
      refine x_icmp (tgt := 51) (by decide +kernel : am_at co_X12_waitsLast 39 = some (3, .if_icmp .lt 12)) rfl Iff.rfl (fun c5 => ?_) (fun c5 => ?_)
      · have h := h.1 c5
        refine x_iconst (by decide +kernel : am_at co_X12_waitsLast 51 = some (1, .iconst (-1))) ?_
        exact x_iret (by decide +kernel : am_at co_X12_waitsLast 52 = some (1, .ireturn)) h
      · have c5 := (Int.not_lt.mp c5)
        have h := h.2 c5
        refine x_aload_n (by decide +kernel : am_at co_X12_waitsLast 42 = some (1, .aload_n 0)) rfl ?_
        refine x_getF (by decide +kernel : am_at co_X12_waitsLast 43 = some (3, .getfield 106)) pq_12_106 (by decide) rfl ob_152 ?_
        refine x_top2 (show 152 + 31 = 183 from rfl) ?_
        refine x_iload_n (by decide +kernel : am_at co_X12_waitsLast 46 = some (1, .iload_n 1)) rfl ?_
        refine x_iald (by decide +kernel : am_at co_X12_waitsLast 47 = some (1, .iaload)) (ia_183 o2.1 o2.2) ?_
        refine x_goto (tgt := 52) (by decide +kernel : am_at co_X12_waitsLast 48 = some (3, .goto 4)) rfl ?_
        exact x_iret (by decide +kernel : am_at co_X12_waitsLast 52 = some (1, .ireturn)) h
    · have c4 := (Classical.not_not.mp c4)
      have h := h.2 c4
      obtain ⟨o6, h⟩ := h
      refine x_iinc (L' := [(2, 152), (0, v1 + (-1))]) (by decide +kernel : am_at co_X12_waitsLast 28 = some (3, .iinc 1 (-1))) rfl o6 rfl ?_
      refine x_goto (tgt := 7) (by decide +kernel : am_at co_X12_waitsLast 31 = some (3, .goto (-24))) rfl ?_
      exact am_weak (lk (lk ln)) h
