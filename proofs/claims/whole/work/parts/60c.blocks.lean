/-! blocks (printed) -/
set_option maxRecDepth 20000 in
theorem bk_X12_dropsToMark_0 {d : Nat} {Q : am_Q} {M : am_M} (h : ((M 152 42 ≤ M 152 44 → Q (none, sh_T, M)) ∧ (M 152 44 < M 152 42 → am_r ((M 152 42) - 1) ∧ (0 ≤ (M 152 42) - 1 ∧ (M 152 42) - 1 < 1700) ∧ am_cal pg d 200 [(2, 152), (0, M 183 ((M 152 42) - 1))] sh_T M (am_c0 sh_T fun x4 M4 => ((¬ x4 = 0 → Q (none, sh_T, M4)) ∧ (x4 = 0 → am_cal pg d 199 [(2, 152)] sh_T M4 (am_cv sh_T fun M6 => am_g 12 9 co_X12_dropsToMark d Q 0 [(2, 152)] [] sh_T M6))))))) : am_g 12 9 co_X12_dropsToMark d Q 0 [(2, 152)] [] sh_T M := by
  refine x_aload_n (by decide +kernel : am_at co_X12_dropsToMark 0 = some (1, .aload_n 0)) rfl ?_
  refine x_getf (by decide +kernel : am_at co_X12_dropsToMark 1 = some (3, .getfield 294)) pq_12_294 rfl ob_152 ?_
  refine x_aload_n (by decide +kernel : am_at co_X12_dropsToMark 4 = some (1, .aload_n 0)) rfl ?_
  refine x_getf (by decide +kernel : am_at co_X12_dropsToMark 5 = some (3, .getfield 300)) pq_12_300 rfl ob_152 ?_
  refine x_icmp (tgt := 36) (by decide +kernel : am_at co_X12_dropsToMark 8 = some (3, .if_icmp .le 28)) rfl Iff.rfl (fun c0 => ?_) (fun c0 => ?_)
  · have h := h.1 c0
    exact x_vret (by decide +kernel : am_at co_X12_dropsToMark 36 = some (1, .return_)) h
  · have c0 := (Int.not_le.mp c0)
    have h := h.2 c0
    refine x_aload_n (by decide +kernel : am_at co_X12_dropsToMark 11 = some (1, .aload_n 0)) rfl ?_
    refine x_aload_n (by decide +kernel : am_at co_X12_dropsToMark 12 = some (1, .aload_n 0)) rfl ?_
    refine x_getF (by decide +kernel : am_at co_X12_dropsToMark 13 = some (3, .getfield 106)) pq_12_106 (by decide) rfl ob_152 ?_
    refine x_top2 (show 152 + 31 = 183 from rfl) ?_
    refine x_aload_n (by decide +kernel : am_at co_X12_dropsToMark 16 = some (1, .aload_n 0)) rfl ?_
    refine x_getf (by decide +kernel : am_at co_X12_dropsToMark 17 = some (3, .getfield 294)) pq_12_294 rfl ob_152 ?_
    refine x_iconst (by decide +kernel : am_at co_X12_dropsToMark 20 = some (1, .iconst 1)) ?_
    obtain ⟨o1, h⟩ := h
    refine x_isub (by decide +kernel : am_at co_X12_dropsToMark 21 = some (1, .isub)) o1 ?_
    obtain ⟨o2, h⟩ := h
    refine x_iald (by decide +kernel : am_at co_X12_dropsToMark 22 = some (1, .iaload)) (ia_183 o2.1 o2.2) ?_
    refine x_callV (n := 2) (by decide +kernel : am_at co_X12_dropsToMark 23 = some (3, .invokevirtual 346)) pq_12_346 pm_X12_isMark rfl rfl rfl ob_152 h (x_k0 fun x4 M4 h => ?_)
    refine x_if (tgt := 36) (by decide +kernel : am_at co_X12_dropsToMark 26 = some (3, .ifCond .ne 10)) rfl Iff.rfl (fun c4 => ?_) (fun c4 => ?_)
    · have h := h.1 c4
      exact x_vret (by decide +kernel : am_at co_X12_dropsToMark 36 = some (1, .return_)) h
    · have c4 := (Classical.not_not.mp c4)
      have h := h.2 c4
      refine x_aload_n (by decide +kernel : am_at co_X12_dropsToMark 29 = some (1, .aload_n 0)) rfl ?_
      refine x_callV (n := 1) (by decide +kernel : am_at co_X12_dropsToMark 30 = some (3, .invokevirtual 349)) pq_12_349 pm_X12_drops rfl rfl rfl ob_152 h (x_kv fun M6 h => ?_)
      refine x_goto (tgt := 0) (by decide +kernel : am_at co_X12_dropsToMark 33 = some (3, .goto (-33))) rfl ?_
      exact am_weak (lk ln) h
set_option maxRecDepth 20000 in
theorem bk_X12_onePart_0 {d : Nat} {Q : am_Q} {M : am_M} (h : am_g 12 9 co_X12_onePart d Q 2 [(2, 152), (0, 1), (3, 0), (3, 0), (3, 0)] [] sh_T M) : am_g 12 9 co_X12_onePart d Q 0 [(2, 152), (3, 0), (3, 0), (3, 0), (3, 0)] [] sh_T M := by
  refine x_iconst (by decide +kernel : am_at co_X12_onePart 0 = some (1, .iconst 1)) ?_
  refine x_istore_n (L' := [(2, 152), (0, 1), (3, 0), (3, 0), (3, 0)]) (by decide +kernel : am_at co_X12_onePart 1 = some (1, .istore_n 1)) rfl ?_
  exact am_weak (lk (lk (lk (lk (lk ln))))) h
set_option maxRecDepth 20000 in
theorem bk_X12_onePart_2 {d : Nat} {Q : am_Q} {M : am_M} {v1 : Int} (h : ((v1 = 0 → am_g 12 9 co_X12_onePart d Q 146 [(2, 152), (3, 0), (3, 0), (3, 0), (3, 0)] [] sh_T M) ∧ (¬ v1 = 0 → ((¬ M 152 5 = 0 → am_g 12 9 co_X12_onePart d Q 146 [(2, 152), (3, 0), (3, 0), (3, 0), (3, 0)] [] sh_T M) ∧ (M 152 5 = 0 → am_cal pg d 175 [(2, 152)] sh_T M (am_c0 sh_T fun x3 M3 => ((¬ x3 = 40 → am_cal pg d 176 [(2, 152), (2, 172)] sh_T M3 (am_c0 sh_T fun x5 M5 => ((¬ x5 = 0 → am_g 12 9 co_X12_onePart d Q 69 [(2, 152), (0, v1), (3, 0), (3, 0), (3, 0)] [] sh_T M5) ∧ (x5 = 0 → am_cal pg d 176 [(2, 152), (2, 173)] sh_T M5 (am_c0 sh_T fun x7 M7 => ((x7 = 0 → am_g 12 9 co_X12_onePart d Q 143 [(2, 152), (0, 0), (3, 0), (3, 0), (3, 0)] [] sh_T M7) ∧ (¬ x7 = 0 → am_g 12 9 co_X12_onePart d Q 69 [(2, 152), (0, v1), (3, 0), (3, 0), (3, 0)] [] sh_T M7))))))) ∧ (x3 = 40 → am_cal pg d 197 [(2, 152), (0, 20), (0, M3 152 2)] sh_T M3 (am_cv sh_T fun M9 => am_r ((M9 152 2) + 1) ∧ am_g 12 9 co_X12_onePart d Q 143 [(2, 152), (0, v1), (3, 0), (3, 0), (3, 0)] [] sh_T (am_up M9 152 2 ((M9 152 2) + 1))))))))))) : am_g 12 9 co_X12_onePart d Q 2 [(2, 152), (0, v1), (3, 0), (3, 0), (3, 0)] [] sh_T M := by
  refine x_iload_n (by decide +kernel : am_at co_X12_onePart 2 = some (1, .iload_n 1)) rfl ?_
  refine x_if (tgt := 146) (by decide +kernel : am_at co_X12_onePart 3 = some (3, .ifCond .eq 143)) rfl Iff.rfl (fun c0 => ?_) (fun c0 => ?_)
  · have h := h.1 c0
    exact am_weak (lk (ld (lk (lk (lk ln))))) h
  · have c0 := c0
    have h := h.2 c0
    refine x_aload_n (by decide +kernel : am_at co_X12_onePart 6 = some (1, .aload_n 0)) rfl ?_
    refine x_getf (by decide +kernel : am_at co_X12_onePart 7 = some (3, .getfield 209)) pq_12_209 rfl ob_152 ?_
    refine x_if (tgt := 146) (by decide +kernel : am_at co_X12_onePart 10 = some (3, .ifCond .ne 136)) rfl Iff.rfl (fun c1 => ?_) (fun c1 => ?_)
    · have h := h.1 c1
      exact am_weak (lk (ld (lk (lk (lk ln))))) h
    · have c1 := (Classical.not_not.mp c1)
      have h := h.2 c1
      refine x_aload_n (by decide +kernel : am_at co_X12_onePart 13 = some (1, .aload_n 0)) rfl ?_
      refine x_callV (n := 1) (by decide +kernel : am_at co_X12_onePart 14 = some (3, .invokevirtual 221)) pq_12_221 pm_X12_look rfl rfl rfl ob_152 h (x_k0 fun x3 M3 h => ?_)
      refine x_istore_n (L' := [(2, 152), (0, v1), (0, x3), (3, 0), (3, 0)]) (by decide +kernel : am_at co_X12_onePart 17 = some (1, .istore_n 2)) rfl ?_
      refine x_iload_n (by decide +kernel : am_at co_X12_onePart 18 = some (1, .iload_n 2)) rfl ?_
      refine x_bipush (by decide +kernel : am_at co_X12_onePart 19 = some (2, .bipush 40)) ?_
      refine x_icmp (tgt := 47) (by decide +kernel : am_at co_X12_onePart 21 = some (3, .if_icmp .ne 26)) rfl Iff.rfl (fun c3 => ?_) (fun c3 => ?_)
      · have h := h.1 c3
        refine x_aload_n (by decide +kernel : am_at co_X12_onePart 47 = some (1, .aload_n 0)) rfl ?_
        refine x_aload_n (by decide +kernel : am_at co_X12_onePart 48 = some (1, .aload_n 0)) rfl ?_
        refine x_getF (by decide +kernel : am_at co_X12_onePart 49 = some (3, .getfield 72)) pq_12_72 (by decide) rfl ob_152 ?_
        refine x_top2 (show 152 + 20 = 172 from rfl) ?_
        refine x_callV (n := 2) (by decide +kernel : am_at co_X12_onePart 52 = some (3, .invokevirtual 232)) pq_12_232 pm_X12_isHere rfl rfl rfl ob_152 h (x_k0 fun x5 M5 h => ?_)
        refine x_if (tgt := 69) (by decide +kernel : am_at co_X12_onePart 55 = some (3, .ifCond .ne 14)) rfl Iff.rfl (fun c5 => ?_) (fun c5 => ?_)
        · have h := h.1 c5
          exact am_weak (lk (lk (ld (lk (lk ln))))) h
        · have c5 := (Classical.not_not.mp c5)
          have h := h.2 c5
          refine x_aload_n (by decide +kernel : am_at co_X12_onePart 58 = some (1, .aload_n 0)) rfl ?_
          refine x_aload_n (by decide +kernel : am_at co_X12_onePart 59 = some (1, .aload_n 0)) rfl ?_
          refine x_getF (by decide +kernel : am_at co_X12_onePart 60 = some (3, .getfield 75)) pq_12_75 (by decide) rfl ob_152 ?_
          refine x_top2 (show 152 + 21 = 173 from rfl) ?_
          refine x_callV (n := 2) (by decide +kernel : am_at co_X12_onePart 63 = some (3, .invokevirtual 232)) pq_12_232 pm_X12_isHere rfl rfl rfl ob_152 h (x_k0 fun x7 M7 h => ?_)
          refine x_if (tgt := 141) (by decide +kernel : am_at co_X12_onePart 66 = some (3, .ifCond .eq 75)) rfl Iff.rfl (fun c7 => ?_) (fun c7 => ?_)
          · have h := h.1 c7
            refine x_iconst (by decide +kernel : am_at co_X12_onePart 141 = some (1, .iconst 0)) ?_
            refine x_istore_n (L' := [(2, 152), (0, 0), (0, x3), (3, 0), (3, 0)]) (by decide +kernel : am_at co_X12_onePart 142 = some (1, .istore_n 1)) rfl ?_
            exact am_weak (lk (lk (ld (lk (lk ln))))) h
          · have c7 := c7
            have h := h.2 c7
            exact am_weak (lk (lk (ld (lk (lk ln))))) h
      · have c3 := (Classical.not_not.mp c3)
        have h := h.2 c3
        refine x_aload_n (by decide +kernel : am_at co_X12_onePart 24 = some (1, .aload_n 0)) rfl ?_
        refine x_bipush (by decide +kernel : am_at co_X12_onePart 25 = some (2, .bipush 20)) ?_
        refine x_aload_n (by decide +kernel : am_at co_X12_onePart 27 = some (1, .aload_n 0)) rfl ?_
        refine x_getf (by decide +kernel : am_at co_X12_onePart 28 = some (3, .getfield 215)) pq_12_215 rfl ob_152 ?_
        refine x_callV (n := 3) (by decide +kernel : am_at co_X12_onePart 31 = some (3, .invokevirtual 352)) pq_12_352 pm_X12_opens rfl rfl rfl ob_152 h (x_kv fun M9 h => ?_)
        refine x_aload_n (by decide +kernel : am_at co_X12_onePart 34 = some (1, .aload_n 0)) rfl ?_
        refine x_dup2' (by decide +kernel : am_at co_X12_onePart 35 = some (1, .dup)) ?_
        refine x_getf (by decide +kernel : am_at co_X12_onePart 36 = some (3, .getfield 215)) pq_12_215 rfl ob_152 ?_
        refine x_iconst (by decide +kernel : am_at co_X12_onePart 39 = some (1, .iconst 1)) ?_
        obtain ⟨o9, h⟩ := h
        refine x_iadd (by decide +kernel : am_at co_X12_onePart 40 = some (1, .iadd)) o9 ?_
        refine x_putf0 (by decide +kernel : am_at co_X12_onePart 41 = some (3, .putfield 215)) pq_12_215 rfl ob_152 ?_
        refine x_goto (tgt := 143) (by decide +kernel : am_at co_X12_onePart 44 = some (3, .goto 99)) rfl ?_
        exact am_weak (lk (lk (ld (lk (lk ln))))) h
set_option maxRecDepth 20000 in
theorem bk_X12_onePart_69 {d : Nat} {Q : am_Q} {M : am_M} {v1 : Int} (h : am_cal pg d 177 [(2, 152), (2, 172)] sh_T M (am_c0 sh_T fun x1 M1 => ((¬ x1 = 0 → am_g 12 9 co_X12_onePart d Q 90 [(2, 152), (0, v1), (3, 0), (0, x1), (3, 0)] [] sh_T M1) ∧ (x1 = 0 → am_cal pg d 178 [(2, 152), (2, 173)] sh_T M1 (am_cv sh_T fun M3 => am_g 12 9 co_X12_onePart d Q 90 [(2, 152), (0, v1), (3, 0), (0, x1), (3, 0)] [] sh_T M3))))) : am_g 12 9 co_X12_onePart d Q 69 [(2, 152), (0, v1), (3, 0), (3, 0), (3, 0)] [] sh_T M := by
  refine x_aload_n (by decide +kernel : am_at co_X12_onePart 69 = some (1, .aload_n 0)) rfl ?_
  refine x_aload_n (by decide +kernel : am_at co_X12_onePart 70 = some (1, .aload_n 0)) rfl ?_
  refine x_getF (by decide +kernel : am_at co_X12_onePart 71 = some (3, .getfield 72)) pq_12_72 (by decide) rfl ob_152 ?_
  refine x_top2 (show 152 + 20 = 172 from rfl) ?_
  refine x_callV (n := 2) (by decide +kernel : am_at co_X12_onePart 74 = some (3, .invokevirtual 236)) pq_12_236 pm_X12_takes rfl rfl rfl ob_152 h (x_k0 fun x1 M1 h => ?_)
  refine x_istore_n (L' := [(2, 152), (0, v1), (3, 0), (0, x1), (3, 0)]) (by decide +kernel : am_at co_X12_onePart 77 = some (1, .istore_n 3)) rfl ?_
  refine x_iload_n (by decide +kernel : am_at co_X12_onePart 78 = some (1, .iload_n 3)) rfl ?_
  refine x_if (tgt := 90) (by decide +kernel : am_at co_X12_onePart 79 = some (3, .ifCond .ne 11)) rfl Iff.rfl (fun c1 => ?_) (fun c1 => ?_)
  · have h := h.1 c1
    exact am_weak (lk (lk (lk (lk (lk ln))))) h
  · have c1 := (Classical.not_not.mp c1)
    have h := h.2 c1
    refine x_aload_n (by decide +kernel : am_at co_X12_onePart 82 = some (1, .aload_n 0)) rfl ?_
    refine x_aload_n (by decide +kernel : am_at co_X12_onePart 83 = some (1, .aload_n 0)) rfl ?_
    refine x_getF (by decide +kernel : am_at co_X12_onePart 84 = some (3, .getfield 75)) pq_12_75 (by decide) rfl ob_152 ?_
    refine x_top2 (show 152 + 21 = 173 from rfl) ?_
    refine x_callV (n := 2) (by decide +kernel : am_at co_X12_onePart 87 = some (3, .invokevirtual 279)) pq_12_279 pm_X12_asks rfl rfl rfl ob_152 h (x_kv fun M3 h => ?_)
    exact am_weak (lk (lk (lk (lk (lk ln))))) h
set_option maxRecDepth 20000 in
theorem bk_X12_onePart_90 {d : Nat} {Q : am_Q} {M : am_M} {v1 v3 : Int} (h : am_cal pg d 175 [(2, 152)] sh_T M (am_c0 sh_T fun x1 M1 => ((¬ x1 = 40 → am_g 12 9 co_X12_onePart d Q 132 [(2, 152), (0, v1), (3, 0), (3, 0), (3, 0)] [] sh_T M1) ∧ (x1 = 40 → ((M1 152 2 = (-1) → am_g 12 9 co_X12_onePart d Q 132 [(2, 152), (0, v1), (3, 0), (3, 0), (3, 0)] [] sh_T M1) ∧ (¬ M1 152 2 = (-1) → ((v3 = 0 → am_cal pg d 197 [(2, 152), (0, 22), (0, M1 152 2)] sh_T M1 (am_cv sh_T fun M5 => am_g 12 9 co_X12_onePart d Q 132 [(2, 152), (0, v1), (3, 0), (3, 0), (3, 0)] [] sh_T M5)) ∧ (¬ v3 = 0 → am_cal pg d 197 [(2, 152), (0, 21), (0, M1 152 2)] sh_T M1 (am_cv sh_T fun M6 => am_g 12 9 co_X12_onePart d Q 132 [(2, 152), (0, v1), (3, 0), (3, 0), (3, 0)] [] sh_T M6))))))))) : am_g 12 9 co_X12_onePart d Q 90 [(2, 152), (0, v1), (3, 0), (0, v3), (3, 0)] [] sh_T M := by
  refine x_aload_n (by decide +kernel : am_at co_X12_onePart 90 = some (1, .aload_n 0)) rfl ?_
  refine x_callV (n := 1) (by decide +kernel : am_at co_X12_onePart 91 = some (3, .invokevirtual 221)) pq_12_221 pm_X12_look rfl rfl rfl ob_152 h (x_k0 fun x1 M1 h => ?_)
  refine x_bipush (by decide +kernel : am_at co_X12_onePart 94 = some (2, .bipush 40)) ?_
  refine x_icmp (tgt := 106) (by decide +kernel : am_at co_X12_onePart 96 = some (3, .if_icmp .ne 10)) rfl Iff.rfl (fun c1 => ?_) (fun c1 => ?_)
  · have h := h.1 c1
    refine x_iconst (by decide +kernel : am_at co_X12_onePart 106 = some (1, .iconst (-1))) ?_
    refine x_istore (L' := [(2, 152), (0, v1), (3, 0), (0, v3), (0, (-1))]) (by decide +kernel : am_at co_X12_onePart 107 = some (2, .istore 4)) rfl ?_
    refine x_iload (by decide +kernel : am_at co_X12_onePart 109 = some (2, .iload 4)) rfl ?_
    refine x_iconst (by decide +kernel : am_at co_X12_onePart 111 = some (1, .iconst (-1))) ?_
    refine x_icmp (tgt := 132) (by decide +kernel : am_at co_X12_onePart 112 = some (3, .if_icmp .eq 20)) rfl Iff.rfl (fun q => ?_) (fun q => absurd (show (-1 : Int) = (-1 : Int) by decide) q)
    exact am_weak (lk (lk (lk (ld (ld ln))))) h
  · have c1 := (Classical.not_not.mp c1)
    have h := h.2 c1
    refine x_aload_n (by decide +kernel : am_at co_X12_onePart 99 = some (1, .aload_n 0)) rfl ?_
    refine x_getf (by decide +kernel : am_at co_X12_onePart 100 = some (3, .getfield 215)) pq_12_215 rfl ob_152 ?_
    refine x_goto (tgt := 107) (by decide +kernel : am_at co_X12_onePart 103 = some (3, .goto 4)) rfl ?_
    refine x_istore (L' := [(2, 152), (0, v1), (3, 0), (0, v3), (0, M1 152 2)]) (by decide +kernel : am_at co_X12_onePart 107 = some (2, .istore 4)) rfl ?_
    refine x_iload (by decide +kernel : am_at co_X12_onePart 109 = some (2, .iload 4)) rfl ?_
    refine x_iconst (by decide +kernel : am_at co_X12_onePart 111 = some (1, .iconst (-1))) ?_
    refine x_icmp (tgt := 132) (by decide +kernel : am_at co_X12_onePart 112 = some (3, .if_icmp .eq 20)) rfl Iff.rfl (fun c2 => ?_) (fun c2 => ?_)
    · have h := h.1 c2
      exact am_weak (lk (lk (lk (ld (ld ln))))) h
    · have c2 := c2
      have h := h.2 c2
      refine x_aload_n (by decide +kernel : am_at co_X12_onePart 115 = some (1, .aload_n 0)) rfl ?_
      refine x_iload_n (by decide +kernel : am_at co_X12_onePart 116 = some (1, .iload_n 3)) rfl ?_
      refine x_if (tgt := 125) (by decide +kernel : am_at co_X12_onePart 117 = some (3, .ifCond .eq 8)) rfl Iff.rfl (fun c3 => ?_) (fun c3 => ?_)
      · have h := h.1 c3
        refine x_bipush (by decide +kernel : am_at co_X12_onePart 125 = some (2, .bipush 22)) ?_
        refine x_iload (by decide +kernel : am_at co_X12_onePart 127 = some (2, .iload 4)) rfl ?_
        refine x_callV (n := 3) (by decide +kernel : am_at co_X12_onePart 129 = some (3, .invokevirtual 352)) pq_12_352 pm_X12_opens rfl rfl rfl ob_152 h (x_kv fun M5 h => ?_)
        exact am_weak (lk (lk (lk (ld (ld ln))))) h
      · have c3 := c3
        have h := h.2 c3
        refine x_bipush (by decide +kernel : am_at co_X12_onePart 120 = some (2, .bipush 21)) ?_
        refine x_goto (tgt := 127) (by decide +kernel : am_at co_X12_onePart 122 = some (3, .goto 5)) rfl ?_
        refine x_iload (by decide +kernel : am_at co_X12_onePart 127 = some (2, .iload 4)) rfl ?_
        refine x_callV (n := 3) (by decide +kernel : am_at co_X12_onePart 129 = some (3, .invokevirtual 352)) pq_12_352 pm_X12_opens rfl rfl rfl ob_152 h (x_kv fun M6 h => ?_)
        exact am_weak (lk (lk (lk (ld (ld ln))))) h
set_option maxRecDepth 20000 in
theorem bk_X12_onePart_132 {d : Nat} {Q : am_Q} {M : am_M} {v1 : Int} (h : am_cal pg d 180 [(2, 152), (0, 40)] sh_T M (am_cv sh_T fun M1 => am_g 12 9 co_X12_onePart d Q 143 [(2, 152), (0, v1), (3, 0), (3, 0), (3, 0)] [] sh_T M1)) : am_g 12 9 co_X12_onePart d Q 132 [(2, 152), (0, v1), (3, 0), (3, 0), (3, 0)] [] sh_T M := by
  refine x_aload_n (by decide +kernel : am_at co_X12_onePart 132 = some (1, .aload_n 0)) rfl ?_
  refine x_bipush (by decide +kernel : am_at co_X12_onePart 133 = some (2, .bipush 40)) ?_
  refine x_callV (n := 2) (by decide +kernel : am_at co_X12_onePart 135 = some (3, .invokevirtual 325)) pq_12_325 pm_X12_asksSign rfl rfl rfl ob_152 h (x_kv fun M1 h => ?_)
  refine x_goto (tgt := 143) (by decide +kernel : am_at co_X12_onePart 138 = some (3, .goto 5)) rfl ?_
  exact am_weak (lk (lk (lk (lk (lk ln))))) h
set_option maxRecDepth 20000 in
theorem bk_X12_onePart_143 {d : Nat} {Q : am_Q} {M : am_M} {v1 : Int} (h : am_g 12 9 co_X12_onePart d Q 2 [(2, 152), (0, v1), (3, 0), (3, 0), (3, 0)] [] sh_T M) : am_g 12 9 co_X12_onePart d Q 143 [(2, 152), (0, v1), (3, 0), (3, 0), (3, 0)] [] sh_T M := by
  refine x_goto (tgt := 2) (by decide +kernel : am_at co_X12_onePart 143 = some (3, .goto (-141))) rfl ?_
  exact am_weak (lk (lk (lk (lk (lk ln))))) h
set_option maxRecDepth 20000 in
theorem bk_X12_onePart_146 {d : Nat} {Q : am_Q} {M : am_M} (h : ((M 152 5 = 0 → am_cal pg d 177 [(2, 152), (2, 167)] sh_T M (am_c0 sh_T fun x2 M2 => ((x2 = 0 → am_cal pg d 177 [(2, 152), (2, 168)] sh_T M2 (am_c0 sh_T fun x4 M4 => ((x4 = 0 → am_cal pg d 177 [(2, 152), (2, 169)] sh_T M4 (am_c0 sh_T fun x6 M6 => ((x6 = 0 → am_cal pg d 177 [(2, 152), (2, 170)] sh_T M6 (am_c0 sh_T fun x8 M8 => ((x8 = 0 → am_cal pg d 177 [(2, 152), (2, 171)] sh_T M8 (am_c0 sh_T fun x10 M10 => ((x10 = 0 → am_cal pg d 177 [(2, 152), (2, 157)] sh_T M10 (am_c0 sh_T fun x12 M12 => ((x12 = 0 → am_cal pg d 181 [(2, 152), (0, 0), (0, 9999)] sh_T M12 (am_c0 sh_T fun x14 M14 => am_r (1000 + x14) ∧ am_cal pg d 196 [(2, 152), (0, 1000 + x14)] sh_T M14 (am_cv sh_T fun M16 => Q (none, sh_T, M16)))) ∧ (¬ x12 = 0 → am_cal pg d 196 [(2, 152), (0, 12)] sh_T M12 (am_cv sh_T fun M17 => Q (none, sh_T, M17)))))) ∧ (¬ x10 = 0 → am_cal pg d 196 [(2, 152), (0, 11)] sh_T M10 (am_cv sh_T fun M18 => Q (none, sh_T, M18)))))) ∧ (¬ x8 = 0 → am_cal pg d 196 [(2, 152), (0, 10)] sh_T M8 (am_cv sh_T fun M19 => Q (none, sh_T, M19)))))) ∧ (¬ x6 = 0 → am_cal pg d 196 [(2, 152), (0, 9)] sh_T M6 (am_cv sh_T fun M20 => Q (none, sh_T, M20)))))) ∧ (¬ x4 = 0 → am_cal pg d 196 [(2, 152), (0, 8)] sh_T M4 (am_cv sh_T fun M21 => Q (none, sh_T, M21)))))) ∧ (¬ x2 = 0 → am_cal pg d 196 [(2, 152), (0, 7)] sh_T M2 (am_cv sh_T fun M22 => Q (none, sh_T, M22)))))) ∧ (¬ M 152 5 = 0 → Q (none, sh_T, M)))) : am_g 12 9 co_X12_onePart d Q 146 [(2, 152), (3, 0), (3, 0), (3, 0), (3, 0)] [] sh_T M := by
  refine x_aload_n (by decide +kernel : am_at co_X12_onePart 146 = some (1, .aload_n 0)) rfl ?_
  refine x_getf (by decide +kernel : am_at co_X12_onePart 147 = some (3, .getfield 209)) pq_12_209 rfl ob_152 ?_
  refine x_if (tgt := 154) (by decide +kernel : am_at co_X12_onePart 150 = some (3, .ifCond .eq 4)) rfl Iff.rfl (fun c0 => ?_) (fun c0 => ?_)
  · have h := h.1 c0
    refine x_aload_n (by decide +kernel : am_at co_X12_onePart 154 = some (1, .aload_n 0)) rfl ?_
    refine x_aload_n (by decide +kernel : am_at co_X12_onePart 155 = some (1, .aload_n 0)) rfl ?_
    refine x_getF (by decide +kernel : am_at co_X12_onePart 156 = some (3, .getfield 57)) pq_12_57 (by decide) rfl ob_152 ?_
    refine x_top2 (show 152 + 15 = 167 from rfl) ?_
    refine x_callV (n := 2) (by decide +kernel : am_at co_X12_onePart 159 = some (3, .invokevirtual 236)) pq_12_236 pm_X12_takes rfl rfl rfl ob_152 h (x_k0 fun x2 M2 h => ?_)
    refine x_if (tgt := 170) (by decide +kernel : am_at co_X12_onePart 162 = some (3, .ifCond .eq 8)) rfl Iff.rfl (fun c2 => ?_) (fun c2 => ?_)
    · have h := h.1 c2
      refine x_aload_n (by decide +kernel : am_at co_X12_onePart 170 = some (1, .aload_n 0)) rfl ?_
      refine x_aload_n (by decide +kernel : am_at co_X12_onePart 171 = some (1, .aload_n 0)) rfl ?_
      refine x_getF (by decide +kernel : am_at co_X12_onePart 172 = some (3, .getfield 60)) pq_12_60 (by decide) rfl ob_152 ?_
      refine x_top2 (show 152 + 16 = 168 from rfl) ?_
      refine x_callV (n := 2) (by decide +kernel : am_at co_X12_onePart 175 = some (3, .invokevirtual 236)) pq_12_236 pm_X12_takes rfl rfl rfl ob_152 h (x_k0 fun x4 M4 h => ?_)
      refine x_if (tgt := 186) (by decide +kernel : am_at co_X12_onePart 178 = some (3, .ifCond .eq 8)) rfl Iff.rfl (fun c4 => ?_) (fun c4 => ?_)
      · have h := h.1 c4
        refine x_aload_n (by decide +kernel : am_at co_X12_onePart 186 = some (1, .aload_n 0)) rfl ?_
        refine x_aload_n (by decide +kernel : am_at co_X12_onePart 187 = some (1, .aload_n 0)) rfl ?_
        refine x_getF (by decide +kernel : am_at co_X12_onePart 188 = some (3, .getfield 63)) pq_12_63 (by decide) rfl ob_152 ?_
        refine x_top2 (show 152 + 17 = 169 from rfl) ?_
        refine x_callV (n := 2) (by decide +kernel : am_at co_X12_onePart 191 = some (3, .invokevirtual 236)) pq_12_236 pm_X12_takes rfl rfl rfl ob_152 h (x_k0 fun x6 M6 h => ?_)
        refine x_if (tgt := 202) (by decide +kernel : am_at co_X12_onePart 194 = some (3, .ifCond .eq 8)) rfl Iff.rfl (fun c6 => ?_) (fun c6 => ?_)
        · have h := h.1 c6
          refine x_aload_n (by decide +kernel : am_at co_X12_onePart 202 = some (1, .aload_n 0)) rfl ?_
          refine x_aload_n (by decide +kernel : am_at co_X12_onePart 203 = some (1, .aload_n 0)) rfl ?_
          refine x_getF (by decide +kernel : am_at co_X12_onePart 204 = some (3, .getfield 66)) pq_12_66 (by decide) rfl ob_152 ?_
          refine x_top2 (show 152 + 18 = 170 from rfl) ?_
          refine x_callV (n := 2) (by decide +kernel : am_at co_X12_onePart 207 = some (3, .invokevirtual 236)) pq_12_236 pm_X12_takes rfl rfl rfl ob_152 h (x_k0 fun x8 M8 h => ?_)
          refine x_if (tgt := 218) (by decide +kernel : am_at co_X12_onePart 210 = some (3, .ifCond .eq 8)) rfl Iff.rfl (fun c8 => ?_) (fun c8 => ?_)
          · have h := h.1 c8
            refine x_aload_n (by decide +kernel : am_at co_X12_onePart 218 = some (1, .aload_n 0)) rfl ?_
            refine x_aload_n (by decide +kernel : am_at co_X12_onePart 219 = some (1, .aload_n 0)) rfl ?_
            refine x_getF (by decide +kernel : am_at co_X12_onePart 220 = some (3, .getfield 69)) pq_12_69 (by decide) rfl ob_152 ?_
            refine x_top2 (show 152 + 19 = 171 from rfl) ?_
            refine x_callV (n := 2) (by decide +kernel : am_at co_X12_onePart 223 = some (3, .invokevirtual 236)) pq_12_236 pm_X12_takes rfl rfl rfl ob_152 h (x_k0 fun x10 M10 h => ?_)
            refine x_if (tgt := 234) (by decide +kernel : am_at co_X12_onePart 226 = some (3, .ifCond .eq 8)) rfl Iff.rfl (fun c10 => ?_) (fun c10 => ?_)
            · have h := h.1 c10
              refine x_aload_n (by decide +kernel : am_at co_X12_onePart 234 = some (1, .aload_n 0)) rfl ?_
              refine x_aload_n (by decide +kernel : am_at co_X12_onePart 235 = some (1, .aload_n 0)) rfl ?_
              refine x_getF (by decide +kernel : am_at co_X12_onePart 236 = some (3, .getfield 27)) pq_12_27 (by decide) rfl ob_152 ?_
              refine x_top2 (show 152 + 5 = 157 from rfl) ?_
              refine x_callV (n := 2) (by decide +kernel : am_at co_X12_onePart 239 = some (3, .invokevirtual 236)) pq_12_236 pm_X12_takes rfl rfl rfl ob_152 h (x_k0 fun x12 M12 h => ?_)
              refine x_if (tgt := 250) (by decide +kernel : am_at co_X12_onePart 242 = some (3, .ifCond .eq 8)) rfl Iff.rfl (fun c12 => ?_) (fun c12 => ?_)
              · have h := h.1 c12
                refine x_iconst (by decide +kernel : am_at co_X12_onePart 250 = some (1, .iconst (-1))) ?_
                refine x_istore_n (L' := [(2, 152), (3, 0), (0, (-1)), (3, 0), (3, 0)]) (by decide +kernel : am_at co_X12_onePart 251 = some (1, .istore_n 2)) rfl ?_
                refine x_aload_n (by decide +kernel : am_at co_X12_onePart 252 = some (1, .aload_n 0)) rfl ?_
                refine x_iload_n (by decide +kernel : am_at co_X12_onePart 253 = some (1, .iload_n 2)) rfl ?_
                refine x_iconst (by decide +kernel : am_at co_X12_onePart 254 = some (1, .iconst (-1))) ?_
                refine x_icmp (tgt := 262) (by decide +kernel : am_at co_X12_onePart 255 = some (3, .if_icmp .eq 7)) rfl Iff.rfl (fun q => ?_) (fun q => absurd (show (-1 : Int) = (-1 : Int) by decide) q)
                refine x_sipush (by decide +kernel : am_at co_X12_onePart 262 = some (3, .sipush 1000)) ?_
                refine x_aload_n (by decide +kernel : am_at co_X12_onePart 265 = some (1, .aload_n 0)) rfl ?_
                refine x_iconst (by decide +kernel : am_at co_X12_onePart 266 = some (1, .iconst 0)) ?_
                refine x_sipush (by decide +kernel : am_at co_X12_onePart 267 = some (3, .sipush 9999)) ?_
                refine x_callV (n := 3) (by decide +kernel : am_at co_X12_onePart 270 = some (3, .invokevirtual 283)) pq_12_283 pm_X12_number rfl rfl rfl ob_152 h (x_k0 fun x14 M14 h => ?_)
                obtain ⟨o14, h⟩ := h
                refine x_iadd (by decide +kernel : am_at co_X12_onePart 273 = some (1, .iadd)) o14 ?_
                refine x_callV (n := 2) (by decide +kernel : am_at co_X12_onePart 274 = some (3, .invokevirtual 343)) pq_12_343 pm_X12_code rfl rfl rfl ob_152 h (x_kv fun M16 h => ?_)
                exact x_vret (by decide +kernel : am_at co_X12_onePart 277 = some (1, .return_)) h
              · have c12 := c12
                have h := h.2 c12
                refine x_bipush (by decide +kernel : am_at co_X12_onePart 245 = some (2, .bipush 12)) ?_
                refine x_goto (tgt := 251) (by decide +kernel : am_at co_X12_onePart 247 = some (3, .goto 4)) rfl ?_
                refine x_istore_n (L' := [(2, 152), (3, 0), (0, 12), (3, 0), (3, 0)]) (by decide +kernel : am_at co_X12_onePart 251 = some (1, .istore_n 2)) rfl ?_
                refine x_aload_n (by decide +kernel : am_at co_X12_onePart 252 = some (1, .aload_n 0)) rfl ?_
                refine x_iload_n (by decide +kernel : am_at co_X12_onePart 253 = some (1, .iload_n 2)) rfl ?_
                refine x_iconst (by decide +kernel : am_at co_X12_onePart 254 = some (1, .iconst (-1))) ?_
                refine x_icmp (tgt := 262) (by decide +kernel : am_at co_X12_onePart 255 = some (3, .if_icmp .eq 7)) rfl Iff.rfl (fun q => absurd q (show ¬ ((12 : Int) = (-1 : Int)) by decide)) (fun q => ?_)
                refine x_iload_n (by decide +kernel : am_at co_X12_onePart 258 = some (1, .iload_n 2)) rfl ?_
                refine x_goto (tgt := 274) (by decide +kernel : am_at co_X12_onePart 259 = some (3, .goto 15)) rfl ?_
                refine x_callV (n := 2) (by decide +kernel : am_at co_X12_onePart 274 = some (3, .invokevirtual 343)) pq_12_343 pm_X12_code rfl rfl rfl ob_152 h (x_kv fun M17 h => ?_)
                exact x_vret (by decide +kernel : am_at co_X12_onePart 277 = some (1, .return_)) h
            · have c10 := c10
              have h := h.2 c10
              refine x_bipush (by decide +kernel : am_at co_X12_onePart 229 = some (2, .bipush 11)) ?_
              refine x_goto (tgt := 251) (by decide +kernel : am_at co_X12_onePart 231 = some (3, .goto 20)) rfl ?_
              refine x_istore_n (L' := [(2, 152), (3, 0), (0, 11), (3, 0), (3, 0)]) (by decide +kernel : am_at co_X12_onePart 251 = some (1, .istore_n 2)) rfl ?_
              refine x_aload_n (by decide +kernel : am_at co_X12_onePart 252 = some (1, .aload_n 0)) rfl ?_
              refine x_iload_n (by decide +kernel : am_at co_X12_onePart 253 = some (1, .iload_n 2)) rfl ?_
              refine x_iconst (by decide +kernel : am_at co_X12_onePart 254 = some (1, .iconst (-1))) ?_
              refine x_icmp (tgt := 262) (by decide +kernel : am_at co_X12_onePart 255 = some (3, .if_icmp .eq 7)) rfl Iff.rfl (fun q => absurd q (show ¬ ((11 : Int) = (-1 : Int)) by decide)) (fun q => ?_)
              refine x_iload_n (by decide +kernel : am_at co_X12_onePart 258 = some (1, .iload_n 2)) rfl ?_
              refine x_goto (tgt := 274) (by decide +kernel : am_at co_X12_onePart 259 = some (3, .goto 15)) rfl ?_
              refine x_callV (n := 2) (by decide +kernel : am_at co_X12_onePart 274 = some (3, .invokevirtual 343)) pq_12_343 pm_X12_code rfl rfl rfl ob_152 h (x_kv fun M18 h => ?_)
              exact x_vret (by decide +kernel : am_at co_X12_onePart 277 = some (1, .return_)) h
          · have c8 := c8
            have h := h.2 c8
            refine x_bipush (by decide +kernel : am_at co_X12_onePart 213 = some (2, .bipush 10)) ?_
            refine x_goto (tgt := 251) (by decide +kernel : am_at co_X12_onePart 215 = some (3, .goto 36)) rfl ?_
            refine x_istore_n (L' := [(2, 152), (3, 0), (0, 10), (3, 0), (3, 0)]) (by decide +kernel : am_at co_X12_onePart 251 = some (1, .istore_n 2)) rfl ?_
            refine x_aload_n (by decide +kernel : am_at co_X12_onePart 252 = some (1, .aload_n 0)) rfl ?_
            refine x_iload_n (by decide +kernel : am_at co_X12_onePart 253 = some (1, .iload_n 2)) rfl ?_
            refine x_iconst (by decide +kernel : am_at co_X12_onePart 254 = some (1, .iconst (-1))) ?_
            refine x_icmp (tgt := 262) (by decide +kernel : am_at co_X12_onePart 255 = some (3, .if_icmp .eq 7)) rfl Iff.rfl (fun q => absurd q (show ¬ ((10 : Int) = (-1 : Int)) by decide)) (fun q => ?_)
            refine x_iload_n (by decide +kernel : am_at co_X12_onePart 258 = some (1, .iload_n 2)) rfl ?_
            refine x_goto (tgt := 274) (by decide +kernel : am_at co_X12_onePart 259 = some (3, .goto 15)) rfl ?_
            refine x_callV (n := 2) (by decide +kernel : am_at co_X12_onePart 274 = some (3, .invokevirtual 343)) pq_12_343 pm_X12_code rfl rfl rfl ob_152 h (x_kv fun M19 h => ?_)
            exact x_vret (by decide +kernel : am_at co_X12_onePart 277 = some (1, .return_)) h
        · have c6 := c6
          have h := h.2 c6
          refine x_bipush (by decide +kernel : am_at co_X12_onePart 197 = some (2, .bipush 9)) ?_
          refine x_goto (tgt := 251) (by decide +kernel : am_at co_X12_onePart 199 = some (3, .goto 52)) rfl ?_
          refine x_istore_n (L' := [(2, 152), (3, 0), (0, 9), (3, 0), (3, 0)]) (by decide +kernel : am_at co_X12_onePart 251 = some (1, .istore_n 2)) rfl ?_
          refine x_aload_n (by decide +kernel : am_at co_X12_onePart 252 = some (1, .aload_n 0)) rfl ?_
          refine x_iload_n (by decide +kernel : am_at co_X12_onePart 253 = some (1, .iload_n 2)) rfl ?_
          refine x_iconst (by decide +kernel : am_at co_X12_onePart 254 = some (1, .iconst (-1))) ?_
          refine x_icmp (tgt := 262) (by decide +kernel : am_at co_X12_onePart 255 = some (3, .if_icmp .eq 7)) rfl Iff.rfl (fun q => absurd q (show ¬ ((9 : Int) = (-1 : Int)) by decide)) (fun q => ?_)
          refine x_iload_n (by decide +kernel : am_at co_X12_onePart 258 = some (1, .iload_n 2)) rfl ?_
          refine x_goto (tgt := 274) (by decide +kernel : am_at co_X12_onePart 259 = some (3, .goto 15)) rfl ?_
          refine x_callV (n := 2) (by decide +kernel : am_at co_X12_onePart 274 = some (3, .invokevirtual 343)) pq_12_343 pm_X12_code rfl rfl rfl ob_152 h (x_kv fun M20 h => ?_)
          exact x_vret (by decide +kernel : am_at co_X12_onePart 277 = some (1, .return_)) h
      · have c4 := c4
        have h := h.2 c4
        refine x_bipush (by decide +kernel : am_at co_X12_onePart 181 = some (2, .bipush 8)) ?_
        refine x_goto (tgt := 251) (by decide +kernel : am_at co_X12_onePart 183 = some (3, .goto 68)) rfl ?_
        refine x_istore_n (L' := [(2, 152), (3, 0), (0, 8), (3, 0), (3, 0)]) (by decide +kernel : am_at co_X12_onePart 251 = some (1, .istore_n 2)) rfl ?_
        refine x_aload_n (by decide +kernel : am_at co_X12_onePart 252 = some (1, .aload_n 0)) rfl ?_
        refine x_iload_n (by decide +kernel : am_at co_X12_onePart 253 = some (1, .iload_n 2)) rfl ?_
        refine x_iconst (by decide +kernel : am_at co_X12_onePart 254 = some (1, .iconst (-1))) ?_
        refine x_icmp (tgt := 262) (by decide +kernel : am_at co_X12_onePart 255 = some (3, .if_icmp .eq 7)) rfl Iff.rfl (fun q => absurd q (show ¬ ((8 : Int) = (-1 : Int)) by decide)) (fun q => ?_)
        refine x_iload_n (by decide +kernel : am_at co_X12_onePart 258 = some (1, .iload_n 2)) rfl ?_
        refine x_goto (tgt := 274) (by decide +kernel : am_at co_X12_onePart 259 = some (3, .goto 15)) rfl ?_
        refine x_callV (n := 2) (by decide +kernel : am_at co_X12_onePart 274 = some (3, .invokevirtual 343)) pq_12_343 pm_X12_code rfl rfl rfl ob_152 h (x_kv fun M21 h => ?_)
        exact x_vret (by decide +kernel : am_at co_X12_onePart 277 = some (1, .return_)) h
    · have c2 := c2
      have h := h.2 c2
      refine x_bipush (by decide +kernel : am_at co_X12_onePart 165 = some (2, .bipush 7)) ?_
      refine x_goto (tgt := 251) (by decide +kernel : am_at co_X12_onePart 167 = some (3, .goto 84)) rfl ?_
      refine x_istore_n (L' := [(2, 152), (3, 0), (0, 7), (3, 0), (3, 0)]) (by decide +kernel : am_at co_X12_onePart 251 = some (1, .istore_n 2)) rfl ?_
      refine x_aload_n (by decide +kernel : am_at co_X12_onePart 252 = some (1, .aload_n 0)) rfl ?_
      refine x_iload_n (by decide +kernel : am_at co_X12_onePart 253 = some (1, .iload_n 2)) rfl ?_
      refine x_iconst (by decide +kernel : am_at co_X12_onePart 254 = some (1, .iconst (-1))) ?_
      refine x_icmp (tgt := 262) (by decide +kernel : am_at co_X12_onePart 255 = some (3, .if_icmp .eq 7)) rfl Iff.rfl (fun q => absurd q (show ¬ ((7 : Int) = (-1 : Int)) by decide)) (fun q => ?_)
      refine x_iload_n (by decide +kernel : am_at co_X12_onePart 258 = some (1, .iload_n 2)) rfl ?_
      refine x_goto (tgt := 274) (by decide +kernel : am_at co_X12_onePart 259 = some (3, .goto 15)) rfl ?_
      refine x_callV (n := 2) (by decide +kernel : am_at co_X12_onePart 274 = some (3, .invokevirtual 343)) pq_12_343 pm_X12_code rfl rfl rfl ob_152 h (x_kv fun M22 h => ?_)
      exact x_vret (by decide +kernel : am_at co_X12_onePart 277 = some (1, .return_)) h
  · have c0 := c0
    have h := h.2 c0
    exact x_vret (by decide +kernel : am_at co_X12_onePart 153 = some (1, .return_)) h
set_option maxRecDepth 20000 in
theorem bk_X12_goesOn_0 {d : Nat} {Q : am_Q} {M : am_M} (h : ((¬ M 152 5 = 0 → am_g 12 5 co_X12_goesOn d Q 118 [(2, 152), (3, 0)] [] sh_T M) ∧ (M 152 5 = 0 → am_cal pg d 175 [(2, 152)] sh_T M (am_c0 sh_T fun x2 M2 => ((¬ x2 = 41 → am_g 12 5 co_X12_goesOn d Q 118 [(2, 152), (3, 0)] [] sh_T M2) ∧ (x2 = 41 → am_cal pg d 201 [(2, 152)] sh_T M2 (am_c0 sh_T fun x4 M4 => ((x4 = 20 → am_g 12 5 co_X12_goesOn d Q 43 [(2, 152), (3, 0)] [] sh_T M4) ∧ (¬ x4 = 20 → am_cal pg d 201 [(2, 152)] sh_T M4 (am_c0 sh_T fun x6 M6 => ((x6 = 23 → am_g 12 5 co_X12_goesOn d Q 43 [(2, 152), (3, 0)] [] sh_T M6) ∧ (¬ x6 = 23 → am_cal pg d 201 [(2, 152)] sh_T M6 (am_c0 sh_T fun x8 M8 => ((¬ x8 = 24 → am_g 12 5 co_X12_goesOn d Q 118 [(2, 152), (3, 0)] [] sh_T M8) ∧ (x8 = 24 → am_g 12 5 co_X12_goesOn d Q 43 [(2, 152), (3, 0)] [] sh_T M8))))))))))))))) : am_g 12 5 co_X12_goesOn d Q 0 [(2, 152), (3, 0)] [] sh_T M := by
  refine x_aload_n (by decide +kernel : am_at co_X12_goesOn 0 = some (1, .aload_n 0)) rfl ?_
  refine x_getf (by decide +kernel : am_at co_X12_goesOn 1 = some (3, .getfield 209)) pq_12_209 rfl ob_152 ?_
  refine x_if (tgt := 118) (by decide +kernel : am_at co_X12_goesOn 4 = some (3, .ifCond .ne 114)) rfl Iff.rfl (fun c0 => ?_) (fun c0 => ?_)
  · have h := h.1 c0
    exact am_weak (lk (lk ln)) h
  · have c0 := (Classical.not_not.mp c0)
    have h := h.2 c0
    refine x_aload_n (by decide +kernel : am_at co_X12_goesOn 7 = some (1, .aload_n 0)) rfl ?_
    refine x_callV (n := 1) (by decide +kernel : am_at co_X12_goesOn 8 = some (3, .invokevirtual 221)) pq_12_221 pm_X12_look rfl rfl rfl ob_152 h (x_k0 fun x2 M2 h => ?_)
    refine x_bipush (by decide +kernel : am_at co_X12_goesOn 11 = some (2, .bipush 41)) ?_
    refine x_icmp (tgt := 118) (by decide +kernel : am_at co_X12_goesOn 13 = some (3, .if_icmp .ne 105)) rfl Iff.rfl (fun c2 => ?_) (fun c2 => ?_)
    · have h := h.1 c2
      exact am_weak (lk (lk ln)) h
    · have c2 := (Classical.not_not.mp c2)
      have h := h.2 c2
      refine x_aload_n (by decide +kernel : am_at co_X12_goesOn 16 = some (1, .aload_n 0)) rfl ?_
      refine x_callV (n := 1) (by decide +kernel : am_at co_X12_goesOn 17 = some (3, .invokevirtual 355)) pq_12_355 pm_X12_waitsLast rfl rfl rfl ob_152 h (x_k0 fun x4 M4 h => ?_)
      refine x_bipush (by decide +kernel : am_at co_X12_goesOn 20 = some (2, .bipush 20)) ?_
      refine x_icmp (tgt := 43) (by decide +kernel : am_at co_X12_goesOn 22 = some (3, .if_icmp .eq 21)) rfl Iff.rfl (fun c4 => ?_) (fun c4 => ?_)
      · have h := h.1 c4
        exact am_weak (lk (lk ln)) h
      · have c4 := c4
        have h := h.2 c4
        refine x_aload_n (by decide +kernel : am_at co_X12_goesOn 25 = some (1, .aload_n 0)) rfl ?_
        refine x_callV (n := 1) (by decide +kernel : am_at co_X12_goesOn 26 = some (3, .invokevirtual 355)) pq_12_355 pm_X12_waitsLast rfl rfl rfl ob_152 h (x_k0 fun x6 M6 h => ?_)
        refine x_bipush (by decide +kernel : am_at co_X12_goesOn 29 = some (2, .bipush 23)) ?_
        refine x_icmp (tgt := 43) (by decide +kernel : am_at co_X12_goesOn 31 = some (3, .if_icmp .eq 12)) rfl Iff.rfl (fun c6 => ?_) (fun c6 => ?_)
        · have h := h.1 c6
          exact am_weak (lk (lk ln)) h
        · have c6 := c6
          have h := h.2 c6
          refine x_aload_n (by decide +kernel : am_at co_X12_goesOn 34 = some (1, .aload_n 0)) rfl ?_
          refine x_callV (n := 1) (by decide +kernel : am_at co_X12_goesOn 35 = some (3, .invokevirtual 355)) pq_12_355 pm_X12_waitsLast rfl rfl rfl ob_152 h (x_k0 fun x8 M8 h => ?_)
          refine x_bipush (by decide +kernel : am_at co_X12_goesOn 38 = some (2, .bipush 24)) ?_
          refine x_icmp (tgt := 118) (by decide +kernel : am_at co_X12_goesOn 40 = some (3, .if_icmp .ne 78)) rfl Iff.rfl (fun c8 => ?_) (fun c8 => ?_)
          · have h := h.1 c8
            exact am_weak (lk (lk ln)) h
          · have c8 := (Classical.not_not.mp c8)
            have h := h.2 c8
            exact am_weak (lk (lk ln)) h
set_option maxRecDepth 20000 in
theorem bk_X12_goesOn_43 {d : Nat} {Q : am_Q} {M : am_M} (h : am_r ((M 152 2) + 1) ∧ am_cal pg d 202 [(2, 152)] sh_T (am_up M 152 2 ((M 152 2) + 1)) (am_cv sh_T fun M2 => am_r ((M2 152 42) - 1) ∧ am_r ((M2 152 43) - 1) ∧ (0 ≤ (M2 152 42) - 1 ∧ (M2 152 42) - 1 < 1700) ∧ ((M2 183 ((M2 152 42) - 1) = 20 → am_g 12 5 co_X12_goesOn d Q 0 [(2, 152), (3, 0)] [] sh_T (am_up (am_up M2 152 42 ((M2 152 42) - 1)) 152 43 ((M2 152 43) - 1))) ∧ (¬ M2 183 ((M2 152 42) - 1) = 20 → ((¬ M2 183 ((M2 152 42) - 1) = 23 → am_cal pg d 196 [(2, 152), (0, 6)] sh_T (am_up (am_up M2 152 42 ((M2 152 42) - 1)) 152 43 ((M2 152 43) - 1)) (am_cv sh_T fun M8 => am_g 12 5 co_X12_goesOn d Q 0 [(2, 152), (3, 0)] [] sh_T M8)) ∧ (M2 183 ((M2 152 42) - 1) = 23 → am_cal pg d 196 [(2, 152), (0, 5)] sh_T (am_up (am_up M2 152 42 ((M2 152 42) - 1)) 152 43 ((M2 152 43) - 1)) (am_cv sh_T fun M9 => am_g 12 5 co_X12_goesOn d Q 0 [(2, 152), (3, 0)] [] sh_T M9))))))) : am_g 12 5 co_X12_goesOn d Q 43 [(2, 152), (3, 0)] [] sh_T M := by
  refine x_aload_n (by decide +kernel : am_at co_X12_goesOn 43 = some (1, .aload_n 0)) rfl ?_
  refine x_dup2' (by decide +kernel : am_at co_X12_goesOn 44 = some (1, .dup)) ?_
  refine x_getf (by decide +kernel : am_at co_X12_goesOn 45 = some (3, .getfield 215)) pq_12_215 rfl ob_152 ?_
  refine x_iconst (by decide +kernel : am_at co_X12_goesOn 48 = some (1, .iconst 1)) ?_
  obtain ⟨o0, h⟩ := h
  refine x_iadd (by decide +kernel : am_at co_X12_goesOn 49 = some (1, .iadd)) o0 ?_
  refine x_putf0 (by decide +kernel : am_at co_X12_goesOn 50 = some (3, .putfield 215)) pq_12_215 rfl ob_152 ?_
  refine x_aload_n (by decide +kernel : am_at co_X12_goesOn 53 = some (1, .aload_n 0)) rfl ?_
  refine x_callV (n := 1) (by decide +kernel : am_at co_X12_goesOn 54 = some (3, .invokevirtual 358)) pq_12_358 pm_X12_dropsToMark rfl rfl rfl ob_152 h (x_kv fun M2 h => ?_)
  refine x_aload_n (by decide +kernel : am_at co_X12_goesOn 57 = some (1, .aload_n 0)) rfl ?_
  refine x_dup2' (by decide +kernel : am_at co_X12_goesOn 58 = some (1, .dup)) ?_
  refine x_getf (by decide +kernel : am_at co_X12_goesOn 59 = some (3, .getfield 294)) pq_12_294 rfl ob_152 ?_
  refine x_iconst (by decide +kernel : am_at co_X12_goesOn 62 = some (1, .iconst 1)) ?_
  obtain ⟨o2, h⟩ := h
  refine x_isub (by decide +kernel : am_at co_X12_goesOn 63 = some (1, .isub)) o2 ?_
  refine x_putf0 (by decide +kernel : am_at co_X12_goesOn 64 = some (3, .putfield 294)) pq_12_294 rfl ob_152 ?_
  refine x_aload_n (by decide +kernel : am_at co_X12_goesOn 67 = some (1, .aload_n 0)) rfl ?_
  refine x_dup2' (by decide +kernel : am_at co_X12_goesOn 68 = some (1, .dup)) ?_
  refine x_getf (by decide +kernel : am_at co_X12_goesOn 69 = some (3, .getfield 297)) pq_12_297 rfl ob_152 ?_
  refine x_top0 (show (am_up M2 152 42 ((M2 152 42) - 1)) 152 43 = M2 152 43 from by first | rfl | simp [am_up]) ?_
  refine x_iconst (by decide +kernel : am_at co_X12_goesOn 72 = some (1, .iconst 1)) ?_
  obtain ⟨o3, h⟩ := h
  refine x_isub (by decide +kernel : am_at co_X12_goesOn 73 = some (1, .isub)) o3 ?_
  refine x_putf0 (by decide +kernel : am_at co_X12_goesOn 74 = some (3, .putfield 297)) pq_12_297 rfl ob_152 ?_
  refine x_aload_n (by decide +kernel : am_at co_X12_goesOn 77 = some (1, .aload_n 0)) rfl ?_
  refine x_getF (by decide +kernel : am_at co_X12_goesOn 78 = some (3, .getfield 106)) pq_12_106 (by decide) rfl ob_152 ?_
  refine x_top2 (show 152 + 31 = 183 from rfl) ?_
  refine x_aload_n (by decide +kernel : am_at co_X12_goesOn 81 = some (1, .aload_n 0)) rfl ?_
  refine x_getf (by decide +kernel : am_at co_X12_goesOn 82 = some (3, .getfield 294)) pq_12_294 rfl ob_152 ?_
  refine x_top0 (show (am_up (am_up M2 152 42 ((M2 152 42) - 1)) 152 43 ((M2 152 43) - 1)) 152 42 = (M2 152 42) - 1 from by first | rfl | simp [am_up]) ?_
  obtain ⟨o4, h⟩ := h
  refine x_iald (by decide +kernel : am_at co_X12_goesOn 85 = some (1, .iaload)) (ia_183 o4.1 o4.2) ?_
  refine x_top0 (show (am_up (am_up M2 152 42 ((M2 152 42) - 1)) 152 43 ((M2 152 43) - 1)) 183 ((M2 152 42) - 1) = M2 183 ((M2 152 42) - 1) from by first | rfl | simp [am_up]) ?_
  refine x_bipush (by decide +kernel : am_at co_X12_goesOn 86 = some (2, .bipush 20)) ?_
  refine x_icmp (tgt := 0) (by decide +kernel : am_at co_X12_goesOn 88 = some (3, .if_icmp .eq (-88))) rfl Iff.rfl (fun c5 => ?_) (fun c5 => ?_)
  · have h := h.1 c5
    exact am_weak (lk (lk ln)) h
  · have c5 := c5
    have h := h.2 c5
    refine x_aload_n (by decide +kernel : am_at co_X12_goesOn 91 = some (1, .aload_n 0)) rfl ?_
    refine x_aload_n (by decide +kernel : am_at co_X12_goesOn 92 = some (1, .aload_n 0)) rfl ?_
    refine x_getF (by decide +kernel : am_at co_X12_goesOn 93 = some (3, .getfield 106)) pq_12_106 (by decide) rfl ob_152 ?_
    refine x_top2 (show 152 + 31 = 183 from rfl) ?_
    refine x_aload_n (by decide +kernel : am_at co_X12_goesOn 96 = some (1, .aload_n 0)) rfl ?_
    refine x_getf (by decide +kernel : am_at co_X12_goesOn 97 = some (3, .getfield 294)) pq_12_294 rfl ob_152 ?_
    refine x_top0 (show (am_up (am_up M2 152 42 ((M2 152 42) - 1)) 152 43 ((M2 152 43) - 1)) 152 42 = (M2 152 42) - 1 from by first | rfl | simp [am_up]) ?_
    refine x_iald (by decide +kernel : am_at co_X12_goesOn 100 = some (1, .iaload)) (ia_183 o4.1 o4.2) ?_
    refine x_top0 (show (am_up (am_up M2 152 42 ((M2 152 42) - 1)) 152 43 ((M2 152 43) - 1)) 183 ((M2 152 42) - 1) = M2 183 ((M2 152 42) - 1) from by first | rfl | simp [am_up]) ?_
    refine x_bipush (by decide +kernel : am_at co_X12_goesOn 101 = some (2, .bipush 23)) ?_
    refine x_icmp (tgt := 110) (by decide +kernel : am_at co_X12_goesOn 103 = some (3, .if_icmp .ne 7)) rfl Iff.rfl (fun c6 => ?_) (fun c6 => ?_)
    · have h := h.1 c6
      refine x_bipush (by decide +kernel : am_at co_X12_goesOn 110 = some (2, .bipush 6)) ?_
      refine x_callV (n := 2) (by decide +kernel : am_at co_X12_goesOn 112 = some (3, .invokevirtual 343)) pq_12_343 pm_X12_code rfl rfl rfl ob_152 h (x_kv fun M8 h => ?_)
      refine x_goto (tgt := 0) (by decide +kernel : am_at co_X12_goesOn 115 = some (3, .goto (-115))) rfl ?_
      exact am_weak (lk (lk ln)) h
    · have c6 := (Classical.not_not.mp c6)
      have h := h.2 c6
      refine x_iconst (by decide +kernel : am_at co_X12_goesOn 106 = some (1, .iconst 5)) ?_
      refine x_goto (tgt := 112) (by decide +kernel : am_at co_X12_goesOn 107 = some (3, .goto 5)) rfl ?_
      refine x_callV (n := 2) (by decide +kernel : am_at co_X12_goesOn 112 = some (3, .invokevirtual 343)) pq_12_343 pm_X12_code rfl rfl rfl ob_152 h (x_kv fun M9 h => ?_)
      refine x_goto (tgt := 0) (by decide +kernel : am_at co_X12_goesOn 115 = some (3, .goto (-115))) rfl ?_
      exact am_weak (lk (lk ln)) h
set_option maxRecDepth 20000 in
theorem bk_X12_goesOn_118 {d : Nat} {Q : am_Q} {M : am_M} (h : am_cal pg d 179 [(2, 152), (0, 42)] sh_T M (am_c0 sh_T fun x1 M1 => ((¬ x1 = 0 → am_g 12 5 co_X12_goesOn d Q 136 [(2, 152), (3, 0)] [] sh_T M1) ∧ (x1 = 0 → am_cal pg d 179 [(2, 152), (0, 47)] sh_T M1 (am_c0 sh_T fun x3 M3 => ((x3 = 0 → am_cal pg d 179 [(2, 152), (0, 43)] sh_T M3 (am_c0 sh_T fun x5 M5 => ((¬ x5 = 0 → am_g 12 5 co_X12_goesOn d Q 221 [(2, 152), (3, 0)] [] sh_T M5) ∧ (x5 = 0 → am_cal pg d 179 [(2, 152), (0, 45)] sh_T M5 (am_c0 sh_T fun x7 M7 => ((x7 = 0 → am_cal pg d 201 [(2, 152)] sh_T M7 (am_c0 sh_T fun x9 M9 => ((x9 = 21 → am_g 12 5 co_X12_goesOn d Q 322 [(2, 152), (3, 0)] [] sh_T M9) ∧ (¬ x9 = 21 → am_cal pg d 201 [(2, 152)] sh_T M9 (am_c0 sh_T fun x11 M11 => ((¬ x11 = 22 → am_cal pg d 201 [(2, 152)] sh_T M11 (am_c0 sh_T fun x13 M13 => ((x13 = (-1) → am_g 12 5 co_X12_goesOn d Q 382 [(3, 0), (3, 0)] [] sh_T M13) ∧ (¬ x13 = (-1) → ((¬ M13 152 5 = 0 → am_g 12 5 co_X12_goesOn d Q 382 [(3, 0), (3, 0)] [] sh_T M13) ∧ (M13 152 5 = 0 → am_cal pg d 172 [(2, 152), (0, 1), (0, M13 152 2)] sh_T M13 (am_cv sh_T fun M16 => am_g 12 5 co_X12_goesOn d Q 382 [(3, 0), (3, 0)] [] sh_T M16))))))) ∧ (x11 = 22 → am_g 12 5 co_X12_goesOn d Q 322 [(2, 152), (3, 0)] [] sh_T M11))))))) ∧ (¬ x7 = 0 → am_g 12 5 co_X12_goesOn d Q 221 [(2, 152), (3, 0)] [] sh_T M7))))))) ∧ (¬ x3 = 0 → am_g 12 5 co_X12_goesOn d Q 136 [(2, 152), (3, 0)] [] sh_T M3))))))) : am_g 12 5 co_X12_goesOn d Q 118 [(2, 152), (3, 0)] [] sh_T M := by
  refine x_aload_n (by decide +kernel : am_at co_X12_goesOn 118 = some (1, .aload_n 0)) rfl ?_
  refine x_bipush (by decide +kernel : am_at co_X12_goesOn 119 = some (2, .bipush 42)) ?_
  refine x_callV (n := 2) (by decide +kernel : am_at co_X12_goesOn 121 = some (3, .invokevirtual 243)) pq_12_243 pm_X12_takesSign rfl rfl rfl ob_152 h (x_k0 fun x1 M1 h => ?_)
  refine x_if (tgt := 136) (by decide +kernel : am_at co_X12_goesOn 124 = some (3, .ifCond .ne 12)) rfl Iff.rfl (fun c1 => ?_) (fun c1 => ?_)
  · have h := h.1 c1
    exact am_weak (lk (lk ln)) h
  · have c1 := (Classical.not_not.mp c1)
    have h := h.2 c1
    refine x_aload_n (by decide +kernel : am_at co_X12_goesOn 127 = some (1, .aload_n 0)) rfl ?_
    refine x_bipush (by decide +kernel : am_at co_X12_goesOn 128 = some (2, .bipush 47)) ?_
    refine x_callV (n := 2) (by decide +kernel : am_at co_X12_goesOn 130 = some (3, .invokevirtual 243)) pq_12_243 pm_X12_takesSign rfl rfl rfl ob_152 h (x_k0 fun x3 M3 h => ?_)
    refine x_if (tgt := 203) (by decide +kernel : am_at co_X12_goesOn 133 = some (3, .ifCond .eq 70)) rfl Iff.rfl (fun c3 => ?_) (fun c3 => ?_)
    · have h := h.1 c3
      refine x_aload_n (by decide +kernel : am_at co_X12_goesOn 203 = some (1, .aload_n 0)) rfl ?_
      refine x_bipush (by decide +kernel : am_at co_X12_goesOn 204 = some (2, .bipush 43)) ?_
      refine x_callV (n := 2) (by decide +kernel : am_at co_X12_goesOn 206 = some (3, .invokevirtual 243)) pq_12_243 pm_X12_takesSign rfl rfl rfl ob_152 h (x_k0 fun x5 M5 h => ?_)
      refine x_if (tgt := 221) (by decide +kernel : am_at co_X12_goesOn 209 = some (3, .ifCond .ne 12)) rfl Iff.rfl (fun c5 => ?_) (fun c5 => ?_)
      · have h := h.1 c5
        exact am_weak (lk (lk ln)) h
      · have c5 := (Classical.not_not.mp c5)
        have h := h.2 c5
        refine x_aload_n (by decide +kernel : am_at co_X12_goesOn 212 = some (1, .aload_n 0)) rfl ?_
        refine x_bipush (by decide +kernel : am_at co_X12_goesOn 213 = some (2, .bipush 45)) ?_
        refine x_callV (n := 2) (by decide +kernel : am_at co_X12_goesOn 215 = some (3, .invokevirtual 243)) pq_12_243 pm_X12_takesSign rfl rfl rfl ob_152 h (x_k0 fun x7 M7 h => ?_)
        refine x_if (tgt := 304) (by decide +kernel : am_at co_X12_goesOn 218 = some (3, .ifCond .eq 86)) rfl Iff.rfl (fun c7 => ?_) (fun c7 => ?_)
        · have h := h.1 c7
          refine x_aload_n (by decide +kernel : am_at co_X12_goesOn 304 = some (1, .aload_n 0)) rfl ?_
          refine x_callV (n := 1) (by decide +kernel : am_at co_X12_goesOn 305 = some (3, .invokevirtual 355)) pq_12_355 pm_X12_waitsLast rfl rfl rfl ob_152 h (x_k0 fun x9 M9 h => ?_)
          refine x_bipush (by decide +kernel : am_at co_X12_goesOn 308 = some (2, .bipush 21)) ?_
          refine x_icmp (tgt := 322) (by decide +kernel : am_at co_X12_goesOn 310 = some (3, .if_icmp .eq 12)) rfl Iff.rfl (fun c9 => ?_) (fun c9 => ?_)
          · have h := h.1 c9
            exact am_weak (lk (lk ln)) h
          · have c9 := c9
            have h := h.2 c9
            refine x_aload_n (by decide +kernel : am_at co_X12_goesOn 313 = some (1, .aload_n 0)) rfl ?_
            refine x_callV (n := 1) (by decide +kernel : am_at co_X12_goesOn 314 = some (3, .invokevirtual 355)) pq_12_355 pm_X12_waitsLast rfl rfl rfl ob_152 h (x_k0 fun x11 M11 h => ?_)
            refine x_bipush (by decide +kernel : am_at co_X12_goesOn 317 = some (2, .bipush 22)) ?_
            refine x_icmp (tgt := 358) (by decide +kernel : am_at co_X12_goesOn 319 = some (3, .if_icmp .ne 39)) rfl Iff.rfl (fun c11 => ?_) (fun c11 => ?_)
            · have h := h.1 c11
              refine x_aload_n (by decide +kernel : am_at co_X12_goesOn 358 = some (1, .aload_n 0)) rfl ?_
              refine x_callV (n := 1) (by decide +kernel : am_at co_X12_goesOn 359 = some (3, .invokevirtual 355)) pq_12_355 pm_X12_waitsLast rfl rfl rfl ob_152 h (x_k0 fun x13 M13 h => ?_)
              refine x_iconst (by decide +kernel : am_at co_X12_goesOn 362 = some (1, .iconst (-1))) ?_
              refine x_icmp (tgt := 382) (by decide +kernel : am_at co_X12_goesOn 363 = some (3, .if_icmp .eq 19)) rfl Iff.rfl (fun c13 => ?_) (fun c13 => ?_)
              · have h := h.1 c13
                exact am_weak (ld (lk ln)) h
              · have c13 := c13
                have h := h.2 c13
                refine x_aload_n (by decide +kernel : am_at co_X12_goesOn 366 = some (1, .aload_n 0)) rfl ?_
                refine x_getf (by decide +kernel : am_at co_X12_goesOn 367 = some (3, .getfield 209)) pq_12_209 rfl ob_152 ?_
                refine x_if (tgt := 382) (by decide +kernel : am_at co_X12_goesOn 370 = some (3, .ifCond .ne 12)) rfl Iff.rfl (fun c14 => ?_) (fun c14 => ?_)
                · have h := h.1 c14
                  exact am_weak (ld (lk ln)) h
                · have c14 := (Classical.not_not.mp c14)
                  have h := h.2 c14
                  refine x_aload_n (by decide +kernel : am_at co_X12_goesOn 373 = some (1, .aload_n 0)) rfl ?_
                  refine x_iconst (by decide +kernel : am_at co_X12_goesOn 374 = some (1, .iconst 1)) ?_
                  refine x_aload_n (by decide +kernel : am_at co_X12_goesOn 375 = some (1, .aload_n 0)) rfl ?_
                  refine x_getf (by decide +kernel : am_at co_X12_goesOn 376 = some (3, .getfield 215)) pq_12_215 rfl ob_152 ?_
                  refine x_callV (n := 3) (by decide +kernel : am_at co_X12_goesOn 379 = some (3, .invokevirtual 239)) pq_12_239 pm_X12_fail rfl rfl rfl ob_152 h (x_kv fun M16 h => ?_)
                  exact am_weak (ld (lk ln)) h
            · have c11 := (Classical.not_not.mp c11)
              have h := h.2 c11
              exact am_weak (lk (lk ln)) h
        · have c7 := c7
          have h := h.2 c7
          exact am_weak (lk (lk ln)) h
    · have c3 := c3
      have h := h.2 c3
      exact am_weak (lk (lk ln)) h
set_option maxRecDepth 20000 in
theorem bk_X12_goesOn_136 {d : Nat} {Q : am_Q} {M : am_M} (h : am_r ((M 152 2) - 1) ∧ (0 ≤ (M 152 2) - 1 ∧ (M 152 2) - 1 < 1600) ∧ ((¬ M 153 ((M 152 2) - 1) = 42 → am_g 12 5 co_X12_goesOn d Q 158 [(2, 152), (0, 4)] [] sh_T M) ∧ (M 153 ((M 152 2) - 1) = 42 → am_g 12 5 co_X12_goesOn d Q 158 [(2, 152), (0, 3)] [] sh_T M))) : am_g 12 5 co_X12_goesOn d Q 136 [(2, 152), (3, 0)] [] sh_T M := by
  refine x_aload_n (by decide +kernel : am_at co_X12_goesOn 136 = some (1, .aload_n 0)) rfl ?_
  refine x_getF (by decide +kernel : am_at co_X12_goesOn 137 = some (3, .getfield 7)) pq_12_7 (by decide) rfl ob_152 ?_
  refine x_top2 (show 152 + 1 = 153 from rfl) ?_
  refine x_aload_n (by decide +kernel : am_at co_X12_goesOn 140 = some (1, .aload_n 0)) rfl ?_
  refine x_getf (by decide +kernel : am_at co_X12_goesOn 141 = some (3, .getfield 215)) pq_12_215 rfl ob_152 ?_
  refine x_iconst (by decide +kernel : am_at co_X12_goesOn 144 = some (1, .iconst 1)) ?_
  obtain ⟨o0, h⟩ := h
  refine x_isub (by decide +kernel : am_at co_X12_goesOn 145 = some (1, .isub)) o0 ?_
  obtain ⟨o1, h⟩ := h
  refine x_iald (by decide +kernel : am_at co_X12_goesOn 146 = some (1, .iaload)) (ia_153 o1.1 o1.2) ?_
  refine x_bipush (by decide +kernel : am_at co_X12_goesOn 147 = some (2, .bipush 42)) ?_
  refine x_icmp (tgt := 156) (by decide +kernel : am_at co_X12_goesOn 149 = some (3, .if_icmp .ne 7)) rfl Iff.rfl (fun c2 => ?_) (fun c2 => ?_)
  · have h := h.1 c2
    refine x_iconst (by decide +kernel : am_at co_X12_goesOn 156 = some (1, .iconst 4)) ?_
    refine x_istore_n (L' := [(2, 152), (0, 4)]) (by decide +kernel : am_at co_X12_goesOn 157 = some (1, .istore_n 1)) rfl ?_
    exact am_weak (lk (lk ln)) h
  · have c2 := (Classical.not_not.mp c2)
    have h := h.2 c2
    refine x_iconst (by decide +kernel : am_at co_X12_goesOn 152 = some (1, .iconst 3)) ?_
    refine x_goto (tgt := 157) (by decide +kernel : am_at co_X12_goesOn 153 = some (3, .goto 4)) rfl ?_
    refine x_istore_n (L' := [(2, 152), (0, 3)]) (by decide +kernel : am_at co_X12_goesOn 157 = some (1, .istore_n 1)) rfl ?_
    exact am_weak (lk (lk ln)) h
set_option maxRecDepth 20000 in
theorem bk_X12_goesOn_158 {d : Nat} {Q : am_Q} {M : am_M} {v1 : Int} (h : am_cal pg d 198 [(2, 152), (0, 3)] sh_T M (am_c0 sh_T fun x1 M1 => ((¬ x1 = 0 → am_g 12 5 co_X12_goesOn d Q 174 [(2, 152), (0, v1)] [] sh_T M1) ∧ (x1 = 0 → am_cal pg d 198 [(2, 152), (0, 4)] sh_T M1 (am_c0 sh_T fun x3 M3 => ((x3 = 0 → (0 ≤ M3 152 42 ∧ M3 152 42 < 1700) ∧ am_r ((M3 152 42) + 1) ∧ Q (some (0, 1), sh_T, (am_up (am_up M3 183 (M3 152 42) v1) 152 42 ((M3 152 42) + 1)))) ∧ (¬ x3 = 0 → am_g 12 5 co_X12_goesOn d Q 174 [(2, 152), (0, v1)] [] sh_T M3))))))) : am_g 12 5 co_X12_goesOn d Q 158 [(2, 152), (0, v1)] [] sh_T M := by
  refine x_aload_n (by decide +kernel : am_at co_X12_goesOn 158 = some (1, .aload_n 0)) rfl ?_
  refine x_iconst (by decide +kernel : am_at co_X12_goesOn 159 = some (1, .iconst 3)) ?_
  refine x_callV (n := 2) (by decide +kernel : am_at co_X12_goesOn 160 = some (3, .invokevirtual 361)) pq_12_361 pm_X12_isOn rfl rfl rfl ob_152 h (x_k0 fun x1 M1 h => ?_)
  refine x_if (tgt := 174) (by decide +kernel : am_at co_X12_goesOn 163 = some (3, .ifCond .ne 11)) rfl Iff.rfl (fun c1 => ?_) (fun c1 => ?_)
  · have h := h.1 c1
    exact am_weak (lk (lk ln)) h
  · have c1 := (Classical.not_not.mp c1)
    have h := h.2 c1
    refine x_aload_n (by decide +kernel : am_at co_X12_goesOn 166 = some (1, .aload_n 0)) rfl ?_
    refine x_iconst (by decide +kernel : am_at co_X12_goesOn 167 = some (1, .iconst 4)) ?_
    refine x_callV (n := 2) (by decide +kernel : am_at co_X12_goesOn 168 = some (3, .invokevirtual 361)) pq_12_361 pm_X12_isOn rfl rfl rfl ob_152 h (x_k0 fun x3 M3 h => ?_)
    refine x_if (tgt := 181) (by decide +kernel : am_at co_X12_goesOn 171 = some (3, .ifCond .eq 10)) rfl Iff.rfl (fun c3 => ?_) (fun c3 => ?_)
    · have h := h.1 c3
      refine x_aload_n (by decide +kernel : am_at co_X12_goesOn 181 = some (1, .aload_n 0)) rfl ?_
      refine x_getF (by decide +kernel : am_at co_X12_goesOn 182 = some (3, .getfield 106)) pq_12_106 (by decide) rfl ob_152 ?_
      refine x_top2 (show 152 + 31 = 183 from rfl) ?_
      refine x_aload_n (by decide +kernel : am_at co_X12_goesOn 185 = some (1, .aload_n 0)) rfl ?_
      refine x_getf (by decide +kernel : am_at co_X12_goesOn 186 = some (3, .getfield 294)) pq_12_294 rfl ob_152 ?_
      refine x_iload_n (by decide +kernel : am_at co_X12_goesOn 189 = some (1, .iload_n 1)) rfl ?_
      obtain ⟨o4, h⟩ := h
      refine x_iast (by decide +kernel : am_at co_X12_goesOn 190 = some (1, .iastore)) (ow_183 o4.1 o4.2) ?_
      refine x_aload_n (by decide +kernel : am_at co_X12_goesOn 191 = some (1, .aload_n 0)) rfl ?_
      refine x_dup2' (by decide +kernel : am_at co_X12_goesOn 192 = some (1, .dup)) ?_
      refine x_getf (by decide +kernel : am_at co_X12_goesOn 193 = some (3, .getfield 294)) pq_12_294 rfl ob_152 ?_
      refine x_top0 (show (am_up M3 183 (M3 152 42) v1) 152 42 = M3 152 42 from by first | rfl | simp [am_up]) ?_
      refine x_iconst (by decide +kernel : am_at co_X12_goesOn 196 = some (1, .iconst 1)) ?_
      obtain ⟨o5, h⟩ := h
      refine x_iadd (by decide +kernel : am_at co_X12_goesOn 197 = some (1, .iadd)) o5 ?_
      refine x_putf0 (by decide +kernel : am_at co_X12_goesOn 198 = some (3, .putfield 294)) pq_12_294 rfl ob_152 ?_
      refine x_iconst (by decide +kernel : am_at co_X12_goesOn 201 = some (1, .iconst 1)) ?_
      exact x_zret (by decide +kernel : am_at co_X12_goesOn 202 = some (1, .ireturn)) (by decide) h
    · have c3 := c3
      have h := h.2 c3
      exact am_weak (lk (lk ln)) h
set_option maxRecDepth 20000 in
theorem bk_X12_goesOn_174 {d : Nat} {Q : am_Q} {M : am_M} {v1 : Int} (h : am_cal pg d 199 [(2, 152)] sh_T M (am_cv sh_T fun M1 => am_g 12 5 co_X12_goesOn d Q 158 [(2, 152), (0, v1)] [] sh_T M1)) : am_g 12 5 co_X12_goesOn d Q 174 [(2, 152), (0, v1)] [] sh_T M := by
  refine x_aload_n (by decide +kernel : am_at co_X12_goesOn 174 = some (1, .aload_n 0)) rfl ?_
  refine x_callV (n := 1) (by decide +kernel : am_at co_X12_goesOn 175 = some (3, .invokevirtual 349)) pq_12_349 pm_X12_drops rfl rfl rfl ob_152 h (x_kv fun M1 h => ?_)
  refine x_goto (tgt := 158) (by decide +kernel : am_at co_X12_goesOn 178 = some (3, .goto (-20))) rfl ?_
  exact am_weak (lk (lk ln)) h
set_option maxRecDepth 20000 in
theorem bk_X12_goesOn_221 {d : Nat} {Q : am_Q} {M : am_M} (h : am_r ((M 152 2) - 1) ∧ (0 ≤ (M 152 2) - 1 ∧ (M 152 2) - 1 < 1600) ∧ ((¬ M 153 ((M 152 2) - 1) = 43 → am_g 12 5 co_X12_goesOn d Q 243 [(2, 152), (0, 2)] [] sh_T M) ∧ (M 153 ((M 152 2) - 1) = 43 → am_g 12 5 co_X12_goesOn d Q 243 [(2, 152), (0, 1)] [] sh_T M))) : am_g 12 5 co_X12_goesOn d Q 221 [(2, 152), (3, 0)] [] sh_T M := by
  refine x_aload_n (by decide +kernel : am_at co_X12_goesOn 221 = some (1, .aload_n 0)) rfl ?_
  refine x_getF (by decide +kernel : am_at co_X12_goesOn 222 = some (3, .getfield 7)) pq_12_7 (by decide) rfl ob_152 ?_
  refine x_top2 (show 152 + 1 = 153 from rfl) ?_
  refine x_aload_n (by decide +kernel : am_at co_X12_goesOn 225 = some (1, .aload_n 0)) rfl ?_
  refine x_getf (by decide +kernel : am_at co_X12_goesOn 226 = some (3, .getfield 215)) pq_12_215 rfl ob_152 ?_
  refine x_iconst (by decide +kernel : am_at co_X12_goesOn 229 = some (1, .iconst 1)) ?_
  obtain ⟨o0, h⟩ := h
  refine x_isub (by decide +kernel : am_at co_X12_goesOn 230 = some (1, .isub)) o0 ?_
  obtain ⟨o1, h⟩ := h
  refine x_iald (by decide +kernel : am_at co_X12_goesOn 231 = some (1, .iaload)) (ia_153 o1.1 o1.2) ?_
  refine x_bipush (by decide +kernel : am_at co_X12_goesOn 232 = some (2, .bipush 43)) ?_
  refine x_icmp (tgt := 241) (by decide +kernel : am_at co_X12_goesOn 234 = some (3, .if_icmp .ne 7)) rfl Iff.rfl (fun c2 => ?_) (fun c2 => ?_)
  · have h := h.1 c2
    refine x_iconst (by decide +kernel : am_at co_X12_goesOn 241 = some (1, .iconst 2)) ?_
    refine x_istore_n (L' := [(2, 152), (0, 2)]) (by decide +kernel : am_at co_X12_goesOn 242 = some (1, .istore_n 1)) rfl ?_
    exact am_weak (lk (lk ln)) h
  · have c2 := (Classical.not_not.mp c2)
    have h := h.2 c2
    refine x_iconst (by decide +kernel : am_at co_X12_goesOn 237 = some (1, .iconst 1)) ?_
    refine x_goto (tgt := 242) (by decide +kernel : am_at co_X12_goesOn 238 = some (3, .goto 4)) rfl ?_
    refine x_istore_n (L' := [(2, 152), (0, 1)]) (by decide +kernel : am_at co_X12_goesOn 242 = some (1, .istore_n 1)) rfl ?_
    exact am_weak (lk (lk ln)) h
set_option maxRecDepth 20000 in
theorem bk_X12_goesOn_243 {d : Nat} {Q : am_Q} {M : am_M} {v1 : Int} (h : am_cal pg d 198 [(2, 152), (0, 3)] sh_T M (am_c0 sh_T fun x1 M1 => ((¬ x1 = 0 → am_g 12 5 co_X12_goesOn d Q 275 [(2, 152), (0, v1)] [] sh_T M1) ∧ (x1 = 0 → am_cal pg d 198 [(2, 152), (0, 4)] sh_T M1 (am_c0 sh_T fun x3 M3 => ((¬ x3 = 0 → am_g 12 5 co_X12_goesOn d Q 275 [(2, 152), (0, v1)] [] sh_T M3) ∧ (x3 = 0 → am_cal pg d 198 [(2, 152), (0, 1)] sh_T M3 (am_c0 sh_T fun x5 M5 => ((¬ x5 = 0 → am_g 12 5 co_X12_goesOn d Q 275 [(2, 152), (0, v1)] [] sh_T M5) ∧ (x5 = 0 → am_cal pg d 198 [(2, 152), (0, 2)] sh_T M5 (am_c0 sh_T fun x7 M7 => ((x7 = 0 → (0 ≤ M7 152 42 ∧ M7 152 42 < 1700) ∧ am_r ((M7 152 42) + 1) ∧ Q (some (0, 1), sh_T, (am_up (am_up M7 183 (M7 152 42) v1) 152 42 ((M7 152 42) + 1)))) ∧ (¬ x7 = 0 → am_g 12 5 co_X12_goesOn d Q 275 [(2, 152), (0, v1)] [] sh_T M7))))))))))))) : am_g 12 5 co_X12_goesOn d Q 243 [(2, 152), (0, v1)] [] sh_T M := by
  refine x_aload_n (by decide +kernel : am_at co_X12_goesOn 243 = some (1, .aload_n 0)) rfl ?_
  refine x_iconst (by decide +kernel : am_at co_X12_goesOn 244 = some (1, .iconst 3)) ?_
  refine x_callV (n := 2) (by decide +kernel : am_at co_X12_goesOn 245 = some (3, .invokevirtual 361)) pq_12_361 pm_X12_isOn rfl rfl rfl ob_152 h (x_k0 fun x1 M1 h => ?_)
  refine x_if (tgt := 275) (by decide +kernel : am_at co_X12_goesOn 248 = some (3, .ifCond .ne 27)) rfl Iff.rfl (fun c1 => ?_) (fun c1 => ?_)
  · have h := h.1 c1
    exact am_weak (lk (lk ln)) h
  · have c1 := (Classical.not_not.mp c1)
    have h := h.2 c1
    refine x_aload_n (by decide +kernel : am_at co_X12_goesOn 251 = some (1, .aload_n 0)) rfl ?_
    refine x_iconst (by decide +kernel : am_at co_X12_goesOn 252 = some (1, .iconst 4)) ?_
    refine x_callV (n := 2) (by decide +kernel : am_at co_X12_goesOn 253 = some (3, .invokevirtual 361)) pq_12_361 pm_X12_isOn rfl rfl rfl ob_152 h (x_k0 fun x3 M3 h => ?_)
    refine x_if (tgt := 275) (by decide +kernel : am_at co_X12_goesOn 256 = some (3, .ifCond .ne 19)) rfl Iff.rfl (fun c3 => ?_) (fun c3 => ?_)
    · have h := h.1 c3
      exact am_weak (lk (lk ln)) h
    · have c3 := (Classical.not_not.mp c3)
      have h := h.2 c3
      refine x_aload_n (by decide +kernel : am_at co_X12_goesOn 259 = some (1, .aload_n 0)) rfl ?_
      refine x_iconst (by decide +kernel : am_at co_X12_goesOn 260 = some (1, .iconst 1)) ?_
      refine x_callV (n := 2) (by decide +kernel : am_at co_X12_goesOn 261 = some (3, .invokevirtual 361)) pq_12_361 pm_X12_isOn rfl rfl rfl ob_152 h (x_k0 fun x5 M5 h => ?_)
      refine x_if (tgt := 275) (by decide +kernel : am_at co_X12_goesOn 264 = some (3, .ifCond .ne 11)) rfl Iff.rfl (fun c5 => ?_) (fun c5 => ?_)
      · have h := h.1 c5
        exact am_weak (lk (lk ln)) h
      · have c5 := (Classical.not_not.mp c5)
        have h := h.2 c5
        refine x_aload_n (by decide +kernel : am_at co_X12_goesOn 267 = some (1, .aload_n 0)) rfl ?_
        refine x_iconst (by decide +kernel : am_at co_X12_goesOn 268 = some (1, .iconst 2)) ?_
        refine x_callV (n := 2) (by decide +kernel : am_at co_X12_goesOn 269 = some (3, .invokevirtual 361)) pq_12_361 pm_X12_isOn rfl rfl rfl ob_152 h (x_k0 fun x7 M7 h => ?_)
        refine x_if (tgt := 282) (by decide +kernel : am_at co_X12_goesOn 272 = some (3, .ifCond .eq 10)) rfl Iff.rfl (fun c7 => ?_) (fun c7 => ?_)
        · have h := h.1 c7
          refine x_aload_n (by decide +kernel : am_at co_X12_goesOn 282 = some (1, .aload_n 0)) rfl ?_
          refine x_getF (by decide +kernel : am_at co_X12_goesOn 283 = some (3, .getfield 106)) pq_12_106 (by decide) rfl ob_152 ?_
          refine x_top2 (show 152 + 31 = 183 from rfl) ?_
          refine x_aload_n (by decide +kernel : am_at co_X12_goesOn 286 = some (1, .aload_n 0)) rfl ?_
          refine x_getf (by decide +kernel : am_at co_X12_goesOn 287 = some (3, .getfield 294)) pq_12_294 rfl ob_152 ?_
          refine x_iload_n (by decide +kernel : am_at co_X12_goesOn 290 = some (1, .iload_n 1)) rfl ?_
          obtain ⟨o8, h⟩ := h
          refine x_iast (by decide +kernel : am_at co_X12_goesOn 291 = some (1, .iastore)) (ow_183 o8.1 o8.2) ?_
          refine x_aload_n (by decide +kernel : am_at co_X12_goesOn 292 = some (1, .aload_n 0)) rfl ?_
          refine x_dup2' (by decide +kernel : am_at co_X12_goesOn 293 = some (1, .dup)) ?_
          refine x_getf (by decide +kernel : am_at co_X12_goesOn 294 = some (3, .getfield 294)) pq_12_294 rfl ob_152 ?_
          refine x_top0 (show (am_up M7 183 (M7 152 42) v1) 152 42 = M7 152 42 from by first | rfl | simp [am_up]) ?_
          refine x_iconst (by decide +kernel : am_at co_X12_goesOn 297 = some (1, .iconst 1)) ?_
          obtain ⟨o9, h⟩ := h
          refine x_iadd (by decide +kernel : am_at co_X12_goesOn 298 = some (1, .iadd)) o9 ?_
          refine x_putf0 (by decide +kernel : am_at co_X12_goesOn 299 = some (3, .putfield 294)) pq_12_294 rfl ob_152 ?_
          refine x_iconst (by decide +kernel : am_at co_X12_goesOn 302 = some (1, .iconst 1)) ?_
          exact x_zret (by decide +kernel : am_at co_X12_goesOn 303 = some (1, .ireturn)) (by decide) h
        · have c7 := c7
          have h := h.2 c7
          exact am_weak (lk (lk ln)) h
set_option maxRecDepth 20000 in
theorem bk_X12_goesOn_275 {d : Nat} {Q : am_Q} {M : am_M} {v1 : Int} (h : am_cal pg d 199 [(2, 152)] sh_T M (am_cv sh_T fun M1 => am_g 12 5 co_X12_goesOn d Q 243 [(2, 152), (0, v1)] [] sh_T M1)) : am_g 12 5 co_X12_goesOn d Q 275 [(2, 152), (0, v1)] [] sh_T M := by
  refine x_aload_n (by decide +kernel : am_at co_X12_goesOn 275 = some (1, .aload_n 0)) rfl ?_
  refine x_callV (n := 1) (by decide +kernel : am_at co_X12_goesOn 276 = some (3, .invokevirtual 349)) pq_12_349 pm_X12_drops rfl rfl rfl ob_152 h (x_kv fun M1 h => ?_)
  refine x_goto (tgt := 243) (by decide +kernel : am_at co_X12_goesOn 279 = some (3, .goto (-36))) rfl ?_
  exact am_weak (lk (lk ln)) h
set_option maxRecDepth 20000 in
theorem bk_X12_goesOn_322 {d : Nat} {Q : am_Q} {M : am_M} (h : am_cal pg d 180 [(2, 152), (0, 44)] sh_T M (am_cv sh_T fun M1 => ((M1 152 5 = 0 → am_cal pg d 202 [(2, 152)] sh_T M1 (am_cv sh_T fun M3 => am_r ((M3 152 42) - 1) ∧ (0 ≤ (M3 152 42) - 1 ∧ (M3 152 42) - 1 < 1700) ∧ am_r ((M3 183 ((M3 152 42) - 1)) + 2) ∧ Q (some (0, 1), sh_T, (am_up M3 183 ((M3 152 42) - 1) ((M3 183 ((M3 152 42) - 1)) + 2))))) ∧ (¬ M1 152 5 = 0 → Q (some (0, 0), sh_T, M1))))) : am_g 12 5 co_X12_goesOn d Q 322 [(2, 152), (3, 0)] [] sh_T M := by
  refine x_aload_n (by decide +kernel : am_at co_X12_goesOn 322 = some (1, .aload_n 0)) rfl ?_
  refine x_bipush (by decide +kernel : am_at co_X12_goesOn 323 = some (2, .bipush 44)) ?_
  refine x_callV (n := 2) (by decide +kernel : am_at co_X12_goesOn 325 = some (3, .invokevirtual 325)) pq_12_325 pm_X12_asksSign rfl rfl rfl ob_152 h (x_kv fun M1 h => ?_)
  refine x_aload_n (by decide +kernel : am_at co_X12_goesOn 328 = some (1, .aload_n 0)) rfl ?_
  refine x_getf (by decide +kernel : am_at co_X12_goesOn 329 = some (3, .getfield 209)) pq_12_209 rfl ob_152 ?_
  refine x_if (tgt := 337) (by decide +kernel : am_at co_X12_goesOn 332 = some (3, .ifCond .eq 5)) rfl Iff.rfl (fun c1 => ?_) (fun c1 => ?_)
  · have h := h.1 c1
    refine x_aload_n (by decide +kernel : am_at co_X12_goesOn 337 = some (1, .aload_n 0)) rfl ?_
    refine x_callV (n := 1) (by decide +kernel : am_at co_X12_goesOn 338 = some (3, .invokevirtual 358)) pq_12_358 pm_X12_dropsToMark rfl rfl rfl ob_152 h (x_kv fun M3 h => ?_)
    refine x_aload_n (by decide +kernel : am_at co_X12_goesOn 341 = some (1, .aload_n 0)) rfl ?_
    refine x_getF (by decide +kernel : am_at co_X12_goesOn 342 = some (3, .getfield 106)) pq_12_106 (by decide) rfl ob_152 ?_
    refine x_top2 (show 152 + 31 = 183 from rfl) ?_
    refine x_aload_n (by decide +kernel : am_at co_X12_goesOn 345 = some (1, .aload_n 0)) rfl ?_
    refine x_getf (by decide +kernel : am_at co_X12_goesOn 346 = some (3, .getfield 294)) pq_12_294 rfl ob_152 ?_
    refine x_iconst (by decide +kernel : am_at co_X12_goesOn 349 = some (1, .iconst 1)) ?_
    obtain ⟨o3, h⟩ := h
    refine x_isub (by decide +kernel : am_at co_X12_goesOn 350 = some (1, .isub)) o3 ?_
    refine x_dup2 (by decide +kernel : am_at co_X12_goesOn 351 = some (1, .dup2)) ?_
    obtain ⟨o4, h⟩ := h
    refine x_iald (by decide +kernel : am_at co_X12_goesOn 352 = some (1, .iaload)) (ia_183 o4.1 o4.2) ?_
    refine x_iconst (by decide +kernel : am_at co_X12_goesOn 353 = some (1, .iconst 2)) ?_
    obtain ⟨o5, h⟩ := h
    refine x_iadd (by decide +kernel : am_at co_X12_goesOn 354 = some (1, .iadd)) o5 ?_
    refine x_iast (by decide +kernel : am_at co_X12_goesOn 355 = some (1, .iastore)) (ow_183 o4.1 o4.2) ?_
    refine x_iconst (by decide +kernel : am_at co_X12_goesOn 356 = some (1, .iconst 1)) ?_
    exact x_zret (by decide +kernel : am_at co_X12_goesOn 357 = some (1, .ireturn)) (by decide) h
  · have c1 := c1
    have h := h.2 c1
    refine x_iconst (by decide +kernel : am_at co_X12_goesOn 335 = some (1, .iconst 0)) ?_
    exact x_zret (by decide +kernel : am_at co_X12_goesOn 336 = some (1, .ireturn)) (by decide) h
set_option maxRecDepth 20000 in
theorem bk_X12_goesOn_382 {d : Nat} {Q : am_Q} {M : am_M} (h : Q (some (0, 0), sh_T, M)) : am_g 12 5 co_X12_goesOn d Q 382 [(3, 0), (3, 0)] [] sh_T M := by
  refine x_iconst (by decide +kernel : am_at co_X12_goesOn 382 = some (1, .iconst 0)) ?_
  exact x_zret (by decide +kernel : am_at co_X12_goesOn 383 = some (1, .ireturn)) (by decide) h
set_option maxRecDepth 20000 in
theorem bk_X12_sumsTold_0 {d : Nat} {Q : am_Q} {M : am_M} (h : am_g 12 9 co_X12_sumsTold d Q 15 [(2, 152), (0, M 152 44), (0, 1)] [] sh_T (am_up M 152 44 (M 152 42))) : am_g 12 9 co_X12_sumsTold d Q 0 [(2, 152), (3, 0), (3, 0)] [] sh_T M := by
  refine x_aload_n (by decide +kernel : am_at co_X12_sumsTold 0 = some (1, .aload_n 0)) rfl ?_
  refine x_getf (by decide +kernel : am_at co_X12_sumsTold 1 = some (3, .getfield 300)) pq_12_300 rfl ob_152 ?_
  refine x_istore_n (L' := [(2, 152), (0, M 152 44), (3, 0)]) (by decide +kernel : am_at co_X12_sumsTold 4 = some (1, .istore_n 1)) rfl ?_
  refine x_aload_n (by decide +kernel : am_at co_X12_sumsTold 5 = some (1, .aload_n 0)) rfl ?_
  refine x_aload_n (by decide +kernel : am_at co_X12_sumsTold 6 = some (1, .aload_n 0)) rfl ?_
  refine x_getf (by decide +kernel : am_at co_X12_sumsTold 7 = some (3, .getfield 294)) pq_12_294 rfl ob_152 ?_
  refine x_putf0 (by decide +kernel : am_at co_X12_sumsTold 10 = some (3, .putfield 300)) pq_12_300 rfl ob_152 ?_
  refine x_iconst (by decide +kernel : am_at co_X12_sumsTold 13 = some (1, .iconst 1)) ?_
  refine x_istore_n (L' := [(2, 152), (0, M 152 44), (0, 1)]) (by decide +kernel : am_at co_X12_sumsTold 14 = some (1, .istore_n 2)) rfl ?_
  exact am_weak (lk (lk (lk ln))) h
set_option maxRecDepth 20000 in
theorem bk_X12_sumsTold_15 {d : Nat} {Q : am_Q} {M : am_M} {v1 v2 : Int} (h : ((v2 = 0 → am_g 12 9 co_X12_sumsTold d Q 53 [(2, 152), (0, v1), (3, 0)] [] sh_T M) ∧ (¬ v2 = 0 → ((¬ M 152 5 = 0 → am_g 12 9 co_X12_sumsTold d Q 53 [(2, 152), (0, v1), (3, 0)] [] sh_T M) ∧ (M 152 5 = 0 → am_cal pg d 203 [(2, 152)] sh_T M (am_cv sh_T fun M3 => ((¬ M3 152 5 = 0 → am_g 12 9 co_X12_sumsTold d Q 15 [(2, 152), (0, v1), (0, 0)] [] sh_T M3) ∧ (M3 152 5 = 0 → am_cal pg d 204 [(2, 152)] sh_T M3 (am_c0 sh_T fun x5 M5 => ((x5 = 0 → am_g 12 9 co_X12_sumsTold d Q 15 [(2, 152), (0, v1), (0, 0)] [] sh_T M5) ∧ (¬ x5 = 0 → am_g 12 9 co_X12_sumsTold d Q 15 [(2, 152), (0, v1), (0, 1)] [] sh_T M5))))))))))) : am_g 12 9 co_X12_sumsTold d Q 15 [(2, 152), (0, v1), (0, v2)] [] sh_T M := by
  refine x_iload_n (by decide +kernel : am_at co_X12_sumsTold 15 = some (1, .iload_n 2)) rfl ?_
  refine x_if (tgt := 53) (by decide +kernel : am_at co_X12_sumsTold 16 = some (3, .ifCond .eq 37)) rfl Iff.rfl (fun c0 => ?_) (fun c0 => ?_)
  · have h := h.1 c0
    exact am_weak (lk (lk (ld ln))) h
  · have c0 := c0
    have h := h.2 c0
    refine x_aload_n (by decide +kernel : am_at co_X12_sumsTold 19 = some (1, .aload_n 0)) rfl ?_
    refine x_getf (by decide +kernel : am_at co_X12_sumsTold 20 = some (3, .getfield 209)) pq_12_209 rfl ob_152 ?_
    refine x_if (tgt := 53) (by decide +kernel : am_at co_X12_sumsTold 23 = some (3, .ifCond .ne 30)) rfl Iff.rfl (fun c1 => ?_) (fun c1 => ?_)
    · have h := h.1 c1
      exact am_weak (lk (lk (ld ln))) h
    · have c1 := (Classical.not_not.mp c1)
      have h := h.2 c1
      refine x_aload_n (by decide +kernel : am_at co_X12_sumsTold 26 = some (1, .aload_n 0)) rfl ?_
      refine x_callV (n := 1) (by decide +kernel : am_at co_X12_sumsTold 27 = some (3, .invokevirtual 364)) pq_12_364 pm_X12_onePart rfl rfl rfl ob_152 h (x_kv fun M3 h => ?_)
      refine x_aload_n (by decide +kernel : am_at co_X12_sumsTold 30 = some (1, .aload_n 0)) rfl ?_
      refine x_getf (by decide +kernel : am_at co_X12_sumsTold 31 = some (3, .getfield 209)) pq_12_209 rfl ob_152 ?_
      refine x_if (tgt := 48) (by decide +kernel : am_at co_X12_sumsTold 34 = some (3, .ifCond .ne 14)) rfl Iff.rfl (fun c3 => ?_) (fun c3 => ?_)
      · have h := h.1 c3
        refine x_iconst (by decide +kernel : am_at co_X12_sumsTold 48 = some (1, .iconst 0)) ?_
        refine x_istore_n (L' := [(2, 152), (0, v1), (0, 0)]) (by decide +kernel : am_at co_X12_sumsTold 49 = some (1, .istore_n 2)) rfl ?_
        refine x_goto (tgt := 15) (by decide +kernel : am_at co_X12_sumsTold 50 = some (3, .goto (-35))) rfl ?_
        exact am_weak (lk (lk (lk ln))) h
      · have c3 := (Classical.not_not.mp c3)
        have h := h.2 c3
        refine x_aload_n (by decide +kernel : am_at co_X12_sumsTold 37 = some (1, .aload_n 0)) rfl ?_
        refine x_callV (n := 1) (by decide +kernel : am_at co_X12_sumsTold 38 = some (3, .invokevirtual 367)) pq_12_367 pm_X12_goesOn rfl rfl rfl ob_152 h (x_k0 fun x5 M5 h => ?_)
        refine x_if (tgt := 48) (by decide +kernel : am_at co_X12_sumsTold 41 = some (3, .ifCond .eq 7)) rfl Iff.rfl (fun c5 => ?_) (fun c5 => ?_)
        · have h := h.1 c5
          refine x_iconst (by decide +kernel : am_at co_X12_sumsTold 48 = some (1, .iconst 0)) ?_
          refine x_istore_n (L' := [(2, 152), (0, v1), (0, 0)]) (by decide +kernel : am_at co_X12_sumsTold 49 = some (1, .istore_n 2)) rfl ?_
          refine x_goto (tgt := 15) (by decide +kernel : am_at co_X12_sumsTold 50 = some (3, .goto (-35))) rfl ?_
          exact am_weak (lk (lk (lk ln))) h
        · have c5 := c5
          have h := h.2 c5
          refine x_iconst (by decide +kernel : am_at co_X12_sumsTold 44 = some (1, .iconst 1)) ?_
          refine x_goto (tgt := 49) (by decide +kernel : am_at co_X12_sumsTold 45 = some (3, .goto 4)) rfl ?_
          refine x_istore_n (L' := [(2, 152), (0, v1), (0, 1)]) (by decide +kernel : am_at co_X12_sumsTold 49 = some (1, .istore_n 2)) rfl ?_
          refine x_goto (tgt := 15) (by decide +kernel : am_at co_X12_sumsTold 50 = some (3, .goto (-35))) rfl ?_
          exact am_weak (lk (lk (lk ln))) h
set_option maxRecDepth 20000 in
theorem bk_X12_sumsTold_53 {d : Nat} {Q : am_Q} {M : am_M} {v1 : Int} (h : ((¬ M 152 5 = 0 → Q (none, sh_T, (am_up M 152 44 v1))) ∧ (M 152 5 = 0 → ((M 152 42 ≤ M 152 44 → Q (none, sh_T, (am_up M 152 44 v1))) ∧ (M 152 44 < M 152 42 → am_cal pg d 199 [(2, 152)] sh_T M (am_cv sh_T fun M3 => am_g 12 9 co_X12_sumsTold d Q 53 [(2, 152), (0, v1), (3, 0)] [] sh_T M3)))))) : am_g 12 9 co_X12_sumsTold d Q 53 [(2, 152), (0, v1), (3, 0)] [] sh_T M := by
  refine x_aload_n (by decide +kernel : am_at co_X12_sumsTold 53 = some (1, .aload_n 0)) rfl ?_
  refine x_getf (by decide +kernel : am_at co_X12_sumsTold 54 = some (3, .getfield 209)) pq_12_209 rfl ob_152 ?_
  refine x_if (tgt := 78) (by decide +kernel : am_at co_X12_sumsTold 57 = some (3, .ifCond .ne 21)) rfl Iff.rfl (fun c0 => ?_) (fun c0 => ?_)
  · have h := h.1 c0
    refine x_aload_n (by decide +kernel : am_at co_X12_sumsTold 78 = some (1, .aload_n 0)) rfl ?_
    refine x_iload_n (by decide +kernel : am_at co_X12_sumsTold 79 = some (1, .iload_n 1)) rfl ?_
    refine x_putf0 (by decide +kernel : am_at co_X12_sumsTold 80 = some (3, .putfield 300)) pq_12_300 rfl ob_152 ?_
    exact x_vret (by decide +kernel : am_at co_X12_sumsTold 83 = some (1, .return_)) h
  · have c0 := (Classical.not_not.mp c0)
    have h := h.2 c0
    refine x_aload_n (by decide +kernel : am_at co_X12_sumsTold 60 = some (1, .aload_n 0)) rfl ?_
    refine x_getf (by decide +kernel : am_at co_X12_sumsTold 61 = some (3, .getfield 294)) pq_12_294 rfl ob_152 ?_
    refine x_aload_n (by decide +kernel : am_at co_X12_sumsTold 64 = some (1, .aload_n 0)) rfl ?_
    refine x_getf (by decide +kernel : am_at co_X12_sumsTold 65 = some (3, .getfield 300)) pq_12_300 rfl ob_152 ?_
    refine x_icmp (tgt := 78) (by decide +kernel : am_at co_X12_sumsTold 68 = some (3, .if_icmp .le 10)) rfl Iff.rfl (fun c1 => ?_) (fun c1 => ?_)
    · have h := h.1 c1
      refine x_aload_n (by decide +kernel : am_at co_X12_sumsTold 78 = some (1, .aload_n 0)) rfl ?_
      refine x_iload_n (by decide +kernel : am_at co_X12_sumsTold 79 = some (1, .iload_n 1)) rfl ?_
      refine x_putf0 (by decide +kernel : am_at co_X12_sumsTold 80 = some (3, .putfield 300)) pq_12_300 rfl ob_152 ?_
      exact x_vret (by decide +kernel : am_at co_X12_sumsTold 83 = some (1, .return_)) h
    · have c1 := (Int.not_le.mp c1)
      have h := h.2 c1
      refine x_aload_n (by decide +kernel : am_at co_X12_sumsTold 71 = some (1, .aload_n 0)) rfl ?_
      refine x_callV (n := 1) (by decide +kernel : am_at co_X12_sumsTold 72 = some (3, .invokevirtual 349)) pq_12_349 pm_X12_drops rfl rfl rfl ob_152 h (x_kv fun M3 h => ?_)
      refine x_goto (tgt := 53) (by decide +kernel : am_at co_X12_sumsTold 75 = some (3, .goto (-22))) rfl ?_
      exact am_weak (lk (lk (lk ln))) h
set_option maxRecDepth 20000 in
theorem bk_X12_fault_0 {d : Nat} {Q : am_Q} {M : am_M} {v1 : Int} (h : ((¬ v1 = 0 → ((¬ v1 = 1 → Q (some (0, (-1)), sh_T, M)) ∧ (v1 = 1 → Q (some (0, M 152 8), sh_T, M)))) ∧ (v1 = 0 → Q (some (0, M 152 7), sh_T, M)))) : am_g 12 0 co_X12_fault d Q 0 [(2, 152), (0, v1)] [] sh_T M := by
  refine x_iload_n (by decide +kernel : am_at co_X12_fault 0 = some (1, .iload_n 1)) rfl ?_
  refine x_if (tgt := 11) (by decide +kernel : am_at co_X12_fault 1 = some (3, .ifCond .ne 10)) rfl Iff.rfl (fun c0 => ?_) (fun c0 => ?_)
  · have h := h.1 c0
    refine x_iload_n (by decide +kernel : am_at co_X12_fault 11 = some (1, .iload_n 1)) rfl ?_
    refine x_iconst (by decide +kernel : am_at co_X12_fault 12 = some (1, .iconst 1)) ?_
    refine x_icmp (tgt := 23) (by decide +kernel : am_at co_X12_fault 13 = some (3, .if_icmp .ne 10)) rfl Iff.rfl (fun c1 => ?_) (fun c1 => ?_)
    · have h := h.1 c1
      refine x_iconst (by decide +kernel : am_at co_X12_fault 23 = some (1, .iconst (-1))) ?_
      exact x_iret (by decide +kernel : am_at co_X12_fault 24 = some (1, .ireturn)) h
    · have c1 := (Classical.not_not.mp c1)
      have h := h.2 c1
      refine x_aload_n (by decide +kernel : am_at co_X12_fault 16 = some (1, .aload_n 0)) rfl ?_
      refine x_getf (by decide +kernel : am_at co_X12_fault 17 = some (3, .getfield 13)) pq_12_13 rfl ob_152 ?_
      refine x_goto (tgt := 24) (by decide +kernel : am_at co_X12_fault 20 = some (3, .goto 4)) rfl ?_
      exact x_iret (by decide +kernel : am_at co_X12_fault 24 = some (1, .ireturn)) h
  · have c0 := (Classical.not_not.mp c0)
    have h := h.2 c0
    refine x_aload_n (by decide +kernel : am_at co_X12_fault 4 = some (1, .aload_n 0)) rfl ?_
    refine x_getf (by decide +kernel : am_at co_X12_fault 5 = some (3, .getfield 331)) pq_12_331 rfl ob_152 ?_
    refine x_goto (tgt := 24) (by decide +kernel : am_at co_X12_fault 8 = some (3, .goto 16)) rfl ?_
    exact x_iret (by decide +kernel : am_at co_X12_fault 24 = some (1, .ireturn)) h
set_option maxRecDepth 20000 in
theorem bk_X12_clip_0 {d : Nat} {Q : am_Q} {M : am_M} {v0 : Int} (h : ((v0 ≤ 1000000 → (((-1000000) ≤ v0 → Q (some (1, v0), sh_T, M)) ∧ (v0 < (-1000000) → Q (some (1, (-1000000)), sh_T, M)))) ∧ (1000000 < v0 → Q (some (1, 1000000), sh_T, M)))) : am_g 12 1 co_X12_clip d Q 0 [(1, v0), (3, 0)] [] sh_T M := by
  refine x_lload_n (by decide +kernel : am_at co_X12_clip 0 = some (1, .lload_n 0)) rfl ?_
  refine x_ldc2 (by decide +kernel : am_at co_X12_clip 1 = some (3, .ldc2_w 370)) pq_12_370 ?_
  refine x_lif (tgt := 14) (by decide +kernel : am_at co_X12_clip 4 = some (1, .lcmp)) (by decide +kernel : am_at co_X12_clip 5 = some (3, .ifCond .le 9)) rfl Iff.rfl (fun c0 => ?_) (fun c0 => ?_)
  · have h := h.1 c0
    refine x_lload_n (by decide +kernel : am_at co_X12_clip 14 = some (1, .lload_n 0)) rfl ?_
    refine x_ldc2 (by decide +kernel : am_at co_X12_clip 15 = some (3, .ldc2_w 372)) pq_12_372 ?_
    refine x_lif (tgt := 28) (by decide +kernel : am_at co_X12_clip 18 = some (1, .lcmp)) (by decide +kernel : am_at co_X12_clip 19 = some (3, .ifCond .ge 9)) rfl Iff.rfl (fun c1 => ?_) (fun c1 => ?_)
    · have h := h.1 c1
      refine x_lload_n (by decide +kernel : am_at co_X12_clip 28 = some (1, .lload_n 0)) rfl ?_
      exact x_lret (by decide +kernel : am_at co_X12_clip 29 = some (1, .lreturn)) h
    · have c1 := (Int.not_le.mp c1)
      have h := h.2 c1
      refine x_ldc2 (by decide +kernel : am_at co_X12_clip 22 = some (3, .ldc2_w 372)) pq_12_372 ?_
      refine x_goto (tgt := 29) (by decide +kernel : am_at co_X12_clip 25 = some (3, .goto 4)) rfl ?_
      exact x_lret (by decide +kernel : am_at co_X12_clip 29 = some (1, .lreturn)) h
  · have c0 := (Int.not_le.mp c0)
    have h := h.2 c0
    refine x_ldc2 (by decide +kernel : am_at co_X12_clip 8 = some (3, .ldc2_w 370)) pq_12_370 ?_
    refine x_goto (tgt := 29) (by decide +kernel : am_at co_X12_clip 11 = some (3, .goto 18)) rfl ?_
    exact x_lret (by decide +kernel : am_at co_X12_clip 29 = some (1, .lreturn)) h
set_option maxRecDepth 20000 in
theorem bk_X12_floor_0 {d : Nat} {Q : am_Q} {M : am_M} {v0 v2 : Int} (h : ((¬ v2 = 0 → ¬ v2 = 0 ∧ am_rl (v0.tdiv v2) ∧ ¬ v2 = 0 ∧ ((v0.tmod v2 = 0 → Q (some (1, v0.tdiv v2), sh_T, M)) ∧ (¬ v0.tmod v2 = 0 → ((0 ≤ v0 → ((0 ≤ v2 → Q (some (1, v0.tdiv v2), sh_T, M)) ∧ (v2 < 0 → am_rl ((v0.tdiv v2) - 1) ∧ Q (some (1, (v0.tdiv v2) - 1), sh_T, M)))) ∧ (v0 < 0 → ((0 ≤ v2 → am_rl ((v0.tdiv v2) - 1) ∧ Q (some (1, (v0.tdiv v2) - 1), sh_T, M)) ∧ (v2 < 0 → Q (some (1, v0.tdiv v2), sh_T, M)))))))) ∧ (v2 = 0 → Q (some (1, 0), sh_T, M)))) : am_g 12 1 co_X12_floor d Q 0 [(1, v0), (3, 0), (1, v2), (3, 0), (3, 0), (3, 0)] [] sh_T M := by
  refine x_lload_n (by decide +kernel : am_at co_X12_floor 0 = some (1, .lload_n 2)) rfl ?_
  refine x_lconst (by decide +kernel : am_at co_X12_floor 1 = some (1, .lconst 0)) ?_
  refine x_lif (tgt := 8) (by decide +kernel : am_at co_X12_floor 2 = some (1, .lcmp)) (by decide +kernel : am_at co_X12_floor 3 = some (3, .ifCond .ne 5)) rfl Iff.rfl (fun c0 => ?_) (fun c0 => ?_)
  · have h := h.1 c0
    refine x_lload_n (by decide +kernel : am_at co_X12_floor 8 = some (1, .lload_n 0)) rfl ?_
    refine x_lload_n (by decide +kernel : am_at co_X12_floor 9 = some (1, .lload_n 2)) rfl ?_
    obtain ⟨o1, h⟩ := h
    obtain ⟨o2, h⟩ := h
    refine x_ldiv (by decide +kernel : am_at co_X12_floor 10 = some (1, .ldiv)) o1 o2 ?_
    refine x_lstore (L' := [(1, v0), (3, 0), (1, v2), (3, 0), (1, v0.tdiv v2), (3, 0)]) (by decide +kernel : am_at co_X12_floor 11 = some (2, .lstore 4)) rfl ?_
    refine x_lload_n (by decide +kernel : am_at co_X12_floor 13 = some (1, .lload_n 0)) rfl ?_
    refine x_lload_n (by decide +kernel : am_at co_X12_floor 14 = some (1, .lload_n 2)) rfl ?_
    obtain ⟨o3, h⟩ := h
    refine x_lrem (by decide +kernel : am_at co_X12_floor 15 = some (1, .lrem)) o3 ?_
    refine x_lconst (by decide +kernel : am_at co_X12_floor 16 = some (1, .lconst 0)) ?_
    refine x_lif (tgt := 53) (by decide +kernel : am_at co_X12_floor 17 = some (1, .lcmp)) (by decide +kernel : am_at co_X12_floor 18 = some (3, .ifCond .eq 35)) rfl Iff.rfl (fun c4 => ?_) (fun c4 => ?_)
    · have h := h.1 c4
      refine x_lload (by decide +kernel : am_at co_X12_floor 53 = some (2, .lload 4)) rfl ?_
      exact x_lret (by decide +kernel : am_at co_X12_floor 55 = some (1, .lreturn)) h
    · have c4 := c4
      have h := h.2 c4
      refine x_lload_n (by decide +kernel : am_at co_X12_floor 21 = some (1, .lload_n 0)) rfl ?_
      refine x_lconst (by decide +kernel : am_at co_X12_floor 22 = some (1, .lconst 0)) ?_
      refine x_lif (tgt := 31) (by decide +kernel : am_at co_X12_floor 23 = some (1, .lcmp)) (by decide +kernel : am_at co_X12_floor 24 = some (3, .ifCond .ge 7)) rfl Iff.rfl (fun c5 => ?_) (fun c5 => ?_)
      · have h := h.1 c5
        refine x_iconst (by decide +kernel : am_at co_X12_floor 31 = some (1, .iconst 0)) ?_
        refine x_lload_n (by decide +kernel : am_at co_X12_floor 32 = some (1, .lload_n 2)) rfl ?_
        refine x_lconst (by decide +kernel : am_at co_X12_floor 33 = some (1, .lconst 0)) ?_
        refine x_lif (tgt := 42) (by decide +kernel : am_at co_X12_floor 34 = some (1, .lcmp)) (by decide +kernel : am_at co_X12_floor 35 = some (3, .ifCond .ge 7)) rfl Iff.rfl (fun c6 => ?_) (fun c6 => ?_)
        · have h := h.1 c6
          refine x_iconst (by decide +kernel : am_at co_X12_floor 42 = some (1, .iconst 0)) ?_
          refine x_icmp (tgt := 53) (by decide +kernel : am_at co_X12_floor 43 = some (3, .if_icmp .eq 10)) rfl Iff.rfl (fun q => ?_) (fun q => absurd (show (0 : Int) = (0 : Int) by decide) q)
          refine x_lload (by decide +kernel : am_at co_X12_floor 53 = some (2, .lload 4)) rfl ?_
          exact x_lret (by decide +kernel : am_at co_X12_floor 55 = some (1, .lreturn)) h
        · have c6 := (Int.not_le.mp c6)
          have h := h.2 c6
          refine x_iconst (by decide +kernel : am_at co_X12_floor 38 = some (1, .iconst 1)) ?_
          refine x_goto (tgt := 43) (by decide +kernel : am_at co_X12_floor 39 = some (3, .goto 4)) rfl ?_
          refine x_icmp (tgt := 53) (by decide +kernel : am_at co_X12_floor 43 = some (3, .if_icmp .eq 10)) rfl Iff.rfl (fun q => absurd q (show ¬ ((0 : Int) = (1 : Int)) by decide)) (fun q => ?_)
          refine x_lload (by decide +kernel : am_at co_X12_floor 46 = some (2, .lload 4)) rfl ?_
          refine x_lconst (by decide +kernel : am_at co_X12_floor 48 = some (1, .lconst 1)) ?_
          obtain ⟨o7, h⟩ := h
          refine x_lsub (by decide +kernel : am_at co_X12_floor 49 = some (1, .lsub)) o7 ?_
          refine x_goto (tgt := 55) (by decide +kernel : am_at co_X12_floor 50 = some (3, .goto 5)) rfl ?_
          exact x_lret (by decide +kernel : am_at co_X12_floor 55 = some (1, .lreturn)) h
      · have c5 := (Int.not_le.mp c5)
        have h := h.2 c5
        refine x_iconst (by decide +kernel : am_at co_X12_floor 27 = some (1, .iconst 1)) ?_
        refine x_goto (tgt := 32) (by decide +kernel : am_at co_X12_floor 28 = some (3, .goto 4)) rfl ?_
        refine x_lload_n (by decide +kernel : am_at co_X12_floor 32 = some (1, .lload_n 2)) rfl ?_
        refine x_lconst (by decide +kernel : am_at co_X12_floor 33 = some (1, .lconst 0)) ?_
        refine x_lif (tgt := 42) (by decide +kernel : am_at co_X12_floor 34 = some (1, .lcmp)) (by decide +kernel : am_at co_X12_floor 35 = some (3, .ifCond .ge 7)) rfl Iff.rfl (fun c8 => ?_) (fun c8 => ?_)
        · have h := h.1 c8
          refine x_iconst (by decide +kernel : am_at co_X12_floor 42 = some (1, .iconst 0)) ?_
          refine x_icmp (tgt := 53) (by decide +kernel : am_at co_X12_floor 43 = some (3, .if_icmp .eq 10)) rfl Iff.rfl (fun q => absurd q (show ¬ ((1 : Int) = (0 : Int)) by decide)) (fun q => ?_)
          refine x_lload (by decide +kernel : am_at co_X12_floor 46 = some (2, .lload 4)) rfl ?_
          refine x_lconst (by decide +kernel : am_at co_X12_floor 48 = some (1, .lconst 1)) ?_
          obtain ⟨o9, h⟩ := h
          refine x_lsub (by decide +kernel : am_at co_X12_floor 49 = some (1, .lsub)) o9 ?_
          refine x_goto (tgt := 55) (by decide +kernel : am_at co_X12_floor 50 = some (3, .goto 5)) rfl ?_
          exact x_lret (by decide +kernel : am_at co_X12_floor 55 = some (1, .lreturn)) h
        · have c8 := (Int.not_le.mp c8)
          have h := h.2 c8
          refine x_iconst (by decide +kernel : am_at co_X12_floor 38 = some (1, .iconst 1)) ?_
          refine x_goto (tgt := 43) (by decide +kernel : am_at co_X12_floor 39 = some (3, .goto 4)) rfl ?_
          refine x_icmp (tgt := 53) (by decide +kernel : am_at co_X12_floor 43 = some (3, .if_icmp .eq 10)) rfl Iff.rfl (fun q => ?_) (fun q => absurd (show (1 : Int) = (1 : Int) by decide) q)
          refine x_lload (by decide +kernel : am_at co_X12_floor 53 = some (2, .lload 4)) rfl ?_
          exact x_lret (by decide +kernel : am_at co_X12_floor 55 = some (1, .lreturn)) h
  · have c0 := (Classical.not_not.mp c0)
    have h := h.2 c0
    refine x_lconst (by decide +kernel : am_at co_X12_floor 6 = some (1, .lconst 0)) ?_
    exact x_lret (by decide +kernel : am_at co_X12_floor 7 = some (1, .lreturn)) h
set_option maxRecDepth 20000 in
theorem bk_X12_puts_0 {d : Nat} {Q : am_Q} {M : am_M} {v1 : Int} (h : (0 ≤ M 152 46 ∧ M 152 46 < 1700) ∧ am_r ((M 152 46) + 1) ∧ Q (none, sh_T, (am_up (am_up M 184 (M 152 46) v1) 152 46 ((M 152 46) + 1)))) : am_g 12 9 co_X12_puts d Q 0 [(2, 152), (1, v1), (3, 0)] [] sh_T M := by
  refine x_aload_n (by decide +kernel : am_at co_X12_puts 0 = some (1, .aload_n 0)) rfl ?_
  refine x_getF (by decide +kernel : am_at co_X12_puts 1 = some (3, .getfield 109)) pq_12_109 (by decide) rfl ob_152 ?_
  refine x_top2 (show 152 + 32 = 184 from rfl) ?_
  refine x_aload_n (by decide +kernel : am_at co_X12_puts 4 = some (1, .aload_n 0)) rfl ?_
  refine x_getf (by decide +kernel : am_at co_X12_puts 5 = some (3, .getfield 374)) pq_12_374 rfl ob_152 ?_
  refine x_lload_n (by decide +kernel : am_at co_X12_puts 8 = some (1, .lload_n 1)) rfl ?_
  obtain ⟨o0, h⟩ := h
  refine x_last (by decide +kernel : am_at co_X12_puts 9 = some (1, .lastore)) (ow_184 o0.1 o0.2) ?_
  refine x_aload_n (by decide +kernel : am_at co_X12_puts 10 = some (1, .aload_n 0)) rfl ?_
  refine x_dup2' (by decide +kernel : am_at co_X12_puts 11 = some (1, .dup)) ?_
  refine x_getf (by decide +kernel : am_at co_X12_puts 12 = some (3, .getfield 374)) pq_12_374 rfl ob_152 ?_
  refine x_top0 (show (am_up M 184 (M 152 46) v1) 152 46 = M 152 46 from by first | rfl | simp [am_up]) ?_
  refine x_iconst (by decide +kernel : am_at co_X12_puts 15 = some (1, .iconst 1)) ?_
  obtain ⟨o1, h⟩ := h
  refine x_iadd (by decide +kernel : am_at co_X12_puts 16 = some (1, .iadd)) o1 ?_
  refine x_putf0 (by decide +kernel : am_at co_X12_puts 17 = some (3, .putfield 374)) pq_12_374 rfl ob_152 ?_
  exact x_vret (by decide +kernel : am_at co_X12_puts 20 = some (1, .return_)) h
set_option maxRecDepth 20000 in
theorem bk_X12_joins_0 {d : Nat} {Q : am_Q} {M : am_M} {v1 : Int} (h : am_r ((M 152 46) - 1) ∧ (0 ≤ (M 152 46) - 1 ∧ (M 152 46) - 1 < 1700) ∧ am_r ((M 152 46) - 2) ∧ (0 ≤ (M 152 46) - 2 ∧ (M 152 46) - 2 < 1700) ∧ am_r ((M 152 46) - 2) ∧ ((v1 < 1 ∨ 5 < v1 → ((M 184 ((M 152 46) - 2) ≤ M 184 ((M 152 46) - 1) → am_cal pg d 209 [(2, 152), (1, M 184 ((M 152 46) - 1))] sh_T (am_up M 152 46 ((M 152 46) - 2)) (am_cv sh_T fun M7 => Q (none, sh_T, M7))) ∧ (M 184 ((M 152 46) - 1) < M 184 ((M 152 46) - 2) → am_cal pg d 209 [(2, 152), (1, M 184 ((M 152 46) - 2))] sh_T (am_up M 152 46 ((M 152 46) - 2)) (am_cv sh_T fun M8 => Q (none, sh_T, M8))))) ∧ (v1 = 1 → am_rl ((M 184 ((M 152 46) - 2)) + (M 184 ((M 152 46) - 1))) ∧ am_cal pg d 207 [(1, (M 184 ((M 152 46) - 2)) + (M 184 ((M 152 46) - 1)))] sh_T (am_up M 152 46 ((M 152 46) - 2)) (am_c1 sh_T fun x10 M10 => am_cal pg d 209 [(2, 152), (1, x10)] sh_T M10 (am_cv sh_T fun M11 => Q (none, sh_T, M11)))) ∧ (v1 = 2 → am_rl ((M 184 ((M 152 46) - 2)) - (M 184 ((M 152 46) - 1))) ∧ am_cal pg d 207 [(1, (M 184 ((M 152 46) - 2)) - (M 184 ((M 152 46) - 1)))] sh_T (am_up M 152 46 ((M 152 46) - 2)) (am_c1 sh_T fun x13 M13 => am_cal pg d 209 [(2, 152), (1, x13)] sh_T M13 (am_cv sh_T fun M14 => Q (none, sh_T, M14)))) ∧ (v1 = 3 → am_rl ((M 184 ((M 152 46) - 2)) * (M 184 ((M 152 46) - 1))) ∧ am_cal pg d 207 [(1, (M 184 ((M 152 46) - 2)) * (M 184 ((M 152 46) - 1)))] sh_T (am_up M 152 46 ((M 152 46) - 2)) (am_c1 sh_T fun x16 M16 => am_cal pg d 209 [(2, 152), (1, x16)] sh_T M16 (am_cv sh_T fun M17 => Q (none, sh_T, M17)))) ∧ (v1 = 4 → am_cal pg d 208 [(1, M 184 ((M 152 46) - 2)), (1, M 184 ((M 152 46) - 1))] sh_T (am_up M 152 46 ((M 152 46) - 2)) (am_c1 sh_T fun x18 M18 => am_cal pg d 209 [(2, 152), (1, x18)] sh_T M18 (am_cv sh_T fun M19 => Q (none, sh_T, M19)))) ∧ (v1 = 5 → ((M 184 ((M 152 46) - 1) ≤ M 184 ((M 152 46) - 2) → am_cal pg d 209 [(2, 152), (1, M 184 ((M 152 46) - 1))] sh_T (am_up M 152 46 ((M 152 46) - 2)) (am_cv sh_T fun M21 => Q (none, sh_T, M21))) ∧ (M 184 ((M 152 46) - 2) < M 184 ((M 152 46) - 1) → am_cal pg d 209 [(2, 152), (1, M 184 ((M 152 46) - 2))] sh_T (am_up M 152 46 ((M 152 46) - 2)) (am_cv sh_T fun M22 => Q (none, sh_T, M22))))))) : am_g 12 9 co_X12_joins d Q 0 [(2, 152), (0, v1), (3, 0), (3, 0), (3, 0), (3, 0)] [] sh_T M := by
  refine x_aload_n (by decide +kernel : am_at co_X12_joins 0 = some (1, .aload_n 0)) rfl ?_
  refine x_getF (by decide +kernel : am_at co_X12_joins 1 = some (3, .getfield 109)) pq_12_109 (by decide) rfl ob_152 ?_
  refine x_top2 (show 152 + 32 = 184 from rfl) ?_
  refine x_aload_n (by decide +kernel : am_at co_X12_joins 4 = some (1, .aload_n 0)) rfl ?_
  refine x_getf (by decide +kernel : am_at co_X12_joins 5 = some (3, .getfield 374)) pq_12_374 rfl ob_152 ?_
  refine x_iconst (by decide +kernel : am_at co_X12_joins 8 = some (1, .iconst 1)) ?_
  obtain ⟨o0, h⟩ := h
  refine x_isub (by decide +kernel : am_at co_X12_joins 9 = some (1, .isub)) o0 ?_
  obtain ⟨o1, h⟩ := h
  refine x_lald (by decide +kernel : am_at co_X12_joins 10 = some (1, .laload)) (ia_184 o1.1 o1.2) ?_
  refine x_lstore_n (L' := [(2, 152), (0, v1), (1, M 184 ((M 152 46) - 1)), (3, 0), (3, 0), (3, 0)]) (by decide +kernel : am_at co_X12_joins 11 = some (1, .lstore_n 2)) rfl ?_
  refine x_aload_n (by decide +kernel : am_at co_X12_joins 12 = some (1, .aload_n 0)) rfl ?_
  refine x_getF (by decide +kernel : am_at co_X12_joins 13 = some (3, .getfield 109)) pq_12_109 (by decide) rfl ob_152 ?_
  refine x_top2 (show 152 + 32 = 184 from rfl) ?_
  refine x_aload_n (by decide +kernel : am_at co_X12_joins 16 = some (1, .aload_n 0)) rfl ?_
  refine x_getf (by decide +kernel : am_at co_X12_joins 17 = some (3, .getfield 374)) pq_12_374 rfl ob_152 ?_
  refine x_iconst (by decide +kernel : am_at co_X12_joins 20 = some (1, .iconst 2)) ?_
  obtain ⟨o2, h⟩ := h
  refine x_isub (by decide +kernel : am_at co_X12_joins 21 = some (1, .isub)) o2 ?_
  obtain ⟨o3, h⟩ := h
  refine x_lald (by decide +kernel : am_at co_X12_joins 22 = some (1, .laload)) (ia_184 o3.1 o3.2) ?_
  refine x_lstore (L' := [(2, 152), (0, v1), (1, M 184 ((M 152 46) - 1)), (3, 0), (1, M 184 ((M 152 46) - 2)), (3, 0)]) (by decide +kernel : am_at co_X12_joins 23 = some (2, .lstore 4)) rfl ?_
  refine x_aload_n (by decide +kernel : am_at co_X12_joins 25 = some (1, .aload_n 0)) rfl ?_
  refine x_dup2' (by decide +kernel : am_at co_X12_joins 26 = some (1, .dup)) ?_
  refine x_getf (by decide +kernel : am_at co_X12_joins 27 = some (3, .getfield 374)) pq_12_374 rfl ob_152 ?_
  refine x_iconst (by decide +kernel : am_at co_X12_joins 30 = some (1, .iconst 2)) ?_
  obtain ⟨o4, h⟩ := h
  refine x_isub (by decide +kernel : am_at co_X12_joins 31 = some (1, .isub)) o4 ?_
  refine x_putf0 (by decide +kernel : am_at co_X12_joins 32 = some (3, .putfield 374)) pq_12_374 rfl ob_152 ?_
  refine x_iload_n (by decide +kernel : am_at co_X12_joins 35 = some (1, .iload_n 1)) rfl ?_
  refine x_tsw (by decide +kernel : am_at co_X12_joins 36 = some (36, .tableswitch 111 1 5 #[36, 50, 64, 78, 91])) (fun q => ?_) (fun q1 q2 => ?_)
  · have h := h.1 q
    refine x_aload_n (by decide +kernel : am_at co_X12_joins 147 = some (1, .aload_n 0)) rfl ?_
    refine x_lload (by decide +kernel : am_at co_X12_joins 148 = some (2, .lload 4)) rfl ?_
    refine x_lload_n (by decide +kernel : am_at co_X12_joins 150 = some (1, .lload_n 2)) rfl ?_
    refine x_lif (tgt := 160) (by decide +kernel : am_at co_X12_joins 151 = some (1, .lcmp)) (by decide +kernel : am_at co_X12_joins 152 = some (3, .ifCond .le 8)) rfl Iff.rfl (fun c5 => ?_) (fun c5 => ?_)
    · have h := h.1 c5
      refine x_lload_n (by decide +kernel : am_at co_X12_joins 160 = some (1, .lload_n 2)) rfl ?_
      refine x_callV (n := 2) (by decide +kernel : am_at co_X12_joins 161 = some (3, .invokevirtual 381)) pq_12_381 pm_X12_puts rfl rfl rfl ob_152 h (x_kv fun M7 h => ?_)
      exact x_vret (by decide +kernel : am_at co_X12_joins 164 = some (1, .return_)) h
    · have c5 := (Int.not_le.mp c5)
      have h := h.2 c5
      refine x_lload (by decide +kernel : am_at co_X12_joins 155 = some (2, .lload 4)) rfl ?_
      refine x_goto (tgt := 161) (by decide +kernel : am_at co_X12_joins 157 = some (3, .goto 4)) rfl ?_
      refine x_callV (n := 2) (by decide +kernel : am_at co_X12_joins 161 = some (3, .invokevirtual 381)) pq_12_381 pm_X12_puts rfl rfl rfl ob_152 h (x_kv fun M8 h => ?_)
      exact x_vret (by decide +kernel : am_at co_X12_joins 164 = some (1, .return_)) h
  · rcases (show v1 = 1 ∨ v1 = 2 ∨ v1 = 3 ∨ v1 = 4 ∨ v1 = 5 by omega) with q | q | q | q | q
    · refine ⟨36, by rw [q]; rfl, ?_⟩
      have h := h.2.1 q
      refine x_aload_n (by decide +kernel : am_at co_X12_joins 72 = some (1, .aload_n 0)) rfl ?_
      refine x_lload (by decide +kernel : am_at co_X12_joins 73 = some (2, .lload 4)) rfl ?_
      refine x_lload_n (by decide +kernel : am_at co_X12_joins 75 = some (1, .lload_n 2)) rfl ?_
      obtain ⟨o8, h⟩ := h
      refine x_ladd (by decide +kernel : am_at co_X12_joins 76 = some (1, .ladd)) o8 ?_
      refine x_callS (n := 1) (by decide +kernel : am_at co_X12_joins 77 = some (3, .invokestatic 377)) pq_12_377 rfl rfl rfl h (x_k1 fun x10 M10 h => ?_)
      refine x_callV (n := 2) (by decide +kernel : am_at co_X12_joins 80 = some (3, .invokevirtual 381)) pq_12_381 pm_X12_puts rfl rfl rfl ob_152 h (x_kv fun M11 h => ?_)
      refine x_goto (tgt := 164) (by decide +kernel : am_at co_X12_joins 83 = some (3, .goto 81)) rfl ?_
      exact x_vret (by decide +kernel : am_at co_X12_joins 164 = some (1, .return_)) h
    · refine ⟨50, by rw [q]; rfl, ?_⟩
      have h := h.2.2.1 q
      refine x_aload_n (by decide +kernel : am_at co_X12_joins 86 = some (1, .aload_n 0)) rfl ?_
      refine x_lload (by decide +kernel : am_at co_X12_joins 87 = some (2, .lload 4)) rfl ?_
      refine x_lload_n (by decide +kernel : am_at co_X12_joins 89 = some (1, .lload_n 2)) rfl ?_
      obtain ⟨o11, h⟩ := h
      refine x_lsub (by decide +kernel : am_at co_X12_joins 90 = some (1, .lsub)) o11 ?_
      refine x_callS (n := 1) (by decide +kernel : am_at co_X12_joins 91 = some (3, .invokestatic 377)) pq_12_377 rfl rfl rfl h (x_k1 fun x13 M13 h => ?_)
      refine x_callV (n := 2) (by decide +kernel : am_at co_X12_joins 94 = some (3, .invokevirtual 381)) pq_12_381 pm_X12_puts rfl rfl rfl ob_152 h (x_kv fun M14 h => ?_)
      refine x_goto (tgt := 164) (by decide +kernel : am_at co_X12_joins 97 = some (3, .goto 67)) rfl ?_
      exact x_vret (by decide +kernel : am_at co_X12_joins 164 = some (1, .return_)) h
    · refine ⟨64, by rw [q]; rfl, ?_⟩
      have h := h.2.2.2.1 q
      refine x_aload_n (by decide +kernel : am_at co_X12_joins 100 = some (1, .aload_n 0)) rfl ?_
      refine x_lload (by decide +kernel : am_at co_X12_joins 101 = some (2, .lload 4)) rfl ?_
      refine x_lload_n (by decide +kernel : am_at co_X12_joins 103 = some (1, .lload_n 2)) rfl ?_
      obtain ⟨o14, h⟩ := h
      refine x_lmul (by decide +kernel : am_at co_X12_joins 104 = some (1, .lmul)) o14 ?_
      refine x_callS (n := 1) (by decide +kernel : am_at co_X12_joins 105 = some (3, .invokestatic 377)) pq_12_377 rfl rfl rfl h (x_k1 fun x16 M16 h => ?_)
      refine x_callV (n := 2) (by decide +kernel : am_at co_X12_joins 108 = some (3, .invokevirtual 381)) pq_12_381 pm_X12_puts rfl rfl rfl ob_152 h (x_kv fun M17 h => ?_)
      refine x_goto (tgt := 164) (by decide +kernel : am_at co_X12_joins 111 = some (3, .goto 53)) rfl ?_
      exact x_vret (by decide +kernel : am_at co_X12_joins 164 = some (1, .return_)) h
    · refine ⟨78, by rw [q]; rfl, ?_⟩
      have h := h.2.2.2.2.1 q
      refine x_aload_n (by decide +kernel : am_at co_X12_joins 114 = some (1, .aload_n 0)) rfl ?_
      refine x_lload (by decide +kernel : am_at co_X12_joins 115 = some (2, .lload 4)) rfl ?_
      refine x_lload_n (by decide +kernel : am_at co_X12_joins 117 = some (1, .lload_n 2)) rfl ?_
      refine x_callS (n := 2) (by decide +kernel : am_at co_X12_joins 118 = some (3, .invokestatic 385)) pq_12_385 rfl rfl rfl h (x_k1 fun x18 M18 h => ?_)
      refine x_callV (n := 2) (by decide +kernel : am_at co_X12_joins 121 = some (3, .invokevirtual 381)) pq_12_381 pm_X12_puts rfl rfl rfl ob_152 h (x_kv fun M19 h => ?_)
      refine x_goto (tgt := 164) (by decide +kernel : am_at co_X12_joins 124 = some (3, .goto 40)) rfl ?_
      exact x_vret (by decide +kernel : am_at co_X12_joins 164 = some (1, .return_)) h
    · refine ⟨91, by rw [q]; rfl, ?_⟩
      have h := h.2.2.2.2.2 q
      refine x_aload_n (by decide +kernel : am_at co_X12_joins 127 = some (1, .aload_n 0)) rfl ?_
      refine x_lload (by decide +kernel : am_at co_X12_joins 128 = some (2, .lload 4)) rfl ?_
      refine x_lload_n (by decide +kernel : am_at co_X12_joins 130 = some (1, .lload_n 2)) rfl ?_
      refine x_lif (tgt := 140) (by decide +kernel : am_at co_X12_joins 131 = some (1, .lcmp)) (by decide +kernel : am_at co_X12_joins 132 = some (3, .ifCond .ge 8)) rfl Iff.rfl (fun c19 => ?_) (fun c19 => ?_)
      · have h := h.1 c19
        refine x_lload_n (by decide +kernel : am_at co_X12_joins 140 = some (1, .lload_n 2)) rfl ?_
        refine x_callV (n := 2) (by decide +kernel : am_at co_X12_joins 141 = some (3, .invokevirtual 381)) pq_12_381 pm_X12_puts rfl rfl rfl ob_152 h (x_kv fun M21 h => ?_)
        refine x_goto (tgt := 164) (by decide +kernel : am_at co_X12_joins 144 = some (3, .goto 20)) rfl ?_
        exact x_vret (by decide +kernel : am_at co_X12_joins 164 = some (1, .return_)) h
      · have c19 := (Int.not_le.mp c19)
        have h := h.2 c19
        refine x_lload (by decide +kernel : am_at co_X12_joins 135 = some (2, .lload 4)) rfl ?_
        refine x_goto (tgt := 141) (by decide +kernel : am_at co_X12_joins 137 = some (3, .goto 4)) rfl ?_
        refine x_callV (n := 2) (by decide +kernel : am_at co_X12_joins 141 = some (3, .invokevirtual 381)) pq_12_381 pm_X12_puts rfl rfl rfl ob_152 h (x_kv fun M22 h => ?_)
        refine x_goto (tgt := 164) (by decide +kernel : am_at co_X12_joins 144 = some (3, .goto 20)) rfl ?_
        exact x_vret (by decide +kernel : am_at co_X12_joins 164 = some (1, .return_)) h
set_option maxRecDepth 20000 in
theorem bk_X12_dreadMany_0 {d : Nat} {Q : am_Q} {M : am_M} (h : Q (some (0, M 174 3), sh_T, M)) : am_g 12 0 co_X12_dreadMany d Q 0 [(2, 152)] [] sh_T M := by
  refine x_aload_n (by decide +kernel : am_at co_X12_dreadMany 0 = some (1, .aload_n 0)) rfl ?_
  refine x_getF (by decide +kernel : am_at co_X12_dreadMany 1 = some (3, .getfield 78)) pq_12_78 (by decide) rfl ob_152 ?_
  refine x_top2 (show 152 + 22 = 174 from rfl) ?_
  refine x_iconst (by decide +kernel : am_at co_X12_dreadMany 4 = some (1, .iconst 3)) ?_
  refine x_iald (by decide +kernel : am_at co_X12_dreadMany 5 = some (1, .iaload)) (ia_174 (by decide) (by decide)) ?_
  exact x_iret (by decide +kernel : am_at co_X12_dreadMany 6 = some (1, .ireturn)) h
set_option maxRecDepth 20000 in
theorem bk_X12_dreamerMany_0 {d : Nat} {Q : am_Q} {M : am_M} (h : Q (some (0, M 174 4), sh_T, M)) : am_g 12 0 co_X12_dreamerMany d Q 0 [(2, 152)] [] sh_T M := by
  refine x_aload_n (by decide +kernel : am_at co_X12_dreamerMany 0 = some (1, .aload_n 0)) rfl ?_
  refine x_getF (by decide +kernel : am_at co_X12_dreamerMany 1 = some (3, .getfield 78)) pq_12_78 (by decide) rfl ob_152 ?_
  refine x_top2 (show 152 + 22 = 174 from rfl) ?_
  refine x_iconst (by decide +kernel : am_at co_X12_dreamerMany 4 = some (1, .iconst 4)) ?_
  refine x_iald (by decide +kernel : am_at co_X12_dreamerMany 5 = some (1, .iaload)) (ia_174 (by decide) (by decide)) ?_
  exact x_iret (by decide +kernel : am_at co_X12_dreamerMany 6 = some (1, .ireturn)) h
set_option maxRecDepth 20000 in
theorem bk_X12_guideMany_0 {d : Nat} {Q : am_Q} {M : am_M} (h : Q (some (0, M 174 5), sh_T, M)) : am_g 12 0 co_X12_guideMany d Q 0 [(2, 152)] [] sh_T M := by
  refine x_aload_n (by decide +kernel : am_at co_X12_guideMany 0 = some (1, .aload_n 0)) rfl ?_
  refine x_getF (by decide +kernel : am_at co_X12_guideMany 1 = some (3, .getfield 78)) pq_12_78 (by decide) rfl ob_152 ?_
  refine x_top2 (show 152 + 22 = 174 from rfl) ?_
  refine x_iconst (by decide +kernel : am_at co_X12_guideMany 4 = some (1, .iconst 5)) ?_
  refine x_iald (by decide +kernel : am_at co_X12_guideMany 5 = some (1, .iaload)) (ia_174 (by decide) (by decide)) ?_
  exact x_iret (by decide +kernel : am_at co_X12_guideMany 6 = some (1, .ireturn)) h
set_option maxRecDepth 20000 in
theorem bk_X12_isDread_0 {d : Nat} {Q : am_Q} {M : am_M} {v1 : Int} (h : am_cal pg d 211 [(2, 152)] sh_T M (am_c0 sh_T fun x1 M1 => am_r (x1 - 1) ∧ am_cal pg d 169 [(1, v1), (1, 0), (1, x1 - 1)] sh_T M1 (am_c0 sh_T fun x3 M3 => (x3 = 0 ∨ x3 = 1) ∧ Q (some (0, x3), sh_T, M3)))) : am_g 12 5 co_X12_isDread d Q 0 [(2, 152), (0, v1)] [] sh_T M := by
  refine x_iload_n (by decide +kernel : am_at co_X12_isDread 0 = some (1, .iload_n 1)) rfl ?_
  refine x_i2l (by decide +kernel : am_at co_X12_isDread 1 = some (1, .i2l)) ?_
  refine x_lconst (by decide +kernel : am_at co_X12_isDread 2 = some (1, .lconst 0)) ?_
  refine x_aload_n (by decide +kernel : am_at co_X12_isDread 3 = some (1, .aload_n 0)) rfl ?_
  refine x_callV (n := 1) (by decide +kernel : am_at co_X12_isDread 4 = some (3, .invokevirtual 389)) pq_12_389 pm_X12_dreadMany rfl rfl rfl ob_152 h (x_k0 fun x1 M1 h => ?_)
  refine x_iconst (by decide +kernel : am_at co_X12_isDread 7 = some (1, .iconst 1)) ?_
  obtain ⟨o1, h⟩ := h
  refine x_isub (by decide +kernel : am_at co_X12_isDread 8 = some (1, .isub)) o1 ?_
  refine x_i2l (by decide +kernel : am_at co_X12_isDread 9 = some (1, .i2l)) ?_
  refine x_callS (n := 3) (by decide +kernel : am_at co_X12_isDread 10 = some (3, .invokestatic 249)) pq_12_249 rfl rfl rfl h (x_k0 fun x3 M3 h => ?_)
  exact x_zret (by decide +kernel : am_at co_X12_isDread 13 = some (1, .ireturn)) h.1 h.2
set_option maxRecDepth 20000 in
theorem bk_X12_isDreamer_0 {d : Nat} {Q : am_Q} {M : am_M} {v1 : Int} (h : am_cal pg d 212 [(2, 152)] sh_T M (am_c0 sh_T fun x1 M1 => am_r (x1 - 1) ∧ am_cal pg d 169 [(1, v1), (1, 0), (1, x1 - 1)] sh_T M1 (am_c0 sh_T fun x3 M3 => (x3 = 0 ∨ x3 = 1) ∧ Q (some (0, x3), sh_T, M3)))) : am_g 12 5 co_X12_isDreamer d Q 0 [(2, 152), (0, v1)] [] sh_T M := by
  refine x_iload_n (by decide +kernel : am_at co_X12_isDreamer 0 = some (1, .iload_n 1)) rfl ?_
  refine x_i2l (by decide +kernel : am_at co_X12_isDreamer 1 = some (1, .i2l)) ?_
  refine x_lconst (by decide +kernel : am_at co_X12_isDreamer 2 = some (1, .lconst 0)) ?_
  refine x_aload_n (by decide +kernel : am_at co_X12_isDreamer 3 = some (1, .aload_n 0)) rfl ?_
  refine x_callV (n := 1) (by decide +kernel : am_at co_X12_isDreamer 4 = some (3, .invokevirtual 392)) pq_12_392 pm_X12_dreamerMany rfl rfl rfl ob_152 h (x_k0 fun x1 M1 h => ?_)
  refine x_iconst (by decide +kernel : am_at co_X12_isDreamer 7 = some (1, .iconst 1)) ?_
  obtain ⟨o1, h⟩ := h
  refine x_isub (by decide +kernel : am_at co_X12_isDreamer 8 = some (1, .isub)) o1 ?_
  refine x_i2l (by decide +kernel : am_at co_X12_isDreamer 9 = some (1, .i2l)) ?_
  refine x_callS (n := 3) (by decide +kernel : am_at co_X12_isDreamer 10 = some (3, .invokestatic 249)) pq_12_249 rfl rfl rfl h (x_k0 fun x3 M3 h => ?_)
  exact x_zret (by decide +kernel : am_at co_X12_isDreamer 13 = some (1, .ireturn)) h.1 h.2
set_option maxRecDepth 20000 in
theorem bk_X12_settingOf_0 {d : Nat} {Q : am_Q} {M : am_M} {v1 : Int} (h : am_r (3 + v1) ∧ (0 ≤ 3 + v1 ∧ 3 + v1 < 6) ∧ Q (some (0, M 179 (3 + v1)), sh_T, M)) : am_g 12 0 co_X12_settingOf d Q 0 [(2, 152), (0, v1)] [] sh_T M := by
  refine x_aload_n (by decide +kernel : am_at co_X12_settingOf 0 = some (1, .aload_n 0)) rfl ?_
  refine x_getF (by decide +kernel : am_at co_X12_settingOf 1 = some (3, .getfield 94)) pq_12_94 (by decide) rfl ob_152 ?_
  refine x_top2 (show 152 + 27 = 179 from rfl) ?_
  refine x_iconst (by decide +kernel : am_at co_X12_settingOf 4 = some (1, .iconst 3)) ?_
  refine x_iload_n (by decide +kernel : am_at co_X12_settingOf 5 = some (1, .iload_n 1)) rfl ?_
  obtain ⟨o0, h⟩ := h
  refine x_iadd (by decide +kernel : am_at co_X12_settingOf 6 = some (1, .iadd)) o0 ?_
  obtain ⟨o1, h⟩ := h
  refine x_iald (by decide +kernel : am_at co_X12_settingOf 7 = some (1, .iaload)) (ia_179 o1.1 o1.2) ?_
  exact x_iret (by decide +kernel : am_at co_X12_settingOf 8 = some (1, .ireturn)) h
set_option maxRecDepth 20000 in
theorem bk_X12_weightOf_0 {d : Nat} {Q : am_Q} {M : am_M} {v1 v2 : Int} (h : am_r (7 * v1) ∧ am_r ((7 * v1) + 1) ∧ am_r (((7 * v1) + 1) + v2) ∧ (0 ≤ ((7 * v1) + 1) + v2 ∧ ((7 * v1) + 1) + v2 < 28) ∧ Q (some (0, M 186 (((7 * v1) + 1) + v2)), sh_T, M)) : am_g 12 0 co_X12_weightOf d Q 0 [(2, 152), (0, v1), (0, v2)] [] sh_T M := by
  refine x_aload_n (by decide +kernel : am_at co_X12_weightOf 0 = some (1, .aload_n 0)) rfl ?_
  refine x_getF (by decide +kernel : am_at co_X12_weightOf 1 = some (3, .getfield 115)) pq_12_115 (by decide) rfl ob_152 ?_
  refine x_top2 (show 152 + 34 = 186 from rfl) ?_
  refine x_bipush (by decide +kernel : am_at co_X12_weightOf 4 = some (2, .bipush 7)) ?_
  refine x_iload_n (by decide +kernel : am_at co_X12_weightOf 6 = some (1, .iload_n 1)) rfl ?_
  obtain ⟨o0, h⟩ := h
  refine x_imul (by decide +kernel : am_at co_X12_weightOf 7 = some (1, .imul)) o0 ?_
  refine x_iconst (by decide +kernel : am_at co_X12_weightOf 8 = some (1, .iconst 1)) ?_
  obtain ⟨o1, h⟩ := h
  refine x_iadd (by decide +kernel : am_at co_X12_weightOf 9 = some (1, .iadd)) o1 ?_
  refine x_iload_n (by decide +kernel : am_at co_X12_weightOf 10 = some (1, .iload_n 2)) rfl ?_
  obtain ⟨o2, h⟩ := h
  refine x_iadd (by decide +kernel : am_at co_X12_weightOf 11 = some (1, .iadd)) o2 ?_
  obtain ⟨o3, h⟩ := h
  refine x_iald (by decide +kernel : am_at co_X12_weightOf 12 = some (1, .iaload)) (ia_186 o3.1 o3.2) ?_
  exact x_iret (by decide +kernel : am_at co_X12_weightOf 13 = some (1, .ireturn)) h
set_option maxRecDepth 20000 in
theorem bk_X12_laysNow_0 {d : Nat} {Q : am_Q} {M : am_M} {v1 v2 : Int} (h : am_g 12 9 co_X12_laysNow d Q 2 [(2, 152), (0, v1), (0, v2), (0, 0)] [] sh_T M) : am_g 12 9 co_X12_laysNow d Q 0 [(2, 152), (0, v1), (0, v2), (3, 0)] [] sh_T M := by
  refine x_iconst (by decide +kernel : am_at co_X12_laysNow 0 = some (1, .iconst 0)) ?_
  refine x_istore_n (L' := [(2, 152), (0, v1), (0, v2), (0, 0)]) (by decide +kernel : am_at co_X12_laysNow 1 = some (1, .istore_n 3)) rfl ?_
  exact am_weak (lk (lk (lk (lk ln)))) h
set_option maxRecDepth 20000 in
theorem bk_X12_laysNow_2 {d : Nat} {Q : am_Q} {M : am_M} {v1 v2 v3 : Int} (h : ((6 ≤ v3 → Q (none, sh_T, M)) ∧ (v3 < 6 → am_r (v2 + v3) ∧ am_cal pg d 217 [(2, 152), (0, v1), (0, v3)] sh_T M (am_c0 sh_T fun x3 M3 => (0 ≤ v2 + v3 ∧ v2 + v3 < 1500) ∧ am_r (v3 + 1) ∧ am_g 12 9 co_X12_laysNow d Q 2 [(2, 152), (0, v1), (0, v2), (0, v3 + 1)] [] sh_T (am_up M3 187 (v2 + v3) x3))))) : am_g 12 9 co_X12_laysNow d Q 2 [(2, 152), (0, v1), (0, v2), (0, v3)] [] sh_T M := by
  refine x_iload_n (by decide +kernel : am_at co_X12_laysNow 2 = some (1, .iload_n 3)) rfl ?_
  refine x_bipush (by decide +kernel : am_at co_X12_laysNow 3 = some (2, .bipush 6)) ?_
  refine x_icmp (tgt := 28) (by decide +kernel : am_at co_X12_laysNow 5 = some (3, .if_icmp .ge 23)) rfl Iff.rfl (fun c0 => ?_) (fun c0 => ?_)
  · have h := h.1 c0
    exact x_vret (by decide +kernel : am_at co_X12_laysNow 28 = some (1, .return_)) h
  · have c0 := (Int.not_le.mp c0)
    have h := h.2 c0
    refine x_aload_n (by decide +kernel : am_at co_X12_laysNow 8 = some (1, .aload_n 0)) rfl ?_
    refine x_getF (by decide +kernel : am_at co_X12_laysNow 9 = some (3, .getfield 118)) pq_12_118 (by decide) rfl ob_152 ?_
    refine x_top2 (show 152 + 35 = 187 from rfl) ?_
    refine x_iload_n (by decide +kernel : am_at co_X12_laysNow 12 = some (1, .iload_n 2)) rfl ?_
    refine x_iload_n (by decide +kernel : am_at co_X12_laysNow 13 = some (1, .iload_n 3)) rfl ?_
    obtain ⟨o1, h⟩ := h
    refine x_iadd (by decide +kernel : am_at co_X12_laysNow 14 = some (1, .iadd)) o1 ?_
    refine x_aload_n (by decide +kernel : am_at co_X12_laysNow 15 = some (1, .aload_n 0)) rfl ?_
    refine x_iload_n (by decide +kernel : am_at co_X12_laysNow 16 = some (1, .iload_n 1)) rfl ?_
    refine x_iload_n (by decide +kernel : am_at co_X12_laysNow 17 = some (1, .iload_n 3)) rfl ?_
    refine x_callV (n := 3) (by decide +kernel : am_at co_X12_laysNow 18 = some (3, .invokevirtual 395)) pq_12_395 pm_X12_weightOf rfl rfl rfl ob_152 h (x_k0 fun x3 M3 h => ?_)
    obtain ⟨o3, h⟩ := h
    refine x_iast (by decide +kernel : am_at co_X12_laysNow 21 = some (1, .iastore)) (ow_187 o3.1 o3.2) ?_
    obtain ⟨o4, h⟩ := h
    refine x_iinc (L' := [(2, 152), (0, v1), (0, v2), (0, v3 + 1)]) (by decide +kernel : am_at co_X12_laysNow 22 = some (3, .iinc 3 1)) rfl o4 rfl ?_
    refine x_goto (tgt := 2) (by decide +kernel : am_at co_X12_laysNow 25 = some (3, .goto (-23))) rfl ?_
    exact am_weak (lk (lk (lk (lk ln)))) h
set_option maxRecDepth 20000 in
theorem bk_X12_laysRow_0 {d : Nat} {Q : am_Q} {M : am_M} {v1 v2 : Int} (h : am_g 12 9 co_X12_laysRow d Q 2 [(2, 152), (0, v1), (0, v2), (0, 0)] [] sh_T M) : am_g 12 9 co_X12_laysRow d Q 0 [(2, 152), (0, v1), (0, v2), (3, 0)] [] sh_T M := by
  refine x_iconst (by decide +kernel : am_at co_X12_laysRow 0 = some (1, .iconst 0)) ?_
  refine x_istore_n (L' := [(2, 152), (0, v1), (0, v2), (0, 0)]) (by decide +kernel : am_at co_X12_laysRow 1 = some (1, .istore_n 3)) rfl ?_
  exact am_weak (lk (lk (lk (lk ln)))) h
set_option maxRecDepth 20000 in
theorem bk_X12_laysRow_2 {d : Nat} {Q : am_Q} {M : am_M} {v1 v2 v3 : Int} (h : ((6 ≤ v3 → Q (none, sh_T, M)) ∧ (v3 < 6 → am_r (v2 + v3) ∧ am_r (v1 + v3) ∧ (0 ≤ v1 + v3 ∧ v1 + v3 < 1500) ∧ (0 ≤ v2 + v3 ∧ v2 + v3 < 1500) ∧ am_r (v3 + 1) ∧ am_g 12 9 co_X12_laysRow d Q 2 [(2, 152), (0, v1), (0, v2), (0, v3 + 1)] [] sh_T (am_up M 187 (v2 + v3) (M 187 (v1 + v3)))))) : am_g 12 9 co_X12_laysRow d Q 2 [(2, 152), (0, v1), (0, v2), (0, v3)] [] sh_T M := by
  refine x_iload_n (by decide +kernel : am_at co_X12_laysRow 2 = some (1, .iload_n 3)) rfl ?_
  refine x_bipush (by decide +kernel : am_at co_X12_laysRow 3 = some (2, .bipush 6)) ?_
  refine x_icmp (tgt := 30) (by decide +kernel : am_at co_X12_laysRow 5 = some (3, .if_icmp .ge 25)) rfl Iff.rfl (fun c0 => ?_) (fun c0 => ?_)
  · have h := h.1 c0
    exact x_vret (by decide +kernel : am_at co_X12_laysRow 30 = some (1, .return_)) h
  · have c0 := (Int.not_le.mp c0)
    have h := h.2 c0
    refine x_aload_n (by decide +kernel : am_at co_X12_laysRow 8 = some (1, .aload_n 0)) rfl ?_
    refine x_getF (by decide +kernel : am_at co_X12_laysRow 9 = some (3, .getfield 118)) pq_12_118 (by decide) rfl ob_152 ?_
    refine x_top2 (show 152 + 35 = 187 from rfl) ?_
    refine x_iload_n (by decide +kernel : am_at co_X12_laysRow 12 = some (1, .iload_n 2)) rfl ?_
    refine x_iload_n (by decide +kernel : am_at co_X12_laysRow 13 = some (1, .iload_n 3)) rfl ?_
    obtain ⟨o1, h⟩ := h
    refine x_iadd (by decide +kernel : am_at co_X12_laysRow 14 = some (1, .iadd)) o1 ?_
    refine x_aload_n (by decide +kernel : am_at co_X12_laysRow 15 = some (1, .aload_n 0)) rfl ?_
    refine x_getF (by decide +kernel : am_at co_X12_laysRow 16 = some (3, .getfield 118)) pq_12_118 (by decide) rfl ob_152 ?_
    refine x_top2 (show 152 + 35 = 187 from rfl) ?_
    refine x_iload_n (by decide +kernel : am_at co_X12_laysRow 19 = some (1, .iload_n 1)) rfl ?_
    refine x_iload_n (by decide +kernel : am_at co_X12_laysRow 20 = some (1, .iload_n 3)) rfl ?_
    obtain ⟨o2, h⟩ := h
    refine x_iadd (by decide +kernel : am_at co_X12_laysRow 21 = some (1, .iadd)) o2 ?_
    obtain ⟨o3, h⟩ := h
    refine x_iald (by decide +kernel : am_at co_X12_laysRow 22 = some (1, .iaload)) (ia_187 o3.1 o3.2) ?_
    obtain ⟨o4, h⟩ := h
    refine x_iast (by decide +kernel : am_at co_X12_laysRow 23 = some (1, .iastore)) (ow_187 o4.1 o4.2) ?_
    obtain ⟨o5, h⟩ := h
    refine x_iinc (L' := [(2, 152), (0, v1), (0, v2), (0, v3 + 1)]) (by decide +kernel : am_at co_X12_laysRow 24 = some (3, .iinc 3 1)) rfl o5 rfl ?_
    refine x_goto (tgt := 2) (by decide +kernel : am_at co_X12_laysRow 27 = some (3, .goto (-25))) rfl ?_
    exact am_weak (lk (lk (lk (lk ln)))) h
set_option maxRecDepth 20000 in
theorem bk_X12_isNow_0 {d : Nat} {Q : am_Q} {M : am_M} {v1 v2 : Int} (h : am_g 12 9 co_X12_isNow d Q 2 [(2, 152), (0, v1), (0, v2), (0, 0)] [] sh_T M) : am_g 12 9 co_X12_isNow d Q 0 [(2, 152), (0, v1), (0, v2), (3, 0)] [] sh_T M := by
  refine x_iconst (by decide +kernel : am_at co_X12_isNow 0 = some (1, .iconst 0)) ?_
  refine x_istore_n (L' := [(2, 152), (0, v1), (0, v2), (0, 0)]) (by decide +kernel : am_at co_X12_isNow 1 = some (1, .istore_n 3)) rfl ?_
  exact am_weak (lk (lk (lk (lk ln)))) h
set_option maxRecDepth 20000 in
theorem bk_X12_isNow_2 {d : Nat} {Q : am_Q} {M : am_M} {v1 v2 v3 : Int} (h : ((6 ≤ v3 → Q (none, sh_T, M)) ∧ (v3 < 6 → am_r (7 * v1) ∧ am_r ((7 * v1) + 1) ∧ am_r (((7 * v1) + 1) + v3) ∧ am_r (v2 + v3) ∧ (0 ≤ v2 + v3 ∧ v2 + v3 < 1500) ∧ (0 ≤ ((7 * v1) + 1) + v3 ∧ ((7 * v1) + 1) + v3 < 28) ∧ am_r (v3 + 1) ∧ am_g 12 9 co_X12_isNow d Q 2 [(2, 152), (0, v1), (0, v2), (0, v3 + 1)] [] sh_T (am_up M 186 (((7 * v1) + 1) + v3) (M 187 (v2 + v3)))))) : am_g 12 9 co_X12_isNow d Q 2 [(2, 152), (0, v1), (0, v2), (0, v3)] [] sh_T M := by
  refine x_iload_n (by decide +kernel : am_at co_X12_isNow 2 = some (1, .iload_n 3)) rfl ?_
  refine x_bipush (by decide +kernel : am_at co_X12_isNow 3 = some (2, .bipush 6)) ?_
  refine x_icmp (tgt := 35) (by decide +kernel : am_at co_X12_isNow 5 = some (3, .if_icmp .ge 30)) rfl Iff.rfl (fun c0 => ?_) (fun c0 => ?_)
  · have h := h.1 c0
    exact x_vret (by decide +kernel : am_at co_X12_isNow 35 = some (1, .return_)) h
  · have c0 := (Int.not_le.mp c0)
    have h := h.2 c0
    refine x_aload_n (by decide +kernel : am_at co_X12_isNow 8 = some (1, .aload_n 0)) rfl ?_
    refine x_getF (by decide +kernel : am_at co_X12_isNow 9 = some (3, .getfield 115)) pq_12_115 (by decide) rfl ob_152 ?_
    refine x_top2 (show 152 + 34 = 186 from rfl) ?_
    refine x_bipush (by decide +kernel : am_at co_X12_isNow 12 = some (2, .bipush 7)) ?_
    refine x_iload_n (by decide +kernel : am_at co_X12_isNow 14 = some (1, .iload_n 1)) rfl ?_
    obtain ⟨o1, h⟩ := h
    refine x_imul (by decide +kernel : am_at co_X12_isNow 15 = some (1, .imul)) o1 ?_
    refine x_iconst (by decide +kernel : am_at co_X12_isNow 16 = some (1, .iconst 1)) ?_
    obtain ⟨o2, h⟩ := h
    refine x_iadd (by decide +kernel : am_at co_X12_isNow 17 = some (1, .iadd)) o2 ?_
    refine x_iload_n (by decide +kernel : am_at co_X12_isNow 18 = some (1, .iload_n 3)) rfl ?_
    obtain ⟨o3, h⟩ := h
    refine x_iadd (by decide +kernel : am_at co_X12_isNow 19 = some (1, .iadd)) o3 ?_
    refine x_aload_n (by decide +kernel : am_at co_X12_isNow 20 = some (1, .aload_n 0)) rfl ?_
    refine x_getF (by decide +kernel : am_at co_X12_isNow 21 = some (3, .getfield 118)) pq_12_118 (by decide) rfl ob_152 ?_
    refine x_top2 (show 152 + 35 = 187 from rfl) ?_
    refine x_iload_n (by decide +kernel : am_at co_X12_isNow 24 = some (1, .iload_n 2)) rfl ?_
    refine x_iload_n (by decide +kernel : am_at co_X12_isNow 25 = some (1, .iload_n 3)) rfl ?_
    obtain ⟨o4, h⟩ := h
    refine x_iadd (by decide +kernel : am_at co_X12_isNow 26 = some (1, .iadd)) o4 ?_
    obtain ⟨o5, h⟩ := h
    refine x_iald (by decide +kernel : am_at co_X12_isNow 27 = some (1, .iaload)) (ia_187 o5.1 o5.2) ?_
    obtain ⟨o6, h⟩ := h
    refine x_iast (by decide +kernel : am_at co_X12_isNow 28 = some (1, .iastore)) (ow_186 o6.1 o6.2) ?_
    obtain ⟨o7, h⟩ := h
    refine x_iinc (L' := [(2, 152), (0, v1), (0, v2), (0, v3 + 1)]) (by decide +kernel : am_at co_X12_isNow 29 = some (3, .iinc 3 1)) rfl o7 rfl ?_
    refine x_goto (tgt := 2) (by decide +kernel : am_at co_X12_isNow 32 = some (3, .goto (-30))) rfl ?_
    exact am_weak (lk (lk (lk (lk ln)))) h
