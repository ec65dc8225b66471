/-! blocks (printed) -/
set_option maxRecDepth 20000 in
theorem bk_X12_qPartOf_0 {d : Nat} {Q : am_Q} {M : am_M} {v1 v2 : Int} (h : ((v1 < 0 ∨ 3 < v1 → am_r (7 * v2) ∧ am_cal pg d 223 [(2, 152), (0, 7 * v2)] sh_T M (am_c0 sh_T fun x2 M2 => Q (some (1, x2), sh_T, M2))) ∧ (v1 = 0 → Q (some (1, v2), sh_T, M)) ∧ (v1 = 1 → (0 ≤ v2 ∧ v2 < 200) ∧ Q (some (1, M 188 v2), sh_T, M)) ∧ (v1 = 2 → am_cal pg d 306 [(2, 152), (0, v2)] sh_T M (am_c1 sh_T fun x4 M4 => Q (some (1, x4), sh_T, M4))) ∧ (v1 = 3 → am_r (7 * v2) ∧ am_cal pg d 221 [(2, 152), (0, 7 * v2)] sh_T M (am_c0 sh_T fun x6 M6 => Q (some (1, x6), sh_T, M6))))) : am_g 12 1 co_X12_qPartOf d Q 0 [(2, 152), (0, v1), (0, v2)] [] sh_T M := by
  refine x_iload_n (by decide +kernel : am_at co_X12_qPartOf 0 = some (1, .iload_n 1)) rfl ?_
  refine x_tsw (by decide +kernel : am_at co_X12_qPartOf 1 = some (31, .tableswitch 58 0 3 #[31, 34, 42, 48])) (fun q => ?_) (fun q1 q2 => ?_)
  · have h := h.1 q
    refine x_aload_n (by decide +kernel : am_at co_X12_qPartOf 59 = some (1, .aload_n 0)) rfl ?_
    refine x_bipush (by decide +kernel : am_at co_X12_qPartOf 60 = some (2, .bipush 7)) ?_
    refine x_iload_n (by decide +kernel : am_at co_X12_qPartOf 62 = some (1, .iload_n 2)) rfl ?_
    obtain ⟨o0, h⟩ := h
    refine x_imul (by decide +kernel : am_at co_X12_qPartOf 63 = some (1, .imul)) o0 ?_
    refine x_callV (n := 2) (by decide +kernel : am_at co_X12_qPartOf 64 = some (3, .invokevirtual 411)) pq_12_411 pm_X12_manyAt rfl rfl rfl ob_152 h (x_k0 fun x2 M2 h => ?_)
    refine x_i2l (by decide +kernel : am_at co_X12_qPartOf 67 = some (1, .i2l)) ?_
    exact x_lret (by decide +kernel : am_at co_X12_qPartOf 68 = some (1, .lreturn)) h
  · rcases (show v1 = 0 ∨ v1 = 1 ∨ v1 = 2 ∨ v1 = 3 by omega) with q | q | q | q
    · refine ⟨31, by rw [q]; rfl, ?_⟩
      have h := h.2.1 q
      refine x_iload_n (by decide +kernel : am_at co_X12_qPartOf 32 = some (1, .iload_n 2)) rfl ?_
      refine x_i2l (by decide +kernel : am_at co_X12_qPartOf 33 = some (1, .i2l)) ?_
      exact x_lret (by decide +kernel : am_at co_X12_qPartOf 34 = some (1, .lreturn)) h
    · refine ⟨34, by rw [q]; rfl, ?_⟩
      have h := h.2.2.1 q
      refine x_aload_n (by decide +kernel : am_at co_X12_qPartOf 35 = some (1, .aload_n 0)) rfl ?_
      refine x_getF (by decide +kernel : am_at co_X12_qPartOf 36 = some (3, .getfield 121)) pq_12_121 (by decide) rfl ob_152 ?_
      refine x_top2 (show 152 + 36 = 188 from rfl) ?_
      refine x_iload_n (by decide +kernel : am_at co_X12_qPartOf 39 = some (1, .iload_n 2)) rfl ?_
      obtain ⟨o2, h⟩ := h
      refine x_iald (by decide +kernel : am_at co_X12_qPartOf 40 = some (1, .iaload)) (ia_188 o2.1 o2.2) ?_
      refine x_i2l (by decide +kernel : am_at co_X12_qPartOf 41 = some (1, .i2l)) ?_
      exact x_lret (by decide +kernel : am_at co_X12_qPartOf 42 = some (1, .lreturn)) h
    · refine ⟨42, by rw [q]; rfl, ?_⟩
      have h := h.2.2.2.1 q
      refine x_aload_n (by decide +kernel : am_at co_X12_qPartOf 43 = some (1, .aload_n 0)) rfl ?_
      refine x_iload_n (by decide +kernel : am_at co_X12_qPartOf 44 = some (1, .iload_n 2)) rfl ?_
      refine x_callV (n := 2) (by decide +kernel : am_at co_X12_qPartOf 45 = some (3, .invokevirtual 654)) pq_12_654 pm_X12_worstOf rfl rfl rfl ob_152 h (x_k1 fun x4 M4 h => ?_)
      exact x_lret (by decide +kernel : am_at co_X12_qPartOf 48 = some (1, .lreturn)) h
    · refine ⟨48, by rw [q]; rfl, ?_⟩
      have h := h.2.2.2.2 q
      refine x_aload_n (by decide +kernel : am_at co_X12_qPartOf 49 = some (1, .aload_n 0)) rfl ?_
      refine x_bipush (by decide +kernel : am_at co_X12_qPartOf 50 = some (2, .bipush 7)) ?_
      refine x_iload_n (by decide +kernel : am_at co_X12_qPartOf 52 = some (1, .iload_n 2)) rfl ?_
      obtain ⟨o4, h⟩ := h
      refine x_imul (by decide +kernel : am_at co_X12_qPartOf 53 = some (1, .imul)) o4 ?_
      refine x_callV (n := 2) (by decide +kernel : am_at co_X12_qPartOf 54 = some (3, .invokevirtual 398)) pq_12_398 pm_X12_sumAt rfl rfl rfl ob_152 h (x_k0 fun x6 M6 h => ?_)
      refine x_i2l (by decide +kernel : am_at co_X12_qPartOf 57 = some (1, .i2l)) ?_
      exact x_lret (by decide +kernel : am_at co_X12_qPartOf 58 = some (1, .lreturn)) h
set_option maxRecDepth 20000 in
theorem bk_X12_qOf_0 {d : Nat} {Q : am_Q} {M : am_M} {v1 v2 v4 : Int} (h : am_cal pg d 211 [(2, 152)] sh_T M (am_c0 sh_T fun x1 M1 => am_r (x1 - 1) ∧ am_cal pg d 169 [(1, v2), (1, 0), (1, x1 - 1)] sh_T M1 (am_c0 sh_T fun x3 M3 => ((x3 = 0 → Q (some (1, 0), sh_T, M3)) ∧ (¬ x3 = 0 → am_r (7 * v4) ∧ am_r (v2) ∧ am_r ((7 * v4) + v2) ∧ (0 ≤ (7 * v4) + v2 ∧ (7 * v4) + v2 < 1500) ∧ Q (some (1, M3 187 ((7 * v4) + v2)), sh_T, M3)))))) : am_g 12 1 co_X12_qOf d Q 0 [(2, 152), (0, v1), (1, v2), (3, 0), (0, v4)] [] sh_T M := by
  refine x_iload_n (by decide +kernel : am_at co_X12_qOf 0 = some (1, .iload_n 1)) rfl ?_
  refine x_lsw (tgt := 12) (by decide +kernel : am_at co_X12_qOf 1 = some (11, .lookupswitch 11 #[])) rfl ?_
  refine x_lload_n (by decide +kernel : am_at co_X12_qOf 12 = some (1, .lload_n 2)) rfl ?_
  refine x_lconst (by decide +kernel : am_at co_X12_qOf 13 = some (1, .lconst 0)) ?_
  refine x_aload_n (by decide +kernel : am_at co_X12_qOf 14 = some (1, .aload_n 0)) rfl ?_
  refine x_callV (n := 1) (by decide +kernel : am_at co_X12_qOf 15 = some (3, .invokevirtual 389)) pq_12_389 pm_X12_dreadMany rfl rfl rfl ob_152 h (x_k0 fun x1 M1 h => ?_)
  refine x_iconst (by decide +kernel : am_at co_X12_qOf 18 = some (1, .iconst 1)) ?_
  obtain ⟨o1, h⟩ := h
  refine x_isub (by decide +kernel : am_at co_X12_qOf 19 = some (1, .isub)) o1 ?_
  refine x_i2l (by decide +kernel : am_at co_X12_qOf 20 = some (1, .i2l)) ?_
  refine x_callS (n := 3) (by decide +kernel : am_at co_X12_qOf 21 = some (3, .invokestatic 249)) pq_12_249 rfl rfl rfl h (x_k0 fun x3 M3 h => ?_)
  refine x_if (tgt := 44) (by decide +kernel : am_at co_X12_qOf 24 = some (3, .ifCond .eq 20)) rfl Iff.rfl (fun c3 => ?_) (fun c3 => ?_)
  · have h := h.1 c3
    refine x_lconst (by decide +kernel : am_at co_X12_qOf 44 = some (1, .lconst 0)) ?_
    exact x_lret (by decide +kernel : am_at co_X12_qOf 45 = some (1, .lreturn)) h
  · have c3 := c3
    have h := h.2 c3
    refine x_aload_n (by decide +kernel : am_at co_X12_qOf 27 = some (1, .aload_n 0)) rfl ?_
    refine x_getF (by decide +kernel : am_at co_X12_qOf 28 = some (3, .getfield 118)) pq_12_118 (by decide) rfl ob_152 ?_
    refine x_top2 (show 152 + 35 = 187 from rfl) ?_
    refine x_bipush (by decide +kernel : am_at co_X12_qOf 31 = some (2, .bipush 7)) ?_
    refine x_iload (by decide +kernel : am_at co_X12_qOf 33 = some (2, .iload 4)) rfl ?_
    obtain ⟨o4, h⟩ := h
    refine x_imul (by decide +kernel : am_at co_X12_qOf 35 = some (1, .imul)) o4 ?_
    refine x_lload_n (by decide +kernel : am_at co_X12_qOf 36 = some (1, .lload_n 2)) rfl ?_
    obtain ⟨o5, h⟩ := h
    refine x_l2i (by decide +kernel : am_at co_X12_qOf 37 = some (1, .l2i)) o5 ?_
    obtain ⟨o6, h⟩ := h
    refine x_iadd (by decide +kernel : am_at co_X12_qOf 38 = some (1, .iadd)) o6 ?_
    obtain ⟨o7, h⟩ := h
    refine x_iald (by decide +kernel : am_at co_X12_qOf 39 = some (1, .iaload)) (ia_187 o7.1 o7.2) ?_
    refine x_i2l (by decide +kernel : am_at co_X12_qOf 40 = some (1, .i2l)) ?_
    refine x_goto (tgt := 45) (by decide +kernel : am_at co_X12_qOf 41 = some (3, .goto 4)) rfl ?_
    exact x_lret (by decide +kernel : am_at co_X12_qOf 45 = some (1, .lreturn)) h
set_option maxRecDepth 20000 in
theorem bk_X12_qTold_0 {d : Nat} {Q : am_Q} {M : am_M} {v1 : Int} (h : am_g 12 1 co_X12_qTold d Q 7 [(2, 152), (0, v1), (0, 0), (3, 0)] [] sh_T (am_up M 152 89 0)) : am_g 12 1 co_X12_qTold d Q 0 [(2, 152), (0, v1), (3, 0), (3, 0)] [] sh_T M := by
  refine x_aload_n (by decide +kernel : am_at co_X12_qTold 0 = some (1, .aload_n 0)) rfl ?_
  refine x_iconst (by decide +kernel : am_at co_X12_qTold 1 = some (1, .iconst 0)) ?_
  refine x_putf0 (by decide +kernel : am_at co_X12_qTold 2 = some (3, .putfield 642)) pq_12_642 rfl ob_152 ?_
  refine x_iconst (by decide +kernel : am_at co_X12_qTold 5 = some (1, .iconst 0)) ?_
  refine x_istore_n (L' := [(2, 152), (0, v1), (0, 0), (3, 0)]) (by decide +kernel : am_at co_X12_qTold 6 = some (1, .istore_n 2)) rfl ?_
  exact am_weak (lk (lk (lk (lk ln)))) h
set_option maxRecDepth 20000 in
theorem bk_X12_qTold_7 {d : Nat} {Q : am_Q} {M : am_M} {v1 v2 : Int} (h : ((M 152 83 ≤ v2 → Q (some (1, M 213 0), sh_T, M)) ∧ (v2 < M 152 83 → (0 ≤ v2 ∧ v2 < 1700) ∧ ((M 211 v2 < 1000 → ((M 211 v2 < 60 → ((M 211 v2 < 40 → ((¬ M 211 v2 = 13 → ((¬ M 211 v2 = 12 → am_cal pg d 299 [(2, 152), (0, M 211 v2)] sh_T M (am_cv sh_T fun M8 => am_g 12 1 co_X12_qTold d Q 162 [(2, 152), (0, v1), (0, v2), (3, 0)] [] sh_T M8)) ∧ (M 211 v2 = 12 → am_r ((M 152 89) - 1) ∧ am_r ((M 152 89) - 1) ∧ (0 ≤ (M 152 89) - 1 ∧ (M 152 89) - 1 < 1700) ∧ am_rl (1 - (M 213 ((M 152 89) - 1))) ∧ am_g 12 1 co_X12_qTold d Q 162 [(2, 152), (0, v1), (0, v2), (3, 0)] [] sh_T (am_up M 213 ((M 152 89) - 1) (1 - (M 213 ((M 152 89) - 1))))))) ∧ (M 211 v2 = 13 → am_cal pg d 298 [(2, 152), (1, 1)] sh_T M (am_cv sh_T fun M13 => am_g 12 1 co_X12_qTold d Q 162 [(2, 152), (0, v1), (0, v2), (3, 0)] [] sh_T M13)))) ∧ (40 ≤ M 211 v2 → am_r ((M 211 v2) - 40) ∧ am_cal pg d 300 [(2, 152), (0, (M 211 v2) - 40), (0, v1)] sh_T M (am_c1 sh_T fun x15 M15 => am_cal pg d 296 [(1, x15)] sh_T M15 (am_c1 sh_T fun x16 M16 => am_cal pg d 298 [(2, 152), (1, x16)] sh_T M16 (am_cv sh_T fun M17 => am_g 12 1 co_X12_qTold d Q 162 [(2, 152), (0, v1), (0, v2), (3, 0)] [] sh_T M17)))))) ∧ (60 ≤ M 211 v2 → am_r ((M 152 89) - 1) ∧ am_r ((M 211 v2) - 60) ∧ am_r ((M 152 89) - 1) ∧ (0 ≤ (M 152 89) - 1 ∧ (M 152 89) - 1 < 1700) ∧ am_cal pg d 301 [(2, 152), (0, (M 211 v2) - 60), (1, M 213 ((M 152 89) - 1)), (0, v1)] sh_T M (am_c1 sh_T fun x22 M22 => am_cal pg d 296 [(1, x22)] sh_T M22 (am_c1 sh_T fun x23 M23 => am_g 12 1 co_X12_qTold d Q 162 [(2, 152), (0, v1), (0, v2), (3, 0)] [] sh_T (am_up M23 213 ((M 152 89) - 1) x23)))))) ∧ (1000 ≤ M 211 v2 → am_r ((M 211 v2) - 1000) ∧ am_cal pg d 298 [(2, 152), (1, (M 211 v2) - 1000)] sh_T M (am_cv sh_T fun M25 => am_g 12 1 co_X12_qTold d Q 162 [(2, 152), (0, v1), (0, v2), (3, 0)] [] sh_T M25)))))) : am_g 12 1 co_X12_qTold d Q 7 [(2, 152), (0, v1), (0, v2), (3, 0)] [] sh_T M := by
  refine x_iload_n (by decide +kernel : am_at co_X12_qTold 7 = some (1, .iload_n 2)) rfl ?_
  refine x_aload_n (by decide +kernel : am_at co_X12_qTold 8 = some (1, .aload_n 0)) rfl ?_
  refine x_getf (by decide +kernel : am_at co_X12_qTold 9 = some (3, .getfield 576)) pq_12_576 rfl ob_152 ?_
  refine x_icmp (tgt := 168) (by decide +kernel : am_at co_X12_qTold 12 = some (3, .if_icmp .ge 156)) rfl Iff.rfl (fun c0 => ?_) (fun c0 => ?_)
  · have h := h.1 c0
    refine x_aload_n (by decide +kernel : am_at co_X12_qTold 168 = some (1, .aload_n 0)) rfl ?_
    refine x_getF (by decide +kernel : am_at co_X12_qTold 169 = some (3, .getfield 200)) pq_12_200 (by decide) rfl ob_152 ?_
    refine x_top2 (show 152 + 61 = 213 from rfl) ?_
    refine x_iconst (by decide +kernel : am_at co_X12_qTold 172 = some (1, .iconst 0)) ?_
    refine x_lald (by decide +kernel : am_at co_X12_qTold 173 = some (1, .laload)) (ia_213 (by decide) (by decide)) ?_
    exact x_lret (by decide +kernel : am_at co_X12_qTold 174 = some (1, .lreturn)) h
  · have c0 := (Int.not_le.mp c0)
    have h := h.2 c0
    refine x_aload_n (by decide +kernel : am_at co_X12_qTold 15 = some (1, .aload_n 0)) rfl ?_
    refine x_getF (by decide +kernel : am_at co_X12_qTold 16 = some (3, .getfield 194)) pq_12_194 (by decide) rfl ob_152 ?_
    refine x_top2 (show 152 + 59 = 211 from rfl) ?_
    refine x_iload_n (by decide +kernel : am_at co_X12_qTold 19 = some (1, .iload_n 2)) rfl ?_
    obtain ⟨o1, h⟩ := h
    refine x_iald (by decide +kernel : am_at co_X12_qTold 20 = some (1, .iaload)) (ia_211 o1.1 o1.2) ?_
    refine x_istore_n (L' := [(2, 152), (0, v1), (0, v2), (0, M 211 v2)]) (by decide +kernel : am_at co_X12_qTold 21 = some (1, .istore_n 3)) rfl ?_
    refine x_iload_n (by decide +kernel : am_at co_X12_qTold 22 = some (1, .iload_n 3)) rfl ?_
    refine x_sipush (by decide +kernel : am_at co_X12_qTold 23 = some (3, .sipush 1000)) ?_
    refine x_icmp (tgt := 42) (by decide +kernel : am_at co_X12_qTold 26 = some (3, .if_icmp .lt 16)) rfl Iff.rfl (fun c2 => ?_) (fun c2 => ?_)
    · have h := h.1 c2
      refine x_iload_n (by decide +kernel : am_at co_X12_qTold 42 = some (1, .iload_n 3)) rfl ?_
      refine x_bipush (by decide +kernel : am_at co_X12_qTold 43 = some (2, .bipush 60)) ?_
      refine x_icmp (tgt := 85) (by decide +kernel : am_at co_X12_qTold 45 = some (3, .if_icmp .lt 40)) rfl Iff.rfl (fun c3 => ?_) (fun c3 => ?_)
      · have h := h.1 c3
        refine x_iload_n (by decide +kernel : am_at co_X12_qTold 85 = some (1, .iload_n 3)) rfl ?_
        refine x_bipush (by decide +kernel : am_at co_X12_qTold 86 = some (2, .bipush 40)) ?_
        refine x_icmp (tgt := 110) (by decide +kernel : am_at co_X12_qTold 88 = some (3, .if_icmp .lt 22)) rfl Iff.rfl (fun c4 => ?_) (fun c4 => ?_)
        · have h := h.1 c4
          refine x_iload_n (by decide +kernel : am_at co_X12_qTold 110 = some (1, .iload_n 3)) rfl ?_
          refine x_bipush (by decide +kernel : am_at co_X12_qTold 111 = some (2, .bipush 13)) ?_
          refine x_icmp (tgt := 124) (by decide +kernel : am_at co_X12_qTold 113 = some (3, .if_icmp .ne 11)) rfl Iff.rfl (fun c5 => ?_) (fun c5 => ?_)
          · have h := h.1 c5
            refine x_iload_n (by decide +kernel : am_at co_X12_qTold 124 = some (1, .iload_n 3)) rfl ?_
            refine x_bipush (by decide +kernel : am_at co_X12_qTold 125 = some (2, .bipush 12)) ?_
            refine x_icmp (tgt := 157) (by decide +kernel : am_at co_X12_qTold 127 = some (3, .if_icmp .ne 30)) rfl Iff.rfl (fun c6 => ?_) (fun c6 => ?_)
            · have h := h.1 c6
              refine x_aload_n (by decide +kernel : am_at co_X12_qTold 157 = some (1, .aload_n 0)) rfl ?_
              refine x_iload_n (by decide +kernel : am_at co_X12_qTold 158 = some (1, .iload_n 3)) rfl ?_
              refine x_callV (n := 2) (by decide +kernel : am_at co_X12_qTold 159 = some (3, .invokevirtual 666)) pq_12_666 pm_X12_qJoins rfl rfl rfl ob_152 h (x_kv fun M8 h => ?_)
              exact am_weak (lk (lk (lk (ld ln)))) h
            · have c6 := (Classical.not_not.mp c6)
              have h := h.2 c6
              refine x_aload_n (by decide +kernel : am_at co_X12_qTold 130 = some (1, .aload_n 0)) rfl ?_
              refine x_getF (by decide +kernel : am_at co_X12_qTold 131 = some (3, .getfield 200)) pq_12_200 (by decide) rfl ob_152 ?_
              refine x_top2 (show 152 + 61 = 213 from rfl) ?_
              refine x_aload_n (by decide +kernel : am_at co_X12_qTold 134 = some (1, .aload_n 0)) rfl ?_
              refine x_getf (by decide +kernel : am_at co_X12_qTold 135 = some (3, .getfield 642)) pq_12_642 rfl ob_152 ?_
              refine x_iconst (by decide +kernel : am_at co_X12_qTold 138 = some (1, .iconst 1)) ?_
              obtain ⟨o8, h⟩ := h
              refine x_isub (by decide +kernel : am_at co_X12_qTold 139 = some (1, .isub)) o8 ?_
              refine x_lconst (by decide +kernel : am_at co_X12_qTold 140 = some (1, .lconst 1)) ?_
              refine x_aload_n (by decide +kernel : am_at co_X12_qTold 141 = some (1, .aload_n 0)) rfl ?_
              refine x_getF (by decide +kernel : am_at co_X12_qTold 142 = some (3, .getfield 200)) pq_12_200 (by decide) rfl ob_152 ?_
              refine x_top2 (show 152 + 61 = 213 from rfl) ?_
              refine x_aload_n (by decide +kernel : am_at co_X12_qTold 145 = some (1, .aload_n 0)) rfl ?_
              refine x_getf (by decide +kernel : am_at co_X12_qTold 146 = some (3, .getfield 642)) pq_12_642 rfl ob_152 ?_
              refine x_iconst (by decide +kernel : am_at co_X12_qTold 149 = some (1, .iconst 1)) ?_
              obtain ⟨o9, h⟩ := h
              refine x_isub (by decide +kernel : am_at co_X12_qTold 150 = some (1, .isub)) o9 ?_
              obtain ⟨o10, h⟩ := h
              refine x_lald (by decide +kernel : am_at co_X12_qTold 151 = some (1, .laload)) (ia_213 o10.1 o10.2) ?_
              obtain ⟨o11, h⟩ := h
              refine x_lsub (by decide +kernel : am_at co_X12_qTold 152 = some (1, .lsub)) o11 ?_
              refine x_last (by decide +kernel : am_at co_X12_qTold 153 = some (1, .lastore)) (ow_213 o10.1 o10.2) ?_
              refine x_goto (tgt := 162) (by decide +kernel : am_at co_X12_qTold 154 = some (3, .goto 8)) rfl ?_
              exact am_weak (lk (lk (lk (ld ln)))) h
          · have c5 := (Classical.not_not.mp c5)
            have h := h.2 c5
            refine x_aload_n (by decide +kernel : am_at co_X12_qTold 116 = some (1, .aload_n 0)) rfl ?_
            refine x_lconst (by decide +kernel : am_at co_X12_qTold 117 = some (1, .lconst 1)) ?_
            refine x_callV (n := 2) (by decide +kernel : am_at co_X12_qTold 118 = some (3, .invokevirtual 648)) pq_12_648 pm_X12_qPuts rfl rfl rfl ob_152 h (x_kv fun M13 h => ?_)
            refine x_goto (tgt := 162) (by decide +kernel : am_at co_X12_qTold 121 = some (3, .goto 41)) rfl ?_
            exact am_weak (lk (lk (lk (ld ln)))) h
        · have c4 := (Int.not_lt.mp c4)
          have h := h.2 c4
          refine x_aload_n (by decide +kernel : am_at co_X12_qTold 91 = some (1, .aload_n 0)) rfl ?_
          refine x_aload_n (by decide +kernel : am_at co_X12_qTold 92 = some (1, .aload_n 0)) rfl ?_
          refine x_iload_n (by decide +kernel : am_at co_X12_qTold 93 = some (1, .iload_n 3)) rfl ?_
          refine x_bipush (by decide +kernel : am_at co_X12_qTold 94 = some (2, .bipush 40)) ?_
          obtain ⟨o13, h⟩ := h
          refine x_isub (by decide +kernel : am_at co_X12_qTold 96 = some (1, .isub)) o13 ?_
          refine x_iload_n (by decide +kernel : am_at co_X12_qTold 97 = some (1, .iload_n 1)) rfl ?_
          refine x_callV (n := 3) (by decide +kernel : am_at co_X12_qTold 98 = some (3, .invokevirtual 662)) pq_12_662 pm_X12_qPartOf rfl rfl rfl ob_152 h (x_k1 fun x15 M15 h => ?_)
          refine x_callS (n := 1) (by decide +kernel : am_at co_X12_qTold 101 = some (3, .invokestatic 645)) pq_12_645 rfl rfl rfl h (x_k1 fun x16 M16 h => ?_)
          refine x_callV (n := 2) (by decide +kernel : am_at co_X12_qTold 104 = some (3, .invokevirtual 648)) pq_12_648 pm_X12_qPuts rfl rfl rfl ob_152 h (x_kv fun M17 h => ?_)
          refine x_goto (tgt := 162) (by decide +kernel : am_at co_X12_qTold 107 = some (3, .goto 55)) rfl ?_
          exact am_weak (lk (lk (lk (ld ln)))) h
      · have c3 := (Int.not_lt.mp c3)
        have h := h.2 c3
        refine x_aload_n (by decide +kernel : am_at co_X12_qTold 48 = some (1, .aload_n 0)) rfl ?_
        refine x_getF (by decide +kernel : am_at co_X12_qTold 49 = some (3, .getfield 200)) pq_12_200 (by decide) rfl ob_152 ?_
        refine x_top2 (show 152 + 61 = 213 from rfl) ?_
        refine x_aload_n (by decide +kernel : am_at co_X12_qTold 52 = some (1, .aload_n 0)) rfl ?_
        refine x_getf (by decide +kernel : am_at co_X12_qTold 53 = some (3, .getfield 642)) pq_12_642 rfl ob_152 ?_
        refine x_iconst (by decide +kernel : am_at co_X12_qTold 56 = some (1, .iconst 1)) ?_
        obtain ⟨o17, h⟩ := h
        refine x_isub (by decide +kernel : am_at co_X12_qTold 57 = some (1, .isub)) o17 ?_
        refine x_aload_n (by decide +kernel : am_at co_X12_qTold 58 = some (1, .aload_n 0)) rfl ?_
        refine x_iload_n (by decide +kernel : am_at co_X12_qTold 59 = some (1, .iload_n 3)) rfl ?_
        refine x_bipush (by decide +kernel : am_at co_X12_qTold 60 = some (2, .bipush 60)) ?_
        obtain ⟨o18, h⟩ := h
        refine x_isub (by decide +kernel : am_at co_X12_qTold 62 = some (1, .isub)) o18 ?_
        refine x_aload_n (by decide +kernel : am_at co_X12_qTold 63 = some (1, .aload_n 0)) rfl ?_
        refine x_getF (by decide +kernel : am_at co_X12_qTold 64 = some (3, .getfield 200)) pq_12_200 (by decide) rfl ob_152 ?_
        refine x_top2 (show 152 + 61 = 213 from rfl) ?_
        refine x_aload_n (by decide +kernel : am_at co_X12_qTold 67 = some (1, .aload_n 0)) rfl ?_
        refine x_getf (by decide +kernel : am_at co_X12_qTold 68 = some (3, .getfield 642)) pq_12_642 rfl ob_152 ?_
        refine x_iconst (by decide +kernel : am_at co_X12_qTold 71 = some (1, .iconst 1)) ?_
        obtain ⟨o19, h⟩ := h
        refine x_isub (by decide +kernel : am_at co_X12_qTold 72 = some (1, .isub)) o19 ?_
        obtain ⟨o20, h⟩ := h
        refine x_lald (by decide +kernel : am_at co_X12_qTold 73 = some (1, .laload)) (ia_213 o20.1 o20.2) ?_
        refine x_iload_n (by decide +kernel : am_at co_X12_qTold 74 = some (1, .iload_n 1)) rfl ?_
        refine x_callV (n := 4) (by decide +kernel : am_at co_X12_qTold 75 = some (3, .invokevirtual 658)) pq_12_658 pm_X12_qOf rfl rfl rfl ob_152 h (x_k1 fun x22 M22 h => ?_)
        refine x_callS (n := 1) (by decide +kernel : am_at co_X12_qTold 78 = some (3, .invokestatic 645)) pq_12_645 rfl rfl rfl h (x_k1 fun x23 M23 h => ?_)
        refine x_last (by decide +kernel : am_at co_X12_qTold 81 = some (1, .lastore)) (ow_213 o20.1 o20.2) ?_
        refine x_goto (tgt := 162) (by decide +kernel : am_at co_X12_qTold 82 = some (3, .goto 80)) rfl ?_
        exact am_weak (lk (lk (lk (ld ln)))) h
    · have c2 := (Int.not_lt.mp c2)
      have h := h.2 c2
      refine x_aload_n (by decide +kernel : am_at co_X12_qTold 29 = some (1, .aload_n 0)) rfl ?_
      refine x_iload_n (by decide +kernel : am_at co_X12_qTold 30 = some (1, .iload_n 3)) rfl ?_
      refine x_sipush (by decide +kernel : am_at co_X12_qTold 31 = some (3, .sipush 1000)) ?_
      obtain ⟨o23, h⟩ := h
      refine x_isub (by decide +kernel : am_at co_X12_qTold 34 = some (1, .isub)) o23 ?_
      refine x_i2l (by decide +kernel : am_at co_X12_qTold 35 = some (1, .i2l)) ?_
      refine x_callV (n := 2) (by decide +kernel : am_at co_X12_qTold 36 = some (3, .invokevirtual 648)) pq_12_648 pm_X12_qPuts rfl rfl rfl ob_152 h (x_kv fun M25 h => ?_)
      refine x_goto (tgt := 162) (by decide +kernel : am_at co_X12_qTold 39 = some (3, .goto 123)) rfl ?_
      exact am_weak (lk (lk (lk (ld ln)))) h
set_option maxRecDepth 20000 in
theorem bk_X12_qTold_162 {d : Nat} {Q : am_Q} {M : am_M} {v1 v2 : Int} (h : am_r (v2 + 1) ∧ am_g 12 1 co_X12_qTold d Q 7 [(2, 152), (0, v1), (0, v2 + 1), (3, 0)] [] sh_T M) : am_g 12 1 co_X12_qTold d Q 162 [(2, 152), (0, v1), (0, v2), (3, 0)] [] sh_T M := by
  obtain ⟨o0, h⟩ := h
  refine x_iinc (L' := [(2, 152), (0, v1), (0, v2 + 1), (3, 0)]) (by decide +kernel : am_at co_X12_qTold 162 = some (3, .iinc 2 1)) rfl o0 rfl ?_
  refine x_goto (tgt := 7) (by decide +kernel : am_at co_X12_qTold 165 = some (3, .goto (-158))) rfl ?_
  exact am_weak (lk (lk (lk (lk ln)))) h
set_option maxRecDepth 20000 in
theorem bk_X12_qKind_0 {d : Nat} {Q : am_Q} {M : am_M} (h : am_cal pg d 177 [(2, 152), (2, 193)] sh_T M (am_c0 sh_T fun x1 M1 => ((x1 = 0 → am_cal pg d 177 [(2, 152), (2, 194)] sh_T M1 (am_c0 sh_T fun x3 M3 => ((x3 = 0 → am_cal pg d 177 [(2, 152), (2, 195)] sh_T M3 (am_c0 sh_T fun x5 M5 => ((x5 = 0 → am_cal pg d 177 [(2, 152), (2, 196)] sh_T M5 (am_c0 sh_T fun x7 M7 => ((x7 = 0 → am_cal pg d 177 [(2, 152), (2, 197)] sh_T M7 (am_c0 sh_T fun x9 M9 => ((x9 = 0 → am_cal pg d 178 [(2, 152), (2, 198)] sh_T M9 (am_cv sh_T fun M11 => Q (some (0, 5), sh_T, M11))) ∧ (¬ x9 = 0 → Q (some (0, 4), sh_T, M9))))) ∧ (¬ x7 = 0 → Q (some (0, 3), sh_T, M7))))) ∧ (¬ x5 = 0 → Q (some (0, 2), sh_T, M5))))) ∧ (¬ x3 = 0 → Q (some (0, 1), sh_T, M3))))) ∧ (¬ x1 = 0 → Q (some (0, 0), sh_T, M1))))) : am_g 12 0 co_X12_qKind d Q 0 [(2, 152), (3, 0)] [] sh_T M := by
  refine x_aload_n (by decide +kernel : am_at co_X12_qKind 0 = some (1, .aload_n 0)) rfl ?_
  refine x_aload_n (by decide +kernel : am_at co_X12_qKind 1 = some (1, .aload_n 0)) rfl ?_
  refine x_getF (by decide +kernel : am_at co_X12_qKind 2 = some (3, .getfield 140)) pq_12_140 (by decide) rfl ob_152 ?_
  refine x_top2 (show 152 + 41 = 193 from rfl) ?_
  refine x_callV (n := 2) (by decide +kernel : am_at co_X12_qKind 5 = some (3, .invokevirtual 236)) pq_12_236 pm_X12_takes rfl rfl rfl ob_152 h (x_k0 fun x1 M1 h => ?_)
  refine x_if (tgt := 15) (by decide +kernel : am_at co_X12_qKind 8 = some (3, .ifCond .eq 7)) rfl Iff.rfl (fun c1 => ?_) (fun c1 => ?_)
  · have h := h.1 c1
    refine x_aload_n (by decide +kernel : am_at co_X12_qKind 15 = some (1, .aload_n 0)) rfl ?_
    refine x_aload_n (by decide +kernel : am_at co_X12_qKind 16 = some (1, .aload_n 0)) rfl ?_
    refine x_getF (by decide +kernel : am_at co_X12_qKind 17 = some (3, .getfield 143)) pq_12_143 (by decide) rfl ob_152 ?_
    refine x_top2 (show 152 + 42 = 194 from rfl) ?_
    refine x_callV (n := 2) (by decide +kernel : am_at co_X12_qKind 20 = some (3, .invokevirtual 236)) pq_12_236 pm_X12_takes rfl rfl rfl ob_152 h (x_k0 fun x3 M3 h => ?_)
    refine x_if (tgt := 30) (by decide +kernel : am_at co_X12_qKind 23 = some (3, .ifCond .eq 7)) rfl Iff.rfl (fun c3 => ?_) (fun c3 => ?_)
    · have h := h.1 c3
      refine x_aload_n (by decide +kernel : am_at co_X12_qKind 30 = some (1, .aload_n 0)) rfl ?_
      refine x_aload_n (by decide +kernel : am_at co_X12_qKind 31 = some (1, .aload_n 0)) rfl ?_
      refine x_getF (by decide +kernel : am_at co_X12_qKind 32 = some (3, .getfield 146)) pq_12_146 (by decide) rfl ob_152 ?_
      refine x_top2 (show 152 + 43 = 195 from rfl) ?_
      refine x_callV (n := 2) (by decide +kernel : am_at co_X12_qKind 35 = some (3, .invokevirtual 236)) pq_12_236 pm_X12_takes rfl rfl rfl ob_152 h (x_k0 fun x5 M5 h => ?_)
      refine x_if (tgt := 45) (by decide +kernel : am_at co_X12_qKind 38 = some (3, .ifCond .eq 7)) rfl Iff.rfl (fun c5 => ?_) (fun c5 => ?_)
      · have h := h.1 c5
        refine x_aload_n (by decide +kernel : am_at co_X12_qKind 45 = some (1, .aload_n 0)) rfl ?_
        refine x_aload_n (by decide +kernel : am_at co_X12_qKind 46 = some (1, .aload_n 0)) rfl ?_
        refine x_getF (by decide +kernel : am_at co_X12_qKind 47 = some (3, .getfield 149)) pq_12_149 (by decide) rfl ob_152 ?_
        refine x_top2 (show 152 + 44 = 196 from rfl) ?_
        refine x_callV (n := 2) (by decide +kernel : am_at co_X12_qKind 50 = some (3, .invokevirtual 236)) pq_12_236 pm_X12_takes rfl rfl rfl ob_152 h (x_k0 fun x7 M7 h => ?_)
        refine x_if (tgt := 60) (by decide +kernel : am_at co_X12_qKind 53 = some (3, .ifCond .eq 7)) rfl Iff.rfl (fun c7 => ?_) (fun c7 => ?_)
        · have h := h.1 c7
          refine x_aload_n (by decide +kernel : am_at co_X12_qKind 60 = some (1, .aload_n 0)) rfl ?_
          refine x_aload_n (by decide +kernel : am_at co_X12_qKind 61 = some (1, .aload_n 0)) rfl ?_
          refine x_getF (by decide +kernel : am_at co_X12_qKind 62 = some (3, .getfield 152)) pq_12_152 (by decide) rfl ob_152 ?_
          refine x_top2 (show 152 + 45 = 197 from rfl) ?_
          refine x_callV (n := 2) (by decide +kernel : am_at co_X12_qKind 65 = some (3, .invokevirtual 236)) pq_12_236 pm_X12_takes rfl rfl rfl ob_152 h (x_k0 fun x9 M9 h => ?_)
          refine x_if (tgt := 75) (by decide +kernel : am_at co_X12_qKind 68 = some (3, .ifCond .eq 7)) rfl Iff.rfl (fun c9 => ?_) (fun c9 => ?_)
          · have h := h.1 c9
            refine x_iconst (by decide +kernel : am_at co_X12_qKind 75 = some (1, .iconst 5)) ?_
            refine x_istore_n (L' := [(2, 152), (0, 5)]) (by decide +kernel : am_at co_X12_qKind 76 = some (1, .istore_n 1)) rfl ?_
            refine x_iload_n (by decide +kernel : am_at co_X12_qKind 77 = some (1, .iload_n 1)) rfl ?_
            refine x_iconst (by decide +kernel : am_at co_X12_qKind 78 = some (1, .iconst 5)) ?_
            refine x_icmp (tgt := 90) (by decide +kernel : am_at co_X12_qKind 79 = some (3, .if_icmp .ne 11)) rfl Iff.rfl (fun q => absurd q (show ¬ (¬ (5 : Int) = (5 : Int)) by decide)) (fun q => ?_)
            refine x_aload_n (by decide +kernel : am_at co_X12_qKind 82 = some (1, .aload_n 0)) rfl ?_
            refine x_aload_n (by decide +kernel : am_at co_X12_qKind 83 = some (1, .aload_n 0)) rfl ?_
            refine x_getF (by decide +kernel : am_at co_X12_qKind 84 = some (3, .getfield 155)) pq_12_155 (by decide) rfl ob_152 ?_
            refine x_top2 (show 152 + 46 = 198 from rfl) ?_
            refine x_callV (n := 2) (by decide +kernel : am_at co_X12_qKind 87 = some (3, .invokevirtual 279)) pq_12_279 pm_X12_asks rfl rfl rfl ob_152 h (x_kv fun M11 h => ?_)
            refine x_iload_n (by decide +kernel : am_at co_X12_qKind 90 = some (1, .iload_n 1)) rfl ?_
            exact x_iret (by decide +kernel : am_at co_X12_qKind 91 = some (1, .ireturn)) h
          · have c9 := c9
            have h := h.2 c9
            refine x_iconst (by decide +kernel : am_at co_X12_qKind 71 = some (1, .iconst 4)) ?_
            refine x_goto (tgt := 76) (by decide +kernel : am_at co_X12_qKind 72 = some (3, .goto 4)) rfl ?_
            refine x_istore_n (L' := [(2, 152), (0, 4)]) (by decide +kernel : am_at co_X12_qKind 76 = some (1, .istore_n 1)) rfl ?_
            refine x_iload_n (by decide +kernel : am_at co_X12_qKind 77 = some (1, .iload_n 1)) rfl ?_
            refine x_iconst (by decide +kernel : am_at co_X12_qKind 78 = some (1, .iconst 5)) ?_
            refine x_icmp (tgt := 90) (by decide +kernel : am_at co_X12_qKind 79 = some (3, .if_icmp .ne 11)) rfl Iff.rfl (fun q => ?_) (fun q => absurd (show ¬ (4 : Int) = (5 : Int) by decide) q)
            refine x_iload_n (by decide +kernel : am_at co_X12_qKind 90 = some (1, .iload_n 1)) rfl ?_
            exact x_iret (by decide +kernel : am_at co_X12_qKind 91 = some (1, .ireturn)) h
        · have c7 := c7
          have h := h.2 c7
          refine x_iconst (by decide +kernel : am_at co_X12_qKind 56 = some (1, .iconst 3)) ?_
          refine x_goto (tgt := 76) (by decide +kernel : am_at co_X12_qKind 57 = some (3, .goto 19)) rfl ?_
          refine x_istore_n (L' := [(2, 152), (0, 3)]) (by decide +kernel : am_at co_X12_qKind 76 = some (1, .istore_n 1)) rfl ?_
          refine x_iload_n (by decide +kernel : am_at co_X12_qKind 77 = some (1, .iload_n 1)) rfl ?_
          refine x_iconst (by decide +kernel : am_at co_X12_qKind 78 = some (1, .iconst 5)) ?_
          refine x_icmp (tgt := 90) (by decide +kernel : am_at co_X12_qKind 79 = some (3, .if_icmp .ne 11)) rfl Iff.rfl (fun q => ?_) (fun q => absurd (show ¬ (3 : Int) = (5 : Int) by decide) q)
          refine x_iload_n (by decide +kernel : am_at co_X12_qKind 90 = some (1, .iload_n 1)) rfl ?_
          exact x_iret (by decide +kernel : am_at co_X12_qKind 91 = some (1, .ireturn)) h
      · have c5 := c5
        have h := h.2 c5
        refine x_iconst (by decide +kernel : am_at co_X12_qKind 41 = some (1, .iconst 2)) ?_
        refine x_goto (tgt := 76) (by decide +kernel : am_at co_X12_qKind 42 = some (3, .goto 34)) rfl ?_
        refine x_istore_n (L' := [(2, 152), (0, 2)]) (by decide +kernel : am_at co_X12_qKind 76 = some (1, .istore_n 1)) rfl ?_
        refine x_iload_n (by decide +kernel : am_at co_X12_qKind 77 = some (1, .iload_n 1)) rfl ?_
        refine x_iconst (by decide +kernel : am_at co_X12_qKind 78 = some (1, .iconst 5)) ?_
        refine x_icmp (tgt := 90) (by decide +kernel : am_at co_X12_qKind 79 = some (3, .if_icmp .ne 11)) rfl Iff.rfl (fun q => ?_) (fun q => absurd (show ¬ (2 : Int) = (5 : Int) by decide) q)
        refine x_iload_n (by decide +kernel : am_at co_X12_qKind 90 = some (1, .iload_n 1)) rfl ?_
        exact x_iret (by decide +kernel : am_at co_X12_qKind 91 = some (1, .ireturn)) h
    · have c3 := c3
      have h := h.2 c3
      refine x_iconst (by decide +kernel : am_at co_X12_qKind 26 = some (1, .iconst 1)) ?_
      refine x_goto (tgt := 76) (by decide +kernel : am_at co_X12_qKind 27 = some (3, .goto 49)) rfl ?_
      refine x_istore_n (L' := [(2, 152), (0, 1)]) (by decide +kernel : am_at co_X12_qKind 76 = some (1, .istore_n 1)) rfl ?_
      refine x_iload_n (by decide +kernel : am_at co_X12_qKind 77 = some (1, .iload_n 1)) rfl ?_
      refine x_iconst (by decide +kernel : am_at co_X12_qKind 78 = some (1, .iconst 5)) ?_
      refine x_icmp (tgt := 90) (by decide +kernel : am_at co_X12_qKind 79 = some (3, .if_icmp .ne 11)) rfl Iff.rfl (fun q => ?_) (fun q => absurd (show ¬ (1 : Int) = (5 : Int) by decide) q)
      refine x_iload_n (by decide +kernel : am_at co_X12_qKind 90 = some (1, .iload_n 1)) rfl ?_
      exact x_iret (by decide +kernel : am_at co_X12_qKind 91 = some (1, .ireturn)) h
  · have c1 := c1
    have h := h.2 c1
    refine x_iconst (by decide +kernel : am_at co_X12_qKind 11 = some (1, .iconst 0)) ?_
    refine x_goto (tgt := 76) (by decide +kernel : am_at co_X12_qKind 12 = some (3, .goto 64)) rfl ?_
    refine x_istore_n (L' := [(2, 152), (0, 0)]) (by decide +kernel : am_at co_X12_qKind 76 = some (1, .istore_n 1)) rfl ?_
    refine x_iload_n (by decide +kernel : am_at co_X12_qKind 77 = some (1, .iload_n 1)) rfl ?_
    refine x_iconst (by decide +kernel : am_at co_X12_qKind 78 = some (1, .iconst 5)) ?_
    refine x_icmp (tgt := 90) (by decide +kernel : am_at co_X12_qKind 79 = some (3, .if_icmp .ne 11)) rfl Iff.rfl (fun q => ?_) (fun q => absurd (show ¬ (0 : Int) = (5 : Int) by decide) q)
    refine x_iload_n (by decide +kernel : am_at co_X12_qKind 90 = some (1, .iload_n 1)) rfl ?_
    exact x_iret (by decide +kernel : am_at co_X12_qKind 91 = some (1, .ireturn)) h
set_option maxRecDepth 20000 in
theorem bk_X12_qTakes_0 {d : Nat} {Q : am_Q} {M : am_M} {v1 v2 v4 : Int} (h : ((3 ≤ v1 → am_g 12 9 co_X12_qTakes d Q 15 [(2, 152), (0, v1), (1, v2), (3, 0), (0, v4), (3, 0)] [] sh_T M) ∧ (v1 < 3 → ((¬ v2 = 1 → am_g 12 9 co_X12_qTakes d Q 15 [(2, 152), (0, v1), (1, v2), (3, 0), (0, v4), (3, 0)] [] sh_T M) ∧ (v2 = 1 → ((¬ v1 = 0 → am_g 12 9 co_X12_qTakes d Q 38 [(2, 152), (0, v1), (1, v2), (3, 0), (0, v4), (0, 1)] [] sh_T M) ∧ (v1 = 0 → ((M 152 90 = (-1) → am_g 12 9 co_X12_qTakes d Q 48 [(2, 152), (0, v1), (1, v2), (3, 0), (0, v4), (0, 1)] [] sh_T M) ∧ (¬ M 152 90 = (-1) → am_g 12 9 co_X12_qTakes d Q 38 [(2, 152), (0, v1), (1, v2), (3, 0), (0, v4), (0, 1)] [] sh_T M))))))))) : am_g 12 9 co_X12_qTakes d Q 0 [(2, 152), (0, v1), (1, v2), (3, 0), (0, v4), (3, 0)] [] sh_T M := by
  refine x_iload_n (by decide +kernel : am_at co_X12_qTakes 0 = some (1, .iload_n 1)) rfl ?_
  refine x_iconst (by decide +kernel : am_at co_X12_qTakes 1 = some (1, .iconst 3)) ?_
  refine x_icmp (tgt := 15) (by decide +kernel : am_at co_X12_qTakes 2 = some (3, .if_icmp .ge 13)) rfl Iff.rfl (fun c0 => ?_) (fun c0 => ?_)
  · have h := h.1 c0
    exact am_weak (lk (lk (lk (lk (lk (lk ln)))))) h
  · have c0 := (Int.not_le.mp c0)
    have h := h.2 c0
    refine x_lload_n (by decide +kernel : am_at co_X12_qTakes 5 = some (1, .lload_n 2)) rfl ?_
    refine x_lconst (by decide +kernel : am_at co_X12_qTakes 6 = some (1, .lconst 1)) ?_
    refine x_lif (tgt := 15) (by decide +kernel : am_at co_X12_qTakes 7 = some (1, .lcmp)) (by decide +kernel : am_at co_X12_qTakes 8 = some (3, .ifCond .ne 7)) rfl Iff.rfl (fun c1 => ?_) (fun c1 => ?_)
    · have h := h.1 c1
      exact am_weak (lk (lk (lk (lk (lk (lk ln)))))) h
    · have c1 := (Classical.not_not.mp c1)
      have h := h.2 c1
      refine x_iconst (by decide +kernel : am_at co_X12_qTakes 11 = some (1, .iconst 1)) ?_
      refine x_goto (tgt := 16) (by decide +kernel : am_at co_X12_qTakes 12 = some (3, .goto 4)) rfl ?_
      refine x_istore (L' := [(2, 152), (0, v1), (1, v2), (3, 0), (0, v4), (0, 1)]) (by decide +kernel : am_at co_X12_qTakes 16 = some (2, .istore 5)) rfl ?_
      refine x_iload_n (by decide +kernel : am_at co_X12_qTakes 18 = some (1, .iload_n 1)) rfl ?_
      refine x_if (tgt := 38) (by decide +kernel : am_at co_X12_qTakes 19 = some (3, .ifCond .ne 19)) rfl Iff.rfl (fun c2 => ?_) (fun c2 => ?_)
      · have h := h.1 c2
        exact am_weak (lk (lk (lk (lk (lk (lk ln)))))) h
      · have c2 := (Classical.not_not.mp c2)
        have h := h.2 c2
        refine x_iload (by decide +kernel : am_at co_X12_qTakes 22 = some (2, .iload 5)) rfl ?_
        refine x_if (tgt := 38) (by decide +kernel : am_at co_X12_qTakes 24 = some (3, .ifCond .eq 14)) rfl Iff.rfl (fun q => absurd q (show ¬ ((1 : Int) = 0) by decide)) (fun q => ?_)
        refine x_aload_n (by decide +kernel : am_at co_X12_qTakes 27 = some (1, .aload_n 0)) rfl ?_
        refine x_getf (by decide +kernel : am_at co_X12_qTakes 28 = some (3, .getfield 669)) pq_12_669 rfl ob_152 ?_
        refine x_ldc2 (by decide +kernel : am_at co_X12_qTakes 31 = some (3, .ldc2_w 555)) pq_12_555 ?_
        refine x_lif (tgt := 48) (by decide +kernel : am_at co_X12_qTakes 34 = some (1, .lcmp)) (by decide +kernel : am_at co_X12_qTakes 35 = some (3, .ifCond .eq 13)) rfl Iff.rfl (fun c3 => ?_) (fun c3 => ?_)
        · have h := h.1 c3
          exact am_weak (lk (lk (lk (lk (lk (lk ln)))))) h
        · have c3 := c3
          have h := h.2 c3
          exact am_weak (lk (lk (lk (lk (lk (lk ln)))))) h
set_option maxRecDepth 20000 in
theorem bk_X12_qTakes_15 {d : Nat} {Q : am_Q} {M : am_M} {v1 v2 v4 : Int} (h : ((¬ v1 = 0 → am_g 12 9 co_X12_qTakes d Q 38 [(2, 152), (0, v1), (1, v2), (3, 0), (0, v4), (0, 0)] [] sh_T M) ∧ (v1 = 0 → am_g 12 9 co_X12_qTakes d Q 38 [(2, 152), (0, v1), (1, v2), (3, 0), (0, v4), (0, 0)] [] sh_T M))) : am_g 12 9 co_X12_qTakes d Q 15 [(2, 152), (0, v1), (1, v2), (3, 0), (0, v4), (3, 0)] [] sh_T M := by
  refine x_iconst (by decide +kernel : am_at co_X12_qTakes 15 = some (1, .iconst 0)) ?_
  refine x_istore (L' := [(2, 152), (0, v1), (1, v2), (3, 0), (0, v4), (0, 0)]) (by decide +kernel : am_at co_X12_qTakes 16 = some (2, .istore 5)) rfl ?_
  refine x_iload_n (by decide +kernel : am_at co_X12_qTakes 18 = some (1, .iload_n 1)) rfl ?_
  refine x_if (tgt := 38) (by decide +kernel : am_at co_X12_qTakes 19 = some (3, .ifCond .ne 19)) rfl Iff.rfl (fun c0 => ?_) (fun c0 => ?_)
  · have h := h.1 c0
    exact am_weak (lk (lk (lk (lk (lk (lk ln)))))) h
  · have c0 := (Classical.not_not.mp c0)
    have h := h.2 c0
    refine x_iload (by decide +kernel : am_at co_X12_qTakes 22 = some (2, .iload 5)) rfl ?_
    refine x_if (tgt := 38) (by decide +kernel : am_at co_X12_qTakes 24 = some (3, .ifCond .eq 14)) rfl Iff.rfl (fun q => ?_) (fun q => absurd (show (0 : Int) = 0 by decide) q)
    exact am_weak (lk (lk (lk (lk (lk (lk ln)))))) h
set_option maxRecDepth 20000 in
theorem bk_X12_qTakes_38 {d : Nat} {Q : am_Q} {M : am_M} {v1 v2 v4 v5 : Int} (h : ((¬ v1 = 1 → am_g 12 9 co_X12_qTakes d Q 55 [(2, 152), (0, v1), (1, v2), (3, 0), (3, 0), (0, v5)] [] sh_T M) ∧ (v1 = 1 → ((v5 = 0 → am_g 12 9 co_X12_qTakes d Q 55 [(2, 152), (0, v1), (1, v2), (3, 0), (3, 0), (0, v5)] [] sh_T M) ∧ (¬ v5 = 0 → am_g 12 9 co_X12_qTakes d Q 48 [(2, 152), (0, v1), (1, v2), (3, 0), (0, v4), (0, v5)] [] sh_T M))))) : am_g 12 9 co_X12_qTakes d Q 38 [(2, 152), (0, v1), (1, v2), (3, 0), (0, v4), (0, v5)] [] sh_T M := by
  refine x_iload_n (by decide +kernel : am_at co_X12_qTakes 38 = some (1, .iload_n 1)) rfl ?_
  refine x_iconst (by decide +kernel : am_at co_X12_qTakes 39 = some (1, .iconst 1)) ?_
  refine x_icmp (tgt := 55) (by decide +kernel : am_at co_X12_qTakes 40 = some (3, .if_icmp .ne 15)) rfl Iff.rfl (fun c0 => ?_) (fun c0 => ?_)
  · have h := h.1 c0
    exact am_weak (lk (lk (lk (lk (ld (lk ln)))))) h
  · have c0 := (Classical.not_not.mp c0)
    have h := h.2 c0
    refine x_iload (by decide +kernel : am_at co_X12_qTakes 43 = some (2, .iload 5)) rfl ?_
    refine x_if (tgt := 55) (by decide +kernel : am_at co_X12_qTakes 45 = some (3, .ifCond .eq 10)) rfl Iff.rfl (fun c1 => ?_) (fun c1 => ?_)
    · have h := h.1 c1
      exact am_weak (lk (lk (lk (lk (ld (lk ln)))))) h
    · have c1 := c1
      have h := h.2 c1
      exact am_weak (lk (lk (lk (lk (lk (lk ln)))))) h
set_option maxRecDepth 20000 in
theorem bk_X12_qTakes_48 {d : Nat} {Q : am_Q} {M : am_M} {v1 v2 v4 v5 : Int} (h : am_g 12 9 co_X12_qTakes d Q 55 [(2, 152), (0, v1), (1, v2), (3, 0), (3, 0), (0, v5)] [] sh_T (am_up M 152 90 v4)) : am_g 12 9 co_X12_qTakes d Q 48 [(2, 152), (0, v1), (1, v2), (3, 0), (0, v4), (0, v5)] [] sh_T M := by
  refine x_aload_n (by decide +kernel : am_at co_X12_qTakes 48 = some (1, .aload_n 0)) rfl ?_
  refine x_iload (by decide +kernel : am_at co_X12_qTakes 49 = some (2, .iload 4)) rfl ?_
  refine x_i2l (by decide +kernel : am_at co_X12_qTakes 51 = some (1, .i2l)) ?_
  refine x_putf1 (by decide +kernel : am_at co_X12_qTakes 52 = some (3, .putfield 669)) pq_12_669 rfl ob_152 ?_
  exact am_weak (lk (lk (lk (lk (ld (lk ln)))))) h
set_option maxRecDepth 20000 in
theorem bk_X12_qTakes_55 {d : Nat} {Q : am_Q} {M : am_M} {v1 v2 v5 : Int} (h : ((¬ v1 = 2 → am_g 12 9 co_X12_qTakes d Q 75 [(2, 152), (0, v1), (1, v2), (3, 0), (3, 0), (3, 0)] [] sh_T M) ∧ (v1 = 2 → ((v5 = 0 → am_g 12 9 co_X12_qTakes d Q 75 [(2, 152), (0, v1), (1, v2), (3, 0), (3, 0), (3, 0)] [] sh_T M) ∧ (¬ v5 = 0 → am_rl ((M 152 90) + 1) ∧ am_g 12 9 co_X12_qTakes d Q 75 [(2, 152), (0, v1), (1, v2), (3, 0), (3, 0), (3, 0)] [] sh_T (am_up M 152 90 ((M 152 90) + 1))))))) : am_g 12 9 co_X12_qTakes d Q 55 [(2, 152), (0, v1), (1, v2), (3, 0), (3, 0), (0, v5)] [] sh_T M := by
  refine x_iload_n (by decide +kernel : am_at co_X12_qTakes 55 = some (1, .iload_n 1)) rfl ?_
  refine x_iconst (by decide +kernel : am_at co_X12_qTakes 56 = some (1, .iconst 2)) ?_
  refine x_icmp (tgt := 75) (by decide +kernel : am_at co_X12_qTakes 57 = some (3, .if_icmp .ne 18)) rfl Iff.rfl (fun c0 => ?_) (fun c0 => ?_)
  · have h := h.1 c0
    exact am_weak (lk (lk (lk (lk (lk (ld ln)))))) h
  · have c0 := (Classical.not_not.mp c0)
    have h := h.2 c0
    refine x_iload (by decide +kernel : am_at co_X12_qTakes 60 = some (2, .iload 5)) rfl ?_
    refine x_if (tgt := 75) (by decide +kernel : am_at co_X12_qTakes 62 = some (3, .ifCond .eq 13)) rfl Iff.rfl (fun c1 => ?_) (fun c1 => ?_)
    · have h := h.1 c1
      exact am_weak (lk (lk (lk (lk (lk (ld ln)))))) h
    · have c1 := c1
      have h := h.2 c1
      refine x_aload_n (by decide +kernel : am_at co_X12_qTakes 65 = some (1, .aload_n 0)) rfl ?_
      refine x_dup2' (by decide +kernel : am_at co_X12_qTakes 66 = some (1, .dup)) ?_
      refine x_getf (by decide +kernel : am_at co_X12_qTakes 67 = some (3, .getfield 669)) pq_12_669 rfl ob_152 ?_
      refine x_lconst (by decide +kernel : am_at co_X12_qTakes 70 = some (1, .lconst 1)) ?_
      obtain ⟨o2, h⟩ := h
      refine x_ladd (by decide +kernel : am_at co_X12_qTakes 71 = some (1, .ladd)) o2 ?_
      refine x_putf1 (by decide +kernel : am_at co_X12_qTakes 72 = some (3, .putfield 669)) pq_12_669 rfl ob_152 ?_
      exact am_weak (lk (lk (lk (lk (lk (ld ln)))))) h
set_option maxRecDepth 20000 in
theorem bk_X12_qTakes_75 {d : Nat} {Q : am_Q} {M : am_M} {v1 v2 : Int} (h : ((¬ v1 = 3 → am_g 12 9 co_X12_qTakes d Q 90 [(2, 152), (0, v1), (1, v2), (3, 0), (3, 0), (3, 0)] [] sh_T M) ∧ (v1 = 3 → am_rl ((M 152 90) + v2) ∧ am_g 12 9 co_X12_qTakes d Q 90 [(2, 152), (0, v1), (1, v2), (3, 0), (3, 0), (3, 0)] [] sh_T (am_up M 152 90 ((M 152 90) + v2))))) : am_g 12 9 co_X12_qTakes d Q 75 [(2, 152), (0, v1), (1, v2), (3, 0), (3, 0), (3, 0)] [] sh_T M := by
  refine x_iload_n (by decide +kernel : am_at co_X12_qTakes 75 = some (1, .iload_n 1)) rfl ?_
  refine x_iconst (by decide +kernel : am_at co_X12_qTakes 76 = some (1, .iconst 3)) ?_
  refine x_icmp (tgt := 90) (by decide +kernel : am_at co_X12_qTakes 77 = some (3, .if_icmp .ne 13)) rfl Iff.rfl (fun c0 => ?_) (fun c0 => ?_)
  · have h := h.1 c0
    exact am_weak (lk (lk (lk (lk (lk (lk ln)))))) h
  · have c0 := (Classical.not_not.mp c0)
    have h := h.2 c0
    refine x_aload_n (by decide +kernel : am_at co_X12_qTakes 80 = some (1, .aload_n 0)) rfl ?_
    refine x_dup2' (by decide +kernel : am_at co_X12_qTakes 81 = some (1, .dup)) ?_
    refine x_getf (by decide +kernel : am_at co_X12_qTakes 82 = some (3, .getfield 669)) pq_12_669 rfl ob_152 ?_
    refine x_lload_n (by decide +kernel : am_at co_X12_qTakes 85 = some (1, .lload_n 2)) rfl ?_
    obtain ⟨o1, h⟩ := h
    refine x_ladd (by decide +kernel : am_at co_X12_qTakes 86 = some (1, .ladd)) o1 ?_
    refine x_putf1 (by decide +kernel : am_at co_X12_qTakes 87 = some (3, .putfield 669)) pq_12_669 rfl ob_152 ?_
    exact am_weak (lk (lk (lk (lk (lk (lk ln)))))) h
set_option maxRecDepth 20000 in
theorem bk_X12_qTakes_90 {d : Nat} {Q : am_Q} {M : am_M} {v1 v2 : Int} (h : ((v1 ≤ 3 → am_g 12 9 co_X12_qTakes d Q 133 [(2, 152), (3, 0), (3, 0), (3, 0), (3, 0), (3, 0)] [] sh_T M) ∧ (3 < v1 → ((¬ M 152 91 = 0 → am_g 12 9 co_X12_qTakes d Q 128 [(2, 152), (3, 0), (1, v2), (3, 0), (3, 0), (3, 0)] [] sh_T M) ∧ (M 152 91 = 0 → ((¬ v1 = 4 → ((M 152 90 ≤ v2 → am_g 12 9 co_X12_qTakes d Q 133 [(2, 152), (3, 0), (3, 0), (3, 0), (3, 0), (3, 0)] [] sh_T M) ∧ (v2 < M 152 90 → am_g 12 9 co_X12_qTakes d Q 128 [(2, 152), (3, 0), (1, v2), (3, 0), (3, 0), (3, 0)] [] sh_T M))) ∧ (v1 = 4 → ((v2 ≤ M 152 90 → am_g 12 9 co_X12_qTakes d Q 133 [(2, 152), (3, 0), (3, 0), (3, 0), (3, 0), (3, 0)] [] sh_T M) ∧ (M 152 90 < v2 → am_g 12 9 co_X12_qTakes d Q 128 [(2, 152), (3, 0), (1, v2), (3, 0), (3, 0), (3, 0)] [] sh_T M))))))))) : am_g 12 9 co_X12_qTakes d Q 90 [(2, 152), (0, v1), (1, v2), (3, 0), (3, 0), (3, 0)] [] sh_T M := by
  refine x_iload_n (by decide +kernel : am_at co_X12_qTakes 90 = some (1, .iload_n 1)) rfl ?_
  refine x_iconst (by decide +kernel : am_at co_X12_qTakes 91 = some (1, .iconst 3)) ?_
  refine x_icmp (tgt := 133) (by decide +kernel : am_at co_X12_qTakes 92 = some (3, .if_icmp .le 41)) rfl Iff.rfl (fun c0 => ?_) (fun c0 => ?_)
  · have h := h.1 c0
    exact am_weak (lk (ld (ld (lk (lk (lk ln)))))) h
  · have c0 := (Int.not_le.mp c0)
    have h := h.2 c0
    refine x_aload_n (by decide +kernel : am_at co_X12_qTakes 95 = some (1, .aload_n 0)) rfl ?_
    refine x_getf (by decide +kernel : am_at co_X12_qTakes 96 = some (3, .getfield 672)) pq_12_672 rfl ob_152 ?_
    refine x_if (tgt := 128) (by decide +kernel : am_at co_X12_qTakes 99 = some (3, .ifCond .ne 29)) rfl Iff.rfl (fun c1 => ?_) (fun c1 => ?_)
    · have h := h.1 c1
      exact am_weak (lk (ld (lk (lk (lk (lk ln)))))) h
    · have c1 := (Classical.not_not.mp c1)
      have h := h.2 c1
      refine x_iload_n (by decide +kernel : am_at co_X12_qTakes 102 = some (1, .iload_n 1)) rfl ?_
      refine x_iconst (by decide +kernel : am_at co_X12_qTakes 103 = some (1, .iconst 4)) ?_
      refine x_icmp (tgt := 119) (by decide +kernel : am_at co_X12_qTakes 104 = some (3, .if_icmp .ne 15)) rfl Iff.rfl (fun c2 => ?_) (fun c2 => ?_)
      · have h := h.1 c2
        refine x_lload_n (by decide +kernel : am_at co_X12_qTakes 119 = some (1, .lload_n 2)) rfl ?_
        refine x_aload_n (by decide +kernel : am_at co_X12_qTakes 120 = some (1, .aload_n 0)) rfl ?_
        refine x_getf (by decide +kernel : am_at co_X12_qTakes 121 = some (3, .getfield 669)) pq_12_669 rfl ob_152 ?_
        refine x_lif (tgt := 133) (by decide +kernel : am_at co_X12_qTakes 124 = some (1, .lcmp)) (by decide +kernel : am_at co_X12_qTakes 125 = some (3, .ifCond .ge 8)) rfl Iff.rfl (fun c3 => ?_) (fun c3 => ?_)
        · have h := h.1 c3
          exact am_weak (lk (ld (ld (lk (lk (lk ln)))))) h
        · have c3 := (Int.not_le.mp c3)
          have h := h.2 c3
          exact am_weak (lk (ld (lk (lk (lk (lk ln)))))) h
      · have c2 := (Classical.not_not.mp c2)
        have h := h.2 c2
        refine x_lload_n (by decide +kernel : am_at co_X12_qTakes 107 = some (1, .lload_n 2)) rfl ?_
        refine x_aload_n (by decide +kernel : am_at co_X12_qTakes 108 = some (1, .aload_n 0)) rfl ?_
        refine x_getf (by decide +kernel : am_at co_X12_qTakes 109 = some (3, .getfield 669)) pq_12_669 rfl ob_152 ?_
        refine x_lif (tgt := 133) (by decide +kernel : am_at co_X12_qTakes 112 = some (1, .lcmp)) (by decide +kernel : am_at co_X12_qTakes 113 = some (3, .ifCond .le 20)) rfl Iff.rfl (fun c4 => ?_) (fun c4 => ?_)
        · have h := h.1 c4
          exact am_weak (lk (ld (ld (lk (lk (lk ln)))))) h
        · have c4 := (Int.not_le.mp c4)
          have h := h.2 c4
          refine x_goto (tgt := 128) (by decide +kernel : am_at co_X12_qTakes 116 = some (3, .goto 12)) rfl ?_
          exact am_weak (lk (ld (lk (lk (lk (lk ln)))))) h
set_option maxRecDepth 20000 in
theorem bk_X12_qTakes_128 {d : Nat} {Q : am_Q} {M : am_M} {v2 : Int} (h : am_g 12 9 co_X12_qTakes d Q 133 [(2, 152), (3, 0), (3, 0), (3, 0), (3, 0), (3, 0)] [] sh_T (am_up M 152 90 v2)) : am_g 12 9 co_X12_qTakes d Q 128 [(2, 152), (3, 0), (1, v2), (3, 0), (3, 0), (3, 0)] [] sh_T M := by
  refine x_aload_n (by decide +kernel : am_at co_X12_qTakes 128 = some (1, .aload_n 0)) rfl ?_
  refine x_lload_n (by decide +kernel : am_at co_X12_qTakes 129 = some (1, .lload_n 2)) rfl ?_
  refine x_putf1 (by decide +kernel : am_at co_X12_qTakes 130 = some (3, .putfield 669)) pq_12_669 rfl ob_152 ?_
  exact am_weak (lk (lk (ld (lk (lk (lk ln)))))) h
set_option maxRecDepth 20000 in
theorem bk_X12_qTakes_133 {d : Nat} {Q : am_Q} {M : am_M} (h : Q (none, sh_T, (am_up M 152 91 0))) : am_g 12 9 co_X12_qTakes d Q 133 [(2, 152), (3, 0), (3, 0), (3, 0), (3, 0), (3, 0)] [] sh_T M := by
  refine x_aload_n (by decide +kernel : am_at co_X12_qTakes 133 = some (1, .aload_n 0)) rfl ?_
  refine x_iconst (by decide +kernel : am_at co_X12_qTakes 134 = some (1, .iconst 0)) ?_
  refine x_putf5 (by decide +kernel : am_at co_X12_qTakes 135 = some (3, .putfield 672)) pq_12_672 rfl ob_152 (by decide) ?_
  exact x_vret (by decide +kernel : am_at co_X12_qTakes 138 = some (1, .return_)) h
set_option maxRecDepth 20000 in
theorem bk_X12_ask_0 {d : Nat} {Q : am_Q} {M : am_M} {v1 : Int} (h : am_cal pg d 215 [(2, 152), (0, v1)] sh_T M (am_c0 sh_T fun x1 M1 => ((¬ x1 = 0 → am_cal pg d 303 [(2, 152)] sh_T (am_up (am_up (am_up (am_up (am_up (am_up (am_up (am_up (am_up (am_up M1 152 3 (M1 152 1)) 152 1 0) 152 2 0) 152 4 (-1)) 152 5 0) 152 6 (-1)) 152 83 0) 152 85 0) 152 86 0) 152 87 0) (am_c0 sh_T fun x3 M3 => ((¬ M3 152 5 = 0 → am_g 12 1 co_X12_ask d Q 94 [(2, 152), (0, v1), (0, x3), (3, 0)] [] sh_T M3) ∧ (M3 152 5 = 0 → ((3 ≤ x3 → am_g 12 1 co_X12_ask d Q 94 [(2, 152), (0, v1), (0, x3), (3, 0)] [] sh_T M3) ∧ (x3 < 3 → am_cal pg d 294 [(2, 152)] sh_T M3 (am_cv sh_T fun M6 => am_g 12 1 co_X12_ask d Q 105 [(2, 152), (0, v1), (0, x3), (3, 0)] [] sh_T M6))))))) ∧ (x1 = 0 → Q (some (1, (-1000000000000000)), sh_T, (am_up M1 152 1 0)))))) : am_g 12 1 co_X12_ask d Q 0 [(2, 152), (0, v1), (3, 0), (3, 0)] [] sh_T M := by
  refine x_aload_n (by decide +kernel : am_at co_X12_ask 0 = some (1, .aload_n 0)) rfl ?_
  refine x_iload_n (by decide +kernel : am_at co_X12_ask 1 = some (1, .iload_n 1)) rfl ?_
  refine x_callV (n := 2) (by decide +kernel : am_at co_X12_ask 2 = some (3, .invokevirtual 446)) pq_12_446 pm_X12_isDreamer rfl rfl rfl ob_152 h (x_k0 fun x1 M1 h => ?_)
  refine x_if (tgt := 17) (by decide +kernel : am_at co_X12_ask 5 = some (3, .ifCond .ne 12)) rfl Iff.rfl (fun c1 => ?_) (fun c1 => ?_)
  · have h := h.1 c1
    refine x_aload_n (by decide +kernel : am_at co_X12_ask 17 = some (1, .aload_n 0)) rfl ?_
    refine x_aload_n (by decide +kernel : am_at co_X12_ask 18 = some (1, .aload_n 0)) rfl ?_
    refine x_getf (by decide +kernel : am_at co_X12_ask 19 = some (3, .getfield 206)) pq_12_206 rfl ob_152 ?_
    refine x_putf0 (by decide +kernel : am_at co_X12_ask 22 = some (3, .putfield 218)) pq_12_218 rfl ob_152 ?_
    refine x_aload_n (by decide +kernel : am_at co_X12_ask 25 = some (1, .aload_n 0)) rfl ?_
    refine x_iconst (by decide +kernel : am_at co_X12_ask 26 = some (1, .iconst 0)) ?_
    refine x_putf0 (by decide +kernel : am_at co_X12_ask 27 = some (3, .putfield 206)) pq_12_206 rfl ob_152 ?_
    refine x_aload_n (by decide +kernel : am_at co_X12_ask 30 = some (1, .aload_n 0)) rfl ?_
    refine x_iconst (by decide +kernel : am_at co_X12_ask 31 = some (1, .iconst 0)) ?_
    refine x_putf0 (by decide +kernel : am_at co_X12_ask 32 = some (3, .putfield 215)) pq_12_215 rfl ob_152 ?_
    refine x_aload_n (by decide +kernel : am_at co_X12_ask 35 = some (1, .aload_n 0)) rfl ?_
    refine x_iconst (by decide +kernel : am_at co_X12_ask 36 = some (1, .iconst (-1))) ?_
    refine x_putf0 (by decide +kernel : am_at co_X12_ask 37 = some (3, .putfield 229)) pq_12_229 rfl ob_152 ?_
    refine x_aload_n (by decide +kernel : am_at co_X12_ask 40 = some (1, .aload_n 0)) rfl ?_
    refine x_iconst (by decide +kernel : am_at co_X12_ask 41 = some (1, .iconst 0)) ?_
    refine x_putf0 (by decide +kernel : am_at co_X12_ask 42 = some (3, .putfield 209)) pq_12_209 rfl ob_152 ?_
    refine x_aload_n (by decide +kernel : am_at co_X12_ask 45 = some (1, .aload_n 0)) rfl ?_
    refine x_iconst (by decide +kernel : am_at co_X12_ask 46 = some (1, .iconst (-1))) ?_
    refine x_putf0 (by decide +kernel : am_at co_X12_ask 47 = some (3, .putfield 212)) pq_12_212 rfl ob_152 ?_
    refine x_aload_n (by decide +kernel : am_at co_X12_ask 50 = some (1, .aload_n 0)) rfl ?_
    refine x_iconst (by decide +kernel : am_at co_X12_ask 51 = some (1, .iconst 0)) ?_
    refine x_putf0 (by decide +kernel : am_at co_X12_ask 52 = some (3, .putfield 576)) pq_12_576 rfl ob_152 ?_
    refine x_aload_n (by decide +kernel : am_at co_X12_ask 55 = some (1, .aload_n 0)) rfl ?_
    refine x_iconst (by decide +kernel : am_at co_X12_ask 56 = some (1, .iconst 0)) ?_
    refine x_putf0 (by decide +kernel : am_at co_X12_ask 57 = some (3, .putfield 582)) pq_12_582 rfl ob_152 ?_
    refine x_aload_n (by decide +kernel : am_at co_X12_ask 60 = some (1, .aload_n 0)) rfl ?_
    refine x_iconst (by decide +kernel : am_at co_X12_ask 61 = some (1, .iconst 0)) ?_
    refine x_putf0 (by decide +kernel : am_at co_X12_ask 62 = some (3, .putfield 579)) pq_12_579 rfl ob_152 ?_
    refine x_aload_n (by decide +kernel : am_at co_X12_ask 65 = some (1, .aload_n 0)) rfl ?_
    refine x_iconst (by decide +kernel : am_at co_X12_ask 66 = some (1, .iconst 0)) ?_
    refine x_putf0 (by decide +kernel : am_at co_X12_ask 67 = some (3, .putfield 588)) pq_12_588 rfl ob_152 ?_
    refine x_aload_n (by decide +kernel : am_at co_X12_ask 70 = some (1, .aload_n 0)) rfl ?_
    refine x_callV (n := 1) (by decide +kernel : am_at co_X12_ask 71 = some (3, .invokevirtual 678)) pq_12_678 pm_X12_qKind rfl rfl rfl ob_152 h (x_k0 fun x3 M3 h => ?_)
    refine x_istore_n (L' := [(2, 152), (0, v1), (0, x3), (3, 0)]) (by decide +kernel : am_at co_X12_ask 74 = some (1, .istore_n 2)) rfl ?_
    refine x_aload_n (by decide +kernel : am_at co_X12_ask 75 = some (1, .aload_n 0)) rfl ?_
    refine x_getf (by decide +kernel : am_at co_X12_ask 76 = some (3, .getfield 209)) pq_12_209 rfl ob_152 ?_
    refine x_if (tgt := 94) (by decide +kernel : am_at co_X12_ask 79 = some (3, .ifCond .ne 15)) rfl Iff.rfl (fun c3 => ?_) (fun c3 => ?_)
    · have h := h.1 c3
      exact am_weak (lk (lk (lk (lk ln)))) h
    · have c3 := (Classical.not_not.mp c3)
      have h := h.2 c3
      refine x_iload_n (by decide +kernel : am_at co_X12_ask 82 = some (1, .iload_n 2)) rfl ?_
      refine x_iconst (by decide +kernel : am_at co_X12_ask 83 = some (1, .iconst 3)) ?_
      refine x_icmp (tgt := 94) (by decide +kernel : am_at co_X12_ask 84 = some (3, .if_icmp .ge 10)) rfl Iff.rfl (fun c4 => ?_) (fun c4 => ?_)
      · have h := h.1 c4
        exact am_weak (lk (lk (lk (lk ln)))) h
      · have c4 := (Int.not_le.mp c4)
        have h := h.2 c4
        refine x_aload_n (by decide +kernel : am_at co_X12_ask 87 = some (1, .aload_n 0)) rfl ?_
        refine x_callV (n := 1) (by decide +kernel : am_at co_X12_ask 88 = some (3, .invokevirtual 681)) pq_12_681 pm_X12_qTest rfl rfl rfl ob_152 h (x_kv fun M6 h => ?_)
        refine x_goto (tgt := 105) (by decide +kernel : am_at co_X12_ask 91 = some (3, .goto 14)) rfl ?_
        exact am_weak (lk (lk (lk (lk ln)))) h
  · have c1 := (Classical.not_not.mp c1)
    have h := h.2 c1
    refine x_aload_n (by decide +kernel : am_at co_X12_ask 8 = some (1, .aload_n 0)) rfl ?_
    refine x_iconst (by decide +kernel : am_at co_X12_ask 9 = some (1, .iconst 0)) ?_
    refine x_putf0 (by decide +kernel : am_at co_X12_ask 10 = some (3, .putfield 206)) pq_12_206 rfl ob_152 ?_
    refine x_ldc2 (by decide +kernel : am_at co_X12_ask 13 = some (3, .ldc2_w 676)) pq_12_676 ?_
    exact x_lret (by decide +kernel : am_at co_X12_ask 16 = some (1, .lreturn)) h
set_option maxRecDepth 20000 in
theorem bk_X12_ask_94 {d : Nat} {Q : am_Q} {M : am_M} {v1 v2 : Int} (h : ((¬ M 152 5 = 0 → am_g 12 1 co_X12_ask d Q 105 [(2, 152), (0, v1), (0, v2), (3, 0)] [] sh_T M) ∧ (M 152 5 = 0 → am_cal pg d 290 [(2, 152)] sh_T M (am_cv sh_T fun M2 => am_g 12 1 co_X12_ask d Q 105 [(2, 152), (0, v1), (0, v2), (3, 0)] [] sh_T M2)))) : am_g 12 1 co_X12_ask d Q 94 [(2, 152), (0, v1), (0, v2), (3, 0)] [] sh_T M := by
  refine x_aload_n (by decide +kernel : am_at co_X12_ask 94 = some (1, .aload_n 0)) rfl ?_
  refine x_getf (by decide +kernel : am_at co_X12_ask 95 = some (3, .getfield 209)) pq_12_209 rfl ob_152 ?_
  refine x_if (tgt := 105) (by decide +kernel : am_at co_X12_ask 98 = some (3, .ifCond .ne 7)) rfl Iff.rfl (fun c0 => ?_) (fun c0 => ?_)
  · have h := h.1 c0
    exact am_weak (lk (lk (lk (lk ln)))) h
  · have c0 := (Classical.not_not.mp c0)
    have h := h.2 c0
    refine x_aload_n (by decide +kernel : am_at co_X12_ask 101 = some (1, .aload_n 0)) rfl ?_
    refine x_callV (n := 1) (by decide +kernel : am_at co_X12_ask 102 = some (3, .invokevirtual 627)) pq_12_627 pm_X12_qSums rfl rfl rfl ob_152 h (x_kv fun M2 h => ?_)
    exact am_weak (lk (lk (lk (lk ln)))) h
set_option maxRecDepth 20000 in
theorem bk_X12_ask_105 {d : Nat} {Q : am_Q} {M : am_M} {v1 v2 : Int} (h : ((¬ M 152 5 = 0 → am_g 12 1 co_X12_ask d Q 129 [(2, 152), (0, v1), (0, v2), (3, 0)] [] sh_T M) ∧ (M 152 5 = 0 → am_cal pg d 175 [(2, 152)] sh_T M (am_c0 sh_T fun x2 M2 => ((x2 = (-1) → am_g 12 1 co_X12_ask d Q 129 [(2, 152), (0, v1), (0, v2), (3, 0)] [] sh_T M2) ∧ (¬ x2 = (-1) → am_cal pg d 172 [(2, 152), (0, 1), (0, M2 152 2)] sh_T M2 (am_cv sh_T fun M4 => am_g 12 1 co_X12_ask d Q 129 [(2, 152), (0, v1), (0, v2), (3, 0)] [] sh_T M4))))))) : am_g 12 1 co_X12_ask d Q 105 [(2, 152), (0, v1), (0, v2), (3, 0)] [] sh_T M := by
  refine x_aload_n (by decide +kernel : am_at co_X12_ask 105 = some (1, .aload_n 0)) rfl ?_
  refine x_getf (by decide +kernel : am_at co_X12_ask 106 = some (3, .getfield 209)) pq_12_209 rfl ob_152 ?_
  refine x_if (tgt := 129) (by decide +kernel : am_at co_X12_ask 109 = some (3, .ifCond .ne 20)) rfl Iff.rfl (fun c0 => ?_) (fun c0 => ?_)
  · have h := h.1 c0
    exact am_weak (lk (lk (lk (lk ln)))) h
  · have c0 := (Classical.not_not.mp c0)
    have h := h.2 c0
    refine x_aload_n (by decide +kernel : am_at co_X12_ask 112 = some (1, .aload_n 0)) rfl ?_
    refine x_callV (n := 1) (by decide +kernel : am_at co_X12_ask 113 = some (3, .invokevirtual 221)) pq_12_221 pm_X12_look rfl rfl rfl ob_152 h (x_k0 fun x2 M2 h => ?_)
    refine x_iconst (by decide +kernel : am_at co_X12_ask 116 = some (1, .iconst (-1))) ?_
    refine x_icmp (tgt := 129) (by decide +kernel : am_at co_X12_ask 117 = some (3, .if_icmp .eq 12)) rfl Iff.rfl (fun c2 => ?_) (fun c2 => ?_)
    · have h := h.1 c2
      exact am_weak (lk (lk (lk (lk ln)))) h
    · have c2 := c2
      have h := h.2 c2
      refine x_aload_n (by decide +kernel : am_at co_X12_ask 120 = some (1, .aload_n 0)) rfl ?_
      refine x_iconst (by decide +kernel : am_at co_X12_ask 121 = some (1, .iconst 1)) ?_
      refine x_aload_n (by decide +kernel : am_at co_X12_ask 122 = some (1, .aload_n 0)) rfl ?_
      refine x_getf (by decide +kernel : am_at co_X12_ask 123 = some (3, .getfield 215)) pq_12_215 rfl ob_152 ?_
      refine x_callV (n := 3) (by decide +kernel : am_at co_X12_ask 126 = some (3, .invokevirtual 239)) pq_12_239 pm_X12_fail rfl rfl rfl ob_152 h (x_kv fun M4 h => ?_)
      exact am_weak (lk (lk (lk (lk ln)))) h
set_option maxRecDepth 20000 in
theorem bk_X12_ask_129 {d : Nat} {Q : am_Q} {M : am_M} {v1 v2 : Int} (h : ((M 152 5 = 0 → ((2 ≤ v2 → am_cal pg d 237 [(2, 152), (0, v1)] sh_T (am_up (am_up (am_up (am_up M 152 7 (M 152 5)) 152 8 (M 152 6)) 152 90 0) 152 91 1) (am_cv sh_T fun M3 => am_g 12 1 co_X12_ask d Q 184 [(2, 152), (3, 0), (0, v2), (0, 0)] [] sh_T M3)) ∧ (v2 < 2 → am_cal pg d 237 [(2, 152), (0, v1)] sh_T (am_up (am_up (am_up (am_up M 152 7 (M 152 5)) 152 8 (M 152 6)) 152 90 (-1)) 152 91 1) (am_cv sh_T fun M4 => am_g 12 1 co_X12_ask d Q 184 [(2, 152), (3, 0), (0, v2), (0, 0)] [] sh_T M4)))) ∧ (¬ M 152 5 = 0 → Q (some (1, (-1000000000000000)), sh_T, (am_up (am_up M 152 7 (M 152 5)) 152 8 (M 152 6)))))) : am_g 12 1 co_X12_ask d Q 129 [(2, 152), (0, v1), (0, v2), (3, 0)] [] sh_T M := by
  refine x_aload_n (by decide +kernel : am_at co_X12_ask 129 = some (1, .aload_n 0)) rfl ?_
  refine x_aload_n (by decide +kernel : am_at co_X12_ask 130 = some (1, .aload_n 0)) rfl ?_
  refine x_getf (by decide +kernel : am_at co_X12_ask 131 = some (3, .getfield 209)) pq_12_209 rfl ob_152 ?_
  refine x_putf0 (by decide +kernel : am_at co_X12_ask 134 = some (3, .putfield 331)) pq_12_331 rfl ob_152 ?_
  refine x_aload_n (by decide +kernel : am_at co_X12_ask 137 = some (1, .aload_n 0)) rfl ?_
  refine x_aload_n (by decide +kernel : am_at co_X12_ask 138 = some (1, .aload_n 0)) rfl ?_
  refine x_getf (by decide +kernel : am_at co_X12_ask 139 = some (3, .getfield 212)) pq_12_212 rfl ob_152 ?_
  refine x_top0 (show (am_up M 152 7 (M 152 5)) 152 6 = M 152 6 from by first | rfl | simp [am_up]) ?_
  refine x_putf0 (by decide +kernel : am_at co_X12_ask 142 = some (3, .putfield 13)) pq_12_13 rfl ob_152 ?_
  refine x_aload_n (by decide +kernel : am_at co_X12_ask 145 = some (1, .aload_n 0)) rfl ?_
  refine x_getf (by decide +kernel : am_at co_X12_ask 146 = some (3, .getfield 209)) pq_12_209 rfl ob_152 ?_
  refine x_top0 (show (am_up (am_up M 152 7 (M 152 5)) 152 8 (M 152 6)) 152 5 = M 152 5 from by first | rfl | simp [am_up]) ?_
  refine x_if (tgt := 156) (by decide +kernel : am_at co_X12_ask 149 = some (3, .ifCond .eq 7)) rfl Iff.rfl (fun c0 => ?_) (fun c0 => ?_)
  · have h := h.1 c0
    refine x_aload_n (by decide +kernel : am_at co_X12_ask 156 = some (1, .aload_n 0)) rfl ?_
    refine x_iload_n (by decide +kernel : am_at co_X12_ask 157 = some (1, .iload_n 2)) rfl ?_
    refine x_iconst (by decide +kernel : am_at co_X12_ask 158 = some (1, .iconst 2)) ?_
    refine x_icmp (tgt := 168) (by decide +kernel : am_at co_X12_ask 159 = some (3, .if_icmp .ge 9)) rfl Iff.rfl (fun c1 => ?_) (fun c1 => ?_)
    · have h := h.1 c1
      refine x_lconst (by decide +kernel : am_at co_X12_ask 168 = some (1, .lconst 0)) ?_
      refine x_putf1 (by decide +kernel : am_at co_X12_ask 169 = some (3, .putfield 669)) pq_12_669 rfl ob_152 ?_
      refine x_aload_n (by decide +kernel : am_at co_X12_ask 172 = some (1, .aload_n 0)) rfl ?_
      refine x_iconst (by decide +kernel : am_at co_X12_ask 173 = some (1, .iconst 1)) ?_
      refine x_putf5 (by decide +kernel : am_at co_X12_ask 174 = some (3, .putfield 672)) pq_12_672 rfl ob_152 (by decide) ?_
      refine x_aload_n (by decide +kernel : am_at co_X12_ask 177 = some (1, .aload_n 0)) rfl ?_
      refine x_iload_n (by decide +kernel : am_at co_X12_ask 178 = some (1, .iload_n 1)) rfl ?_
      refine x_callV (n := 2) (by decide +kernel : am_at co_X12_ask 179 = some (3, .invokevirtual 469)) pq_12_469 pm_X12_goesAhead rfl rfl rfl ob_152 h (x_kv fun M3 h => ?_)
      refine x_iconst (by decide +kernel : am_at co_X12_ask 182 = some (1, .iconst 0)) ?_
      refine x_istore_n (L' := [(2, 152), (0, v1), (0, v2), (0, 0)]) (by decide +kernel : am_at co_X12_ask 183 = some (1, .istore_n 3)) rfl ?_
      exact am_weak (lk (ld (lk (lk ln)))) h
    · have c1 := (Int.not_le.mp c1)
      have h := h.2 c1
      refine x_ldc2 (by decide +kernel : am_at co_X12_ask 162 = some (3, .ldc2_w 555)) pq_12_555 ?_
      refine x_goto (tgt := 169) (by decide +kernel : am_at co_X12_ask 165 = some (3, .goto 4)) rfl ?_
      refine x_putf1 (by decide +kernel : am_at co_X12_ask 169 = some (3, .putfield 669)) pq_12_669 rfl ob_152 ?_
      refine x_aload_n (by decide +kernel : am_at co_X12_ask 172 = some (1, .aload_n 0)) rfl ?_
      refine x_iconst (by decide +kernel : am_at co_X12_ask 173 = some (1, .iconst 1)) ?_
      refine x_putf5 (by decide +kernel : am_at co_X12_ask 174 = some (3, .putfield 672)) pq_12_672 rfl ob_152 (by decide) ?_
      refine x_aload_n (by decide +kernel : am_at co_X12_ask 177 = some (1, .aload_n 0)) rfl ?_
      refine x_iload_n (by decide +kernel : am_at co_X12_ask 178 = some (1, .iload_n 1)) rfl ?_
      refine x_callV (n := 2) (by decide +kernel : am_at co_X12_ask 179 = some (3, .invokevirtual 469)) pq_12_469 pm_X12_goesAhead rfl rfl rfl ob_152 h (x_kv fun M4 h => ?_)
      refine x_iconst (by decide +kernel : am_at co_X12_ask 182 = some (1, .iconst 0)) ?_
      refine x_istore_n (L' := [(2, 152), (0, v1), (0, v2), (0, 0)]) (by decide +kernel : am_at co_X12_ask 183 = some (1, .istore_n 3)) rfl ?_
      exact am_weak (lk (ld (lk (lk ln)))) h
  · have c0 := c0
    have h := h.2 c0
    refine x_ldc2 (by decide +kernel : am_at co_X12_ask 152 = some (3, .ldc2_w 676)) pq_12_676 ?_
    exact x_lret (by decide +kernel : am_at co_X12_ask 155 = some (1, .lreturn)) h
set_option maxRecDepth 20000 in
theorem bk_X12_ask_184 {d : Nat} {Q : am_Q} {M : am_M} {v2 v3 : Int} (h : ((M 152 50 ≤ v3 → Q (some (1, M 152 90), sh_T, M)) ∧ (v3 < M 152 50 → am_cal pg d 302 [(2, 152), (0, v3)] sh_T M (am_c1 sh_T fun x2 M2 => am_cal pg d 304 [(2, 152), (0, v2), (1, x2), (0, v3)] sh_T M2 (am_cv sh_T fun M3 => am_r (v3 + 1) ∧ am_g 12 1 co_X12_ask d Q 184 [(2, 152), (3, 0), (0, v2), (0, v3 + 1)] [] sh_T M3))))) : am_g 12 1 co_X12_ask d Q 184 [(2, 152), (3, 0), (0, v2), (0, v3)] [] sh_T M := by
  refine x_iload_n (by decide +kernel : am_at co_X12_ask 184 = some (1, .iload_n 3)) rfl ?_
  refine x_aload_n (by decide +kernel : am_at co_X12_ask 185 = some (1, .aload_n 0)) rfl ?_
  refine x_getf (by decide +kernel : am_at co_X12_ask 186 = some (3, .getfield 457)) pq_12_457 rfl ob_152 ?_
  refine x_icmp (tgt := 209) (by decide +kernel : am_at co_X12_ask 189 = some (3, .if_icmp .ge 20)) rfl Iff.rfl (fun c0 => ?_) (fun c0 => ?_)
  · have h := h.1 c0
    refine x_aload_n (by decide +kernel : am_at co_X12_ask 209 = some (1, .aload_n 0)) rfl ?_
    refine x_getf (by decide +kernel : am_at co_X12_ask 210 = some (3, .getfield 669)) pq_12_669 rfl ob_152 ?_
    exact x_lret (by decide +kernel : am_at co_X12_ask 213 = some (1, .lreturn)) h
  · have c0 := (Int.not_le.mp c0)
    have h := h.2 c0
    refine x_aload_n (by decide +kernel : am_at co_X12_ask 192 = some (1, .aload_n 0)) rfl ?_
    refine x_iload_n (by decide +kernel : am_at co_X12_ask 193 = some (1, .iload_n 2)) rfl ?_
    refine x_aload_n (by decide +kernel : am_at co_X12_ask 194 = some (1, .aload_n 0)) rfl ?_
    refine x_iload_n (by decide +kernel : am_at co_X12_ask 195 = some (1, .iload_n 3)) rfl ?_
    refine x_callV (n := 2) (by decide +kernel : am_at co_X12_ask 196 = some (3, .invokevirtual 684)) pq_12_684 pm_X12_qTold rfl rfl rfl ob_152 h (x_k1 fun x2 M2 h => ?_)
    refine x_iload_n (by decide +kernel : am_at co_X12_ask 199 = some (1, .iload_n 3)) rfl ?_
    refine x_callV (n := 4) (by decide +kernel : am_at co_X12_ask 200 = some (3, .invokevirtual 687)) pq_12_687 pm_X12_qTakes rfl rfl rfl ob_152 h (x_kv fun M3 h => ?_)
    obtain ⟨o3, h⟩ := h
    refine x_iinc (L' := [(2, 152), (3, 0), (0, v2), (0, v3 + 1)]) (by decide +kernel : am_at co_X12_ask 203 = some (3, .iinc 3 1)) rfl o3 rfl ?_
    refine x_goto (tgt := 184) (by decide +kernel : am_at co_X12_ask 206 = some (3, .goto (-22))) rfl ?_
    exact am_weak (lk (lk (lk (lk ln)))) h
set_option maxRecDepth 20000 in
theorem bk_X12_worstOf_0 {d : Nat} {Q : am_Q} {M : am_M} {v1 : Int} (h : am_r (7 * v1) ∧ am_cal pg d 222 [(2, 152), (0, 7 * v1)] sh_T M (am_c0 sh_T fun x2 M2 => Q (some (1, x2), sh_T, M2))) : am_g 12 1 co_X12_worstOf d Q 0 [(2, 152), (0, v1)] [] sh_T M := by
  refine x_aload_n (by decide +kernel : am_at co_X12_worstOf 0 = some (1, .aload_n 0)) rfl ?_
  refine x_bipush (by decide +kernel : am_at co_X12_worstOf 1 = some (2, .bipush 7)) ?_
  refine x_iload_n (by decide +kernel : am_at co_X12_worstOf 3 = some (1, .iload_n 1)) rfl ?_
  obtain ⟨o0, h⟩ := h
  refine x_imul (by decide +kernel : am_at co_X12_worstOf 4 = some (1, .imul)) o0 ?_
  refine x_callV (n := 2) (by decide +kernel : am_at co_X12_worstOf 5 = some (3, .invokevirtual 408)) pq_12_408 pm_X12_greatestAt rfl rfl rfl ob_152 h (x_k0 fun x2 M2 h => ?_)
  refine x_i2l (by decide +kernel : am_at co_X12_worstOf 8 = some (1, .i2l)) ?_
  exact x_lret (by decide +kernel : am_at co_X12_worstOf 9 = some (1, .lreturn)) h
set_option maxRecDepth 20000 in
theorem bk_X12_checked_0 {d : Nat} {Q : am_Q} {M : am_M} {v0 v1 : Int} (h : am_g 12 0 co_X12_checked d Q 6 [(2, v0), (0, v1), (0, 181), (0, 0)] [] sh_T M) : am_g 12 0 co_X12_checked d Q 0 [(2, v0), (0, v1), (3, 0), (3, 0)] [] sh_T M := by
  refine x_sipush (by decide +kernel : am_at co_X12_checked 0 = some (3, .sipush 181)) ?_
  refine x_istore_n (L' := [(2, v0), (0, v1), (0, 181), (3, 0)]) (by decide +kernel : am_at co_X12_checked 3 = some (1, .istore_n 2)) rfl ?_
  refine x_iconst (by decide +kernel : am_at co_X12_checked 4 = some (1, .iconst 0)) ?_
  refine x_istore_n (L' := [(2, v0), (0, v1), (0, 181), (0, 0)]) (by decide +kernel : am_at co_X12_checked 5 = some (1, .istore_n 3)) rfl ?_
  exact am_weak (lk (lk (lk (lk ln)))) h
set_option maxRecDepth 20000 in
theorem bk_X12_checked_6 {d : Nat} {Q : am_Q} {M : am_M} {v0 v1 v2 v3 : Int} (h : ((v1 ≤ v3 → Q (some (0, v2), sh_T, M)) ∧ (v3 < v1 → am_r (3 * v2) ∧ am_in pg sh_T 1 v0 v3 ∧ am_r ((3 * v2) + (M v0 v3)) ∧ am_r (v3 + 1) ∧ am_g 12 0 co_X12_checked d Q 6 [(2, v0), (0, v1), (0, ((3 * v2) + (M v0 v3)).tmod 251), (0, v3 + 1)] [] sh_T M))) : am_g 12 0 co_X12_checked d Q 6 [(2, v0), (0, v1), (0, v2), (0, v3)] [] sh_T M := by
  refine x_iload_n (by decide +kernel : am_at co_X12_checked 6 = some (1, .iload_n 3)) rfl ?_
  refine x_iload_n (by decide +kernel : am_at co_X12_checked 7 = some (1, .iload_n 1)) rfl ?_
  refine x_icmp (tgt := 29) (by decide +kernel : am_at co_X12_checked 8 = some (3, .if_icmp .ge 21)) rfl Iff.rfl (fun c0 => ?_) (fun c0 => ?_)
  · have h := h.1 c0
    refine x_iload_n (by decide +kernel : am_at co_X12_checked 29 = some (1, .iload_n 2)) rfl ?_
    exact x_iret (by decide +kernel : am_at co_X12_checked 30 = some (1, .ireturn)) h
  · have c0 := (Int.not_le.mp c0)
    have h := h.2 c0
    refine x_iconst (by decide +kernel : am_at co_X12_checked 11 = some (1, .iconst 3)) ?_
    refine x_iload_n (by decide +kernel : am_at co_X12_checked 12 = some (1, .iload_n 2)) rfl ?_
    obtain ⟨o1, h⟩ := h
    refine x_imul (by decide +kernel : am_at co_X12_checked 13 = some (1, .imul)) o1 ?_
    refine x_aload_n (by decide +kernel : am_at co_X12_checked 14 = some (1, .aload_n 0)) rfl ?_
    refine x_iload_n (by decide +kernel : am_at co_X12_checked 15 = some (1, .iload_n 3)) rfl ?_
    obtain ⟨o2, h⟩ := h
    refine x_iald (by decide +kernel : am_at co_X12_checked 16 = some (1, .iaload)) (o2) ?_
    obtain ⟨o3, h⟩ := h
    refine x_iadd (by decide +kernel : am_at co_X12_checked 17 = some (1, .iadd)) o3 ?_
    refine x_sipush (by decide +kernel : am_at co_X12_checked 18 = some (3, .sipush 251)) ?_
    refine x_irem (by decide +kernel : am_at co_X12_checked 21 = some (1, .irem)) (by decide) ?_
    refine x_istore_n (L' := [(2, v0), (0, v1), (0, ((3 * v2) + (M v0 v3)).tmod 251), (0, v3)]) (by decide +kernel : am_at co_X12_checked 22 = some (1, .istore_n 2)) rfl ?_
    obtain ⟨o4, h⟩ := h
    refine x_iinc (L' := [(2, v0), (0, v1), (0, ((3 * v2) + (M v0 v3)).tmod 251), (0, v3 + 1)]) (by decide +kernel : am_at co_X12_checked 23 = some (3, .iinc 3 1)) rfl o4 rfl ?_
    refine x_goto (tgt := 6) (by decide +kernel : am_at co_X12_checked 26 = some (3, .goto (-20))) rfl ?_
    exact am_weak (lk (lk (lk (lk ln)))) h
set_option maxRecDepth 20000 in
theorem bk_X12_writes_0 {d : Nat} {Q : am_Q} {M : am_M} {v1 : Int} (h : (0 ≤ M 152 93 ∧ M 152 93 < 53) ∧ am_r ((M 152 93) + 1) ∧ Q (none, sh_T, (am_up (am_up M 214 (M 152 93) v1) 152 93 ((M 152 93) + 1)))) : am_g 12 9 co_X12_writes d Q 0 [(2, 152), (0, v1)] [] sh_T M := by
  refine x_aload_n (by decide +kernel : am_at co_X12_writes 0 = some (1, .aload_n 0)) rfl ?_
  refine x_getF (by decide +kernel : am_at co_X12_writes 1 = some (3, .getfield 203)) pq_12_203 (by decide) rfl ob_152 ?_
  refine x_top2 (show 152 + 62 = 214 from rfl) ?_
  refine x_aload_n (by decide +kernel : am_at co_X12_writes 4 = some (1, .aload_n 0)) rfl ?_
  refine x_getf (by decide +kernel : am_at co_X12_writes 5 = some (3, .getfield 691)) pq_12_691 rfl ob_152 ?_
  refine x_iload_n (by decide +kernel : am_at co_X12_writes 8 = some (1, .iload_n 1)) rfl ?_
  obtain ⟨o0, h⟩ := h
  refine x_iast (by decide +kernel : am_at co_X12_writes 9 = some (1, .iastore)) (ow_214 o0.1 o0.2) ?_
  refine x_aload_n (by decide +kernel : am_at co_X12_writes 10 = some (1, .aload_n 0)) rfl ?_
  refine x_dup2' (by decide +kernel : am_at co_X12_writes 11 = some (1, .dup)) ?_
  refine x_getf (by decide +kernel : am_at co_X12_writes 12 = some (3, .getfield 691)) pq_12_691 rfl ob_152 ?_
  refine x_top0 (show (am_up M 214 (M 152 93) v1) 152 93 = M 152 93 from by first | rfl | simp [am_up]) ?_
  refine x_iconst (by decide +kernel : am_at co_X12_writes 15 = some (1, .iconst 1)) ?_
  obtain ⟨o1, h⟩ := h
  refine x_iadd (by decide +kernel : am_at co_X12_writes 16 = some (1, .iadd)) o1 ?_
  refine x_putf0 (by decide +kernel : am_at co_X12_writes 17 = some (3, .putfield 691)) pq_12_691 rfl ob_152 ?_
  exact x_vret (by decide +kernel : am_at co_X12_writes 20 = some (1, .return_)) h
set_option maxRecDepth 20000 in
theorem bk_X12_image_0 {d : Nat} {Q : am_Q} {M : am_M} (h : am_g 12 0 co_X12_image d Q 7 [(2, 152), (0, 0), (3, 0)] [] sh_T (am_up M 152 93 0)) : am_g 12 0 co_X12_image d Q 0 [(2, 152), (3, 0), (3, 0)] [] sh_T M := by
  refine x_aload_n (by decide +kernel : am_at co_X12_image 0 = some (1, .aload_n 0)) rfl ?_
  refine x_iconst (by decide +kernel : am_at co_X12_image 1 = some (1, .iconst 0)) ?_
  refine x_putf0 (by decide +kernel : am_at co_X12_image 2 = some (3, .putfield 691)) pq_12_691 rfl ob_152 ?_
  refine x_iconst (by decide +kernel : am_at co_X12_image 5 = some (1, .iconst 0)) ?_
  refine x_istore_n (L' := [(2, 152), (0, 0), (3, 0)]) (by decide +kernel : am_at co_X12_image 6 = some (1, .istore_n 1)) rfl ?_
  exact am_weak (lk (lk (lk ln))) h
set_option maxRecDepth 20000 in
theorem bk_X12_image_7 {d : Nat} {Q : am_Q} {M : am_M} {v1 : Int} (h : am_cal pg d 212 [(2, 152)] sh_T M (am_c0 sh_T fun x1 M1 => ((x1 ≤ v1 → am_cal pg d 307 [(2, 214), (0, M1 152 93)] sh_T M1 (am_c0 sh_T fun x3 M3 => am_cal pg d 308 [(2, 152), (0, x3)] sh_T M3 (am_cv sh_T fun M4 => Q (some (0, M4 152 93), sh_T, M4)))) ∧ (v1 < x1 → am_cal pg d 230 [(2, 152), (0, v1)] sh_T M1 (am_c0 sh_T fun x5 M5 => am_r (x5 + 1) ∧ am_cal pg d 308 [(2, 152), (0, x5 + 1)] sh_T M5 (am_cv sh_T fun M7 => am_g 12 0 co_X12_image d Q 28 [(2, 152), (0, v1), (0, 0)] [] sh_T M7)))))) : am_g 12 0 co_X12_image d Q 7 [(2, 152), (0, v1), (3, 0)] [] sh_T M := by
  refine x_iload_n (by decide +kernel : am_at co_X12_image 7 = some (1, .iload_n 1)) rfl ?_
  refine x_aload_n (by decide +kernel : am_at co_X12_image 8 = some (1, .aload_n 0)) rfl ?_
  refine x_callV (n := 1) (by decide +kernel : am_at co_X12_image 9 = some (3, .invokevirtual 392)) pq_12_392 pm_X12_dreamerMany rfl rfl rfl ob_152 h (x_k0 fun x1 M1 h => ?_)
  refine x_icmp (tgt := 76) (by decide +kernel : am_at co_X12_image 12 = some (3, .if_icmp .ge 64)) rfl Iff.rfl (fun c1 => ?_) (fun c1 => ?_)
  · have h := h.1 c1
    refine x_aload_n (by decide +kernel : am_at co_X12_image 76 = some (1, .aload_n 0)) rfl ?_
    refine x_aload_n (by decide +kernel : am_at co_X12_image 77 = some (1, .aload_n 0)) rfl ?_
    refine x_getF (by decide +kernel : am_at co_X12_image 78 = some (3, .getfield 203)) pq_12_203 (by decide) rfl ob_152 ?_
    refine x_top2 (show 152 + 62 = 214 from rfl) ?_
    refine x_aload_n (by decide +kernel : am_at co_X12_image 81 = some (1, .aload_n 0)) rfl ?_
    refine x_getf (by decide +kernel : am_at co_X12_image 82 = some (3, .getfield 691)) pq_12_691 rfl ob_152 ?_
    refine x_callS (n := 2) (by decide +kernel : am_at co_X12_image 85 = some (3, .invokestatic 697)) pq_12_697 rfl rfl rfl h (x_k0 fun x3 M3 h => ?_)
    refine x_callV (n := 2) (by decide +kernel : am_at co_X12_image 88 = some (3, .invokevirtual 694)) pq_12_694 pm_X12_writes rfl rfl rfl ob_152 h (x_kv fun M4 h => ?_)
    refine x_aload_n (by decide +kernel : am_at co_X12_image 91 = some (1, .aload_n 0)) rfl ?_
    refine x_getf (by decide +kernel : am_at co_X12_image 92 = some (3, .getfield 691)) pq_12_691 rfl ob_152 ?_
    exact x_iret (by decide +kernel : am_at co_X12_image 95 = some (1, .ireturn)) h
  · have c1 := (Int.not_le.mp c1)
    have h := h.2 c1
    refine x_aload_n (by decide +kernel : am_at co_X12_image 15 = some (1, .aload_n 0)) rfl ?_
    refine x_aload_n (by decide +kernel : am_at co_X12_image 16 = some (1, .aload_n 0)) rfl ?_
    refine x_iload_n (by decide +kernel : am_at co_X12_image 17 = some (1, .iload_n 1)) rfl ?_
    refine x_callV (n := 2) (by decide +kernel : am_at co_X12_image 18 = some (3, .invokevirtual 449)) pq_12_449 pm_X12_guideOf rfl rfl rfl ob_152 h (x_k0 fun x5 M5 h => ?_)
    refine x_iconst (by decide +kernel : am_at co_X12_image 21 = some (1, .iconst 1)) ?_
    obtain ⟨o5, h⟩ := h
    refine x_iadd (by decide +kernel : am_at co_X12_image 22 = some (1, .iadd)) o5 ?_
    refine x_callV (n := 2) (by decide +kernel : am_at co_X12_image 23 = some (3, .invokevirtual 694)) pq_12_694 pm_X12_writes rfl rfl rfl ob_152 h (x_kv fun M7 h => ?_)
    refine x_iconst (by decide +kernel : am_at co_X12_image 26 = some (1, .iconst 0)) ?_
    refine x_istore_n (L' := [(2, 152), (0, v1), (0, 0)]) (by decide +kernel : am_at co_X12_image 27 = some (1, .istore_n 2)) rfl ?_
    exact am_weak (lk (lk (lk ln))) h
set_option maxRecDepth 20000 in
theorem bk_X12_image_28 {d : Nat} {Q : am_Q} {M : am_M} {v1 v2 : Int} (h : am_cal pg d 211 [(2, 152)] sh_T M (am_c0 sh_T fun x1 M1 => ((x1 ≤ v2 → am_r (v1 + 1) ∧ am_g 12 0 co_X12_image d Q 7 [(2, 152), (0, v1 + 1), (3, 0)] [] sh_T M1) ∧ (v2 < x1 → am_cal pg d 217 [(2, 152), (0, v1), (0, v2)] sh_T M1 (am_c0 sh_T fun x4 M4 => am_r (x4.tdiv 256) ∧ am_cal pg d 308 [(2, 152), (0, x4.tdiv 256)] sh_T M4 (am_cv sh_T fun M6 => am_cal pg d 217 [(2, 152), (0, v1), (0, v2)] sh_T M6 (am_c0 sh_T fun x7 M7 => am_cal pg d 308 [(2, 152), (0, x7.tmod 256)] sh_T M7 (am_cv sh_T fun M8 => am_r (v2 + 1) ∧ am_g 12 0 co_X12_image d Q 28 [(2, 152), (0, v1), (0, v2 + 1)] [] sh_T M8)))))))) : am_g 12 0 co_X12_image d Q 28 [(2, 152), (0, v1), (0, v2)] [] sh_T M := by
  refine x_iload_n (by decide +kernel : am_at co_X12_image 28 = some (1, .iload_n 2)) rfl ?_
  refine x_aload_n (by decide +kernel : am_at co_X12_image 29 = some (1, .aload_n 0)) rfl ?_
  refine x_callV (n := 1) (by decide +kernel : am_at co_X12_image 30 = some (3, .invokevirtual 389)) pq_12_389 pm_X12_dreadMany rfl rfl rfl ob_152 h (x_k0 fun x1 M1 h => ?_)
  refine x_icmp (tgt := 70) (by decide +kernel : am_at co_X12_image 33 = some (3, .if_icmp .ge 37)) rfl Iff.rfl (fun c1 => ?_) (fun c1 => ?_)
  · have h := h.1 c1
    obtain ⟨o2, h⟩ := h
    refine x_iinc (L' := [(2, 152), (0, v1 + 1), (0, v2)]) (by decide +kernel : am_at co_X12_image 70 = some (3, .iinc 1 1)) rfl o2 rfl ?_
    refine x_goto (tgt := 7) (by decide +kernel : am_at co_X12_image 73 = some (3, .goto (-66))) rfl ?_
    exact am_weak (lk (lk (ld ln))) h
  · have c1 := (Int.not_le.mp c1)
    have h := h.2 c1
    refine x_aload_n (by decide +kernel : am_at co_X12_image 36 = some (1, .aload_n 0)) rfl ?_
    refine x_aload_n (by decide +kernel : am_at co_X12_image 37 = some (1, .aload_n 0)) rfl ?_
    refine x_iload_n (by decide +kernel : am_at co_X12_image 38 = some (1, .iload_n 1)) rfl ?_
    refine x_iload_n (by decide +kernel : am_at co_X12_image 39 = some (1, .iload_n 2)) rfl ?_
    refine x_callV (n := 3) (by decide +kernel : am_at co_X12_image 40 = some (3, .invokevirtual 395)) pq_12_395 pm_X12_weightOf rfl rfl rfl ob_152 h (x_k0 fun x4 M4 h => ?_)
    refine x_sipush (by decide +kernel : am_at co_X12_image 43 = some (3, .sipush 256)) ?_
    obtain ⟨o4, h⟩ := h
    refine x_idiv (by decide +kernel : am_at co_X12_image 46 = some (1, .idiv)) (by decide) o4 ?_
    refine x_callV (n := 2) (by decide +kernel : am_at co_X12_image 47 = some (3, .invokevirtual 694)) pq_12_694 pm_X12_writes rfl rfl rfl ob_152 h (x_kv fun M6 h => ?_)
    refine x_aload_n (by decide +kernel : am_at co_X12_image 50 = some (1, .aload_n 0)) rfl ?_
    refine x_aload_n (by decide +kernel : am_at co_X12_image 51 = some (1, .aload_n 0)) rfl ?_
    refine x_iload_n (by decide +kernel : am_at co_X12_image 52 = some (1, .iload_n 1)) rfl ?_
    refine x_iload_n (by decide +kernel : am_at co_X12_image 53 = some (1, .iload_n 2)) rfl ?_
    refine x_callV (n := 3) (by decide +kernel : am_at co_X12_image 54 = some (3, .invokevirtual 395)) pq_12_395 pm_X12_weightOf rfl rfl rfl ob_152 h (x_k0 fun x7 M7 h => ?_)
    refine x_sipush (by decide +kernel : am_at co_X12_image 57 = some (3, .sipush 256)) ?_
    refine x_irem (by decide +kernel : am_at co_X12_image 60 = some (1, .irem)) (by decide) ?_
    refine x_callV (n := 2) (by decide +kernel : am_at co_X12_image 61 = some (3, .invokevirtual 694)) pq_12_694 pm_X12_writes rfl rfl rfl ob_152 h (x_kv fun M8 h => ?_)
    obtain ⟨o8, h⟩ := h
    refine x_iinc (L' := [(2, 152), (0, v1), (0, v2 + 1)]) (by decide +kernel : am_at co_X12_image 64 = some (3, .iinc 2 1)) rfl o8 rfl ?_
    refine x_goto (tgt := 28) (by decide +kernel : am_at co_X12_image 67 = some (3, .goto (-39))) rfl ?_
    exact am_weak (lk (lk (lk ln))) h
set_option maxRecDepth 20000 in
theorem bk_X12_octet_0 {d : Nat} {Q : am_Q} {M : am_M} {v1 : Int} (h : ((v1 < 0 → Q (some (0, (-1)), sh_T, M)) ∧ (0 ≤ v1 → ((M 152 93 ≤ v1 → Q (some (0, (-1)), sh_T, M)) ∧ (v1 < M 152 93 → (0 ≤ v1 ∧ v1 < 53) ∧ Q (some (0, M 214 v1), sh_T, M)))))) : am_g 12 0 co_X12_octet d Q 0 [(2, 152), (0, v1)] [] sh_T M := by
  refine x_iload_n (by decide +kernel : am_at co_X12_octet 0 = some (1, .iload_n 1)) rfl ?_
  refine x_if (tgt := 21) (by decide +kernel : am_at co_X12_octet 1 = some (3, .ifCond .lt 20)) rfl Iff.rfl (fun c0 => ?_) (fun c0 => ?_)
  · have h := h.1 c0
    refine x_iconst (by decide +kernel : am_at co_X12_octet 21 = some (1, .iconst (-1))) ?_
    exact x_iret (by decide +kernel : am_at co_X12_octet 22 = some (1, .ireturn)) h
  · have c0 := (Int.not_lt.mp c0)
    have h := h.2 c0
    refine x_iload_n (by decide +kernel : am_at co_X12_octet 4 = some (1, .iload_n 1)) rfl ?_
    refine x_aload_n (by decide +kernel : am_at co_X12_octet 5 = some (1, .aload_n 0)) rfl ?_
    refine x_getf (by decide +kernel : am_at co_X12_octet 6 = some (3, .getfield 691)) pq_12_691 rfl ob_152 ?_
    refine x_icmp (tgt := 21) (by decide +kernel : am_at co_X12_octet 9 = some (3, .if_icmp .ge 12)) rfl Iff.rfl (fun c1 => ?_) (fun c1 => ?_)
    · have h := h.1 c1
      refine x_iconst (by decide +kernel : am_at co_X12_octet 21 = some (1, .iconst (-1))) ?_
      exact x_iret (by decide +kernel : am_at co_X12_octet 22 = some (1, .ireturn)) h
    · have c1 := (Int.not_le.mp c1)
      have h := h.2 c1
      refine x_aload_n (by decide +kernel : am_at co_X12_octet 12 = some (1, .aload_n 0)) rfl ?_
      refine x_getF (by decide +kernel : am_at co_X12_octet 13 = some (3, .getfield 203)) pq_12_203 (by decide) rfl ob_152 ?_
      refine x_top2 (show 152 + 62 = 214 from rfl) ?_
      refine x_iload_n (by decide +kernel : am_at co_X12_octet 16 = some (1, .iload_n 1)) rfl ?_
      obtain ⟨o2, h⟩ := h
      refine x_iald (by decide +kernel : am_at co_X12_octet 17 = some (1, .iaload)) (ia_214 o2.1 o2.2) ?_
      refine x_goto (tgt := 22) (by decide +kernel : am_at co_X12_octet 18 = some (3, .goto 4)) rfl ?_
      exact x_iret (by decide +kernel : am_at co_X12_octet 22 = some (1, .ireturn)) h
set_option maxRecDepth 20000 in
theorem bk_X12_isTold_0 {d : Nat} {Q : am_Q} {M : am_M} {v1 : Int} (h : am_cal pg d 211 [(2, 152)] sh_T M (am_c0 sh_T fun x1 M1 => am_r (2 * x1) ∧ am_r (1 + (2 * x1)) ∧ am_cal pg d 212 [(2, 152)] sh_T M1 (am_c0 sh_T fun x4 M4 => am_r ((1 + (2 * x1)) * x4) ∧ am_r (((1 + (2 * x1)) * x4) + 1) ∧ ((¬ v1 = ((1 + (2 * x1)) * x4) + 1 → Q (some (0, 0), sh_T, M4)) ∧ (v1 = ((1 + (2 * x1)) * x4) + 1 → am_r (v1 - 1) ∧ (0 ≤ v1 - 1 ∧ v1 - 1 < 1600) ∧ am_r (v1 - 1) ∧ am_cal pg d 307 [(2, 153), (0, v1 - 1)] sh_T M4 (am_c0 sh_T fun x11 M11 => ((M4 153 (v1 - 1) = x11 → am_g 12 5 co_X12_isTold d Q 46 [(2, 152), (3, 0), (0, 1 + (2 * x1)), (0, 0), (3, 0)] [] sh_T M11) ∧ (¬ M4 153 (v1 - 1) = x11 → Q (some (0, 0), sh_T, M11))))))))) : am_g 12 5 co_X12_isTold d Q 0 [(2, 152), (0, v1), (3, 0), (3, 0), (3, 0)] [] sh_T M := by
  refine x_iconst (by decide +kernel : am_at co_X12_isTold 0 = some (1, .iconst 1)) ?_
  refine x_iconst (by decide +kernel : am_at co_X12_isTold 1 = some (1, .iconst 2)) ?_
  refine x_aload_n (by decide +kernel : am_at co_X12_isTold 2 = some (1, .aload_n 0)) rfl ?_
  refine x_callV (n := 1) (by decide +kernel : am_at co_X12_isTold 3 = some (3, .invokevirtual 389)) pq_12_389 pm_X12_dreadMany rfl rfl rfl ob_152 h (x_k0 fun x1 M1 h => ?_)
  obtain ⟨o1, h⟩ := h
  refine x_imul (by decide +kernel : am_at co_X12_isTold 6 = some (1, .imul)) o1 ?_
  obtain ⟨o2, h⟩ := h
  refine x_iadd (by decide +kernel : am_at co_X12_isTold 7 = some (1, .iadd)) o2 ?_
  refine x_istore_n (L' := [(2, 152), (0, v1), (0, 1 + (2 * x1)), (3, 0), (3, 0)]) (by decide +kernel : am_at co_X12_isTold 8 = some (1, .istore_n 2)) rfl ?_
  refine x_iload_n (by decide +kernel : am_at co_X12_isTold 9 = some (1, .iload_n 1)) rfl ?_
  refine x_iload_n (by decide +kernel : am_at co_X12_isTold 10 = some (1, .iload_n 2)) rfl ?_
  refine x_aload_n (by decide +kernel : am_at co_X12_isTold 11 = some (1, .aload_n 0)) rfl ?_
  refine x_callV (n := 1) (by decide +kernel : am_at co_X12_isTold 12 = some (3, .invokevirtual 392)) pq_12_392 pm_X12_dreamerMany rfl rfl rfl ob_152 h (x_k0 fun x4 M4 h => ?_)
  obtain ⟨o4, h⟩ := h
  refine x_imul (by decide +kernel : am_at co_X12_isTold 15 = some (1, .imul)) o4 ?_
  refine x_iconst (by decide +kernel : am_at co_X12_isTold 16 = some (1, .iconst 1)) ?_
  obtain ⟨o5, h⟩ := h
  refine x_iadd (by decide +kernel : am_at co_X12_isTold 17 = some (1, .iadd)) o5 ?_
  refine x_icmp (tgt := 42) (by decide +kernel : am_at co_X12_isTold 18 = some (3, .if_icmp .ne 24)) rfl Iff.rfl (fun c6 => ?_) (fun c6 => ?_)
  · have h := h.1 c6
    refine x_iconst (by decide +kernel : am_at co_X12_isTold 42 = some (1, .iconst 0)) ?_
    exact x_zret (by decide +kernel : am_at co_X12_isTold 43 = some (1, .ireturn)) (by decide) h
  · have c6 := (Classical.not_not.mp c6)
    have h := h.2 c6
    refine x_aload_n (by decide +kernel : am_at co_X12_isTold 21 = some (1, .aload_n 0)) rfl ?_
    refine x_getF (by decide +kernel : am_at co_X12_isTold 22 = some (3, .getfield 7)) pq_12_7 (by decide) rfl ob_152 ?_
    refine x_top2 (show 152 + 1 = 153 from rfl) ?_
    refine x_iload_n (by decide +kernel : am_at co_X12_isTold 25 = some (1, .iload_n 1)) rfl ?_
    refine x_iconst (by decide +kernel : am_at co_X12_isTold 26 = some (1, .iconst 1)) ?_
    obtain ⟨o7, h⟩ := h
    refine x_isub (by decide +kernel : am_at co_X12_isTold 27 = some (1, .isub)) o7 ?_
    obtain ⟨o8, h⟩ := h
    refine x_iald (by decide +kernel : am_at co_X12_isTold 28 = some (1, .iaload)) (ia_153 o8.1 o8.2) ?_
    refine x_aload_n (by decide +kernel : am_at co_X12_isTold 29 = some (1, .aload_n 0)) rfl ?_
    refine x_getF (by decide +kernel : am_at co_X12_isTold 30 = some (3, .getfield 7)) pq_12_7 (by decide) rfl ob_152 ?_
    refine x_top2 (show 152 + 1 = 153 from rfl) ?_
    refine x_iload_n (by decide +kernel : am_at co_X12_isTold 33 = some (1, .iload_n 1)) rfl ?_
    refine x_iconst (by decide +kernel : am_at co_X12_isTold 34 = some (1, .iconst 1)) ?_
    obtain ⟨o9, h⟩ := h
    refine x_isub (by decide +kernel : am_at co_X12_isTold 35 = some (1, .isub)) o9 ?_
    refine x_callS (n := 2) (by decide +kernel : am_at co_X12_isTold 36 = some (3, .invokestatic 697)) pq_12_697 rfl rfl rfl h (x_k0 fun x11 M11 h => ?_)
    refine x_icmp (tgt := 44) (by decide +kernel : am_at co_X12_isTold 39 = some (3, .if_icmp .eq 5)) rfl Iff.rfl (fun c11 => ?_) (fun c11 => ?_)
    · have h := h.1 c11
      refine x_iconst (by decide +kernel : am_at co_X12_isTold 44 = some (1, .iconst 0)) ?_
      refine x_istore_n (L' := [(2, 152), (0, v1), (0, 1 + (2 * x1)), (0, 0), (3, 0)]) (by decide +kernel : am_at co_X12_isTold 45 = some (1, .istore_n 3)) rfl ?_
      exact am_weak (lk (ld (lk (lk (lk ln))))) h
    · have c11 := c11
      have h := h.2 c11
      refine x_iconst (by decide +kernel : am_at co_X12_isTold 42 = some (1, .iconst 0)) ?_
      exact x_zret (by decide +kernel : am_at co_X12_isTold 43 = some (1, .ireturn)) (by decide) h
set_option maxRecDepth 20000 in
theorem bk_X12_isTold_46 {d : Nat} {Q : am_Q} {M : am_M} {v2 v3 : Int} (h : am_cal pg d 212 [(2, 152)] sh_T M (am_c0 sh_T fun x1 M1 => ((x1 ≤ v3 → Q (some (0, 1), sh_T, M1)) ∧ (v3 < x1 → am_r (v2 * v3) ∧ (0 ≤ v2 * v3 ∧ v2 * v3 < 1600) ∧ am_cal pg d 213 [(2, 152)] sh_T M1 (am_c0 sh_T fun x5 M5 => ((M1 153 (v2 * v3) ≤ x5 → am_g 12 5 co_X12_isTold d Q 74 [(2, 152), (3, 0), (0, v2), (0, v3), (0, 0)] [] sh_T M5) ∧ (x5 < M1 153 (v2 * v3) → Q (some (0, 0), sh_T, M5)))))))) : am_g 12 5 co_X12_isTold d Q 46 [(2, 152), (3, 0), (0, v2), (0, v3), (3, 0)] [] sh_T M := by
  refine x_iload_n (by decide +kernel : am_at co_X12_isTold 46 = some (1, .iload_n 3)) rfl ?_
  refine x_aload_n (by decide +kernel : am_at co_X12_isTold 47 = some (1, .aload_n 0)) rfl ?_
  refine x_callV (n := 1) (by decide +kernel : am_at co_X12_isTold 48 = some (3, .invokevirtual 392)) pq_12_392 pm_X12_dreamerMany rfl rfl rfl ob_152 h (x_k0 fun x1 M1 h => ?_)
  refine x_icmp (tgt := 138) (by decide +kernel : am_at co_X12_isTold 51 = some (3, .if_icmp .ge 87)) rfl Iff.rfl (fun c1 => ?_) (fun c1 => ?_)
  · have h := h.1 c1
    refine x_iconst (by decide +kernel : am_at co_X12_isTold 138 = some (1, .iconst 1)) ?_
    exact x_zret (by decide +kernel : am_at co_X12_isTold 139 = some (1, .ireturn)) (by decide) h
  · have c1 := (Int.not_le.mp c1)
    have h := h.2 c1
    refine x_aload_n (by decide +kernel : am_at co_X12_isTold 54 = some (1, .aload_n 0)) rfl ?_
    refine x_getF (by decide +kernel : am_at co_X12_isTold 55 = some (3, .getfield 7)) pq_12_7 (by decide) rfl ob_152 ?_
    refine x_top2 (show 152 + 1 = 153 from rfl) ?_
    refine x_iload_n (by decide +kernel : am_at co_X12_isTold 58 = some (1, .iload_n 2)) rfl ?_
    refine x_iload_n (by decide +kernel : am_at co_X12_isTold 59 = some (1, .iload_n 3)) rfl ?_
    obtain ⟨o2, h⟩ := h
    refine x_imul (by decide +kernel : am_at co_X12_isTold 60 = some (1, .imul)) o2 ?_
    obtain ⟨o3, h⟩ := h
    refine x_iald (by decide +kernel : am_at co_X12_isTold 61 = some (1, .iaload)) (ia_153 o3.1 o3.2) ?_
    refine x_aload_n (by decide +kernel : am_at co_X12_isTold 62 = some (1, .aload_n 0)) rfl ?_
    refine x_callV (n := 1) (by decide +kernel : am_at co_X12_isTold 63 = some (3, .invokevirtual 436)) pq_12_436 pm_X12_guideMany rfl rfl rfl ob_152 h (x_k0 fun x5 M5 h => ?_)
    refine x_icmp (tgt := 71) (by decide +kernel : am_at co_X12_isTold 66 = some (3, .if_icmp .le 5)) rfl Iff.rfl (fun c5 => ?_) (fun c5 => ?_)
    · have h := h.1 c5
      refine x_iconst (by decide +kernel : am_at co_X12_isTold 71 = some (1, .iconst 0)) ?_
      refine x_istore (L' := [(2, 152), (3, 0), (0, v2), (0, v3), (0, 0)]) (by decide +kernel : am_at co_X12_isTold 72 = some (2, .istore 4)) rfl ?_
      exact am_weak (lk (lk (lk (lk (lk ln))))) h
    · have c5 := (Int.not_le.mp c5)
      have h := h.2 c5
      refine x_iconst (by decide +kernel : am_at co_X12_isTold 69 = some (1, .iconst 0)) ?_
      exact x_zret (by decide +kernel : am_at co_X12_isTold 70 = some (1, .ireturn)) (by decide) h
set_option maxRecDepth 20000 in
theorem bk_X12_isTold_74 {d : Nat} {Q : am_Q} {M : am_M} {v2 v3 v4 : Int} (h : am_cal pg d 211 [(2, 152)] sh_T M (am_c0 sh_T fun x1 M1 => ((x1 ≤ v4 → am_r (v3 + 1) ∧ am_g 12 5 co_X12_isTold d Q 46 [(2, 152), (3, 0), (0, v2), (0, v3 + 1), (3, 0)] [] sh_T M1) ∧ (v4 < x1 → am_r (v2 * v3) ∧ am_r ((v2 * v3) + 1) ∧ am_r (2 * v4) ∧ am_r (((v2 * v3) + 1) + (2 * v4)) ∧ (0 ≤ ((v2 * v3) + 1) + (2 * v4) ∧ ((v2 * v3) + 1) + (2 * v4) < 1600) ∧ am_r (256 * (M1 153 (((v2 * v3) + 1) + (2 * v4)))) ∧ am_r (v2 * v3) ∧ am_r ((v2 * v3) + 2) ∧ am_r (2 * v4) ∧ am_r (((v2 * v3) + 2) + (2 * v4)) ∧ (0 ≤ ((v2 * v3) + 2) + (2 * v4) ∧ ((v2 * v3) + 2) + (2 * v4) < 1600) ∧ am_r ((256 * (M1 153 (((v2 * v3) + 1) + (2 * v4)))) + (M1 153 (((v2 * v3) + 2) + (2 * v4)))) ∧ (((256 * (M1 153 (((v2 * v3) + 1) + (2 * v4)))) + (M1 153 (((v2 * v3) + 2) + (2 * v4))) ≤ 999 → am_r (v4 + 1) ∧ am_g 12 5 co_X12_isTold d Q 74 [(2, 152), (3, 0), (0, v2), (0, v3), (0, v4 + 1)] [] sh_T M1) ∧ (999 < (256 * (M1 153 (((v2 * v3) + 1) + (2 * v4)))) + (M1 153 (((v2 * v3) + 2) + (2 * v4))) → Q (some (0, 0), sh_T, M1))))))) : am_g 12 5 co_X12_isTold d Q 74 [(2, 152), (3, 0), (0, v2), (0, v3), (0, v4)] [] sh_T M := by
  refine x_iload (by decide +kernel : am_at co_X12_isTold 74 = some (2, .iload 4)) rfl ?_
  refine x_aload_n (by decide +kernel : am_at co_X12_isTold 76 = some (1, .aload_n 0)) rfl ?_
  refine x_callV (n := 1) (by decide +kernel : am_at co_X12_isTold 77 = some (3, .invokevirtual 389)) pq_12_389 pm_X12_dreadMany rfl rfl rfl ob_152 h (x_k0 fun x1 M1 h => ?_)
  refine x_icmp (tgt := 132) (by decide +kernel : am_at co_X12_isTold 80 = some (3, .if_icmp .ge 52)) rfl Iff.rfl (fun c1 => ?_) (fun c1 => ?_)
  · have h := h.1 c1
    obtain ⟨o2, h⟩ := h
    refine x_iinc (L' := [(2, 152), (3, 0), (0, v2), (0, v3 + 1), (0, v4)]) (by decide +kernel : am_at co_X12_isTold 132 = some (3, .iinc 3 1)) rfl o2 rfl ?_
    refine x_goto (tgt := 46) (by decide +kernel : am_at co_X12_isTold 135 = some (3, .goto (-89))) rfl ?_
    exact am_weak (lk (lk (lk (lk (ld ln))))) h
  · have c1 := (Int.not_le.mp c1)
    have h := h.2 c1
    refine x_sipush (by decide +kernel : am_at co_X12_isTold 83 = some (3, .sipush 256)) ?_
    refine x_aload_n (by decide +kernel : am_at co_X12_isTold 86 = some (1, .aload_n 0)) rfl ?_
    refine x_getF (by decide +kernel : am_at co_X12_isTold 87 = some (3, .getfield 7)) pq_12_7 (by decide) rfl ob_152 ?_
    refine x_top2 (show 152 + 1 = 153 from rfl) ?_
    refine x_iload_n (by decide +kernel : am_at co_X12_isTold 90 = some (1, .iload_n 2)) rfl ?_
    refine x_iload_n (by decide +kernel : am_at co_X12_isTold 91 = some (1, .iload_n 3)) rfl ?_
    obtain ⟨o3, h⟩ := h
    refine x_imul (by decide +kernel : am_at co_X12_isTold 92 = some (1, .imul)) o3 ?_
    refine x_iconst (by decide +kernel : am_at co_X12_isTold 93 = some (1, .iconst 1)) ?_
    obtain ⟨o4, h⟩ := h
    refine x_iadd (by decide +kernel : am_at co_X12_isTold 94 = some (1, .iadd)) o4 ?_
    refine x_iconst (by decide +kernel : am_at co_X12_isTold 95 = some (1, .iconst 2)) ?_
    refine x_iload (by decide +kernel : am_at co_X12_isTold 96 = some (2, .iload 4)) rfl ?_
    obtain ⟨o5, h⟩ := h
    refine x_imul (by decide +kernel : am_at co_X12_isTold 98 = some (1, .imul)) o5 ?_
    obtain ⟨o6, h⟩ := h
    refine x_iadd (by decide +kernel : am_at co_X12_isTold 99 = some (1, .iadd)) o6 ?_
    obtain ⟨o7, h⟩ := h
    refine x_iald (by decide +kernel : am_at co_X12_isTold 100 = some (1, .iaload)) (ia_153 o7.1 o7.2) ?_
    obtain ⟨o8, h⟩ := h
    refine x_imul (by decide +kernel : am_at co_X12_isTold 101 = some (1, .imul)) o8 ?_
    refine x_aload_n (by decide +kernel : am_at co_X12_isTold 102 = some (1, .aload_n 0)) rfl ?_
    refine x_getF (by decide +kernel : am_at co_X12_isTold 103 = some (3, .getfield 7)) pq_12_7 (by decide) rfl ob_152 ?_
    refine x_top2 (show 152 + 1 = 153 from rfl) ?_
    refine x_iload_n (by decide +kernel : am_at co_X12_isTold 106 = some (1, .iload_n 2)) rfl ?_
    refine x_iload_n (by decide +kernel : am_at co_X12_isTold 107 = some (1, .iload_n 3)) rfl ?_
    obtain ⟨o9, h⟩ := h
    refine x_imul (by decide +kernel : am_at co_X12_isTold 108 = some (1, .imul)) o9 ?_
    refine x_iconst (by decide +kernel : am_at co_X12_isTold 109 = some (1, .iconst 2)) ?_
    obtain ⟨o10, h⟩ := h
    refine x_iadd (by decide +kernel : am_at co_X12_isTold 110 = some (1, .iadd)) o10 ?_
    refine x_iconst (by decide +kernel : am_at co_X12_isTold 111 = some (1, .iconst 2)) ?_
    refine x_iload (by decide +kernel : am_at co_X12_isTold 112 = some (2, .iload 4)) rfl ?_
    obtain ⟨o11, h⟩ := h
    refine x_imul (by decide +kernel : am_at co_X12_isTold 114 = some (1, .imul)) o11 ?_
    obtain ⟨o12, h⟩ := h
    refine x_iadd (by decide +kernel : am_at co_X12_isTold 115 = some (1, .iadd)) o12 ?_
    obtain ⟨o13, h⟩ := h
    refine x_iald (by decide +kernel : am_at co_X12_isTold 116 = some (1, .iaload)) (ia_153 o13.1 o13.2) ?_
    obtain ⟨o14, h⟩ := h
    refine x_iadd (by decide +kernel : am_at co_X12_isTold 117 = some (1, .iadd)) o14 ?_
    refine x_sipush (by decide +kernel : am_at co_X12_isTold 118 = some (3, .sipush 999)) ?_
    refine x_icmp (tgt := 126) (by decide +kernel : am_at co_X12_isTold 121 = some (3, .if_icmp .le 5)) rfl Iff.rfl (fun c15 => ?_) (fun c15 => ?_)
    · have h := h.1 c15
      obtain ⟨o16, h⟩ := h
      refine x_iinc (L' := [(2, 152), (3, 0), (0, v2), (0, v3), (0, v4 + 1)]) (by decide +kernel : am_at co_X12_isTold 126 = some (3, .iinc 4 1)) rfl o16 rfl ?_
      refine x_goto (tgt := 74) (by decide +kernel : am_at co_X12_isTold 129 = some (3, .goto (-55))) rfl ?_
      exact am_weak (lk (lk (lk (lk (lk ln))))) h
    · have c15 := (Int.not_le.mp c15)
      have h := h.2 c15
      refine x_iconst (by decide +kernel : am_at co_X12_isTold 124 = some (1, .iconst 0)) ?_
      exact x_zret (by decide +kernel : am_at co_X12_isTold 125 = some (1, .ireturn)) (by decide) h
set_option maxRecDepth 20000 in
theorem bk_X12_on_0 {d : Nat} {Q : am_Q} {M : am_M} (h : am_cal pg d 311 [(2, 152), (0, M 152 1)] sh_T (am_up M 152 1 0) (am_c0 sh_T fun x1 M1 => ((¬ x1 = 0 → am_cal pg d 211 [(2, 152)] sh_T M1 (am_c0 sh_T fun x3 M3 => am_r (2 * x3) ∧ am_r (1 + (2 * x3)) ∧ am_g 12 5 co_X12_on d Q 41 [(2, 152), (3, 0), (0, 1 + (2 * x3)), (0, 0), (3, 0)] [] sh_T M3)) ∧ (x1 = 0 → am_r ((M1 154 5) + 1) ∧ Q (some (0, 0), sh_T, (am_up M1 154 5 ((M1 154 5) + 1))))))) : am_g 12 5 co_X12_on d Q 0 [(2, 152), (3, 0), (3, 0), (3, 0), (3, 0)] [] sh_T M := by
  refine x_aload_n (by decide +kernel : am_at co_X12_on 0 = some (1, .aload_n 0)) rfl ?_
  refine x_getf (by decide +kernel : am_at co_X12_on 1 = some (3, .getfield 206)) pq_12_206 rfl ob_152 ?_
  refine x_istore_n (L' := [(2, 152), (0, M 152 1), (3, 0), (3, 0), (3, 0)]) (by decide +kernel : am_at co_X12_on 4 = some (1, .istore_n 1)) rfl ?_
  refine x_aload_n (by decide +kernel : am_at co_X12_on 5 = some (1, .aload_n 0)) rfl ?_
  refine x_iconst (by decide +kernel : am_at co_X12_on 6 = some (1, .iconst 0)) ?_
  refine x_putf0 (by decide +kernel : am_at co_X12_on 7 = some (3, .putfield 206)) pq_12_206 rfl ob_152 ?_
  refine x_aload_n (by decide +kernel : am_at co_X12_on 10 = some (1, .aload_n 0)) rfl ?_
  refine x_iload_n (by decide +kernel : am_at co_X12_on 11 = some (1, .iload_n 1)) rfl ?_
  refine x_callV (n := 2) (by decide +kernel : am_at co_X12_on 12 = some (3, .invokevirtual 701)) pq_12_701 pm_X12_isTold rfl rfl rfl ob_152 h (x_k0 fun x1 M1 h => ?_)
  refine x_if (tgt := 30) (by decide +kernel : am_at co_X12_on 15 = some (3, .ifCond .ne 15)) rfl Iff.rfl (fun c1 => ?_) (fun c1 => ?_)
  · have h := h.1 c1
    refine x_iconst (by decide +kernel : am_at co_X12_on 30 = some (1, .iconst 1)) ?_
    refine x_iconst (by decide +kernel : am_at co_X12_on 31 = some (1, .iconst 2)) ?_
    refine x_aload_n (by decide +kernel : am_at co_X12_on 32 = some (1, .aload_n 0)) rfl ?_
    refine x_callV (n := 1) (by decide +kernel : am_at co_X12_on 33 = some (3, .invokevirtual 389)) pq_12_389 pm_X12_dreadMany rfl rfl rfl ob_152 h (x_k0 fun x3 M3 h => ?_)
    obtain ⟨o3, h⟩ := h
    refine x_imul (by decide +kernel : am_at co_X12_on 36 = some (1, .imul)) o3 ?_
    obtain ⟨o4, h⟩ := h
    refine x_iadd (by decide +kernel : am_at co_X12_on 37 = some (1, .iadd)) o4 ?_
    refine x_istore_n (L' := [(2, 152), (0, M 152 1), (0, 1 + (2 * x3)), (3, 0), (3, 0)]) (by decide +kernel : am_at co_X12_on 38 = some (1, .istore_n 2)) rfl ?_
    refine x_iconst (by decide +kernel : am_at co_X12_on 39 = some (1, .iconst 0)) ?_
    refine x_istore_n (L' := [(2, 152), (0, M 152 1), (0, 1 + (2 * x3)), (0, 0), (3, 0)]) (by decide +kernel : am_at co_X12_on 40 = some (1, .istore_n 3)) rfl ?_
    exact am_weak (lk (ld (lk (lk (lk ln))))) h
  · have c1 := (Classical.not_not.mp c1)
    have h := h.2 c1
    refine x_aload_n (by decide +kernel : am_at co_X12_on 18 = some (1, .aload_n 0)) rfl ?_
    refine x_getF (by decide +kernel : am_at co_X12_on 19 = some (3, .getfield 17)) pq_12_17 (by decide) rfl ob_152 ?_
    refine x_top2 (show 152 + 2 = 154 from rfl) ?_
    refine x_iconst (by decide +kernel : am_at co_X12_on 22 = some (1, .iconst 5)) ?_
    refine x_dup2 (by decide +kernel : am_at co_X12_on 23 = some (1, .dup2)) ?_
    refine x_iald (by decide +kernel : am_at co_X12_on 24 = some (1, .iaload)) (ia_154 (by decide) (by decide)) ?_
    refine x_iconst (by decide +kernel : am_at co_X12_on 25 = some (1, .iconst 1)) ?_
    obtain ⟨o5, h⟩ := h
    refine x_iadd (by decide +kernel : am_at co_X12_on 26 = some (1, .iadd)) o5 ?_
    refine x_iast (by decide +kernel : am_at co_X12_on 27 = some (1, .iastore)) (ow_154 (by decide) (by decide)) ?_
    refine x_iconst (by decide +kernel : am_at co_X12_on 28 = some (1, .iconst 0)) ?_
    exact x_zret (by decide +kernel : am_at co_X12_on 29 = some (1, .ireturn)) (by decide) h
set_option maxRecDepth 20000 in
theorem bk_X12_on_41 {d : Nat} {Q : am_Q} {M : am_M} {v2 v3 : Int} (h : am_cal pg d 212 [(2, 152)] sh_T M (am_c0 sh_T fun x1 M1 => ((x1 ≤ v3 → Q (some (0, 1), sh_T, (am_up M1 152 58 0))) ∧ (v3 < x1 → am_r (7 * v3) ∧ am_r (v2 * v3) ∧ (0 ≤ v2 * v3 ∧ v2 * v3 < 1600) ∧ am_r ((M1 153 (v2 * v3)) - 1) ∧ (0 ≤ 7 * v3 ∧ 7 * v3 < 28) ∧ am_g 12 5 co_X12_on d Q 71 [(2, 152), (3, 0), (0, v2), (0, v3), (0, 0)] [] sh_T (am_up M1 186 (7 * v3) ((M1 153 (v2 * v3)) - 1)))))) : am_g 12 5 co_X12_on d Q 41 [(2, 152), (3, 0), (0, v2), (0, v3), (3, 0)] [] sh_T M := by
  refine x_iload_n (by decide +kernel : am_at co_X12_on 41 = some (1, .iload_n 3)) rfl ?_
  refine x_aload_n (by decide +kernel : am_at co_X12_on 42 = some (1, .aload_n 0)) rfl ?_
  refine x_callV (n := 1) (by decide +kernel : am_at co_X12_on 43 = some (3, .invokevirtual 392)) pq_12_392 pm_X12_dreamerMany rfl rfl rfl ob_152 h (x_k0 fun x1 M1 h => ?_)
  refine x_icmp (tgt := 141) (by decide +kernel : am_at co_X12_on 46 = some (3, .if_icmp .ge 95)) rfl Iff.rfl (fun c1 => ?_) (fun c1 => ?_)
  · have h := h.1 c1
    refine x_aload_n (by decide +kernel : am_at co_X12_on 141 = some (1, .aload_n 0)) rfl ?_
    refine x_iconst (by decide +kernel : am_at co_X12_on 142 = some (1, .iconst 0)) ?_
    refine x_putf0 (by decide +kernel : am_at co_X12_on 143 = some (3, .putfield 337)) pq_12_337 rfl ob_152 ?_
    refine x_iconst (by decide +kernel : am_at co_X12_on 146 = some (1, .iconst 1)) ?_
    exact x_zret (by decide +kernel : am_at co_X12_on 147 = some (1, .ireturn)) (by decide) h
  · have c1 := (Int.not_le.mp c1)
    have h := h.2 c1
    refine x_aload_n (by decide +kernel : am_at co_X12_on 49 = some (1, .aload_n 0)) rfl ?_
    refine x_getF (by decide +kernel : am_at co_X12_on 50 = some (3, .getfield 115)) pq_12_115 (by decide) rfl ob_152 ?_
    refine x_top2 (show 152 + 34 = 186 from rfl) ?_
    refine x_bipush (by decide +kernel : am_at co_X12_on 53 = some (2, .bipush 7)) ?_
    refine x_iload_n (by decide +kernel : am_at co_X12_on 55 = some (1, .iload_n 3)) rfl ?_
    obtain ⟨o2, h⟩ := h
    refine x_imul (by decide +kernel : am_at co_X12_on 56 = some (1, .imul)) o2 ?_
    refine x_aload_n (by decide +kernel : am_at co_X12_on 57 = some (1, .aload_n 0)) rfl ?_
    refine x_getF (by decide +kernel : am_at co_X12_on 58 = some (3, .getfield 7)) pq_12_7 (by decide) rfl ob_152 ?_
    refine x_top2 (show 152 + 1 = 153 from rfl) ?_
    refine x_iload_n (by decide +kernel : am_at co_X12_on 61 = some (1, .iload_n 2)) rfl ?_
    refine x_iload_n (by decide +kernel : am_at co_X12_on 62 = some (1, .iload_n 3)) rfl ?_
    obtain ⟨o3, h⟩ := h
    refine x_imul (by decide +kernel : am_at co_X12_on 63 = some (1, .imul)) o3 ?_
    obtain ⟨o4, h⟩ := h
    refine x_iald (by decide +kernel : am_at co_X12_on 64 = some (1, .iaload)) (ia_153 o4.1 o4.2) ?_
    refine x_iconst (by decide +kernel : am_at co_X12_on 65 = some (1, .iconst 1)) ?_
    obtain ⟨o5, h⟩ := h
    refine x_isub (by decide +kernel : am_at co_X12_on 66 = some (1, .isub)) o5 ?_
    obtain ⟨o6, h⟩ := h
    refine x_iast (by decide +kernel : am_at co_X12_on 67 = some (1, .iastore)) (ow_186 o6.1 o6.2) ?_
    refine x_iconst (by decide +kernel : am_at co_X12_on 68 = some (1, .iconst 0)) ?_
    refine x_istore (L' := [(2, 152), (3, 0), (0, v2), (0, v3), (0, 0)]) (by decide +kernel : am_at co_X12_on 69 = some (2, .istore 4)) rfl ?_
    exact am_weak (lk (lk (lk (lk (lk ln))))) h
set_option maxRecDepth 20000 in
theorem bk_X12_on_71 {d : Nat} {Q : am_Q} {M : am_M} {v2 v3 v4 : Int} (h : am_cal pg d 211 [(2, 152)] sh_T M (am_c0 sh_T fun x1 M1 => ((x1 ≤ v4 → am_r (v3 + 1) ∧ am_g 12 5 co_X12_on d Q 41 [(2, 152), (3, 0), (0, v2), (0, v3 + 1), (3, 0)] [] sh_T M1) ∧ (v4 < x1 → am_r (7 * v3) ∧ am_r ((7 * v3) + 1) ∧ am_r (((7 * v3) + 1) + v4) ∧ am_r (v2 * v3) ∧ am_r ((v2 * v3) + 1) ∧ am_r (2 * v4) ∧ am_r (((v2 * v3) + 1) + (2 * v4)) ∧ (0 ≤ ((v2 * v3) + 1) + (2 * v4) ∧ ((v2 * v3) + 1) + (2 * v4) < 1600) ∧ am_r (256 * (M1 153 (((v2 * v3) + 1) + (2 * v4)))) ∧ am_r (v2 * v3) ∧ am_r ((v2 * v3) + 2) ∧ am_r (2 * v4) ∧ am_r (((v2 * v3) + 2) + (2 * v4)) ∧ (0 ≤ ((v2 * v3) + 2) + (2 * v4) ∧ ((v2 * v3) + 2) + (2 * v4) < 1600) ∧ am_r ((256 * (M1 153 (((v2 * v3) + 1) + (2 * v4)))) + (M1 153 (((v2 * v3) + 2) + (2 * v4)))) ∧ (0 ≤ ((7 * v3) + 1) + v4 ∧ ((7 * v3) + 1) + v4 < 28) ∧ am_r (v4 + 1) ∧ am_g 12 5 co_X12_on d Q 71 [(2, 152), (3, 0), (0, v2), (0, v3), (0, v4 + 1)] [] sh_T (am_up M1 186 (((7 * v3) + 1) + v4) ((256 * (M1 153 (((v2 * v3) + 1) + (2 * v4)))) + (M1 153 (((v2 * v3) + 2) + (2 * v4))))))))) : am_g 12 5 co_X12_on d Q 71 [(2, 152), (3, 0), (0, v2), (0, v3), (0, v4)] [] sh_T M := by
  refine x_iload (by decide +kernel : am_at co_X12_on 71 = some (2, .iload 4)) rfl ?_
  refine x_aload_n (by decide +kernel : am_at co_X12_on 73 = some (1, .aload_n 0)) rfl ?_
  refine x_callV (n := 1) (by decide +kernel : am_at co_X12_on 74 = some (3, .invokevirtual 389)) pq_12_389 pm_X12_dreadMany rfl rfl rfl ob_152 h (x_k0 fun x1 M1 h => ?_)
  refine x_icmp (tgt := 135) (by decide +kernel : am_at co_X12_on 77 = some (3, .if_icmp .ge 58)) rfl Iff.rfl (fun c1 => ?_) (fun c1 => ?_)
  · have h := h.1 c1
    obtain ⟨o2, h⟩ := h
    refine x_iinc (L' := [(2, 152), (3, 0), (0, v2), (0, v3 + 1), (0, v4)]) (by decide +kernel : am_at co_X12_on 135 = some (3, .iinc 3 1)) rfl o2 rfl ?_
    refine x_goto (tgt := 41) (by decide +kernel : am_at co_X12_on 138 = some (3, .goto (-97))) rfl ?_
    exact am_weak (lk (lk (lk (lk (ld ln))))) h
  · have c1 := (Int.not_le.mp c1)
    have h := h.2 c1
    refine x_aload_n (by decide +kernel : am_at co_X12_on 80 = some (1, .aload_n 0)) rfl ?_
    refine x_getF (by decide +kernel : am_at co_X12_on 81 = some (3, .getfield 115)) pq_12_115 (by decide) rfl ob_152 ?_
    refine x_top2 (show 152 + 34 = 186 from rfl) ?_
    refine x_bipush (by decide +kernel : am_at co_X12_on 84 = some (2, .bipush 7)) ?_
    refine x_iload_n (by decide +kernel : am_at co_X12_on 86 = some (1, .iload_n 3)) rfl ?_
    obtain ⟨o3, h⟩ := h
    refine x_imul (by decide +kernel : am_at co_X12_on 87 = some (1, .imul)) o3 ?_
    refine x_iconst (by decide +kernel : am_at co_X12_on 88 = some (1, .iconst 1)) ?_
    obtain ⟨o4, h⟩ := h
    refine x_iadd (by decide +kernel : am_at co_X12_on 89 = some (1, .iadd)) o4 ?_
    refine x_iload (by decide +kernel : am_at co_X12_on 90 = some (2, .iload 4)) rfl ?_
    obtain ⟨o5, h⟩ := h
    refine x_iadd (by decide +kernel : am_at co_X12_on 92 = some (1, .iadd)) o5 ?_
    refine x_sipush (by decide +kernel : am_at co_X12_on 93 = some (3, .sipush 256)) ?_
    refine x_aload_n (by decide +kernel : am_at co_X12_on 96 = some (1, .aload_n 0)) rfl ?_
    refine x_getF (by decide +kernel : am_at co_X12_on 97 = some (3, .getfield 7)) pq_12_7 (by decide) rfl ob_152 ?_
    refine x_top2 (show 152 + 1 = 153 from rfl) ?_
    refine x_iload_n (by decide +kernel : am_at co_X12_on 100 = some (1, .iload_n 2)) rfl ?_
    refine x_iload_n (by decide +kernel : am_at co_X12_on 101 = some (1, .iload_n 3)) rfl ?_
    obtain ⟨o6, h⟩ := h
    refine x_imul (by decide +kernel : am_at co_X12_on 102 = some (1, .imul)) o6 ?_
    refine x_iconst (by decide +kernel : am_at co_X12_on 103 = some (1, .iconst 1)) ?_
    obtain ⟨o7, h⟩ := h
    refine x_iadd (by decide +kernel : am_at co_X12_on 104 = some (1, .iadd)) o7 ?_
    refine x_iconst (by decide +kernel : am_at co_X12_on 105 = some (1, .iconst 2)) ?_
    refine x_iload (by decide +kernel : am_at co_X12_on 106 = some (2, .iload 4)) rfl ?_
    obtain ⟨o8, h⟩ := h
    refine x_imul (by decide +kernel : am_at co_X12_on 108 = some (1, .imul)) o8 ?_
    obtain ⟨o9, h⟩ := h
    refine x_iadd (by decide +kernel : am_at co_X12_on 109 = some (1, .iadd)) o9 ?_
    obtain ⟨o10, h⟩ := h
    refine x_iald (by decide +kernel : am_at co_X12_on 110 = some (1, .iaload)) (ia_153 o10.1 o10.2) ?_
    obtain ⟨o11, h⟩ := h
    refine x_imul (by decide +kernel : am_at co_X12_on 111 = some (1, .imul)) o11 ?_
    refine x_aload_n (by decide +kernel : am_at co_X12_on 112 = some (1, .aload_n 0)) rfl ?_
    refine x_getF (by decide +kernel : am_at co_X12_on 113 = some (3, .getfield 7)) pq_12_7 (by decide) rfl ob_152 ?_
    refine x_top2 (show 152 + 1 = 153 from rfl) ?_
    refine x_iload_n (by decide +kernel : am_at co_X12_on 116 = some (1, .iload_n 2)) rfl ?_
    refine x_iload_n (by decide +kernel : am_at co_X12_on 117 = some (1, .iload_n 3)) rfl ?_
    obtain ⟨o12, h⟩ := h
    refine x_imul (by decide +kernel : am_at co_X12_on 118 = some (1, .imul)) o12 ?_
    refine x_iconst (by decide +kernel : am_at co_X12_on 119 = some (1, .iconst 2)) ?_
    obtain ⟨o13, h⟩ := h
    refine x_iadd (by decide +kernel : am_at co_X12_on 120 = some (1, .iadd)) o13 ?_
    refine x_iconst (by decide +kernel : am_at co_X12_on 121 = some (1, .iconst 2)) ?_
    refine x_iload (by decide +kernel : am_at co_X12_on 122 = some (2, .iload 4)) rfl ?_
    obtain ⟨o14, h⟩ := h
    refine x_imul (by decide +kernel : am_at co_X12_on 124 = some (1, .imul)) o14 ?_
    obtain ⟨o15, h⟩ := h
    refine x_iadd (by decide +kernel : am_at co_X12_on 125 = some (1, .iadd)) o15 ?_
    obtain ⟨o16, h⟩ := h
    refine x_iald (by decide +kernel : am_at co_X12_on 126 = some (1, .iaload)) (ia_153 o16.1 o16.2) ?_
    obtain ⟨o17, h⟩ := h
    refine x_iadd (by decide +kernel : am_at co_X12_on 127 = some (1, .iadd)) o17 ?_
    obtain ⟨o18, h⟩ := h
    refine x_iast (by decide +kernel : am_at co_X12_on 128 = some (1, .iastore)) (ow_186 o18.1 o18.2) ?_
    obtain ⟨o19, h⟩ := h
    refine x_iinc (L' := [(2, 152), (3, 0), (0, v2), (0, v3), (0, v4 + 1)]) (by decide +kernel : am_at co_X12_on 129 = some (3, .iinc 4 1)) rfl o19 rfl ?_
    refine x_goto (tgt := 71) (by decide +kernel : am_at co_X12_on 132 = some (3, .goto (-61))) rfl ?_
    exact am_weak (lk (lk (lk (lk (lk ln))))) h
set_option maxRecDepth 20000 in
theorem bk_X12_status_0 {d : Nat} {Q : am_Q} {M : am_M} {v1 : Int} (h : am_cal pg d 169 [(1, v1), (1, 0), (1, 5)] sh_T M (am_c0 sh_T fun x1 M1 => ((x1 = 0 → Q (some (0, (-1)), sh_T, M1)) ∧ (¬ x1 = 0 → (0 ≤ v1 ∧ v1 < 6) ∧ Q (some (0, M1 154 v1), sh_T, M1))))) : am_g 12 0 co_X12_status d Q 0 [(2, 152), (0, v1)] [] sh_T M := by
  refine x_iload_n (by decide +kernel : am_at co_X12_status 0 = some (1, .iload_n 1)) rfl ?_
  refine x_i2l (by decide +kernel : am_at co_X12_status 1 = some (1, .i2l)) ?_
  refine x_lconst (by decide +kernel : am_at co_X12_status 2 = some (1, .lconst 0)) ?_
  refine x_ldc2 (by decide +kernel : am_at co_X12_status 3 = some (3, .ldc2_w 444)) pq_12_444 ?_
  refine x_callS (n := 3) (by decide +kernel : am_at co_X12_status 6 = some (3, .invokestatic 249)) pq_12_249 rfl rfl rfl h (x_k0 fun x1 M1 h => ?_)
  refine x_if (tgt := 21) (by decide +kernel : am_at co_X12_status 9 = some (3, .ifCond .eq 12)) rfl Iff.rfl (fun c1 => ?_) (fun c1 => ?_)
  · have h := h.1 c1
    refine x_iconst (by decide +kernel : am_at co_X12_status 21 = some (1, .iconst (-1))) ?_
    exact x_iret (by decide +kernel : am_at co_X12_status 22 = some (1, .ireturn)) h
  · have c1 := c1
    have h := h.2 c1
    refine x_aload_n (by decide +kernel : am_at co_X12_status 12 = some (1, .aload_n 0)) rfl ?_
    refine x_getF (by decide +kernel : am_at co_X12_status 13 = some (3, .getfield 17)) pq_12_17 (by decide) rfl ob_152 ?_
    refine x_top2 (show 152 + 2 = 154 from rfl) ?_
    refine x_iload_n (by decide +kernel : am_at co_X12_status 16 = some (1, .iload_n 1)) rfl ?_
    obtain ⟨o2, h⟩ := h
    refine x_iald (by decide +kernel : am_at co_X12_status 17 = some (1, .iaload)) (ia_154 o2.1 o2.2) ?_
    refine x_goto (tgt := 22) (by decide +kernel : am_at co_X12_status 18 = some (3, .goto 4)) rfl ?_
    exact x_iret (by decide +kernel : am_at co_X12_status 22 = some (1, .ireturn)) h
set_option maxRecDepth 20000 in
theorem bk_X0_forget_0 {d : Nat} {Q : am_Q} {M : am_M} (h : Q (none, sh_T, (am_up M 46 2 0))) : am_g 0 9 co_X0_forget d Q 0 [(2, 46)] [] sh_T M := by
  refine x_aload_n (by decide +kernel : am_at co_X0_forget 0 = some (1, .aload_n 0)) rfl ?_
  refine x_iconst (by decide +kernel : am_at co_X0_forget 1 = some (1, .iconst 0)) ?_
  refine x_putf0 (by decide +kernel : am_at co_X0_forget 2 = some (3, .putfield 23)) pq_0_23 rfl ob_46 ?_
  exact x_vret (by decide +kernel : am_at co_X0_forget 5 = some (1, .return_)) h
set_option maxRecDepth 20000 in
theorem bk_X0_keep_0 {d : Nat} {Q : am_Q} {M : am_M} {v1 : Int} (h : ((M 46 1 < 0 → am_r ((M 46 1) + 1) ∧ (((M 46 1) + 1 < 20 → am_r ((M 46 1) + 1) ∧ am_r ((M 46 2) + 1) ∧ am_cal pg d 318 [(0, (M 46 2) + 1), (0, 20)] sh_T (am_up M 46 1 ((M 46 1) + 1)) (am_c0 sh_T fun x6 M6 => Q (none, sh_T, (am_up M6 46 2 x6)))) ∧ (20 ≤ (M 46 1) + 1 → am_r ((M 46 2) + 1) ∧ am_cal pg d 318 [(0, (M 46 2) + 1), (0, 20)] sh_T (am_up M 46 1 0) (am_c0 sh_T fun x8 M8 => Q (none, sh_T, (am_up M8 46 2 x8)))))) ∧ (0 ≤ M 46 1 → ((20 ≤ M 46 1 → am_r ((M 46 1) + 1) ∧ (((M 46 1) + 1 < 20 → am_r ((M 46 1) + 1) ∧ am_r ((M 46 2) + 1) ∧ am_cal pg d 318 [(0, (M 46 2) + 1), (0, 20)] sh_T (am_up M 46 1 ((M 46 1) + 1)) (am_c0 sh_T fun x14 M14 => Q (none, sh_T, (am_up M14 46 2 x14)))) ∧ (20 ≤ (M 46 1) + 1 → am_r ((M 46 2) + 1) ∧ am_cal pg d 318 [(0, (M 46 2) + 1), (0, 20)] sh_T (am_up M 46 1 0) (am_c0 sh_T fun x16 M16 => Q (none, sh_T, (am_up M16 46 2 x16)))))) ∧ (M 46 1 < 20 → (0 ≤ M 46 1 ∧ M 46 1 < 20) ∧ am_ob sh_T 7 (47 + 1 + 2 * (M 46 1)) ∧ am_cal pg d 71 [(2, 47 + 1 + 2 * (M 46 1)), (2, v1)] sh_T M (am_cv sh_T fun M19 => am_r ((M19 46 1) + 1) ∧ (((M19 46 1) + 1 < 20 → am_r ((M19 46 1) + 1) ∧ am_r ((M19 46 2) + 1) ∧ am_cal pg d 318 [(0, (M19 46 2) + 1), (0, 20)] sh_T (am_up M19 46 1 ((M19 46 1) + 1)) (am_c0 sh_T fun x24 M24 => Q (none, sh_T, (am_up M24 46 2 x24)))) ∧ (20 ≤ (M19 46 1) + 1 → am_r ((M19 46 2) + 1) ∧ am_cal pg d 318 [(0, (M19 46 2) + 1), (0, 20)] sh_T (am_up M19 46 1 0) (am_c0 sh_T fun x26 M26 => Q (none, sh_T, (am_up M26 46 2 x26))))))))))) : am_g 0 9 co_X0_keep d Q 0 [(2, 46), (2, v1)] [] sh_T M := by
  refine x_aload_n (by decide +kernel : am_at co_X0_keep 0 = some (1, .aload_n 0)) rfl ?_
  refine x_getf (by decide +kernel : am_at co_X0_keep 1 = some (3, .getfield 19)) pq_0_19 rfl ob_46 ?_
  refine x_if (tgt := 32) (by decide +kernel : am_at co_X0_keep 4 = some (3, .ifCond .lt 28)) rfl Iff.rfl (fun c0 => ?_) (fun c0 => ?_)
  · have h := h.1 c0
    refine x_aload_n (by decide +kernel : am_at co_X0_keep 32 = some (1, .aload_n 0)) rfl ?_
    refine x_aload_n (by decide +kernel : am_at co_X0_keep 33 = some (1, .aload_n 0)) rfl ?_
    refine x_getf (by decide +kernel : am_at co_X0_keep 34 = some (3, .getfield 19)) pq_0_19 rfl ob_46 ?_
    refine x_iconst (by decide +kernel : am_at co_X0_keep 37 = some (1, .iconst 1)) ?_
    obtain ⟨o1, h⟩ := h
    refine x_iadd (by decide +kernel : am_at co_X0_keep 38 = some (1, .iadd)) o1 ?_
    refine x_bipush (by decide +kernel : am_at co_X0_keep 39 = some (2, .bipush 20)) ?_
    refine x_icmp (tgt := 48) (by decide +kernel : am_at co_X0_keep 41 = some (3, .if_icmp .lt 7)) rfl Iff.rfl (fun c2 => ?_) (fun c2 => ?_)
    · have h := h.1 c2
      refine x_aload_n (by decide +kernel : am_at co_X0_keep 48 = some (1, .aload_n 0)) rfl ?_
      refine x_getf (by decide +kernel : am_at co_X0_keep 49 = some (3, .getfield 19)) pq_0_19 rfl ob_46 ?_
      refine x_iconst (by decide +kernel : am_at co_X0_keep 52 = some (1, .iconst 1)) ?_
      obtain ⟨o3, h⟩ := h
      refine x_iadd (by decide +kernel : am_at co_X0_keep 53 = some (1, .iadd)) o3 ?_
      refine x_putf0 (by decide +kernel : am_at co_X0_keep 54 = some (3, .putfield 19)) pq_0_19 rfl ob_46 ?_
      refine x_aload_n (by decide +kernel : am_at co_X0_keep 57 = some (1, .aload_n 0)) rfl ?_
      refine x_aload_n (by decide +kernel : am_at co_X0_keep 58 = some (1, .aload_n 0)) rfl ?_
      refine x_getf (by decide +kernel : am_at co_X0_keep 59 = some (3, .getfield 23)) pq_0_23 rfl ob_46 ?_
      refine x_top0 (show (am_up M 46 1 ((M 46 1) + 1)) 46 2 = M 46 2 from by first | rfl | simp [am_up]) ?_
      refine x_iconst (by decide +kernel : am_at co_X0_keep 62 = some (1, .iconst 1)) ?_
      obtain ⟨o4, h⟩ := h
      refine x_iadd (by decide +kernel : am_at co_X0_keep 63 = some (1, .iadd)) o4 ?_
      refine x_bipush (by decide +kernel : am_at co_X0_keep 64 = some (2, .bipush 20)) ?_
      refine x_callS (n := 2) (by decide +kernel : am_at co_X0_keep 66 = some (3, .invokestatic 32)) pq_0_32 rfl rfl rfl h (x_k0 fun x6 M6 h => ?_)
      refine x_putf0 (by decide +kernel : am_at co_X0_keep 69 = some (3, .putfield 23)) pq_0_23 rfl ob_46 ?_
      exact x_vret (by decide +kernel : am_at co_X0_keep 72 = some (1, .return_)) h
    · have c2 := (Int.not_lt.mp c2)
      have h := h.2 c2
      refine x_iconst (by decide +kernel : am_at co_X0_keep 44 = some (1, .iconst 0)) ?_
      refine x_goto (tgt := 54) (by decide +kernel : am_at co_X0_keep 45 = some (3, .goto 9)) rfl ?_
      refine x_putf0 (by decide +kernel : am_at co_X0_keep 54 = some (3, .putfield 19)) pq_0_19 rfl ob_46 ?_
      refine x_aload_n (by decide +kernel : am_at co_X0_keep 57 = some (1, .aload_n 0)) rfl ?_
      refine x_aload_n (by decide +kernel : am_at co_X0_keep 58 = some (1, .aload_n 0)) rfl ?_
      refine x_getf (by decide +kernel : am_at co_X0_keep 59 = some (3, .getfield 23)) pq_0_23 rfl ob_46 ?_
      refine x_top0 (show (am_up M 46 1 0) 46 2 = M 46 2 from by first | rfl | simp [am_up]) ?_
      refine x_iconst (by decide +kernel : am_at co_X0_keep 62 = some (1, .iconst 1)) ?_
      obtain ⟨o6, h⟩ := h
      refine x_iadd (by decide +kernel : am_at co_X0_keep 63 = some (1, .iadd)) o6 ?_
      refine x_bipush (by decide +kernel : am_at co_X0_keep 64 = some (2, .bipush 20)) ?_
      refine x_callS (n := 2) (by decide +kernel : am_at co_X0_keep 66 = some (3, .invokestatic 32)) pq_0_32 rfl rfl rfl h (x_k0 fun x8 M8 h => ?_)
      refine x_putf0 (by decide +kernel : am_at co_X0_keep 69 = some (3, .putfield 23)) pq_0_23 rfl ob_46 ?_
      exact x_vret (by decide +kernel : am_at co_X0_keep 72 = some (1, .return_)) h
  · have c0 := (Int.not_lt.mp c0)
    have h := h.2 c0
    refine x_aload_n (by decide +kernel : am_at co_X0_keep 7 = some (1, .aload_n 0)) rfl ?_
    refine x_getf (by decide +kernel : am_at co_X0_keep 8 = some (3, .getfield 19)) pq_0_19 rfl ob_46 ?_
    refine x_aload_n (by decide +kernel : am_at co_X0_keep 11 = some (1, .aload_n 0)) rfl ?_
    refine x_getF (by decide +kernel : am_at co_X0_keep 12 = some (3, .getfield 13)) pq_0_13 (by decide) rfl ob_46 ?_
    refine x_top2 (show 46 + 1 = 47 from rfl) ?_
    refine x_alen (by decide +kernel : am_at co_X0_keep 15 = some (1, .arraylength)) (n := 20) rfl ?_
    refine x_top0 (show ((20 : Nat) : Int) = 20 from rfl) ?_
    refine x_icmp (tgt := 32) (by decide +kernel : am_at co_X0_keep 16 = some (3, .if_icmp .ge 16)) rfl Iff.rfl (fun c8 => ?_) (fun c8 => ?_)
    · have h := h.1 c8
      refine x_aload_n (by decide +kernel : am_at co_X0_keep 32 = some (1, .aload_n 0)) rfl ?_
      refine x_aload_n (by decide +kernel : am_at co_X0_keep 33 = some (1, .aload_n 0)) rfl ?_
      refine x_getf (by decide +kernel : am_at co_X0_keep 34 = some (3, .getfield 19)) pq_0_19 rfl ob_46 ?_
      refine x_iconst (by decide +kernel : am_at co_X0_keep 37 = some (1, .iconst 1)) ?_
      obtain ⟨o9, h⟩ := h
      refine x_iadd (by decide +kernel : am_at co_X0_keep 38 = some (1, .iadd)) o9 ?_
      refine x_bipush (by decide +kernel : am_at co_X0_keep 39 = some (2, .bipush 20)) ?_
      refine x_icmp (tgt := 48) (by decide +kernel : am_at co_X0_keep 41 = some (3, .if_icmp .lt 7)) rfl Iff.rfl (fun c10 => ?_) (fun c10 => ?_)
      · have h := h.1 c10
        refine x_aload_n (by decide +kernel : am_at co_X0_keep 48 = some (1, .aload_n 0)) rfl ?_
        refine x_getf (by decide +kernel : am_at co_X0_keep 49 = some (3, .getfield 19)) pq_0_19 rfl ob_46 ?_
        refine x_iconst (by decide +kernel : am_at co_X0_keep 52 = some (1, .iconst 1)) ?_
        obtain ⟨o11, h⟩ := h
        refine x_iadd (by decide +kernel : am_at co_X0_keep 53 = some (1, .iadd)) o11 ?_
        refine x_putf0 (by decide +kernel : am_at co_X0_keep 54 = some (3, .putfield 19)) pq_0_19 rfl ob_46 ?_
        refine x_aload_n (by decide +kernel : am_at co_X0_keep 57 = some (1, .aload_n 0)) rfl ?_
        refine x_aload_n (by decide +kernel : am_at co_X0_keep 58 = some (1, .aload_n 0)) rfl ?_
        refine x_getf (by decide +kernel : am_at co_X0_keep 59 = some (3, .getfield 23)) pq_0_23 rfl ob_46 ?_
        refine x_top0 (show (am_up M 46 1 ((M 46 1) + 1)) 46 2 = M 46 2 from by first | rfl | simp [am_up]) ?_
        refine x_iconst (by decide +kernel : am_at co_X0_keep 62 = some (1, .iconst 1)) ?_
        obtain ⟨o12, h⟩ := h
        refine x_iadd (by decide +kernel : am_at co_X0_keep 63 = some (1, .iadd)) o12 ?_
        refine x_bipush (by decide +kernel : am_at co_X0_keep 64 = some (2, .bipush 20)) ?_
        refine x_callS (n := 2) (by decide +kernel : am_at co_X0_keep 66 = some (3, .invokestatic 32)) pq_0_32 rfl rfl rfl h (x_k0 fun x14 M14 h => ?_)
        refine x_putf0 (by decide +kernel : am_at co_X0_keep 69 = some (3, .putfield 23)) pq_0_23 rfl ob_46 ?_
        exact x_vret (by decide +kernel : am_at co_X0_keep 72 = some (1, .return_)) h
      · have c10 := (Int.not_lt.mp c10)
        have h := h.2 c10
        refine x_iconst (by decide +kernel : am_at co_X0_keep 44 = some (1, .iconst 0)) ?_
        refine x_goto (tgt := 54) (by decide +kernel : am_at co_X0_keep 45 = some (3, .goto 9)) rfl ?_
        refine x_putf0 (by decide +kernel : am_at co_X0_keep 54 = some (3, .putfield 19)) pq_0_19 rfl ob_46 ?_
        refine x_aload_n (by decide +kernel : am_at co_X0_keep 57 = some (1, .aload_n 0)) rfl ?_
        refine x_aload_n (by decide +kernel : am_at co_X0_keep 58 = some (1, .aload_n 0)) rfl ?_
        refine x_getf (by decide +kernel : am_at co_X0_keep 59 = some (3, .getfield 23)) pq_0_23 rfl ob_46 ?_
        refine x_top0 (show (am_up M 46 1 0) 46 2 = M 46 2 from by first | rfl | simp [am_up]) ?_
        refine x_iconst (by decide +kernel : am_at co_X0_keep 62 = some (1, .iconst 1)) ?_
        obtain ⟨o14, h⟩ := h
        refine x_iadd (by decide +kernel : am_at co_X0_keep 63 = some (1, .iadd)) o14 ?_
        refine x_bipush (by decide +kernel : am_at co_X0_keep 64 = some (2, .bipush 20)) ?_
        refine x_callS (n := 2) (by decide +kernel : am_at co_X0_keep 66 = some (3, .invokestatic 32)) pq_0_32 rfl rfl rfl h (x_k0 fun x16 M16 h => ?_)
        refine x_putf0 (by decide +kernel : am_at co_X0_keep 69 = some (3, .putfield 23)) pq_0_23 rfl ob_46 ?_
        exact x_vret (by decide +kernel : am_at co_X0_keep 72 = some (1, .return_)) h
    · have c8 := (Int.not_le.mp c8)
      have h := h.2 c8
      refine x_aload_n (by decide +kernel : am_at co_X0_keep 19 = some (1, .aload_n 0)) rfl ?_
      refine x_getF (by decide +kernel : am_at co_X0_keep 20 = some (3, .getfield 13)) pq_0_13 (by decide) rfl ob_46 ?_
      refine x_top2 (show 46 + 1 = 47 from rfl) ?_
      refine x_aload_n (by decide +kernel : am_at co_X0_keep 23 = some (1, .aload_n 0)) rfl ?_
      refine x_getf (by decide +kernel : am_at co_X0_keep 24 = some (3, .getfield 19)) pq_0_19 rfl ob_46 ?_
      obtain ⟨o16, h⟩ := h
      refine x_aald (by decide +kernel : am_at co_X0_keep 27 = some (1, .aaload)) (ia_47 o16.1 o16.2) ?_
      refine x_aload_n (by decide +kernel : am_at co_X0_keep 28 = some (1, .aload_n 1)) rfl ?_
      obtain ⟨o17, h⟩ := h
      refine x_callV (n := 2) (by decide +kernel : am_at co_X0_keep 29 = some (3, .invokevirtual 26)) pq_0_26 pm_X7_copy rfl rfl rfl o17 h (x_kv fun M19 h => ?_)
      refine x_aload_n (by decide +kernel : am_at co_X0_keep 32 = some (1, .aload_n 0)) rfl ?_
      refine x_aload_n (by decide +kernel : am_at co_X0_keep 33 = some (1, .aload_n 0)) rfl ?_
      refine x_getf (by decide +kernel : am_at co_X0_keep 34 = some (3, .getfield 19)) pq_0_19 rfl ob_46 ?_
      refine x_iconst (by decide +kernel : am_at co_X0_keep 37 = some (1, .iconst 1)) ?_
      obtain ⟨o19, h⟩ := h
      refine x_iadd (by decide +kernel : am_at co_X0_keep 38 = some (1, .iadd)) o19 ?_
      refine x_bipush (by decide +kernel : am_at co_X0_keep 39 = some (2, .bipush 20)) ?_
      refine x_icmp (tgt := 48) (by decide +kernel : am_at co_X0_keep 41 = some (3, .if_icmp .lt 7)) rfl Iff.rfl (fun c20 => ?_) (fun c20 => ?_)
      · have h := h.1 c20
        refine x_aload_n (by decide +kernel : am_at co_X0_keep 48 = some (1, .aload_n 0)) rfl ?_
        refine x_getf (by decide +kernel : am_at co_X0_keep 49 = some (3, .getfield 19)) pq_0_19 rfl ob_46 ?_
        refine x_iconst (by decide +kernel : am_at co_X0_keep 52 = some (1, .iconst 1)) ?_
        obtain ⟨o21, h⟩ := h
        refine x_iadd (by decide +kernel : am_at co_X0_keep 53 = some (1, .iadd)) o21 ?_
        refine x_putf0 (by decide +kernel : am_at co_X0_keep 54 = some (3, .putfield 19)) pq_0_19 rfl ob_46 ?_
        refine x_aload_n (by decide +kernel : am_at co_X0_keep 57 = some (1, .aload_n 0)) rfl ?_
        refine x_aload_n (by decide +kernel : am_at co_X0_keep 58 = some (1, .aload_n 0)) rfl ?_
        refine x_getf (by decide +kernel : am_at co_X0_keep 59 = some (3, .getfield 23)) pq_0_23 rfl ob_46 ?_
        refine x_top0 (show (am_up M19 46 1 ((M19 46 1) + 1)) 46 2 = M19 46 2 from by first | rfl | simp [am_up]) ?_
        refine x_iconst (by decide +kernel : am_at co_X0_keep 62 = some (1, .iconst 1)) ?_
        obtain ⟨o22, h⟩ := h
        refine x_iadd (by decide +kernel : am_at co_X0_keep 63 = some (1, .iadd)) o22 ?_
        refine x_bipush (by decide +kernel : am_at co_X0_keep 64 = some (2, .bipush 20)) ?_
        refine x_callS (n := 2) (by decide +kernel : am_at co_X0_keep 66 = some (3, .invokestatic 32)) pq_0_32 rfl rfl rfl h (x_k0 fun x24 M24 h => ?_)
        refine x_putf0 (by decide +kernel : am_at co_X0_keep 69 = some (3, .putfield 23)) pq_0_23 rfl ob_46 ?_
        exact x_vret (by decide +kernel : am_at co_X0_keep 72 = some (1, .return_)) h
      · have c20 := (Int.not_lt.mp c20)
        have h := h.2 c20
        refine x_iconst (by decide +kernel : am_at co_X0_keep 44 = some (1, .iconst 0)) ?_
        refine x_goto (tgt := 54) (by decide +kernel : am_at co_X0_keep 45 = some (3, .goto 9)) rfl ?_
        refine x_putf0 (by decide +kernel : am_at co_X0_keep 54 = some (3, .putfield 19)) pq_0_19 rfl ob_46 ?_
        refine x_aload_n (by decide +kernel : am_at co_X0_keep 57 = some (1, .aload_n 0)) rfl ?_
        refine x_aload_n (by decide +kernel : am_at co_X0_keep 58 = some (1, .aload_n 0)) rfl ?_
        refine x_getf (by decide +kernel : am_at co_X0_keep 59 = some (3, .getfield 23)) pq_0_23 rfl ob_46 ?_
        refine x_top0 (show (am_up M19 46 1 0) 46 2 = M19 46 2 from by first | rfl | simp [am_up]) ?_
        refine x_iconst (by decide +kernel : am_at co_X0_keep 62 = some (1, .iconst 1)) ?_
        obtain ⟨o24, h⟩ := h
        refine x_iadd (by decide +kernel : am_at co_X0_keep 63 = some (1, .iadd)) o24 ?_
        refine x_bipush (by decide +kernel : am_at co_X0_keep 64 = some (2, .bipush 20)) ?_
        refine x_callS (n := 2) (by decide +kernel : am_at co_X0_keep 66 = some (3, .invokestatic 32)) pq_0_32 rfl rfl rfl h (x_k0 fun x26 M26 h => ?_)
        refine x_putf0 (by decide +kernel : am_at co_X0_keep 69 = some (3, .putfield 23)) pq_0_23 rfl ob_46 ?_
        exact x_vret (by decide +kernel : am_at co_X0_keep 72 = some (1, .return_)) h
