/-! blocks (printed) -/
set_option maxRecDepth 20000 in
theorem bk_X12_seed_0 {d : Nat} {Q : am_Q} {M : am_M} {v1 : Int} (h : ((0 ≤ v1 → Q (some (0, 1), sh_T, (am_up M 152 60 v1))) ∧ (v1 < 0 → am_r ((M 154 4) + 1) ∧ Q (some (0, 0), sh_T, (am_up M 154 4 ((M 154 4) + 1)))))) : am_g 12 5 co_X12_seed d Q 0 [(2, 152), (0, v1)] [] sh_T M := by
  refine x_iload_n (by decide +kernel : am_at co_X12_seed 0 = some (1, .iload_n 1)) rfl ?_
  refine x_if (tgt := 16) (by decide +kernel : am_at co_X12_seed 1 = some (3, .ifCond .ge 15)) rfl Iff.rfl (fun c0 => ?_) (fun c0 => ?_)
  · have h := h.1 c0
    refine x_aload_n (by decide +kernel : am_at co_X12_seed 16 = some (1, .aload_n 0)) rfl ?_
    refine x_iload_n (by decide +kernel : am_at co_X12_seed 17 = some (1, .iload_n 1)) rfl ?_
    refine x_i2l (by decide +kernel : am_at co_X12_seed 18 = some (1, .i2l)) ?_
    refine x_putf1 (by decide +kernel : am_at co_X12_seed 19 = some (3, .putfield 133)) pq_12_133 rfl ob_152 ?_
    refine x_iconst (by decide +kernel : am_at co_X12_seed 22 = some (1, .iconst 1)) ?_
    exact x_zret (by decide +kernel : am_at co_X12_seed 23 = some (1, .ireturn)) (by decide) h
  · have c0 := (Int.not_le.mp c0)
    have h := h.2 c0
    refine x_aload_n (by decide +kernel : am_at co_X12_seed 4 = some (1, .aload_n 0)) rfl ?_
    refine x_getF (by decide +kernel : am_at co_X12_seed 5 = some (3, .getfield 17)) pq_12_17 (by decide) rfl ob_152 ?_
    refine x_top2 (show 152 + 2 = 154 from rfl) ?_
    refine x_iconst (by decide +kernel : am_at co_X12_seed 8 = some (1, .iconst 4)) ?_
    refine x_dup2 (by decide +kernel : am_at co_X12_seed 9 = some (1, .dup2)) ?_
    refine x_iald (by decide +kernel : am_at co_X12_seed 10 = some (1, .iaload)) (ia_154 (by decide) (by decide)) ?_
    refine x_iconst (by decide +kernel : am_at co_X12_seed 11 = some (1, .iconst 1)) ?_
    obtain ⟨o1, h⟩ := h
    refine x_iadd (by decide +kernel : am_at co_X12_seed 12 = some (1, .iadd)) o1 ?_
    refine x_iast (by decide +kernel : am_at co_X12_seed 13 = some (1, .iastore)) (ow_154 (by decide) (by decide)) ?_
    refine x_iconst (by decide +kernel : am_at co_X12_seed 14 = some (1, .iconst 0)) ?_
    exact x_zret (by decide +kernel : am_at co_X12_seed 15 = some (1, .ireturn)) (by decide) h
set_option maxRecDepth 20000 in
theorem bk_X12_drawOf_0 {d : Nat} {Q : am_Q} {M : am_M} {v1 : Int} (h : am_rl (1103515245 * (M 152 60)) ∧ am_rl ((1103515245 * (M 152 60)) + 12345) ∧ am_rl ((((1103515245 * (M 152 60)) + 12345).tmod 2147483648).tdiv 64) ∧ ¬ v1 = 0 ∧ am_r (((((1103515245 * (M 152 60)) + 12345).tmod 2147483648).tdiv 64).tmod v1) ∧ Q (some (0, ((((1103515245 * (M 152 60)) + 12345).tmod 2147483648).tdiv 64).tmod v1), sh_T, (am_up M 152 60 (((1103515245 * (M 152 60)) + 12345).tmod 2147483648)))) : am_g 12 0 co_X12_drawOf d Q 0 [(2, 152), (0, v1)] [] sh_T M := by
  refine x_aload_n (by decide +kernel : am_at co_X12_drawOf 0 = some (1, .aload_n 0)) rfl ?_
  refine x_ldc2 (by decide +kernel : am_at co_X12_drawOf 1 = some (3, .ldc2_w 557)) pq_12_557 ?_
  refine x_aload_n (by decide +kernel : am_at co_X12_drawOf 4 = some (1, .aload_n 0)) rfl ?_
  refine x_getf (by decide +kernel : am_at co_X12_drawOf 5 = some (3, .getfield 133)) pq_12_133 rfl ob_152 ?_
  obtain ⟨o0, h⟩ := h
  refine x_lmul (by decide +kernel : am_at co_X12_drawOf 8 = some (1, .lmul)) o0 ?_
  refine x_ldc2 (by decide +kernel : am_at co_X12_drawOf 9 = some (3, .ldc2_w 559)) pq_12_559 ?_
  obtain ⟨o1, h⟩ := h
  refine x_ladd (by decide +kernel : am_at co_X12_drawOf 12 = some (1, .ladd)) o1 ?_
  refine x_ldc2 (by decide +kernel : am_at co_X12_drawOf 13 = some (3, .ldc2_w 561)) pq_12_561 ?_
  refine x_lrem (by decide +kernel : am_at co_X12_drawOf 16 = some (1, .lrem)) (by decide) ?_
  refine x_putf1 (by decide +kernel : am_at co_X12_drawOf 17 = some (3, .putfield 133)) pq_12_133 rfl ob_152 ?_
  refine x_aload_n (by decide +kernel : am_at co_X12_drawOf 20 = some (1, .aload_n 0)) rfl ?_
  refine x_getf (by decide +kernel : am_at co_X12_drawOf 21 = some (3, .getfield 133)) pq_12_133 rfl ob_152 ?_
  refine x_top1 (show (am_up M 152 60 (((1103515245 * (M 152 60)) + 12345).tmod 2147483648)) 152 60 = ((1103515245 * (M 152 60)) + 12345).tmod 2147483648 from by first | rfl | simp [am_up]) ?_
  refine x_ldc2 (by decide +kernel : am_at co_X12_drawOf 24 = some (3, .ldc2_w 563)) pq_12_563 ?_
  obtain ⟨o2, h⟩ := h
  refine x_ldiv (by decide +kernel : am_at co_X12_drawOf 27 = some (1, .ldiv)) (by decide) o2 ?_
  refine x_iload_n (by decide +kernel : am_at co_X12_drawOf 28 = some (1, .iload_n 1)) rfl ?_
  refine x_i2l (by decide +kernel : am_at co_X12_drawOf 29 = some (1, .i2l)) ?_
  obtain ⟨o3, h⟩ := h
  refine x_lrem (by decide +kernel : am_at co_X12_drawOf 30 = some (1, .lrem)) o3 ?_
  obtain ⟨o4, h⟩ := h
  refine x_l2i (by decide +kernel : am_at co_X12_drawOf 31 = some (1, .l2i)) o4 ?_
  exact x_iret (by decide +kernel : am_at co_X12_drawOf 32 = some (1, .ireturn)) h
set_option maxRecDepth 20000 in
theorem bk_X12_night_0 {d : Nat} {Q : am_Q} {M : am_M} {v1 v2 : Int} (h : am_cal pg d 215 [(2, 152), (0, v1)] sh_T M (am_c0 sh_T fun x1 M1 => ((x1 = 0 → am_g 12 0 co_X12_night d Q 20 [(2, 152), (3, 0), (3, 0), (3, 0), (3, 0), (3, 0)] [] sh_T M1) ∧ (¬ x1 = 0 → am_cal pg d 169 [(1, v2), (1, 1), (1, 100)] sh_T M1 (am_c0 sh_T fun x3 M3 => ((¬ x3 = 0 → am_cal pg d 264 [(2, 152)] sh_T M3 (am_cv sh_T fun M5 => am_cal pg d 218 [(2, 152), (0, v1), (0, 0)] sh_T M5 (am_cv sh_T fun M6 => am_g 12 0 co_X12_night d Q 37 [(2, 152), (0, v1), (0, v2), (0, 0), (3, 0), (3, 0)] [] sh_T M6))) ∧ (x3 = 0 → am_g 12 0 co_X12_night d Q 20 [(2, 152), (3, 0), (3, 0), (3, 0), (3, 0), (3, 0)] [] sh_T M3))))))) : am_g 12 0 co_X12_night d Q 0 [(2, 152), (0, v1), (0, v2), (3, 0), (3, 0), (3, 0)] [] sh_T M := by
  refine x_aload_n (by decide +kernel : am_at co_X12_night 0 = some (1, .aload_n 0)) rfl ?_
  refine x_iload_n (by decide +kernel : am_at co_X12_night 1 = some (1, .iload_n 1)) rfl ?_
  refine x_callV (n := 2) (by decide +kernel : am_at co_X12_night 2 = some (3, .invokevirtual 446)) pq_12_446 pm_X12_isDreamer rfl rfl rfl ob_152 h (x_k0 fun x1 M1 h => ?_)
  refine x_if (tgt := 20) (by decide +kernel : am_at co_X12_night 5 = some (3, .ifCond .eq 15)) rfl Iff.rfl (fun c1 => ?_) (fun c1 => ?_)
  · have h := h.1 c1
    exact am_weak (lk (ld (ld (lk (lk (lk ln)))))) h
  · have c1 := c1
    have h := h.2 c1
    refine x_iload_n (by decide +kernel : am_at co_X12_night 8 = some (1, .iload_n 2)) rfl ?_
    refine x_i2l (by decide +kernel : am_at co_X12_night 9 = some (1, .i2l)) ?_
    refine x_lconst (by decide +kernel : am_at co_X12_night 10 = some (1, .lconst 1)) ?_
    refine x_ldc2 (by decide +kernel : am_at co_X12_night 11 = some (3, .ldc2_w 535)) pq_12_535 ?_
    refine x_callS (n := 3) (by decide +kernel : am_at co_X12_night 14 = some (3, .invokestatic 249)) pq_12_249 rfl rfl rfl h (x_k0 fun x3 M3 h => ?_)
    refine x_if (tgt := 25) (by decide +kernel : am_at co_X12_night 17 = some (3, .ifCond .ne 8)) rfl Iff.rfl (fun c3 => ?_) (fun c3 => ?_)
    · have h := h.1 c3
      refine x_aload_n (by decide +kernel : am_at co_X12_night 25 = some (1, .aload_n 0)) rfl ?_
      refine x_callV (n := 1) (by decide +kernel : am_at co_X12_night 26 = some (3, .invokevirtual 549)) pq_12_549 pm_X12_keeps rfl rfl rfl ob_152 h (x_kv fun M5 h => ?_)
      refine x_aload_n (by decide +kernel : am_at co_X12_night 29 = some (1, .aload_n 0)) rfl ?_
      refine x_iload_n (by decide +kernel : am_at co_X12_night 30 = some (1, .iload_n 1)) rfl ?_
      refine x_iconst (by decide +kernel : am_at co_X12_night 31 = some (1, .iconst 0)) ?_
      refine x_callV (n := 3) (by decide +kernel : am_at co_X12_night 32 = some (3, .invokevirtual 430)) pq_12_430 pm_X12_laysNow rfl rfl rfl ob_152 h (x_kv fun M6 h => ?_)
      refine x_iconst (by decide +kernel : am_at co_X12_night 35 = some (1, .iconst 0)) ?_
      refine x_istore_n (L' := [(2, 152), (0, v1), (0, v2), (0, 0), (3, 0), (3, 0)]) (by decide +kernel : am_at co_X12_night 36 = some (1, .istore_n 3)) rfl ?_
      exact am_weak (lk (lk (lk (lk (lk (lk ln)))))) h
    · have c3 := (Classical.not_not.mp c3)
      have h := h.2 c3
      exact am_weak (lk (ld (ld (lk (lk (lk ln)))))) h
set_option maxRecDepth 20000 in
theorem bk_X12_night_20 {d : Nat} {Q : am_Q} {M : am_M} (h : am_cal pg d 266 [(2, 152)] sh_T M (am_c0 sh_T fun x1 M1 => Q (some (0, x1), sh_T, M1))) : am_g 12 0 co_X12_night d Q 20 [(2, 152), (3, 0), (3, 0), (3, 0), (3, 0), (3, 0)] [] sh_T M := by
  refine x_aload_n (by decide +kernel : am_at co_X12_night 20 = some (1, .aload_n 0)) rfl ?_
  refine x_callV (n := 1) (by decide +kernel : am_at co_X12_night 21 = some (3, .invokevirtual 546)) pq_12_546 pm_X12_refuses rfl rfl rfl ob_152 h (x_k0 fun x1 M1 h => ?_)
  exact x_iret (by decide +kernel : am_at co_X12_night 24 = some (1, .ireturn)) h
set_option maxRecDepth 20000 in
theorem bk_X12_night_37 {d : Nat} {Q : am_Q} {M : am_M} {v1 v2 v3 : Int} (h : ((v2 ≤ v3 → am_g 12 0 co_X12_night d Q 128 [(2, 152), (0, v1), (3, 0), (0, v3), (3, 0), (3, 0)] [] sh_T M) ∧ (v3 < v2 → am_cal pg d 224 [(2, 152), (0, 0)] sh_T M (am_c0 sh_T fun x2 M2 => ((¬ x2 = 0 → am_g 12 0 co_X12_night d Q 128 [(2, 152), (0, v1), (3, 0), (0, v3), (3, 0), (3, 0)] [] sh_T M2) ∧ (x2 = 0 → am_cal pg d 272 [(2, 152), (0, 2)] sh_T M2 (am_c0 sh_T fun x4 M4 => ((¬ x4 = 1 → am_cal pg d 230 [(2, 152), (0, v1)] sh_T M4 (am_c0 sh_T fun x6 M6 => am_cal pg d 228 [(2, 152), (0, 0), (0, v1), (0, x6), (0, 0)] sh_T M6 (am_c0 sh_T fun x7 M7 => am_cal pg d 272 [(2, 152), (0, 100)] sh_T M7 (am_c0 sh_T fun x8 M8 => am_cal pg d 216 [(2, 152), (0, 1)] sh_T M8 (am_c0 sh_T fun x9 M9 => ((x9 ≤ x8 → am_g 12 0 co_X12_night d Q 122 [(2, 152), (0, v1), (0, v2), (0, v3), (3, 0), (3, 0)] [] sh_T M9) ∧ (x8 < x9 → ((x7 = (-1) → am_g 12 0 co_X12_night d Q 122 [(2, 152), (0, v1), (0, v2), (0, v3), (3, 0), (3, 0)] [] sh_T M9) ∧ (¬ x7 = (-1) → am_cal pg d 229 [(2, 152), (0, 0)] sh_T M9 (am_cv sh_T fun M12 => am_g 12 0 co_X12_night d Q 122 [(2, 152), (0, v1), (0, v2), (0, v3), (3, 0), (3, 0)] [] sh_T M12)))))))))) ∧ (x4 = 1 → am_cal pg d 230 [(2, 152), (0, v1)] sh_T M4 (am_c0 sh_T fun x13 M13 => am_cal pg d 211 [(2, 152)] sh_T M13 (am_c0 sh_T fun x14 M14 => ((x14 ≤ 1 → am_cal pg d 228 [(2, 152), (0, 0), (0, v1), (0, x13), (0, 0)] sh_T M14 (am_c0 sh_T fun x16 M16 => am_cal pg d 272 [(2, 152), (0, 100)] sh_T M16 (am_c0 sh_T fun x17 M17 => am_cal pg d 216 [(2, 152), (0, 1)] sh_T M17 (am_c0 sh_T fun x18 M18 => ((x18 ≤ x17 → am_g 12 0 co_X12_night d Q 122 [(2, 152), (0, v1), (0, v2), (0, v3), (3, 0), (3, 0)] [] sh_T M18) ∧ (x17 < x18 → ((x16 = (-1) → am_g 12 0 co_X12_night d Q 122 [(2, 152), (0, v1), (0, v2), (0, v3), (3, 0), (3, 0)] [] sh_T M18) ∧ (¬ x16 = (-1) → am_cal pg d 229 [(2, 152), (0, 0)] sh_T M18 (am_cv sh_T fun M21 => am_g 12 0 co_X12_night d Q 122 [(2, 152), (0, v1), (0, v2), (0, v3), (3, 0), (3, 0)] [] sh_T M21))))))))) ∧ (1 < x14 → am_cal pg d 228 [(2, 152), (0, 0), (0, v1), (0, x13), (0, 1)] sh_T M14 (am_c0 sh_T fun x22 M22 => am_cal pg d 272 [(2, 152), (0, 100)] sh_T M22 (am_c0 sh_T fun x23 M23 => am_cal pg d 216 [(2, 152), (0, 1)] sh_T M23 (am_c0 sh_T fun x24 M24 => ((x24 ≤ x23 → am_g 12 0 co_X12_night d Q 122 [(2, 152), (0, v1), (0, v2), (0, v3), (3, 0), (3, 0)] [] sh_T M24) ∧ (x23 < x24 → ((x22 = (-1) → am_g 12 0 co_X12_night d Q 122 [(2, 152), (0, v1), (0, v2), (0, v3), (3, 0), (3, 0)] [] sh_T M24) ∧ (¬ x22 = (-1) → am_cal pg d 229 [(2, 152), (0, 0)] sh_T M24 (am_cv sh_T fun M27 => am_g 12 0 co_X12_night d Q 122 [(2, 152), (0, v1), (0, v2), (0, v3), (3, 0), (3, 0)] [] sh_T M27))))))))))))))))))))) : am_g 12 0 co_X12_night d Q 37 [(2, 152), (0, v1), (0, v2), (0, v3), (3, 0), (3, 0)] [] sh_T M := by
  refine x_iload_n (by decide +kernel : am_at co_X12_night 37 = some (1, .iload_n 3)) rfl ?_
  refine x_iload_n (by decide +kernel : am_at co_X12_night 38 = some (1, .iload_n 2)) rfl ?_
  refine x_icmp (tgt := 128) (by decide +kernel : am_at co_X12_night 39 = some (3, .if_icmp .ge 89)) rfl Iff.rfl (fun c0 => ?_) (fun c0 => ?_)
  · have h := h.1 c0
    exact am_weak (lk (lk (ld (lk (lk (lk ln)))))) h
  · have c0 := (Int.not_le.mp c0)
    have h := h.2 c0
    refine x_aload_n (by decide +kernel : am_at co_X12_night 42 = some (1, .aload_n 0)) rfl ?_
    refine x_iconst (by decide +kernel : am_at co_X12_night 43 = some (1, .iconst 0)) ?_
    refine x_callV (n := 2) (by decide +kernel : am_at co_X12_night 44 = some (3, .invokevirtual 433)) pq_12_433 pm_X12_isHomeAt rfl rfl rfl ob_152 h (x_k0 fun x2 M2 h => ?_)
    refine x_if (tgt := 128) (by decide +kernel : am_at co_X12_night 47 = some (3, .ifCond .ne 81)) rfl Iff.rfl (fun c2 => ?_) (fun c2 => ?_)
    · have h := h.1 c2
      exact am_weak (lk (lk (ld (lk (lk (lk ln)))))) h
    · have c2 := (Classical.not_not.mp c2)
      have h := h.2 c2
      refine x_aload_n (by decide +kernel : am_at co_X12_night 50 = some (1, .aload_n 0)) rfl ?_
      refine x_iconst (by decide +kernel : am_at co_X12_night 51 = some (1, .iconst 2)) ?_
      refine x_callV (n := 2) (by decide +kernel : am_at co_X12_night 52 = some (3, .invokevirtual 565)) pq_12_565 pm_X12_drawOf rfl rfl rfl ob_152 h (x_k0 fun x4 M4 h => ?_)
      refine x_iconst (by decide +kernel : am_at co_X12_night 55 = some (1, .iconst 1)) ?_
      refine x_icmp (tgt := 63) (by decide +kernel : am_at co_X12_night 56 = some (3, .if_icmp .ne 7)) rfl Iff.rfl (fun c4 => ?_) (fun c4 => ?_)
      · have h := h.1 c4
        refine x_iconst (by decide +kernel : am_at co_X12_night 63 = some (1, .iconst 0)) ?_
        refine x_istore (L' := [(2, 152), (0, v1), (0, v2), (0, v3), (0, 0), (3, 0)]) (by decide +kernel : am_at co_X12_night 64 = some (2, .istore 4)) rfl ?_
        refine x_aload_n (by decide +kernel : am_at co_X12_night 66 = some (1, .aload_n 0)) rfl ?_
        refine x_iconst (by decide +kernel : am_at co_X12_night 67 = some (1, .iconst 0)) ?_
        refine x_iload_n (by decide +kernel : am_at co_X12_night 68 = some (1, .iload_n 1)) rfl ?_
        refine x_aload_n (by decide +kernel : am_at co_X12_night 69 = some (1, .aload_n 0)) rfl ?_
        refine x_iload_n (by decide +kernel : am_at co_X12_night 70 = some (1, .iload_n 1)) rfl ?_
        refine x_callV (n := 2) (by decide +kernel : am_at co_X12_night 71 = some (3, .invokevirtual 449)) pq_12_449 pm_X12_guideOf rfl rfl rfl ob_152 h (x_k0 fun x6 M6 h => ?_)
        refine x_iload (by decide +kernel : am_at co_X12_night 74 = some (2, .iload 4)) rfl ?_
        refine x_if (tgt := 91) (by decide +kernel : am_at co_X12_night 76 = some (3, .ifCond .eq 15)) rfl Iff.rfl (fun q => ?_) (fun q => absurd (show (0 : Int) = 0 by decide) q)
        refine x_iconst (by decide +kernel : am_at co_X12_night 91 = some (1, .iconst 0)) ?_
        refine x_callV (n := 5) (by decide +kernel : am_at co_X12_night 92 = some (3, .invokevirtual 463)) pq_12_463 pm_X12_roomGoes rfl rfl rfl ob_152 h (x_k0 fun x7 M7 h => ?_)
        refine x_istore (L' := [(2, 152), (0, v1), (0, v2), (0, v3), (0, 0), (0, x7)]) (by decide +kernel : am_at co_X12_night 95 = some (2, .istore 5)) rfl ?_
        refine x_aload_n (by decide +kernel : am_at co_X12_night 97 = some (1, .aload_n 0)) rfl ?_
        refine x_bipush (by decide +kernel : am_at co_X12_night 98 = some (2, .bipush 100)) ?_
        refine x_callV (n := 2) (by decide +kernel : am_at co_X12_night 100 = some (3, .invokevirtual 565)) pq_12_565 pm_X12_drawOf rfl rfl rfl ob_152 h (x_k0 fun x8 M8 h => ?_)
        refine x_aload_n (by decide +kernel : am_at co_X12_night 103 = some (1, .aload_n 0)) rfl ?_
        refine x_iconst (by decide +kernel : am_at co_X12_night 104 = some (1, .iconst 1)) ?_
        refine x_callV (n := 2) (by decide +kernel : am_at co_X12_night 105 = some (3, .invokevirtual 401)) pq_12_401 pm_X12_settingOf rfl rfl rfl ob_152 h (x_k0 fun x9 M9 h => ?_)
        refine x_icmp (tgt := 122) (by decide +kernel : am_at co_X12_night 108 = some (3, .if_icmp .ge 14)) rfl Iff.rfl (fun c9 => ?_) (fun c9 => ?_)
        · have h := h.1 c9
          exact am_weak (lk (lk (lk (lk (ld (ld ln)))))) h
        · have c9 := (Int.not_le.mp c9)
          have h := h.2 c9
          refine x_iload (by decide +kernel : am_at co_X12_night 111 = some (2, .iload 5)) rfl ?_
          refine x_iconst (by decide +kernel : am_at co_X12_night 113 = some (1, .iconst (-1))) ?_
          refine x_icmp (tgt := 122) (by decide +kernel : am_at co_X12_night 114 = some (3, .if_icmp .eq 8)) rfl Iff.rfl (fun c10 => ?_) (fun c10 => ?_)
          · have h := h.1 c10
            exact am_weak (lk (lk (lk (lk (ld (ld ln)))))) h
          · have c10 := c10
            have h := h.2 c10
            refine x_aload_n (by decide +kernel : am_at co_X12_night 117 = some (1, .aload_n 0)) rfl ?_
            refine x_iconst (by decide +kernel : am_at co_X12_night 118 = some (1, .iconst 0)) ?_
            refine x_callV (n := 2) (by decide +kernel : am_at co_X12_night 119 = some (3, .invokevirtual 532)) pq_12_532 pm_X12_laughs rfl rfl rfl ob_152 h (x_kv fun M12 h => ?_)
            exact am_weak (lk (lk (lk (lk (ld (ld ln)))))) h
      · have c4 := (Classical.not_not.mp c4)
        have h := h.2 c4
        refine x_iconst (by decide +kernel : am_at co_X12_night 59 = some (1, .iconst 1)) ?_
        refine x_goto (tgt := 64) (by decide +kernel : am_at co_X12_night 60 = some (3, .goto 4)) rfl ?_
        refine x_istore (L' := [(2, 152), (0, v1), (0, v2), (0, v3), (0, 1), (3, 0)]) (by decide +kernel : am_at co_X12_night 64 = some (2, .istore 4)) rfl ?_
        refine x_aload_n (by decide +kernel : am_at co_X12_night 66 = some (1, .aload_n 0)) rfl ?_
        refine x_iconst (by decide +kernel : am_at co_X12_night 67 = some (1, .iconst 0)) ?_
        refine x_iload_n (by decide +kernel : am_at co_X12_night 68 = some (1, .iload_n 1)) rfl ?_
        refine x_aload_n (by decide +kernel : am_at co_X12_night 69 = some (1, .aload_n 0)) rfl ?_
        refine x_iload_n (by decide +kernel : am_at co_X12_night 70 = some (1, .iload_n 1)) rfl ?_
        refine x_callV (n := 2) (by decide +kernel : am_at co_X12_night 71 = some (3, .invokevirtual 449)) pq_12_449 pm_X12_guideOf rfl rfl rfl ob_152 h (x_k0 fun x13 M13 h => ?_)
        refine x_iload (by decide +kernel : am_at co_X12_night 74 = some (2, .iload 4)) rfl ?_
        refine x_if (tgt := 91) (by decide +kernel : am_at co_X12_night 76 = some (3, .ifCond .eq 15)) rfl Iff.rfl (fun q => absurd q (show ¬ ((1 : Int) = 0) by decide)) (fun q => ?_)
        refine x_aload_n (by decide +kernel : am_at co_X12_night 79 = some (1, .aload_n 0)) rfl ?_
        refine x_callV (n := 1) (by decide +kernel : am_at co_X12_night 80 = some (3, .invokevirtual 389)) pq_12_389 pm_X12_dreadMany rfl rfl rfl ob_152 h (x_k0 fun x14 M14 h => ?_)
        refine x_iconst (by decide +kernel : am_at co_X12_night 83 = some (1, .iconst 1)) ?_
        refine x_icmp (tgt := 91) (by decide +kernel : am_at co_X12_night 84 = some (3, .if_icmp .le 7)) rfl Iff.rfl (fun c14 => ?_) (fun c14 => ?_)
        · have h := h.1 c14
          refine x_iconst (by decide +kernel : am_at co_X12_night 91 = some (1, .iconst 0)) ?_
          refine x_callV (n := 5) (by decide +kernel : am_at co_X12_night 92 = some (3, .invokevirtual 463)) pq_12_463 pm_X12_roomGoes rfl rfl rfl ob_152 h (x_k0 fun x16 M16 h => ?_)
          refine x_istore (L' := [(2, 152), (0, v1), (0, v2), (0, v3), (0, 1), (0, x16)]) (by decide +kernel : am_at co_X12_night 95 = some (2, .istore 5)) rfl ?_
          refine x_aload_n (by decide +kernel : am_at co_X12_night 97 = some (1, .aload_n 0)) rfl ?_
          refine x_bipush (by decide +kernel : am_at co_X12_night 98 = some (2, .bipush 100)) ?_
          refine x_callV (n := 2) (by decide +kernel : am_at co_X12_night 100 = some (3, .invokevirtual 565)) pq_12_565 pm_X12_drawOf rfl rfl rfl ob_152 h (x_k0 fun x17 M17 h => ?_)
          refine x_aload_n (by decide +kernel : am_at co_X12_night 103 = some (1, .aload_n 0)) rfl ?_
          refine x_iconst (by decide +kernel : am_at co_X12_night 104 = some (1, .iconst 1)) ?_
          refine x_callV (n := 2) (by decide +kernel : am_at co_X12_night 105 = some (3, .invokevirtual 401)) pq_12_401 pm_X12_settingOf rfl rfl rfl ob_152 h (x_k0 fun x18 M18 h => ?_)
          refine x_icmp (tgt := 122) (by decide +kernel : am_at co_X12_night 108 = some (3, .if_icmp .ge 14)) rfl Iff.rfl (fun c18 => ?_) (fun c18 => ?_)
          · have h := h.1 c18
            exact am_weak (lk (lk (lk (lk (ld (ld ln)))))) h
          · have c18 := (Int.not_le.mp c18)
            have h := h.2 c18
            refine x_iload (by decide +kernel : am_at co_X12_night 111 = some (2, .iload 5)) rfl ?_
            refine x_iconst (by decide +kernel : am_at co_X12_night 113 = some (1, .iconst (-1))) ?_
            refine x_icmp (tgt := 122) (by decide +kernel : am_at co_X12_night 114 = some (3, .if_icmp .eq 8)) rfl Iff.rfl (fun c19 => ?_) (fun c19 => ?_)
            · have h := h.1 c19
              exact am_weak (lk (lk (lk (lk (ld (ld ln)))))) h
            · have c19 := c19
              have h := h.2 c19
              refine x_aload_n (by decide +kernel : am_at co_X12_night 117 = some (1, .aload_n 0)) rfl ?_
              refine x_iconst (by decide +kernel : am_at co_X12_night 118 = some (1, .iconst 0)) ?_
              refine x_callV (n := 2) (by decide +kernel : am_at co_X12_night 119 = some (3, .invokevirtual 532)) pq_12_532 pm_X12_laughs rfl rfl rfl ob_152 h (x_kv fun M21 h => ?_)
              exact am_weak (lk (lk (lk (lk (ld (ld ln)))))) h
        · have c14 := (Int.not_le.mp c14)
          have h := h.2 c14
          refine x_iconst (by decide +kernel : am_at co_X12_night 87 = some (1, .iconst 1)) ?_
          refine x_goto (tgt := 92) (by decide +kernel : am_at co_X12_night 88 = some (3, .goto 4)) rfl ?_
          refine x_callV (n := 5) (by decide +kernel : am_at co_X12_night 92 = some (3, .invokevirtual 463)) pq_12_463 pm_X12_roomGoes rfl rfl rfl ob_152 h (x_k0 fun x22 M22 h => ?_)
          refine x_istore (L' := [(2, 152), (0, v1), (0, v2), (0, v3), (0, 1), (0, x22)]) (by decide +kernel : am_at co_X12_night 95 = some (2, .istore 5)) rfl ?_
          refine x_aload_n (by decide +kernel : am_at co_X12_night 97 = some (1, .aload_n 0)) rfl ?_
          refine x_bipush (by decide +kernel : am_at co_X12_night 98 = some (2, .bipush 100)) ?_
          refine x_callV (n := 2) (by decide +kernel : am_at co_X12_night 100 = some (3, .invokevirtual 565)) pq_12_565 pm_X12_drawOf rfl rfl rfl ob_152 h (x_k0 fun x23 M23 h => ?_)
          refine x_aload_n (by decide +kernel : am_at co_X12_night 103 = some (1, .aload_n 0)) rfl ?_
          refine x_iconst (by decide +kernel : am_at co_X12_night 104 = some (1, .iconst 1)) ?_
          refine x_callV (n := 2) (by decide +kernel : am_at co_X12_night 105 = some (3, .invokevirtual 401)) pq_12_401 pm_X12_settingOf rfl rfl rfl ob_152 h (x_k0 fun x24 M24 h => ?_)
          refine x_icmp (tgt := 122) (by decide +kernel : am_at co_X12_night 108 = some (3, .if_icmp .ge 14)) rfl Iff.rfl (fun c24 => ?_) (fun c24 => ?_)
          · have h := h.1 c24
            exact am_weak (lk (lk (lk (lk (ld (ld ln)))))) h
          · have c24 := (Int.not_le.mp c24)
            have h := h.2 c24
            refine x_iload (by decide +kernel : am_at co_X12_night 111 = some (2, .iload 5)) rfl ?_
            refine x_iconst (by decide +kernel : am_at co_X12_night 113 = some (1, .iconst (-1))) ?_
            refine x_icmp (tgt := 122) (by decide +kernel : am_at co_X12_night 114 = some (3, .if_icmp .eq 8)) rfl Iff.rfl (fun c25 => ?_) (fun c25 => ?_)
            · have h := h.1 c25
              exact am_weak (lk (lk (lk (lk (ld (ld ln)))))) h
            · have c25 := c25
              have h := h.2 c25
              refine x_aload_n (by decide +kernel : am_at co_X12_night 117 = some (1, .aload_n 0)) rfl ?_
              refine x_iconst (by decide +kernel : am_at co_X12_night 118 = some (1, .iconst 0)) ?_
              refine x_callV (n := 2) (by decide +kernel : am_at co_X12_night 119 = some (3, .invokevirtual 532)) pq_12_532 pm_X12_laughs rfl rfl rfl ob_152 h (x_kv fun M27 h => ?_)
              exact am_weak (lk (lk (lk (lk (ld (ld ln)))))) h
set_option maxRecDepth 20000 in
theorem bk_X12_night_122 {d : Nat} {Q : am_Q} {M : am_M} {v1 v2 v3 : Int} (h : am_r (v3 + 1) ∧ am_g 12 0 co_X12_night d Q 37 [(2, 152), (0, v1), (0, v2), (0, v3 + 1), (3, 0), (3, 0)] [] sh_T M) : am_g 12 0 co_X12_night d Q 122 [(2, 152), (0, v1), (0, v2), (0, v3), (3, 0), (3, 0)] [] sh_T M := by
  obtain ⟨o0, h⟩ := h
  refine x_iinc (L' := [(2, 152), (0, v1), (0, v2), (0, v3 + 1), (3, 0), (3, 0)]) (by decide +kernel : am_at co_X12_night 122 = some (3, .iinc 3 1)) rfl o0 rfl ?_
  refine x_goto (tgt := 37) (by decide +kernel : am_at co_X12_night 125 = some (3, .goto (-88))) rfl ?_
  exact am_weak (lk (lk (lk (lk (lk (lk ln)))))) h
set_option maxRecDepth 20000 in
theorem bk_X12_night_128 {d : Nat} {Q : am_Q} {M : am_M} {v1 v3 : Int} (h : am_cal pg d 220 [(2, 152), (0, v1), (0, 0)] sh_T M (am_cv sh_T fun M1 => Q (some (0, v3), sh_T, M1))) : am_g 12 0 co_X12_night d Q 128 [(2, 152), (0, v1), (3, 0), (0, v3), (3, 0), (3, 0)] [] sh_T M := by
  refine x_aload_n (by decide +kernel : am_at co_X12_night 128 = some (1, .aload_n 0)) rfl ?_
  refine x_iload_n (by decide +kernel : am_at co_X12_night 129 = some (1, .iload_n 1)) rfl ?_
  refine x_iconst (by decide +kernel : am_at co_X12_night 130 = some (1, .iconst 0)) ?_
  refine x_callV (n := 3) (by decide +kernel : am_at co_X12_night 131 = some (3, .invokevirtual 552)) pq_12_552 pm_X12_isNow rfl rfl rfl ob_152 h (x_kv fun M1 h => ?_)
  refine x_iload_n (by decide +kernel : am_at co_X12_night 134 = some (1, .iload_n 3)) rfl ?_
  exact x_iret (by decide +kernel : am_at co_X12_night 135 = some (1, .ireturn)) h
set_option maxRecDepth 20000 in
theorem bk_X12_told_0 {d : Nat} {Q : am_Q} {M : am_M} {v1 : Int} (h : am_cal pg d 215 [(2, 152), (0, v1)] sh_T (am_up M 152 1 0) (am_c0 sh_T fun x1 M1 => ((x1 = 0 → am_g 12 0 co_X12_told d Q 39 [(2, 152), (0, v1), (0, M 152 1), (0, 0), (0, 0)] [] sh_T M1) ∧ (¬ x1 = 0 → am_cal pg d 169 [(1, M 152 1), (1, 1), (1, 20)] sh_T M1 (am_c0 sh_T fun x3 M3 => ((x3 = 0 → am_g 12 0 co_X12_told d Q 39 [(2, 152), (0, v1), (0, M 152 1), (0, 0), (0, 0)] [] sh_T M3) ∧ (¬ x3 = 0 → am_g 12 0 co_X12_told d Q 39 [(2, 152), (0, v1), (0, M 152 1), (0, 1), (0, 0)] [] sh_T M3))))))) : am_g 12 0 co_X12_told d Q 0 [(2, 152), (0, v1), (3, 0), (3, 0), (3, 0)] [] sh_T M := by
  refine x_aload_n (by decide +kernel : am_at co_X12_told 0 = some (1, .aload_n 0)) rfl ?_
  refine x_getf (by decide +kernel : am_at co_X12_told 1 = some (3, .getfield 206)) pq_12_206 rfl ob_152 ?_
  refine x_istore_n (L' := [(2, 152), (0, v1), (0, M 152 1), (3, 0), (3, 0)]) (by decide +kernel : am_at co_X12_told 4 = some (1, .istore_n 2)) rfl ?_
  refine x_aload_n (by decide +kernel : am_at co_X12_told 5 = some (1, .aload_n 0)) rfl ?_
  refine x_iconst (by decide +kernel : am_at co_X12_told 6 = some (1, .iconst 0)) ?_
  refine x_putf0 (by decide +kernel : am_at co_X12_told 7 = some (3, .putfield 206)) pq_12_206 rfl ob_152 ?_
  refine x_aload_n (by decide +kernel : am_at co_X12_told 10 = some (1, .aload_n 0)) rfl ?_
  refine x_iload_n (by decide +kernel : am_at co_X12_told 11 = some (1, .iload_n 1)) rfl ?_
  refine x_callV (n := 2) (by decide +kernel : am_at co_X12_told 12 = some (3, .invokevirtual 446)) pq_12_446 pm_X12_isDreamer rfl rfl rfl ob_152 h (x_k0 fun x1 M1 h => ?_)
  refine x_if (tgt := 34) (by decide +kernel : am_at co_X12_told 15 = some (3, .ifCond .eq 19)) rfl Iff.rfl (fun c1 => ?_) (fun c1 => ?_)
  · have h := h.1 c1
    refine x_iconst (by decide +kernel : am_at co_X12_told 34 = some (1, .iconst 0)) ?_
    refine x_istore_n (L' := [(2, 152), (0, v1), (0, M 152 1), (0, 0), (3, 0)]) (by decide +kernel : am_at co_X12_told 35 = some (1, .istore_n 3)) rfl ?_
    refine x_iconst (by decide +kernel : am_at co_X12_told 36 = some (1, .iconst 0)) ?_
    refine x_istore (L' := [(2, 152), (0, v1), (0, M 152 1), (0, 0), (0, 0)]) (by decide +kernel : am_at co_X12_told 37 = some (2, .istore 4)) rfl ?_
    exact am_weak (lk (lk (lk (lk (lk ln))))) h
  · have c1 := c1
    have h := h.2 c1
    refine x_iload_n (by decide +kernel : am_at co_X12_told 18 = some (1, .iload_n 2)) rfl ?_
    refine x_i2l (by decide +kernel : am_at co_X12_told 19 = some (1, .i2l)) ?_
    refine x_lconst (by decide +kernel : am_at co_X12_told 20 = some (1, .lconst 1)) ?_
    refine x_ldc2 (by decide +kernel : am_at co_X12_told 21 = some (3, .ldc2_w 568)) pq_12_568 ?_
    refine x_callS (n := 3) (by decide +kernel : am_at co_X12_told 24 = some (3, .invokestatic 249)) pq_12_249 rfl rfl rfl h (x_k0 fun x3 M3 h => ?_)
    refine x_if (tgt := 34) (by decide +kernel : am_at co_X12_told 27 = some (3, .ifCond .eq 7)) rfl Iff.rfl (fun c3 => ?_) (fun c3 => ?_)
    · have h := h.1 c3
      refine x_iconst (by decide +kernel : am_at co_X12_told 34 = some (1, .iconst 0)) ?_
      refine x_istore_n (L' := [(2, 152), (0, v1), (0, M 152 1), (0, 0), (3, 0)]) (by decide +kernel : am_at co_X12_told 35 = some (1, .istore_n 3)) rfl ?_
      refine x_iconst (by decide +kernel : am_at co_X12_told 36 = some (1, .iconst 0)) ?_
      refine x_istore (L' := [(2, 152), (0, v1), (0, M 152 1), (0, 0), (0, 0)]) (by decide +kernel : am_at co_X12_told 37 = some (2, .istore 4)) rfl ?_
      exact am_weak (lk (lk (lk (lk (lk ln))))) h
    · have c3 := c3
      have h := h.2 c3
      refine x_iconst (by decide +kernel : am_at co_X12_told 30 = some (1, .iconst 1)) ?_
      refine x_goto (tgt := 35) (by decide +kernel : am_at co_X12_told 31 = some (3, .goto 4)) rfl ?_
      refine x_istore_n (L' := [(2, 152), (0, v1), (0, M 152 1), (0, 1), (3, 0)]) (by decide +kernel : am_at co_X12_told 35 = some (1, .istore_n 3)) rfl ?_
      refine x_iconst (by decide +kernel : am_at co_X12_told 36 = some (1, .iconst 0)) ?_
      refine x_istore (L' := [(2, 152), (0, v1), (0, M 152 1), (0, 1), (0, 0)]) (by decide +kernel : am_at co_X12_told 37 = some (2, .istore 4)) rfl ?_
      exact am_weak (lk (lk (lk (lk (lk ln))))) h
set_option maxRecDepth 20000 in
theorem bk_X12_told_39 {d : Nat} {Q : am_Q} {M : am_M} {v1 v2 v3 v4 : Int} (h : ((v2 ≤ v4 → ((¬ v3 = 0 → am_g 12 0 co_X12_told d Q 86 [(2, 152), (0, v1), (0, v2), (3, 0), (0, 0)] [] sh_T M) ∧ (v3 = 0 → am_r ((M 154 1) + 1) ∧ Q (some (0, (-1)), sh_T, (am_up M 154 1 ((M 154 1) + 1)))))) ∧ (v4 < v2 → ((v3 = 0 → am_r ((M 154 1) + 1) ∧ Q (some (0, (-1)), sh_T, (am_up M 154 1 ((M 154 1) + 1)))) ∧ (¬ v3 = 0 → (0 ≤ v4 ∧ v4 < 1600) ∧ am_cal pg d 214 [(2, 152), (0, M 153 v4)] sh_T M (am_c0 sh_T fun x8 M8 => am_r (v4 + 1) ∧ am_g 12 0 co_X12_told d Q 39 [(2, 152), (0, v1), (0, v2), (0, x8), (0, v4 + 1)] [] sh_T M8)))))) : am_g 12 0 co_X12_told d Q 39 [(2, 152), (0, v1), (0, v2), (0, v3), (0, v4)] [] sh_T M := by
  refine x_iload (by decide +kernel : am_at co_X12_told 39 = some (2, .iload 4)) rfl ?_
  refine x_iload_n (by decide +kernel : am_at co_X12_told 41 = some (1, .iload_n 2)) rfl ?_
  refine x_icmp (tgt := 67) (by decide +kernel : am_at co_X12_told 42 = some (3, .if_icmp .ge 25)) rfl Iff.rfl (fun c0 => ?_) (fun c0 => ?_)
  · have h := h.1 c0
    refine x_iload_n (by decide +kernel : am_at co_X12_told 67 = some (1, .iload_n 3)) rfl ?_
    refine x_if (tgt := 83) (by decide +kernel : am_at co_X12_told 68 = some (3, .ifCond .ne 15)) rfl Iff.rfl (fun c1 => ?_) (fun c1 => ?_)
    · have h := h.1 c1
      refine x_iconst (by decide +kernel : am_at co_X12_told 83 = some (1, .iconst 0)) ?_
      refine x_istore (L' := [(2, 152), (0, v1), (0, v2), (0, v3), (0, 0)]) (by decide +kernel : am_at co_X12_told 84 = some (2, .istore 4)) rfl ?_
      exact am_weak (lk (lk (lk (ld (lk ln))))) h
    · have c1 := (Classical.not_not.mp c1)
      have h := h.2 c1
      refine x_aload_n (by decide +kernel : am_at co_X12_told 71 = some (1, .aload_n 0)) rfl ?_
      refine x_getF (by decide +kernel : am_at co_X12_told 72 = some (3, .getfield 17)) pq_12_17 (by decide) rfl ob_152 ?_
      refine x_top2 (show 152 + 2 = 154 from rfl) ?_
      refine x_iconst (by decide +kernel : am_at co_X12_told 75 = some (1, .iconst 1)) ?_
      refine x_dup2 (by decide +kernel : am_at co_X12_told 76 = some (1, .dup2)) ?_
      refine x_iald (by decide +kernel : am_at co_X12_told 77 = some (1, .iaload)) (ia_154 (by decide) (by decide)) ?_
      refine x_iconst (by decide +kernel : am_at co_X12_told 78 = some (1, .iconst 1)) ?_
      obtain ⟨o2, h⟩ := h
      refine x_iadd (by decide +kernel : am_at co_X12_told 79 = some (1, .iadd)) o2 ?_
      refine x_iast (by decide +kernel : am_at co_X12_told 80 = some (1, .iastore)) (ow_154 (by decide) (by decide)) ?_
      refine x_iconst (by decide +kernel : am_at co_X12_told 81 = some (1, .iconst (-1))) ?_
      exact x_iret (by decide +kernel : am_at co_X12_told 82 = some (1, .ireturn)) h
  · have c0 := (Int.not_le.mp c0)
    have h := h.2 c0
    refine x_iload_n (by decide +kernel : am_at co_X12_told 45 = some (1, .iload_n 3)) rfl ?_
    refine x_if (tgt := 67) (by decide +kernel : am_at co_X12_told 46 = some (3, .ifCond .eq 21)) rfl Iff.rfl (fun c3 => ?_) (fun c3 => ?_)
    · have h := h.1 c3
      refine x_iload_n (by decide +kernel : am_at co_X12_told 67 = some (1, .iload_n 3)) rfl ?_
      refine x_if (tgt := 83) (by decide +kernel : am_at co_X12_told 68 = some (3, .ifCond .ne 15)) rfl Iff.rfl (fun c4 => absurd c4 (fun z => z c3)) (fun _ => ?_)
      refine x_aload_n (by decide +kernel : am_at co_X12_told 71 = some (1, .aload_n 0)) rfl ?_
      refine x_getF (by decide +kernel : am_at co_X12_told 72 = some (3, .getfield 17)) pq_12_17 (by decide) rfl ob_152 ?_
      refine x_top2 (show 152 + 2 = 154 from rfl) ?_
      refine x_iconst (by decide +kernel : am_at co_X12_told 75 = some (1, .iconst 1)) ?_
      refine x_dup2 (by decide +kernel : am_at co_X12_told 76 = some (1, .dup2)) ?_
      refine x_iald (by decide +kernel : am_at co_X12_told 77 = some (1, .iaload)) (ia_154 (by decide) (by decide)) ?_
      refine x_iconst (by decide +kernel : am_at co_X12_told 78 = some (1, .iconst 1)) ?_
      obtain ⟨o5, h⟩ := h
      refine x_iadd (by decide +kernel : am_at co_X12_told 79 = some (1, .iadd)) o5 ?_
      refine x_iast (by decide +kernel : am_at co_X12_told 80 = some (1, .iastore)) (ow_154 (by decide) (by decide)) ?_
      refine x_iconst (by decide +kernel : am_at co_X12_told 81 = some (1, .iconst (-1))) ?_
      exact x_iret (by decide +kernel : am_at co_X12_told 82 = some (1, .ireturn)) h
    · have c3 := c3
      have h := h.2 c3
      refine x_aload_n (by decide +kernel : am_at co_X12_told 49 = some (1, .aload_n 0)) rfl ?_
      refine x_aload_n (by decide +kernel : am_at co_X12_told 50 = some (1, .aload_n 0)) rfl ?_
      refine x_getF (by decide +kernel : am_at co_X12_told 51 = some (3, .getfield 7)) pq_12_7 (by decide) rfl ob_152 ?_
      refine x_top2 (show 152 + 1 = 153 from rfl) ?_
      refine x_iload (by decide +kernel : am_at co_X12_told 54 = some (2, .iload 4)) rfl ?_
      obtain ⟨o6, h⟩ := h
      refine x_iald (by decide +kernel : am_at co_X12_told 56 = some (1, .iaload)) (ia_153 o6.1 o6.2) ?_
      refine x_callV (n := 2) (by decide +kernel : am_at co_X12_told 57 = some (3, .invokevirtual 452)) pq_12_452 pm_X12_isDread rfl rfl rfl ob_152 h (x_k0 fun x8 M8 h => ?_)
      refine x_istore_n (L' := [(2, 152), (0, v1), (0, v2), (0, x8), (0, v4)]) (by decide +kernel : am_at co_X12_told 60 = some (1, .istore_n 3)) rfl ?_
      obtain ⟨o8, h⟩ := h
      refine x_iinc (L' := [(2, 152), (0, v1), (0, v2), (0, x8), (0, v4 + 1)]) (by decide +kernel : am_at co_X12_told 61 = some (3, .iinc 4 1)) rfl o8 rfl ?_
      refine x_goto (tgt := 39) (by decide +kernel : am_at co_X12_told 64 = some (3, .goto (-25))) rfl ?_
      exact am_weak (lk (lk (lk (lk (lk ln))))) h
set_option maxRecDepth 20000 in
theorem bk_X12_told_86 {d : Nat} {Q : am_Q} {M : am_M} {v1 v2 v4 : Int} (h : ((v2 ≤ v4 → Q (some (0, v2), sh_T, (am_up (am_up M 152 61 v2) 152 62 v1))) ∧ (v4 < v2 → (0 ≤ v4 ∧ v4 < 1600) ∧ (0 ≤ v4 ∧ v4 < 20) ∧ am_r (v4 + 1) ∧ am_g 12 0 co_X12_told d Q 86 [(2, 152), (0, v1), (0, v2), (3, 0), (0, v4 + 1)] [] sh_T (am_up M 192 v4 (M 153 v4))))) : am_g 12 0 co_X12_told d Q 86 [(2, 152), (0, v1), (0, v2), (3, 0), (0, v4)] [] sh_T M := by
  refine x_iload (by decide +kernel : am_at co_X12_told 86 = some (2, .iload 4)) rfl ?_
  refine x_iload_n (by decide +kernel : am_at co_X12_told 88 = some (1, .iload_n 2)) rfl ?_
  refine x_icmp (tgt := 112) (by decide +kernel : am_at co_X12_told 89 = some (3, .if_icmp .ge 23)) rfl Iff.rfl (fun c0 => ?_) (fun c0 => ?_)
  · have h := h.1 c0
    refine x_aload_n (by decide +kernel : am_at co_X12_told 112 = some (1, .aload_n 0)) rfl ?_
    refine x_iload_n (by decide +kernel : am_at co_X12_told 113 = some (1, .iload_n 2)) rfl ?_
    refine x_putf0 (by decide +kernel : am_at co_X12_told 114 = some (3, .putfield 340)) pq_12_340 rfl ob_152 ?_
    refine x_aload_n (by decide +kernel : am_at co_X12_told 117 = some (1, .aload_n 0)) rfl ?_
    refine x_iload_n (by decide +kernel : am_at co_X12_told 118 = some (1, .iload_n 1)) rfl ?_
    refine x_putf0 (by decide +kernel : am_at co_X12_told 119 = some (3, .putfield 570)) pq_12_570 rfl ob_152 ?_
    refine x_iload_n (by decide +kernel : am_at co_X12_told 122 = some (1, .iload_n 2)) rfl ?_
    exact x_iret (by decide +kernel : am_at co_X12_told 123 = some (1, .ireturn)) h
  · have c0 := (Int.not_le.mp c0)
    have h := h.2 c0
    refine x_aload_n (by decide +kernel : am_at co_X12_told 92 = some (1, .aload_n 0)) rfl ?_
    refine x_getF (by decide +kernel : am_at co_X12_told 93 = some (3, .getfield 137)) pq_12_137 (by decide) rfl ob_152 ?_
    refine x_top2 (show 152 + 40 = 192 from rfl) ?_
    refine x_iload (by decide +kernel : am_at co_X12_told 96 = some (2, .iload 4)) rfl ?_
    refine x_aload_n (by decide +kernel : am_at co_X12_told 98 = some (1, .aload_n 0)) rfl ?_
    refine x_getF (by decide +kernel : am_at co_X12_told 99 = some (3, .getfield 7)) pq_12_7 (by decide) rfl ob_152 ?_
    refine x_top2 (show 152 + 1 = 153 from rfl) ?_
    refine x_iload (by decide +kernel : am_at co_X12_told 102 = some (2, .iload 4)) rfl ?_
    obtain ⟨o1, h⟩ := h
    refine x_iald (by decide +kernel : am_at co_X12_told 104 = some (1, .iaload)) (ia_153 o1.1 o1.2) ?_
    obtain ⟨o2, h⟩ := h
    refine x_iast (by decide +kernel : am_at co_X12_told 105 = some (1, .iastore)) (ow_192 o2.1 o2.2) ?_
    obtain ⟨o3, h⟩ := h
    refine x_iinc (L' := [(2, 152), (0, v1), (0, v2), (3, 0), (0, v4 + 1)]) (by decide +kernel : am_at co_X12_told 106 = some (3, .iinc 4 1)) rfl o3 rfl ?_
    refine x_goto (tgt := 86) (by decide +kernel : am_at co_X12_told 109 = some (3, .goto (-23))) rfl ?_
    exact am_weak (lk (lk (lk (lk (lk ln))))) h
set_option maxRecDepth 20000 in
theorem bk_X12_isFitting_0 {d : Nat} {Q : am_Q} {M : am_M} {v1 v2 : Int} (h : am_cal pg d 218 [(2, 152), (0, M 152 62), (0, 0)] sh_T M (am_cv sh_T fun M1 => (0 ≤ v1 ∧ v1 < 1500) ∧ am_g 12 5 co_X12_isFitting d Q 18 [(2, 152), (3, 0), (3, 0), (0, 0)] [] sh_T (am_up M1 187 v1 v2))) : am_g 12 5 co_X12_isFitting d Q 0 [(2, 152), (0, v1), (0, v2), (3, 0)] [] sh_T M := by
  refine x_aload_n (by decide +kernel : am_at co_X12_isFitting 0 = some (1, .aload_n 0)) rfl ?_
  refine x_aload_n (by decide +kernel : am_at co_X12_isFitting 1 = some (1, .aload_n 0)) rfl ?_
  refine x_getf (by decide +kernel : am_at co_X12_isFitting 2 = some (3, .getfield 570)) pq_12_570 rfl ob_152 ?_
  refine x_iconst (by decide +kernel : am_at co_X12_isFitting 5 = some (1, .iconst 0)) ?_
  refine x_callV (n := 3) (by decide +kernel : am_at co_X12_isFitting 6 = some (3, .invokevirtual 430)) pq_12_430 pm_X12_laysNow rfl rfl rfl ob_152 h (x_kv fun M1 h => ?_)
  refine x_aload_n (by decide +kernel : am_at co_X12_isFitting 9 = some (1, .aload_n 0)) rfl ?_
  refine x_getF (by decide +kernel : am_at co_X12_isFitting 10 = some (3, .getfield 118)) pq_12_118 (by decide) rfl ob_152 ?_
  refine x_top2 (show 152 + 35 = 187 from rfl) ?_
  refine x_iload_n (by decide +kernel : am_at co_X12_isFitting 13 = some (1, .iload_n 1)) rfl ?_
  refine x_iload_n (by decide +kernel : am_at co_X12_isFitting 14 = some (1, .iload_n 2)) rfl ?_
  obtain ⟨o1, h⟩ := h
  refine x_iast (by decide +kernel : am_at co_X12_isFitting 15 = some (1, .iastore)) (ow_187 o1.1 o1.2) ?_
  refine x_iconst (by decide +kernel : am_at co_X12_isFitting 16 = some (1, .iconst 0)) ?_
  refine x_istore_n (L' := [(2, 152), (0, v1), (0, v2), (0, 0)]) (by decide +kernel : am_at co_X12_isFitting 17 = some (1, .istore_n 3)) rfl ?_
  exact am_weak (lk (ld (ld (lk ln)))) h
set_option maxRecDepth 20000 in
theorem bk_X12_isFitting_18 {d : Nat} {Q : am_Q} {M : am_M} {v3 : Int} (h : ((M 152 61 ≤ v3 → Q (some (0, 1), sh_T, M)) ∧ (v3 < M 152 61 → am_cal pg d 224 [(2, 152), (0, 0)] sh_T M (am_c0 sh_T fun x2 M2 => ((¬ x2 = 0 → Q (some (0, 0), sh_T, M2)) ∧ (x2 = 0 → am_cal pg d 230 [(2, 152), (0, M2 152 62)] sh_T M2 (am_c0 sh_T fun x4 M4 => am_cal pg d 226 [(2, 152), (0, 0), (0, x4), (0, (-1))] sh_T M4 (am_c0 sh_T fun x5 M5 => (0 ≤ v3 ∧ v3 < 20) ∧ ((x5 = M5 192 v3 → am_cal pg d 227 [(2, 152), (0, 0), (0, 0), (0, M5 192 v3), (0, M5 152 62)] sh_T M5 (am_c0 sh_T fun x8 M8 => (0 ≤ M5 192 v3 ∧ M5 192 v3 < 1500) ∧ am_r (v3 + 1) ∧ am_g 12 5 co_X12_isFitting d Q 18 [(2, 152), (3, 0), (3, 0), (0, v3 + 1)] [] sh_T (am_up M8 187 (M5 192 v3) x8))) ∧ (¬ x5 = M5 192 v3 → Q (some (0, 0), sh_T, M5))))))))))) : am_g 12 5 co_X12_isFitting d Q 18 [(2, 152), (3, 0), (3, 0), (0, v3)] [] sh_T M := by
  refine x_iload_n (by decide +kernel : am_at co_X12_isFitting 18 = some (1, .iload_n 3)) rfl ?_
  refine x_aload_n (by decide +kernel : am_at co_X12_isFitting 19 = some (1, .aload_n 0)) rfl ?_
  refine x_getf (by decide +kernel : am_at co_X12_isFitting 20 = some (3, .getfield 340)) pq_12_340 rfl ob_152 ?_
  refine x_icmp (tgt := 92) (by decide +kernel : am_at co_X12_isFitting 23 = some (3, .if_icmp .ge 69)) rfl Iff.rfl (fun c0 => ?_) (fun c0 => ?_)
  · have h := h.1 c0
    refine x_iconst (by decide +kernel : am_at co_X12_isFitting 92 = some (1, .iconst 1)) ?_
    exact x_zret (by decide +kernel : am_at co_X12_isFitting 93 = some (1, .ireturn)) (by decide) h
  · have c0 := (Int.not_le.mp c0)
    have h := h.2 c0
    refine x_aload_n (by decide +kernel : am_at co_X12_isFitting 26 = some (1, .aload_n 0)) rfl ?_
    refine x_iconst (by decide +kernel : am_at co_X12_isFitting 27 = some (1, .iconst 0)) ?_
    refine x_callV (n := 2) (by decide +kernel : am_at co_X12_isFitting 28 = some (3, .invokevirtual 433)) pq_12_433 pm_X12_isHomeAt rfl rfl rfl ob_152 h (x_k0 fun x2 M2 h => ?_)
    refine x_if (tgt := 57) (by decide +kernel : am_at co_X12_isFitting 31 = some (3, .ifCond .ne 26)) rfl Iff.rfl (fun c2 => ?_) (fun c2 => ?_)
    · have h := h.1 c2
      refine x_iconst (by decide +kernel : am_at co_X12_isFitting 57 = some (1, .iconst 0)) ?_
      exact x_zret (by decide +kernel : am_at co_X12_isFitting 58 = some (1, .ireturn)) (by decide) h
    · have c2 := (Classical.not_not.mp c2)
      have h := h.2 c2
      refine x_aload_n (by decide +kernel : am_at co_X12_isFitting 34 = some (1, .aload_n 0)) rfl ?_
      refine x_iconst (by decide +kernel : am_at co_X12_isFitting 35 = some (1, .iconst 0)) ?_
      refine x_aload_n (by decide +kernel : am_at co_X12_isFitting 36 = some (1, .aload_n 0)) rfl ?_
      refine x_aload_n (by decide +kernel : am_at co_X12_isFitting 37 = some (1, .aload_n 0)) rfl ?_
      refine x_getf (by decide +kernel : am_at co_X12_isFitting 38 = some (3, .getfield 570)) pq_12_570 rfl ob_152 ?_
      refine x_callV (n := 2) (by decide +kernel : am_at co_X12_isFitting 41 = some (3, .invokevirtual 449)) pq_12_449 pm_X12_guideOf rfl rfl rfl ob_152 h (x_k0 fun x4 M4 h => ?_)
      refine x_iconst (by decide +kernel : am_at co_X12_isFitting 44 = some (1, .iconst (-1))) ?_
      refine x_callV (n := 4) (by decide +kernel : am_at co_X12_isFitting 45 = some (3, .invokevirtual 423)) pq_12_423 pm_X12_worstAt rfl rfl rfl ob_152 h (x_k0 fun x5 M5 h => ?_)
      refine x_aload_n (by decide +kernel : am_at co_X12_isFitting 48 = some (1, .aload_n 0)) rfl ?_
      refine x_getF (by decide +kernel : am_at co_X12_isFitting 49 = some (3, .getfield 137)) pq_12_137 (by decide) rfl ob_152 ?_
      refine x_top2 (show 152 + 40 = 192 from rfl) ?_
      refine x_iload_n (by decide +kernel : am_at co_X12_isFitting 52 = some (1, .iload_n 3)) rfl ?_
      obtain ⟨o5, h⟩ := h
      refine x_iald (by decide +kernel : am_at co_X12_isFitting 53 = some (1, .iaload)) (ia_192 o5.1 o5.2) ?_
      refine x_icmp (tgt := 59) (by decide +kernel : am_at co_X12_isFitting 54 = some (3, .if_icmp .eq 5)) rfl Iff.rfl (fun c6 => ?_) (fun c6 => ?_)
      · have h := h.1 c6
        refine x_aload_n (by decide +kernel : am_at co_X12_isFitting 59 = some (1, .aload_n 0)) rfl ?_
        refine x_getF (by decide +kernel : am_at co_X12_isFitting 60 = some (3, .getfield 118)) pq_12_118 (by decide) rfl ob_152 ?_
        refine x_top2 (show 152 + 35 = 187 from rfl) ?_
        refine x_aload_n (by decide +kernel : am_at co_X12_isFitting 63 = some (1, .aload_n 0)) rfl ?_
        refine x_getF (by decide +kernel : am_at co_X12_isFitting 64 = some (3, .getfield 137)) pq_12_137 (by decide) rfl ob_152 ?_
        refine x_top2 (show 152 + 40 = 192 from rfl) ?_
        refine x_iload_n (by decide +kernel : am_at co_X12_isFitting 67 = some (1, .iload_n 3)) rfl ?_
        refine x_iald (by decide +kernel : am_at co_X12_isFitting 68 = some (1, .iaload)) (ia_192 o5.1 o5.2) ?_
        refine x_aload_n (by decide +kernel : am_at co_X12_isFitting 69 = some (1, .aload_n 0)) rfl ?_
        refine x_iconst (by decide +kernel : am_at co_X12_isFitting 70 = some (1, .iconst 0)) ?_
        refine x_iconst (by decide +kernel : am_at co_X12_isFitting 71 = some (1, .iconst 0)) ?_
        refine x_aload_n (by decide +kernel : am_at co_X12_isFitting 72 = some (1, .aload_n 0)) rfl ?_
        refine x_getF (by decide +kernel : am_at co_X12_isFitting 73 = some (3, .getfield 137)) pq_12_137 (by decide) rfl ob_152 ?_
        refine x_top2 (show 152 + 40 = 192 from rfl) ?_
        refine x_iload_n (by decide +kernel : am_at co_X12_isFitting 76 = some (1, .iload_n 3)) rfl ?_
        refine x_iald (by decide +kernel : am_at co_X12_isFitting 77 = some (1, .iaload)) (ia_192 o5.1 o5.2) ?_
        refine x_aload_n (by decide +kernel : am_at co_X12_isFitting 78 = some (1, .aload_n 0)) rfl ?_
        refine x_getf (by decide +kernel : am_at co_X12_isFitting 79 = some (3, .getfield 570)) pq_12_570 rfl ob_152 ?_
        refine x_callV (n := 5) (by decide +kernel : am_at co_X12_isFitting 82 = some (3, .invokevirtual 426)) pq_12_426 pm_X12_made rfl rfl rfl ob_152 h (x_k0 fun x8 M8 h => ?_)
        obtain ⟨o8, h⟩ := h
        refine x_iast (by decide +kernel : am_at co_X12_isFitting 85 = some (1, .iastore)) (ow_187 o8.1 o8.2) ?_
        obtain ⟨o9, h⟩ := h
        refine x_iinc (L' := [(2, 152), (3, 0), (3, 0), (0, v3 + 1)]) (by decide +kernel : am_at co_X12_isFitting 86 = some (3, .iinc 3 1)) rfl o9 rfl ?_
        refine x_goto (tgt := 18) (by decide +kernel : am_at co_X12_isFitting 89 = some (3, .goto (-71))) rfl ?_
        exact am_weak (lk (lk (lk (lk ln)))) h
      · have c6 := c6
        have h := h.2 c6
        refine x_iconst (by decide +kernel : am_at co_X12_isFitting 57 = some (1, .iconst 0)) ?_
        exact x_zret (by decide +kernel : am_at co_X12_isFitting 58 = some (1, .ireturn)) (by decide) h
set_option maxRecDepth 20000 in
theorem bk_X12_fits_0 {d : Nat} {Q : am_Q} {M : am_M} {v1 v2 : Int} (h : ((M 152 61 = 0 → Q (some (0, (-1)), sh_T, M)) ∧ (¬ M 152 61 = 0 → am_cal pg d 214 [(2, 152), (0, v1)] sh_T M (am_c0 sh_T fun x2 M2 => ((x2 = 0 → Q (some (0, (-1)), sh_T, M2)) ∧ (¬ x2 = 0 → am_cal pg d 169 [(1, v2), (1, 0), (1, 2)] sh_T M2 (am_c0 sh_T fun x4 M4 => ((¬ x4 = 0 → am_g 12 0 co_X12_fits d Q 40 [(2, 152), (0, v1), (0, v2), (0, 0), (0, (-1)), (0, (-1)), (0, 0)] [] sh_T M4) ∧ (x4 = 0 → Q (some (0, (-1)), sh_T, M4)))))))))) : am_g 12 0 co_X12_fits d Q 0 [(2, 152), (0, v1), (0, v2), (3, 0), (3, 0), (3, 0), (3, 0)] [] sh_T M := by
  refine x_aload_n (by decide +kernel : am_at co_X12_fits 0 = some (1, .aload_n 0)) rfl ?_
  refine x_getf (by decide +kernel : am_at co_X12_fits 1 = some (3, .getfield 340)) pq_12_340 rfl ob_152 ?_
  refine x_if (tgt := 27) (by decide +kernel : am_at co_X12_fits 4 = some (3, .ifCond .eq 23)) rfl Iff.rfl (fun c0 => ?_) (fun c0 => ?_)
  · have h := h.1 c0
    refine x_iconst (by decide +kernel : am_at co_X12_fits 27 = some (1, .iconst (-1))) ?_
    exact x_iret (by decide +kernel : am_at co_X12_fits 28 = some (1, .ireturn)) h
  · have c0 := c0
    have h := h.2 c0
    refine x_aload_n (by decide +kernel : am_at co_X12_fits 7 = some (1, .aload_n 0)) rfl ?_
    refine x_iload_n (by decide +kernel : am_at co_X12_fits 8 = some (1, .iload_n 1)) rfl ?_
    refine x_callV (n := 2) (by decide +kernel : am_at co_X12_fits 9 = some (3, .invokevirtual 452)) pq_12_452 pm_X12_isDread rfl rfl rfl ob_152 h (x_k0 fun x2 M2 h => ?_)
    refine x_if (tgt := 27) (by decide +kernel : am_at co_X12_fits 12 = some (3, .ifCond .eq 15)) rfl Iff.rfl (fun c2 => ?_) (fun c2 => ?_)
    · have h := h.1 c2
      refine x_iconst (by decide +kernel : am_at co_X12_fits 27 = some (1, .iconst (-1))) ?_
      exact x_iret (by decide +kernel : am_at co_X12_fits 28 = some (1, .ireturn)) h
    · have c2 := c2
      have h := h.2 c2
      refine x_iload_n (by decide +kernel : am_at co_X12_fits 15 = some (1, .iload_n 2)) rfl ?_
      refine x_i2l (by decide +kernel : am_at co_X12_fits 16 = some (1, .i2l)) ?_
      refine x_lconst (by decide +kernel : am_at co_X12_fits 17 = some (1, .lconst 0)) ?_
      refine x_ldc2 (by decide +kernel : am_at co_X12_fits 18 = some (3, .ldc2_w 442)) pq_12_442 ?_
      refine x_callS (n := 3) (by decide +kernel : am_at co_X12_fits 21 = some (3, .invokestatic 249)) pq_12_249 rfl rfl rfl h (x_k0 fun x4 M4 h => ?_)
      refine x_if (tgt := 29) (by decide +kernel : am_at co_X12_fits 24 = some (3, .ifCond .ne 5)) rfl Iff.rfl (fun c4 => ?_) (fun c4 => ?_)
      · have h := h.1 c4
        refine x_iconst (by decide +kernel : am_at co_X12_fits 29 = some (1, .iconst 0)) ?_
        refine x_istore_n (L' := [(2, 152), (0, v1), (0, v2), (0, 0), (3, 0), (3, 0), (3, 0)]) (by decide +kernel : am_at co_X12_fits 30 = some (1, .istore_n 3)) rfl ?_
        refine x_iconst (by decide +kernel : am_at co_X12_fits 31 = some (1, .iconst (-1))) ?_
        refine x_istore (L' := [(2, 152), (0, v1), (0, v2), (0, 0), (0, (-1)), (3, 0), (3, 0)]) (by decide +kernel : am_at co_X12_fits 32 = some (2, .istore 4)) rfl ?_
        refine x_iconst (by decide +kernel : am_at co_X12_fits 34 = some (1, .iconst (-1))) ?_
        refine x_istore (L' := [(2, 152), (0, v1), (0, v2), (0, 0), (0, (-1)), (0, (-1)), (3, 0)]) (by decide +kernel : am_at co_X12_fits 35 = some (2, .istore 5)) rfl ?_
        refine x_iconst (by decide +kernel : am_at co_X12_fits 37 = some (1, .iconst 0)) ?_
        refine x_istore (L' := [(2, 152), (0, v1), (0, v2), (0, 0), (0, (-1)), (0, (-1)), (0, 0)]) (by decide +kernel : am_at co_X12_fits 38 = some (2, .istore 6)) rfl ?_
        exact am_weak (lk (lk (lk (lk (lk (lk (lk ln))))))) h
      · have c4 := (Classical.not_not.mp c4)
        have h := h.2 c4
        refine x_iconst (by decide +kernel : am_at co_X12_fits 27 = some (1, .iconst (-1))) ?_
        exact x_iret (by decide +kernel : am_at co_X12_fits 28 = some (1, .ireturn)) h
set_option maxRecDepth 20000 in
theorem bk_X12_fits_40 {d : Nat} {Q : am_Q} {M : am_M} {v1 v2 v3 v4 v5 v6 : Int} (h : ((999 < v6 → ((¬ v2 = 0 → ((¬ v2 = 1 → Q (some (0, v5), sh_T, M)) ∧ (v2 = 1 → Q (some (0, v4), sh_T, M)))) ∧ (v2 = 0 → Q (some (0, v3), sh_T, M)))) ∧ (v6 ≤ 999 → am_cal pg d 275 [(2, 152), (0, v1), (0, v6)] sh_T M (am_c0 sh_T fun x4 M4 => ((¬ x4 = 0 → am_r (v3 + 1) ∧ ((¬ v4 = (-1) → am_r (v6 + 1) ∧ am_g 12 0 co_X12_fits d Q 40 [(2, 152), (0, v1), (0, v2), (0, v3 + 1), (0, v4), (0, v6), (0, v6 + 1)] [] sh_T M4) ∧ (v4 = (-1) → am_r (v6 + 1) ∧ am_g 12 0 co_X12_fits d Q 40 [(2, 152), (0, v1), (0, v2), (0, v3 + 1), (0, v6), (0, v6), (0, v6 + 1)] [] sh_T M4))) ∧ (x4 = 0 → am_r (v6 + 1) ∧ am_g 12 0 co_X12_fits d Q 40 [(2, 152), (0, v1), (0, v2), (0, v3), (0, v4), (0, v5), (0, v6 + 1)] [] sh_T M4)))))) : am_g 12 0 co_X12_fits d Q 40 [(2, 152), (0, v1), (0, v2), (0, v3), (0, v4), (0, v5), (0, v6)] [] sh_T M := by
  refine x_iload (by decide +kernel : am_at co_X12_fits 40 = some (2, .iload 6)) rfl ?_
  refine x_sipush (by decide +kernel : am_at co_X12_fits 42 = some (3, .sipush 999)) ?_
  refine x_icmp (tgt := 84) (by decide +kernel : am_at co_X12_fits 45 = some (3, .if_icmp .gt 39)) rfl Iff.rfl (fun c0 => ?_) (fun c0 => ?_)
  · have h := h.1 c0
    refine x_iload_n (by decide +kernel : am_at co_X12_fits 84 = some (1, .iload_n 2)) rfl ?_
    refine x_if (tgt := 92) (by decide +kernel : am_at co_X12_fits 85 = some (3, .ifCond .ne 7)) rfl Iff.rfl (fun c1 => ?_) (fun c1 => ?_)
    · have h := h.1 c1
      refine x_iload_n (by decide +kernel : am_at co_X12_fits 92 = some (1, .iload_n 2)) rfl ?_
      refine x_iconst (by decide +kernel : am_at co_X12_fits 93 = some (1, .iconst 1)) ?_
      refine x_icmp (tgt := 102) (by decide +kernel : am_at co_X12_fits 94 = some (3, .if_icmp .ne 8)) rfl Iff.rfl (fun c2 => ?_) (fun c2 => ?_)
      · have h := h.1 c2
        refine x_iload (by decide +kernel : am_at co_X12_fits 102 = some (2, .iload 5)) rfl ?_
        exact x_iret (by decide +kernel : am_at co_X12_fits 104 = some (1, .ireturn)) h
      · have c2 := (Classical.not_not.mp c2)
        have h := h.2 c2
        refine x_iload (by decide +kernel : am_at co_X12_fits 97 = some (2, .iload 4)) rfl ?_
        refine x_goto (tgt := 104) (by decide +kernel : am_at co_X12_fits 99 = some (3, .goto 5)) rfl ?_
        exact x_iret (by decide +kernel : am_at co_X12_fits 104 = some (1, .ireturn)) h
    · have c1 := (Classical.not_not.mp c1)
      have h := h.2 c1
      refine x_iload_n (by decide +kernel : am_at co_X12_fits 88 = some (1, .iload_n 3)) rfl ?_
      refine x_goto (tgt := 104) (by decide +kernel : am_at co_X12_fits 89 = some (3, .goto 15)) rfl ?_
      exact x_iret (by decide +kernel : am_at co_X12_fits 104 = some (1, .ireturn)) h
  · have c0 := (Int.not_lt.mp c0)
    have h := h.2 c0
    refine x_aload_n (by decide +kernel : am_at co_X12_fits 48 = some (1, .aload_n 0)) rfl ?_
    refine x_iload_n (by decide +kernel : am_at co_X12_fits 49 = some (1, .iload_n 1)) rfl ?_
    refine x_iload (by decide +kernel : am_at co_X12_fits 50 = some (2, .iload 6)) rfl ?_
    refine x_callV (n := 3) (by decide +kernel : am_at co_X12_fits 52 = some (3, .invokevirtual 573)) pq_12_573 pm_X12_isFitting rfl rfl rfl ob_152 h (x_k0 fun x4 M4 h => ?_)
    refine x_if (tgt := 61) (by decide +kernel : am_at co_X12_fits 55 = some (3, .ifCond .ne 6)) rfl Iff.rfl (fun c4 => ?_) (fun c4 => ?_)
    · have h := h.1 c4
      obtain ⟨o5, h⟩ := h
      refine x_iinc (L' := [(2, 152), (0, v1), (0, v2), (0, v3 + 1), (0, v4), (0, v5), (0, v6)]) (by decide +kernel : am_at co_X12_fits 61 = some (3, .iinc 3 1)) rfl o5 rfl ?_
      refine x_iload (by decide +kernel : am_at co_X12_fits 64 = some (2, .iload 4)) rfl ?_
      refine x_iconst (by decide +kernel : am_at co_X12_fits 66 = some (1, .iconst (-1))) ?_
      refine x_icmp (tgt := 74) (by decide +kernel : am_at co_X12_fits 67 = some (3, .if_icmp .ne 7)) rfl Iff.rfl (fun c6 => ?_) (fun c6 => ?_)
      · have h := h.1 c6
        refine x_iload (by decide +kernel : am_at co_X12_fits 74 = some (2, .iload 6)) rfl ?_
        refine x_istore (L' := [(2, 152), (0, v1), (0, v2), (0, v3 + 1), (0, v4), (0, v6), (0, v6)]) (by decide +kernel : am_at co_X12_fits 76 = some (2, .istore 5)) rfl ?_
        obtain ⟨o7, h⟩ := h
        refine x_iinc (L' := [(2, 152), (0, v1), (0, v2), (0, v3 + 1), (0, v4), (0, v6), (0, v6 + 1)]) (by decide +kernel : am_at co_X12_fits 78 = some (3, .iinc 6 1)) rfl o7 rfl ?_
        refine x_goto (tgt := 40) (by decide +kernel : am_at co_X12_fits 81 = some (3, .goto (-41))) rfl ?_
        exact am_weak (lk (lk (lk (lk (lk (lk (lk ln))))))) h
      · have c6 := (Classical.not_not.mp c6)
        have h := h.2 c6
        refine x_iload (by decide +kernel : am_at co_X12_fits 70 = some (2, .iload 6)) rfl ?_
        refine x_istore (L' := [(2, 152), (0, v1), (0, v2), (0, v3 + 1), (0, v6), (0, v5), (0, v6)]) (by decide +kernel : am_at co_X12_fits 72 = some (2, .istore 4)) rfl ?_
        refine x_iload (by decide +kernel : am_at co_X12_fits 74 = some (2, .iload 6)) rfl ?_
        refine x_istore (L' := [(2, 152), (0, v1), (0, v2), (0, v3 + 1), (0, v6), (0, v6), (0, v6)]) (by decide +kernel : am_at co_X12_fits 76 = some (2, .istore 5)) rfl ?_
        obtain ⟨o8, h⟩ := h
        refine x_iinc (L' := [(2, 152), (0, v1), (0, v2), (0, v3 + 1), (0, v6), (0, v6), (0, v6 + 1)]) (by decide +kernel : am_at co_X12_fits 78 = some (3, .iinc 6 1)) rfl o8 rfl ?_
        refine x_goto (tgt := 40) (by decide +kernel : am_at co_X12_fits 81 = some (3, .goto (-41))) rfl ?_
        exact am_weak (lk (lk (lk (lk (lk (lk (lk ln))))))) h
    · have c4 := (Classical.not_not.mp c4)
      have h := h.2 c4
      refine x_goto (tgt := 78) (by decide +kernel : am_at co_X12_fits 58 = some (3, .goto 20)) rfl ?_
      obtain ⟨o9, h⟩ := h
      refine x_iinc (L' := [(2, 152), (0, v1), (0, v2), (0, v3), (0, v4), (0, v5), (0, v6 + 1)]) (by decide +kernel : am_at co_X12_fits 78 = some (3, .iinc 6 1)) rfl o9 rfl ?_
      refine x_goto (tgt := 40) (by decide +kernel : am_at co_X12_fits 81 = some (3, .goto (-41))) rfl ?_
      exact am_weak (lk (lk (lk (lk (lk (lk (lk ln))))))) h
set_option maxRecDepth 20000 in
theorem bk_X12_qCode_0 {d : Nat} {Q : am_Q} {M : am_M} {v1 : Int} (h : (0 ≤ M 152 83 ∧ M 152 83 < 1700) ∧ am_r ((M 152 83) + 1) ∧ Q (none, sh_T, (am_up (am_up M 211 (M 152 83) v1) 152 83 ((M 152 83) + 1)))) : am_g 12 9 co_X12_qCode d Q 0 [(2, 152), (0, v1)] [] sh_T M := by
  refine x_aload_n (by decide +kernel : am_at co_X12_qCode 0 = some (1, .aload_n 0)) rfl ?_
  refine x_getF (by decide +kernel : am_at co_X12_qCode 1 = some (3, .getfield 194)) pq_12_194 (by decide) rfl ob_152 ?_
  refine x_top2 (show 152 + 59 = 211 from rfl) ?_
  refine x_aload_n (by decide +kernel : am_at co_X12_qCode 4 = some (1, .aload_n 0)) rfl ?_
  refine x_getf (by decide +kernel : am_at co_X12_qCode 5 = some (3, .getfield 576)) pq_12_576 rfl ob_152 ?_
  refine x_iload_n (by decide +kernel : am_at co_X12_qCode 8 = some (1, .iload_n 1)) rfl ?_
  obtain ⟨o0, h⟩ := h
  refine x_iast (by decide +kernel : am_at co_X12_qCode 9 = some (1, .iastore)) (ow_211 o0.1 o0.2) ?_
  refine x_aload_n (by decide +kernel : am_at co_X12_qCode 10 = some (1, .aload_n 0)) rfl ?_
  refine x_dup2' (by decide +kernel : am_at co_X12_qCode 11 = some (1, .dup)) ?_
  refine x_getf (by decide +kernel : am_at co_X12_qCode 12 = some (3, .getfield 576)) pq_12_576 rfl ob_152 ?_
  refine x_top0 (show (am_up M 211 (M 152 83) v1) 152 83 = M 152 83 from by first | rfl | simp [am_up]) ?_
  refine x_iconst (by decide +kernel : am_at co_X12_qCode 15 = some (1, .iconst 1)) ?_
  obtain ⟨o1, h⟩ := h
  refine x_iadd (by decide +kernel : am_at co_X12_qCode 16 = some (1, .iadd)) o1 ?_
  refine x_putf0 (by decide +kernel : am_at co_X12_qCode 17 = some (3, .putfield 576)) pq_12_576 rfl ob_152 ?_
  exact x_vret (by decide +kernel : am_at co_X12_qCode 20 = some (1, .return_)) h
set_option maxRecDepth 20000 in
theorem bk_X12_qOpens_0 {d : Nat} {Q : am_Q} {M : am_M} {v1 v2 : Int} (h : ((M 152 5 = 0 → ((¬ M 152 86 = 6 → am_r ((M 152 86) + 1) ∧ (0 ≤ M 152 85 ∧ M 152 85 < 1700) ∧ am_r ((M 152 85) + 1) ∧ Q (none, sh_T, (am_up (am_up (am_up M 152 86 ((M 152 86) + 1)) 212 (M 152 85) v1) 152 85 ((M 152 85) + 1)))) ∧ (M 152 86 = 6 → am_cal pg d 172 [(2, 152), (0, 4), (0, v2)] sh_T M (am_cv sh_T fun M6 => Q (none, sh_T, M6))))) ∧ (¬ M 152 5 = 0 → Q (none, sh_T, M)))) : am_g 12 9 co_X12_qOpens d Q 0 [(2, 152), (0, v1), (0, v2)] [] sh_T M := by
  refine x_aload_n (by decide +kernel : am_at co_X12_qOpens 0 = some (1, .aload_n 0)) rfl ?_
  refine x_getf (by decide +kernel : am_at co_X12_qOpens 1 = some (3, .getfield 209)) pq_12_209 rfl ob_152 ?_
  refine x_if (tgt := 8) (by decide +kernel : am_at co_X12_qOpens 4 = some (3, .ifCond .eq 4)) rfl Iff.rfl (fun c0 => ?_) (fun c0 => ?_)
  · have h := h.1 c0
    refine x_aload_n (by decide +kernel : am_at co_X12_qOpens 8 = some (1, .aload_n 0)) rfl ?_
    refine x_getf (by decide +kernel : am_at co_X12_qOpens 9 = some (3, .getfield 579)) pq_12_579 rfl ob_152 ?_
    refine x_bipush (by decide +kernel : am_at co_X12_qOpens 12 = some (2, .bipush 6)) ?_
    refine x_icmp (tgt := 24) (by decide +kernel : am_at co_X12_qOpens 14 = some (3, .if_icmp .ne 10)) rfl Iff.rfl (fun c1 => ?_) (fun c1 => ?_)
    · have h := h.1 c1
      refine x_aload_n (by decide +kernel : am_at co_X12_qOpens 24 = some (1, .aload_n 0)) rfl ?_
      refine x_dup2' (by decide +kernel : am_at co_X12_qOpens 25 = some (1, .dup)) ?_
      refine x_getf (by decide +kernel : am_at co_X12_qOpens 26 = some (3, .getfield 579)) pq_12_579 rfl ob_152 ?_
      refine x_iconst (by decide +kernel : am_at co_X12_qOpens 29 = some (1, .iconst 1)) ?_
      obtain ⟨o2, h⟩ := h
      refine x_iadd (by decide +kernel : am_at co_X12_qOpens 30 = some (1, .iadd)) o2 ?_
      refine x_putf0 (by decide +kernel : am_at co_X12_qOpens 31 = some (3, .putfield 579)) pq_12_579 rfl ob_152 ?_
      refine x_aload_n (by decide +kernel : am_at co_X12_qOpens 34 = some (1, .aload_n 0)) rfl ?_
      refine x_getF (by decide +kernel : am_at co_X12_qOpens 35 = some (3, .getfield 197)) pq_12_197 (by decide) rfl ob_152 ?_
      refine x_top2 (show 152 + 60 = 212 from rfl) ?_
      refine x_aload_n (by decide +kernel : am_at co_X12_qOpens 38 = some (1, .aload_n 0)) rfl ?_
      refine x_getf (by decide +kernel : am_at co_X12_qOpens 39 = some (3, .getfield 582)) pq_12_582 rfl ob_152 ?_
      refine x_top0 (show (am_up M 152 86 ((M 152 86) + 1)) 152 85 = M 152 85 from by first | rfl | simp [am_up]) ?_
      refine x_iload_n (by decide +kernel : am_at co_X12_qOpens 42 = some (1, .iload_n 1)) rfl ?_
      obtain ⟨o3, h⟩ := h
      refine x_iast (by decide +kernel : am_at co_X12_qOpens 43 = some (1, .iastore)) (ow_212 o3.1 o3.2) ?_
      refine x_aload_n (by decide +kernel : am_at co_X12_qOpens 44 = some (1, .aload_n 0)) rfl ?_
      refine x_dup2' (by decide +kernel : am_at co_X12_qOpens 45 = some (1, .dup)) ?_
      refine x_getf (by decide +kernel : am_at co_X12_qOpens 46 = some (3, .getfield 582)) pq_12_582 rfl ob_152 ?_
      refine x_top0 (show (am_up (am_up M 152 86 ((M 152 86) + 1)) 212 (M 152 85) v1) 152 85 = M 152 85 from by first | rfl | simp [am_up]) ?_
      refine x_iconst (by decide +kernel : am_at co_X12_qOpens 49 = some (1, .iconst 1)) ?_
      obtain ⟨o4, h⟩ := h
      refine x_iadd (by decide +kernel : am_at co_X12_qOpens 50 = some (1, .iadd)) o4 ?_
      refine x_putf0 (by decide +kernel : am_at co_X12_qOpens 51 = some (3, .putfield 582)) pq_12_582 rfl ob_152 ?_
      exact x_vret (by decide +kernel : am_at co_X12_qOpens 54 = some (1, .return_)) h
    · have c1 := (Classical.not_not.mp c1)
      have h := h.2 c1
      refine x_aload_n (by decide +kernel : am_at co_X12_qOpens 17 = some (1, .aload_n 0)) rfl ?_
      refine x_iconst (by decide +kernel : am_at co_X12_qOpens 18 = some (1, .iconst 4)) ?_
      refine x_iload_n (by decide +kernel : am_at co_X12_qOpens 19 = some (1, .iload_n 2)) rfl ?_
      refine x_callV (n := 3) (by decide +kernel : am_at co_X12_qOpens 20 = some (3, .invokevirtual 239)) pq_12_239 pm_X12_fail rfl rfl rfl ob_152 h (x_kv fun M6 h => ?_)
      exact x_vret (by decide +kernel : am_at co_X12_qOpens 23 = some (1, .return_)) h
  · have c0 := c0
    have h := h.2 c0
    exact x_vret (by decide +kernel : am_at co_X12_qOpens 7 = some (1, .return_)) h
set_option maxRecDepth 20000 in
theorem bk_X12_qIsOn_0 {d : Nat} {Q : am_Q} {M : am_M} {v1 : Int} (h : ((M 152 85 ≤ 0 → Q (some (0, 0), sh_T, M)) ∧ (0 < M 152 85 → am_r ((M 152 85) - 1) ∧ (0 ≤ (M 152 85) - 1 ∧ (M 152 85) - 1 < 1700) ∧ ((¬ M 212 ((M 152 85) - 1) = v1 → Q (some (0, 0), sh_T, M)) ∧ (M 212 ((M 152 85) - 1) = v1 → Q (some (0, 1), sh_T, M)))))) : am_g 12 5 co_X12_qIsOn d Q 0 [(2, 152), (0, v1)] [] sh_T M := by
  refine x_aload_n (by decide +kernel : am_at co_X12_qIsOn 0 = some (1, .aload_n 0)) rfl ?_
  refine x_getf (by decide +kernel : am_at co_X12_qIsOn 1 = some (3, .getfield 582)) pq_12_582 rfl ob_152 ?_
  refine x_if (tgt := 26) (by decide +kernel : am_at co_X12_qIsOn 4 = some (3, .ifCond .le 22)) rfl Iff.rfl (fun c0 => ?_) (fun c0 => ?_)
  · have h := h.1 c0
    refine x_iconst (by decide +kernel : am_at co_X12_qIsOn 26 = some (1, .iconst 0)) ?_
    exact x_zret (by decide +kernel : am_at co_X12_qIsOn 27 = some (1, .ireturn)) (by decide) h
  · have c0 := (Int.not_le.mp c0)
    have h := h.2 c0
    refine x_aload_n (by decide +kernel : am_at co_X12_qIsOn 7 = some (1, .aload_n 0)) rfl ?_
    refine x_getF (by decide +kernel : am_at co_X12_qIsOn 8 = some (3, .getfield 197)) pq_12_197 (by decide) rfl ob_152 ?_
    refine x_top2 (show 152 + 60 = 212 from rfl) ?_
    refine x_aload_n (by decide +kernel : am_at co_X12_qIsOn 11 = some (1, .aload_n 0)) rfl ?_
    refine x_getf (by decide +kernel : am_at co_X12_qIsOn 12 = some (3, .getfield 582)) pq_12_582 rfl ob_152 ?_
    refine x_iconst (by decide +kernel : am_at co_X12_qIsOn 15 = some (1, .iconst 1)) ?_
    obtain ⟨o1, h⟩ := h
    refine x_isub (by decide +kernel : am_at co_X12_qIsOn 16 = some (1, .isub)) o1 ?_
    obtain ⟨o2, h⟩ := h
    refine x_iald (by decide +kernel : am_at co_X12_qIsOn 17 = some (1, .iaload)) (ia_212 o2.1 o2.2) ?_
    refine x_iload_n (by decide +kernel : am_at co_X12_qIsOn 18 = some (1, .iload_n 1)) rfl ?_
    refine x_icmp (tgt := 26) (by decide +kernel : am_at co_X12_qIsOn 19 = some (3, .if_icmp .ne 7)) rfl Iff.rfl (fun c3 => ?_) (fun c3 => ?_)
    · have h := h.1 c3
      refine x_iconst (by decide +kernel : am_at co_X12_qIsOn 26 = some (1, .iconst 0)) ?_
      exact x_zret (by decide +kernel : am_at co_X12_qIsOn 27 = some (1, .ireturn)) (by decide) h
    · have c3 := (Classical.not_not.mp c3)
      have h := h.2 c3
      refine x_iconst (by decide +kernel : am_at co_X12_qIsOn 22 = some (1, .iconst 1)) ?_
      refine x_goto (tgt := 27) (by decide +kernel : am_at co_X12_qIsOn 23 = some (3, .goto 4)) rfl ?_
      exact x_zret (by decide +kernel : am_at co_X12_qIsOn 27 = some (1, .ireturn)) (by decide) h
set_option maxRecDepth 20000 in
theorem bk_X12_qDrops_0 {d : Nat} {Q : am_Q} {M : am_M} (h : am_r ((M 152 85) - 1) ∧ (0 ≤ (M 152 85) - 1 ∧ (M 152 85) - 1 < 1700) ∧ am_cal pg d 277 [(2, 152), (0, M 212 ((M 152 85) - 1))] sh_T (am_up M 152 85 ((M 152 85) - 1)) (am_cv sh_T fun M3 => Q (none, sh_T, M3))) : am_g 12 9 co_X12_qDrops d Q 0 [(2, 152)] [] sh_T M := by
  refine x_aload_n (by decide +kernel : am_at co_X12_qDrops 0 = some (1, .aload_n 0)) rfl ?_
  refine x_dup2' (by decide +kernel : am_at co_X12_qDrops 1 = some (1, .dup)) ?_
  refine x_getf (by decide +kernel : am_at co_X12_qDrops 2 = some (3, .getfield 582)) pq_12_582 rfl ob_152 ?_
  refine x_iconst (by decide +kernel : am_at co_X12_qDrops 5 = some (1, .iconst 1)) ?_
  obtain ⟨o0, h⟩ := h
  refine x_isub (by decide +kernel : am_at co_X12_qDrops 6 = some (1, .isub)) o0 ?_
  refine x_putf0 (by decide +kernel : am_at co_X12_qDrops 7 = some (3, .putfield 582)) pq_12_582 rfl ob_152 ?_
  refine x_aload_n (by decide +kernel : am_at co_X12_qDrops 10 = some (1, .aload_n 0)) rfl ?_
  refine x_aload_n (by decide +kernel : am_at co_X12_qDrops 11 = some (1, .aload_n 0)) rfl ?_
  refine x_getF (by decide +kernel : am_at co_X12_qDrops 12 = some (3, .getfield 197)) pq_12_197 (by decide) rfl ob_152 ?_
  refine x_top2 (show 152 + 60 = 212 from rfl) ?_
  refine x_aload_n (by decide +kernel : am_at co_X12_qDrops 15 = some (1, .aload_n 0)) rfl ?_
  refine x_getf (by decide +kernel : am_at co_X12_qDrops 16 = some (3, .getfield 582)) pq_12_582 rfl ob_152 ?_
  refine x_top0 (show (am_up M 152 85 ((M 152 85) - 1)) 152 85 = (M 152 85) - 1 from by first | rfl | simp [am_up]) ?_
  obtain ⟨o1, h⟩ := h
  refine x_iald (by decide +kernel : am_at co_X12_qDrops 19 = some (1, .iaload)) (ia_212 o1.1 o1.2) ?_
  refine x_top0 (show (am_up M 152 85 ((M 152 85) - 1)) 212 ((M 152 85) - 1) = M 212 ((M 152 85) - 1) from by first | rfl | simp [am_up]) ?_
  refine x_callV (n := 2) (by decide +kernel : am_at co_X12_qDrops 20 = some (3, .invokevirtual 585)) pq_12_585 pm_X12_qCode rfl rfl rfl ob_152 h (x_kv fun M3 h => ?_)
  exact x_vret (by decide +kernel : am_at co_X12_qDrops 23 = some (1, .return_)) h
set_option maxRecDepth 20000 in
theorem bk_X12_qIsBracket_0 {d : Nat} {Q : am_Q} {M : am_M} {v0 : Int} (h : ((v0 < 20 → Q (some (0, 0), sh_T, M)) ∧ (20 ≤ v0 → ((24 < v0 → Q (some (0, 0), sh_T, M)) ∧ (v0 ≤ 24 → Q (some (0, 1), sh_T, M)))))) : am_g 12 5 co_X12_qIsBracket d Q 0 [(0, v0)] [] sh_T M := by
  refine x_iload_n (by decide +kernel : am_at co_X12_qIsBracket 0 = some (1, .iload_n 0)) rfl ?_
  refine x_bipush (by decide +kernel : am_at co_X12_qIsBracket 1 = some (2, .bipush 20)) ?_
  refine x_icmp (tgt := 16) (by decide +kernel : am_at co_X12_qIsBracket 3 = some (3, .if_icmp .lt 13)) rfl Iff.rfl (fun c0 => ?_) (fun c0 => ?_)
  · have h := h.1 c0
    refine x_iconst (by decide +kernel : am_at co_X12_qIsBracket 16 = some (1, .iconst 0)) ?_
    exact x_zret (by decide +kernel : am_at co_X12_qIsBracket 17 = some (1, .ireturn)) (by decide) h
  · have c0 := (Int.not_lt.mp c0)
    have h := h.2 c0
    refine x_iload_n (by decide +kernel : am_at co_X12_qIsBracket 6 = some (1, .iload_n 0)) rfl ?_
    refine x_bipush (by decide +kernel : am_at co_X12_qIsBracket 7 = some (2, .bipush 24)) ?_
    refine x_icmp (tgt := 16) (by decide +kernel : am_at co_X12_qIsBracket 9 = some (3, .if_icmp .gt 7)) rfl Iff.rfl (fun c1 => ?_) (fun c1 => ?_)
    · have h := h.1 c1
      refine x_iconst (by decide +kernel : am_at co_X12_qIsBracket 16 = some (1, .iconst 0)) ?_
      exact x_zret (by decide +kernel : am_at co_X12_qIsBracket 17 = some (1, .ireturn)) (by decide) h
    · have c1 := (Int.not_lt.mp c1)
      have h := h.2 c1
      refine x_iconst (by decide +kernel : am_at co_X12_qIsBracket 12 = some (1, .iconst 1)) ?_
      refine x_goto (tgt := 17) (by decide +kernel : am_at co_X12_qIsBracket 13 = some (3, .goto 4)) rfl ?_
      exact x_zret (by decide +kernel : am_at co_X12_qIsBracket 17 = some (1, .ireturn)) (by decide) h
set_option maxRecDepth 20000 in
theorem bk_X12_qBracket_0 {d : Nat} {Q : am_Q} {M : am_M} (h : am_r ((M 152 85) - 1) ∧ am_g 12 0 co_X12_qBracket d Q 7 [(2, 152), (0, (M 152 85) - 1)] [] sh_T M) : am_g 12 0 co_X12_qBracket d Q 0 [(2, 152), (3, 0)] [] sh_T M := by
  refine x_aload_n (by decide +kernel : am_at co_X12_qBracket 0 = some (1, .aload_n 0)) rfl ?_
  refine x_getf (by decide +kernel : am_at co_X12_qBracket 1 = some (3, .getfield 582)) pq_12_582 rfl ob_152 ?_
  refine x_iconst (by decide +kernel : am_at co_X12_qBracket 4 = some (1, .iconst 1)) ?_
  obtain ⟨o0, h⟩ := h
  refine x_isub (by decide +kernel : am_at co_X12_qBracket 5 = some (1, .isub)) o0 ?_
  refine x_istore_n (L' := [(2, 152), (0, (M 152 85) - 1)]) (by decide +kernel : am_at co_X12_qBracket 6 = some (1, .istore_n 1)) rfl ?_
  exact am_weak (lk (lk ln)) h
set_option maxRecDepth 20000 in
theorem bk_X12_qBracket_7 {d : Nat} {Q : am_Q} {M : am_M} {v1 : Int} (h : ((v1 < M 152 87 → Q (some (0, (-1)), sh_T, M)) ∧ (M 152 87 ≤ v1 → (0 ≤ v1 ∧ v1 < 1700) ∧ am_cal pg d 281 [(0, M 212 v1)] sh_T M (am_c0 sh_T fun x4 M4 => ((¬ x4 = 0 → ((v1 < M4 152 87 → Q (some (0, (-1)), sh_T, M4)) ∧ (M4 152 87 ≤ v1 → Q (some (0, M4 212 v1), sh_T, M4)))) ∧ (x4 = 0 → am_r (v1 + (-1)) ∧ am_g 12 0 co_X12_qBracket d Q 7 [(2, 152), (0, v1 + (-1))] [] sh_T M4)))))) : am_g 12 0 co_X12_qBracket d Q 7 [(2, 152), (0, v1)] [] sh_T M := by
  refine x_iload_n (by decide +kernel : am_at co_X12_qBracket 7 = some (1, .iload_n 1)) rfl ?_
  refine x_aload_n (by decide +kernel : am_at co_X12_qBracket 8 = some (1, .aload_n 0)) rfl ?_
  refine x_getf (by decide +kernel : am_at co_X12_qBracket 9 = some (3, .getfield 588)) pq_12_588 rfl ob_152 ?_
  refine x_icmp (tgt := 33) (by decide +kernel : am_at co_X12_qBracket 12 = some (3, .if_icmp .lt 21)) rfl Iff.rfl (fun c0 => ?_) (fun c0 => ?_)
  · have h := h.1 c0
    refine x_iload_n (by decide +kernel : am_at co_X12_qBracket 33 = some (1, .iload_n 1)) rfl ?_
    refine x_aload_n (by decide +kernel : am_at co_X12_qBracket 34 = some (1, .aload_n 0)) rfl ?_
    refine x_getf (by decide +kernel : am_at co_X12_qBracket 35 = some (3, .getfield 588)) pq_12_588 rfl ob_152 ?_
    refine x_icmp (tgt := 50) (by decide +kernel : am_at co_X12_qBracket 38 = some (3, .if_icmp .lt 12)) rfl Iff.rfl (fun _ => ?_) (fun c1 => absurd c0 c1)
    refine x_iconst (by decide +kernel : am_at co_X12_qBracket 50 = some (1, .iconst (-1))) ?_
    exact x_iret (by decide +kernel : am_at co_X12_qBracket 51 = some (1, .ireturn)) h
  · have c0 := (Int.not_lt.mp c0)
    have h := h.2 c0
    refine x_aload_n (by decide +kernel : am_at co_X12_qBracket 15 = some (1, .aload_n 0)) rfl ?_
    refine x_getF (by decide +kernel : am_at co_X12_qBracket 16 = some (3, .getfield 197)) pq_12_197 (by decide) rfl ob_152 ?_
    refine x_top2 (show 152 + 60 = 212 from rfl) ?_
    refine x_iload_n (by decide +kernel : am_at co_X12_qBracket 19 = some (1, .iload_n 1)) rfl ?_
    obtain ⟨o2, h⟩ := h
    refine x_iald (by decide +kernel : am_at co_X12_qBracket 20 = some (1, .iaload)) (ia_212 o2.1 o2.2) ?_
    refine x_callS (n := 1) (by decide +kernel : am_at co_X12_qBracket 21 = some (3, .invokestatic 591)) pq_12_591 rfl rfl rfl h (x_k0 fun x4 M4 h => ?_)
    refine x_if (tgt := 33) (by decide +kernel : am_at co_X12_qBracket 24 = some (3, .ifCond .ne 9)) rfl Iff.rfl (fun c4 => ?_) (fun c4 => ?_)
    · have h := h.1 c4
      refine x_iload_n (by decide +kernel : am_at co_X12_qBracket 33 = some (1, .iload_n 1)) rfl ?_
      refine x_aload_n (by decide +kernel : am_at co_X12_qBracket 34 = some (1, .aload_n 0)) rfl ?_
      refine x_getf (by decide +kernel : am_at co_X12_qBracket 35 = some (3, .getfield 588)) pq_12_588 rfl ob_152 ?_
      refine x_icmp (tgt := 50) (by decide +kernel : am_at co_X12_qBracket 38 = some (3, .if_icmp .lt 12)) rfl Iff.rfl (fun c5 => ?_) (fun c5 => ?_)
      · have h := h.1 c5
        refine x_iconst (by decide +kernel : am_at co_X12_qBracket 50 = some (1, .iconst (-1))) ?_
        exact x_iret (by decide +kernel : am_at co_X12_qBracket 51 = some (1, .ireturn)) h
      · have c5 := (Int.not_lt.mp c5)
        have h := h.2 c5
        refine x_aload_n (by decide +kernel : am_at co_X12_qBracket 41 = some (1, .aload_n 0)) rfl ?_
        refine x_getF (by decide +kernel : am_at co_X12_qBracket 42 = some (3, .getfield 197)) pq_12_197 (by decide) rfl ob_152 ?_
        refine x_top2 (show 152 + 60 = 212 from rfl) ?_
        refine x_iload_n (by decide +kernel : am_at co_X12_qBracket 45 = some (1, .iload_n 1)) rfl ?_
        refine x_iald (by decide +kernel : am_at co_X12_qBracket 46 = some (1, .iaload)) (ia_212 o2.1 o2.2) ?_
        refine x_goto (tgt := 51) (by decide +kernel : am_at co_X12_qBracket 47 = some (3, .goto 4)) rfl ?_
        exact x_iret (by decide +kernel : am_at co_X12_qBracket 51 = some (1, .ireturn)) h
    · have c4 := (Classical.not_not.mp c4)
      have h := h.2 c4
      obtain ⟨o6, h⟩ := h
      refine x_iinc (L' := [(2, 152), (0, v1 + (-1))]) (by decide +kernel : am_at co_X12_qBracket 27 = some (3, .iinc 1 (-1))) rfl o6 rfl ?_
      refine x_goto (tgt := 7) (by decide +kernel : am_at co_X12_qBracket 30 = some (3, .goto (-23))) rfl ?_
      exact am_weak (lk (lk ln)) h
set_option maxRecDepth 20000 in
theorem bk_X12_qDropsToBracket_0 {d : Nat} {Q : am_Q} {M : am_M} (h : ((M 152 85 ≤ M 152 87 → Q (none, sh_T, M)) ∧ (M 152 87 < M 152 85 → am_r ((M 152 85) - 1) ∧ (0 ≤ (M 152 85) - 1 ∧ (M 152 85) - 1 < 1700) ∧ am_cal pg d 281 [(0, M 212 ((M 152 85) - 1))] sh_T M (am_c0 sh_T fun x4 M4 => ((¬ x4 = 0 → Q (none, sh_T, M4)) ∧ (x4 = 0 → am_cal pg d 280 [(2, 152)] sh_T M4 (am_cv sh_T fun M6 => am_g 12 9 co_X12_qDropsToBracket d Q 0 [(2, 152)] [] sh_T M6))))))) : am_g 12 9 co_X12_qDropsToBracket d Q 0 [(2, 152)] [] sh_T M := by
  refine x_aload_n (by decide +kernel : am_at co_X12_qDropsToBracket 0 = some (1, .aload_n 0)) rfl ?_
  refine x_getf (by decide +kernel : am_at co_X12_qDropsToBracket 1 = some (3, .getfield 582)) pq_12_582 rfl ob_152 ?_
  refine x_aload_n (by decide +kernel : am_at co_X12_qDropsToBracket 4 = some (1, .aload_n 0)) rfl ?_
  refine x_getf (by decide +kernel : am_at co_X12_qDropsToBracket 5 = some (3, .getfield 588)) pq_12_588 rfl ob_152 ?_
  refine x_icmp (tgt := 35) (by decide +kernel : am_at co_X12_qDropsToBracket 8 = some (3, .if_icmp .le 27)) rfl Iff.rfl (fun c0 => ?_) (fun c0 => ?_)
  · have h := h.1 c0
    exact x_vret (by decide +kernel : am_at co_X12_qDropsToBracket 35 = some (1, .return_)) h
  · have c0 := (Int.not_le.mp c0)
    have h := h.2 c0
    refine x_aload_n (by decide +kernel : am_at co_X12_qDropsToBracket 11 = some (1, .aload_n 0)) rfl ?_
    refine x_getF (by decide +kernel : am_at co_X12_qDropsToBracket 12 = some (3, .getfield 197)) pq_12_197 (by decide) rfl ob_152 ?_
    refine x_top2 (show 152 + 60 = 212 from rfl) ?_
    refine x_aload_n (by decide +kernel : am_at co_X12_qDropsToBracket 15 = some (1, .aload_n 0)) rfl ?_
    refine x_getf (by decide +kernel : am_at co_X12_qDropsToBracket 16 = some (3, .getfield 582)) pq_12_582 rfl ob_152 ?_
    refine x_iconst (by decide +kernel : am_at co_X12_qDropsToBracket 19 = some (1, .iconst 1)) ?_
    obtain ⟨o1, h⟩ := h
    refine x_isub (by decide +kernel : am_at co_X12_qDropsToBracket 20 = some (1, .isub)) o1 ?_
    obtain ⟨o2, h⟩ := h
    refine x_iald (by decide +kernel : am_at co_X12_qDropsToBracket 21 = some (1, .iaload)) (ia_212 o2.1 o2.2) ?_
    refine x_callS (n := 1) (by decide +kernel : am_at co_X12_qDropsToBracket 22 = some (3, .invokestatic 591)) pq_12_591 rfl rfl rfl h (x_k0 fun x4 M4 h => ?_)
    refine x_if (tgt := 35) (by decide +kernel : am_at co_X12_qDropsToBracket 25 = some (3, .ifCond .ne 10)) rfl Iff.rfl (fun c4 => ?_) (fun c4 => ?_)
    · have h := h.1 c4
      exact x_vret (by decide +kernel : am_at co_X12_qDropsToBracket 35 = some (1, .return_)) h
    · have c4 := (Classical.not_not.mp c4)
      have h := h.2 c4
      refine x_aload_n (by decide +kernel : am_at co_X12_qDropsToBracket 28 = some (1, .aload_n 0)) rfl ?_
      refine x_callV (n := 1) (by decide +kernel : am_at co_X12_qDropsToBracket 29 = some (3, .invokevirtual 594)) pq_12_594 pm_X12_qDrops rfl rfl rfl ob_152 h (x_kv fun M6 h => ?_)
      refine x_goto (tgt := 0) (by decide +kernel : am_at co_X12_qDropsToBracket 32 = some (3, .goto (-32))) rfl ?_
      exact am_weak (lk ln) h
set_option maxRecDepth 20000 in
theorem bk_X12_qWordHere_0 {d : Nat} {Q : am_Q} {M : am_M} (h : am_cal pg d 176 [(2, 152), (2, 205)] sh_T M (am_c0 sh_T fun x1 M1 => ((x1 = 0 → am_cal pg d 176 [(2, 152), (2, 206)] sh_T M1 (am_c0 sh_T fun x3 M3 => ((x3 = 0 → am_cal pg d 176 [(2, 152), (2, 207)] sh_T M3 (am_c0 sh_T fun x5 M5 => ((x5 = 0 → am_cal pg d 176 [(2, 152), (2, 208)] sh_T M5 (am_c0 sh_T fun x7 M7 => ((x7 = 0 → am_cal pg d 176 [(2, 152), (2, 209)] sh_T M7 (am_c0 sh_T fun x9 M9 => ((x9 = 0 → am_cal pg d 176 [(2, 152), (2, 210)] sh_T M9 (am_c0 sh_T fun x11 M11 => ((x11 = 0 → Q (some (0, (-1)), sh_T, M11)) ∧ (¬ x11 = 0 → Q (some (0, 5), sh_T, M11))))) ∧ (¬ x9 = 0 → Q (some (0, 4), sh_T, M9))))) ∧ (¬ x7 = 0 → Q (some (0, 3), sh_T, M7))))) ∧ (¬ x5 = 0 → Q (some (0, 2), sh_T, M5))))) ∧ (¬ x3 = 0 → Q (some (0, 1), sh_T, M3))))) ∧ (¬ x1 = 0 → Q (some (0, 0), sh_T, M1))))) : am_g 12 0 co_X12_qWordHere d Q 0 [(2, 152)] [] sh_T M := by
  refine x_aload_n (by decide +kernel : am_at co_X12_qWordHere 0 = some (1, .aload_n 0)) rfl ?_
  refine x_aload_n (by decide +kernel : am_at co_X12_qWordHere 1 = some (1, .aload_n 0)) rfl ?_
  refine x_getF (by decide +kernel : am_at co_X12_qWordHere 2 = some (3, .getfield 176)) pq_12_176 (by decide) rfl ob_152 ?_
  refine x_top2 (show 152 + 53 = 205 from rfl) ?_
  refine x_callV (n := 2) (by decide +kernel : am_at co_X12_qWordHere 5 = some (3, .invokevirtual 232)) pq_12_232 pm_X12_isHere rfl rfl rfl ob_152 h (x_k0 fun x1 M1 h => ?_)
  refine x_if (tgt := 13) (by decide +kernel : am_at co_X12_qWordHere 8 = some (3, .ifCond .eq 5)) rfl Iff.rfl (fun c1 => ?_) (fun c1 => ?_)
  · have h := h.1 c1
    refine x_aload_n (by decide +kernel : am_at co_X12_qWordHere 13 = some (1, .aload_n 0)) rfl ?_
    refine x_aload_n (by decide +kernel : am_at co_X12_qWordHere 14 = some (1, .aload_n 0)) rfl ?_
    refine x_getF (by decide +kernel : am_at co_X12_qWordHere 15 = some (3, .getfield 179)) pq_12_179 (by decide) rfl ob_152 ?_
    refine x_top2 (show 152 + 54 = 206 from rfl) ?_
    refine x_callV (n := 2) (by decide +kernel : am_at co_X12_qWordHere 18 = some (3, .invokevirtual 232)) pq_12_232 pm_X12_isHere rfl rfl rfl ob_152 h (x_k0 fun x3 M3 h => ?_)
    refine x_if (tgt := 26) (by decide +kernel : am_at co_X12_qWordHere 21 = some (3, .ifCond .eq 5)) rfl Iff.rfl (fun c3 => ?_) (fun c3 => ?_)
    · have h := h.1 c3
      refine x_aload_n (by decide +kernel : am_at co_X12_qWordHere 26 = some (1, .aload_n 0)) rfl ?_
      refine x_aload_n (by decide +kernel : am_at co_X12_qWordHere 27 = some (1, .aload_n 0)) rfl ?_
      refine x_getF (by decide +kernel : am_at co_X12_qWordHere 28 = some (3, .getfield 182)) pq_12_182 (by decide) rfl ob_152 ?_
      refine x_top2 (show 152 + 55 = 207 from rfl) ?_
      refine x_callV (n := 2) (by decide +kernel : am_at co_X12_qWordHere 31 = some (3, .invokevirtual 232)) pq_12_232 pm_X12_isHere rfl rfl rfl ob_152 h (x_k0 fun x5 M5 h => ?_)
      refine x_if (tgt := 39) (by decide +kernel : am_at co_X12_qWordHere 34 = some (3, .ifCond .eq 5)) rfl Iff.rfl (fun c5 => ?_) (fun c5 => ?_)
      · have h := h.1 c5
        refine x_aload_n (by decide +kernel : am_at co_X12_qWordHere 39 = some (1, .aload_n 0)) rfl ?_
        refine x_aload_n (by decide +kernel : am_at co_X12_qWordHere 40 = some (1, .aload_n 0)) rfl ?_
        refine x_getF (by decide +kernel : am_at co_X12_qWordHere 41 = some (3, .getfield 185)) pq_12_185 (by decide) rfl ob_152 ?_
        refine x_top2 (show 152 + 56 = 208 from rfl) ?_
        refine x_callV (n := 2) (by decide +kernel : am_at co_X12_qWordHere 44 = some (3, .invokevirtual 232)) pq_12_232 pm_X12_isHere rfl rfl rfl ob_152 h (x_k0 fun x7 M7 h => ?_)
        refine x_if (tgt := 52) (by decide +kernel : am_at co_X12_qWordHere 47 = some (3, .ifCond .eq 5)) rfl Iff.rfl (fun c7 => ?_) (fun c7 => ?_)
        · have h := h.1 c7
          refine x_aload_n (by decide +kernel : am_at co_X12_qWordHere 52 = some (1, .aload_n 0)) rfl ?_
          refine x_aload_n (by decide +kernel : am_at co_X12_qWordHere 53 = some (1, .aload_n 0)) rfl ?_
          refine x_getF (by decide +kernel : am_at co_X12_qWordHere 54 = some (3, .getfield 188)) pq_12_188 (by decide) rfl ob_152 ?_
          refine x_top2 (show 152 + 57 = 209 from rfl) ?_
          refine x_callV (n := 2) (by decide +kernel : am_at co_X12_qWordHere 57 = some (3, .invokevirtual 232)) pq_12_232 pm_X12_isHere rfl rfl rfl ob_152 h (x_k0 fun x9 M9 h => ?_)
          refine x_if (tgt := 65) (by decide +kernel : am_at co_X12_qWordHere 60 = some (3, .ifCond .eq 5)) rfl Iff.rfl (fun c9 => ?_) (fun c9 => ?_)
          · have h := h.1 c9
            refine x_aload_n (by decide +kernel : am_at co_X12_qWordHere 65 = some (1, .aload_n 0)) rfl ?_
            refine x_aload_n (by decide +kernel : am_at co_X12_qWordHere 66 = some (1, .aload_n 0)) rfl ?_
            refine x_getF (by decide +kernel : am_at co_X12_qWordHere 67 = some (3, .getfield 191)) pq_12_191 (by decide) rfl ob_152 ?_
            refine x_top2 (show 152 + 58 = 210 from rfl) ?_
            refine x_callV (n := 2) (by decide +kernel : am_at co_X12_qWordHere 70 = some (3, .invokevirtual 232)) pq_12_232 pm_X12_isHere rfl rfl rfl ob_152 h (x_k0 fun x11 M11 h => ?_)
            refine x_if (tgt := 78) (by decide +kernel : am_at co_X12_qWordHere 73 = some (3, .ifCond .eq 5)) rfl Iff.rfl (fun c11 => ?_) (fun c11 => ?_)
            · have h := h.1 c11
              refine x_iconst (by decide +kernel : am_at co_X12_qWordHere 78 = some (1, .iconst (-1))) ?_
              exact x_iret (by decide +kernel : am_at co_X12_qWordHere 79 = some (1, .ireturn)) h
            · have c11 := c11
              have h := h.2 c11
              refine x_iconst (by decide +kernel : am_at co_X12_qWordHere 76 = some (1, .iconst 5)) ?_
              exact x_iret (by decide +kernel : am_at co_X12_qWordHere 77 = some (1, .ireturn)) h
          · have c9 := c9
            have h := h.2 c9
            refine x_iconst (by decide +kernel : am_at co_X12_qWordHere 63 = some (1, .iconst 4)) ?_
            exact x_iret (by decide +kernel : am_at co_X12_qWordHere 64 = some (1, .ireturn)) h
        · have c7 := c7
          have h := h.2 c7
          refine x_iconst (by decide +kernel : am_at co_X12_qWordHere 50 = some (1, .iconst 3)) ?_
          exact x_iret (by decide +kernel : am_at co_X12_qWordHere 51 = some (1, .ireturn)) h
      · have c5 := c5
        have h := h.2 c5
        refine x_iconst (by decide +kernel : am_at co_X12_qWordHere 37 = some (1, .iconst 2)) ?_
        exact x_iret (by decide +kernel : am_at co_X12_qWordHere 38 = some (1, .ireturn)) h
    · have c3 := c3
      have h := h.2 c3
      refine x_iconst (by decide +kernel : am_at co_X12_qWordHere 24 = some (1, .iconst 1)) ?_
      exact x_iret (by decide +kernel : am_at co_X12_qWordHere 25 = some (1, .ireturn)) h
  · have c1 := c1
    have h := h.2 c1
    refine x_iconst (by decide +kernel : am_at co_X12_qWordHere 11 = some (1, .iconst 0)) ?_
    exact x_iret (by decide +kernel : am_at co_X12_qWordHere 12 = some (1, .ireturn)) h
set_option maxRecDepth 20000 in
theorem bk_X12_qWordOf_0 {d : Nat} {Q : am_Q} {M : am_M} {v1 v2 : Int} (h : am_cal pg d 284 [(2, 152)] sh_T M (am_c0 sh_T fun x1 M1 => ((x1 < v1 → Q (some (0, (-1)), sh_T, M1)) ∧ (v1 ≤ x1 → ((v2 ≤ x1 → Q (some (0, (-1)), sh_T, M1)) ∧ (x1 < v2 → Q (some (0, x1), sh_T, M1))))))) : am_g 12 0 co_X12_qWordOf d Q 0 [(2, 152), (0, v1), (0, v2), (3, 0)] [] sh_T M := by
  refine x_aload_n (by decide +kernel : am_at co_X12_qWordOf 0 = some (1, .aload_n 0)) rfl ?_
  refine x_callV (n := 1) (by decide +kernel : am_at co_X12_qWordOf 1 = some (3, .invokevirtual 597)) pq_12_597 pm_X12_qWordHere rfl rfl rfl ob_152 h (x_k0 fun x1 M1 h => ?_)
  refine x_istore_n (L' := [(2, 152), (0, v1), (0, v2), (0, x1)]) (by decide +kernel : am_at co_X12_qWordOf 4 = some (1, .istore_n 3)) rfl ?_
  refine x_iload_n (by decide +kernel : am_at co_X12_qWordOf 5 = some (1, .iload_n 3)) rfl ?_
  refine x_iload_n (by decide +kernel : am_at co_X12_qWordOf 6 = some (1, .iload_n 1)) rfl ?_
  refine x_icmp (tgt := 19) (by decide +kernel : am_at co_X12_qWordOf 7 = some (3, .if_icmp .lt 12)) rfl Iff.rfl (fun c1 => ?_) (fun c1 => ?_)
  · have h := h.1 c1
    refine x_iconst (by decide +kernel : am_at co_X12_qWordOf 19 = some (1, .iconst (-1))) ?_
    exact x_iret (by decide +kernel : am_at co_X12_qWordOf 20 = some (1, .ireturn)) h
  · have c1 := (Int.not_lt.mp c1)
    have h := h.2 c1
    refine x_iload_n (by decide +kernel : am_at co_X12_qWordOf 10 = some (1, .iload_n 3)) rfl ?_
    refine x_iload_n (by decide +kernel : am_at co_X12_qWordOf 11 = some (1, .iload_n 2)) rfl ?_
    refine x_icmp (tgt := 19) (by decide +kernel : am_at co_X12_qWordOf 12 = some (3, .if_icmp .ge 7)) rfl Iff.rfl (fun c2 => ?_) (fun c2 => ?_)
    · have h := h.1 c2
      refine x_iconst (by decide +kernel : am_at co_X12_qWordOf 19 = some (1, .iconst (-1))) ?_
      exact x_iret (by decide +kernel : am_at co_X12_qWordOf 20 = some (1, .ireturn)) h
    · have c2 := (Int.not_le.mp c2)
      have h := h.2 c2
      refine x_iload_n (by decide +kernel : am_at co_X12_qWordOf 15 = some (1, .iload_n 3)) rfl ?_
      refine x_goto (tgt := 20) (by decide +kernel : am_at co_X12_qWordOf 16 = some (3, .goto 4)) rfl ?_
      exact x_iret (by decide +kernel : am_at co_X12_qWordOf 20 = some (1, .ireturn)) h
set_option maxRecDepth 20000 in
theorem bk_X12_qAsksWord_0 {d : Nat} {Q : am_Q} {M : am_M} {v1 : Int} (h : ((v1 < 0 ∨ 4 < v1 → am_cal pg d 178 [(2, 152), (2, 210)] sh_T M (am_cv sh_T fun M1 => Q (none, sh_T, M1))) ∧ (v1 = 0 → am_cal pg d 178 [(2, 152), (2, 205)] sh_T M (am_cv sh_T fun M2 => Q (none, sh_T, M2))) ∧ (v1 = 1 → am_cal pg d 178 [(2, 152), (2, 206)] sh_T M (am_cv sh_T fun M3 => Q (none, sh_T, M3))) ∧ (v1 = 2 → am_cal pg d 178 [(2, 152), (2, 207)] sh_T M (am_cv sh_T fun M4 => Q (none, sh_T, M4))) ∧ (v1 = 3 → am_cal pg d 178 [(2, 152), (2, 208)] sh_T M (am_cv sh_T fun M5 => Q (none, sh_T, M5))) ∧ (v1 = 4 → am_cal pg d 178 [(2, 152), (2, 209)] sh_T M (am_cv sh_T fun M6 => Q (none, sh_T, M6))))) : am_g 12 9 co_X12_qAsksWord d Q 0 [(2, 152), (0, v1)] [] sh_T M := by
  refine x_iload_n (by decide +kernel : am_at co_X12_qAsksWord 0 = some (1, .iload_n 1)) rfl ?_
  refine x_tsw (by decide +kernel : am_at co_X12_qAsksWord 1 = some (35, .tableswitch 90 0 4 #[35, 46, 57, 68, 79])) (fun q => ?_) (fun q1 q2 => ?_)
  · have h := h.1 q
    refine x_aload_n (by decide +kernel : am_at co_X12_qAsksWord 91 = some (1, .aload_n 0)) rfl ?_
    refine x_aload_n (by decide +kernel : am_at co_X12_qAsksWord 92 = some (1, .aload_n 0)) rfl ?_
    refine x_getF (by decide +kernel : am_at co_X12_qAsksWord 93 = some (3, .getfield 191)) pq_12_191 (by decide) rfl ob_152 ?_
    refine x_top2 (show 152 + 58 = 210 from rfl) ?_
    refine x_callV (n := 2) (by decide +kernel : am_at co_X12_qAsksWord 96 = some (3, .invokevirtual 279)) pq_12_279 pm_X12_asks rfl rfl rfl ob_152 h (x_kv fun M1 h => ?_)
    exact x_vret (by decide +kernel : am_at co_X12_qAsksWord 99 = some (1, .return_)) h
  · rcases (show v1 = 0 ∨ v1 = 1 ∨ v1 = 2 ∨ v1 = 3 ∨ v1 = 4 by omega) with q | q | q | q | q
    · refine ⟨35, by rw [q]; rfl, ?_⟩
      have h := h.2.1 q
      refine x_aload_n (by decide +kernel : am_at co_X12_qAsksWord 36 = some (1, .aload_n 0)) rfl ?_
      refine x_aload_n (by decide +kernel : am_at co_X12_qAsksWord 37 = some (1, .aload_n 0)) rfl ?_
      refine x_getF (by decide +kernel : am_at co_X12_qAsksWord 38 = some (3, .getfield 176)) pq_12_176 (by decide) rfl ob_152 ?_
      refine x_top2 (show 152 + 53 = 205 from rfl) ?_
      refine x_callV (n := 2) (by decide +kernel : am_at co_X12_qAsksWord 41 = some (3, .invokevirtual 279)) pq_12_279 pm_X12_asks rfl rfl rfl ob_152 h (x_kv fun M2 h => ?_)
      refine x_goto (tgt := 99) (by decide +kernel : am_at co_X12_qAsksWord 44 = some (3, .goto 55)) rfl ?_
      exact x_vret (by decide +kernel : am_at co_X12_qAsksWord 99 = some (1, .return_)) h
    · refine ⟨46, by rw [q]; rfl, ?_⟩
      have h := h.2.2.1 q
      refine x_aload_n (by decide +kernel : am_at co_X12_qAsksWord 47 = some (1, .aload_n 0)) rfl ?_
      refine x_aload_n (by decide +kernel : am_at co_X12_qAsksWord 48 = some (1, .aload_n 0)) rfl ?_
      refine x_getF (by decide +kernel : am_at co_X12_qAsksWord 49 = some (3, .getfield 179)) pq_12_179 (by decide) rfl ob_152 ?_
      refine x_top2 (show 152 + 54 = 206 from rfl) ?_
      refine x_callV (n := 2) (by decide +kernel : am_at co_X12_qAsksWord 52 = some (3, .invokevirtual 279)) pq_12_279 pm_X12_asks rfl rfl rfl ob_152 h (x_kv fun M3 h => ?_)
      refine x_goto (tgt := 99) (by decide +kernel : am_at co_X12_qAsksWord 55 = some (3, .goto 44)) rfl ?_
      exact x_vret (by decide +kernel : am_at co_X12_qAsksWord 99 = some (1, .return_)) h
    · refine ⟨57, by rw [q]; rfl, ?_⟩
      have h := h.2.2.2.1 q
      refine x_aload_n (by decide +kernel : am_at co_X12_qAsksWord 58 = some (1, .aload_n 0)) rfl ?_
      refine x_aload_n (by decide +kernel : am_at co_X12_qAsksWord 59 = some (1, .aload_n 0)) rfl ?_
      refine x_getF (by decide +kernel : am_at co_X12_qAsksWord 60 = some (3, .getfield 182)) pq_12_182 (by decide) rfl ob_152 ?_
      refine x_top2 (show 152 + 55 = 207 from rfl) ?_
      refine x_callV (n := 2) (by decide +kernel : am_at co_X12_qAsksWord 63 = some (3, .invokevirtual 279)) pq_12_279 pm_X12_asks rfl rfl rfl ob_152 h (x_kv fun M4 h => ?_)
      refine x_goto (tgt := 99) (by decide +kernel : am_at co_X12_qAsksWord 66 = some (3, .goto 33)) rfl ?_
      exact x_vret (by decide +kernel : am_at co_X12_qAsksWord 99 = some (1, .return_)) h
    · refine ⟨68, by rw [q]; rfl, ?_⟩
      have h := h.2.2.2.2.1 q
      refine x_aload_n (by decide +kernel : am_at co_X12_qAsksWord 69 = some (1, .aload_n 0)) rfl ?_
      refine x_aload_n (by decide +kernel : am_at co_X12_qAsksWord 70 = some (1, .aload_n 0)) rfl ?_
      refine x_getF (by decide +kernel : am_at co_X12_qAsksWord 71 = some (3, .getfield 185)) pq_12_185 (by decide) rfl ob_152 ?_
      refine x_top2 (show 152 + 56 = 208 from rfl) ?_
      refine x_callV (n := 2) (by decide +kernel : am_at co_X12_qAsksWord 74 = some (3, .invokevirtual 279)) pq_12_279 pm_X12_asks rfl rfl rfl ob_152 h (x_kv fun M5 h => ?_)
      refine x_goto (tgt := 99) (by decide +kernel : am_at co_X12_qAsksWord 77 = some (3, .goto 22)) rfl ?_
      exact x_vret (by decide +kernel : am_at co_X12_qAsksWord 99 = some (1, .return_)) h
    · refine ⟨79, by rw [q]; rfl, ?_⟩
      have h := h.2.2.2.2.2 q
      refine x_aload_n (by decide +kernel : am_at co_X12_qAsksWord 80 = some (1, .aload_n 0)) rfl ?_
      refine x_aload_n (by decide +kernel : am_at co_X12_qAsksWord 81 = some (1, .aload_n 0)) rfl ?_
      refine x_getF (by decide +kernel : am_at co_X12_qAsksWord 82 = some (3, .getfield 188)) pq_12_188 (by decide) rfl ob_152 ?_
      refine x_top2 (show 152 + 57 = 209 from rfl) ?_
      refine x_callV (n := 2) (by decide +kernel : am_at co_X12_qAsksWord 85 = some (3, .invokevirtual 279)) pq_12_279 pm_X12_asks rfl rfl rfl ob_152 h (x_kv fun M6 h => ?_)
      refine x_goto (tgt := 99) (by decide +kernel : am_at co_X12_qAsksWord 88 = some (3, .goto 11)) rfl ?_
      exact x_vret (by decide +kernel : am_at co_X12_qAsksWord 99 = some (1, .return_)) h
set_option maxRecDepth 20000 in
theorem bk_X12_qEndsPart_0 {d : Nat} {Q : am_Q} {M : am_M} (h : ((¬ M 152 5 = 0 → Q (none, sh_T, M)) ∧ (M 152 5 = 0 → ((M 152 85 ≤ M 152 87 → Q (none, sh_T, M)) ∧ (M 152 87 < M 152 85 → am_r ((M 152 85) - 1) ∧ (0 ≤ (M 152 85) - 1 ∧ (M 152 85) - 1 < 1700) ∧ ((M 212 ((M 152 85) - 1) < 60 → Q (none, sh_T, M)) ∧ (60 ≤ M 212 ((M 152 85) - 1) → am_r ((M 152 86) - 1) ∧ am_cal pg d 280 [(2, 152)] sh_T (am_up M 152 86 ((M 152 86) - 1)) (am_cv sh_T fun M7 => am_g 12 9 co_X12_qEndsPart d Q 0 [(2, 152)] [] sh_T M7)))))))) : am_g 12 9 co_X12_qEndsPart d Q 0 [(2, 152)] [] sh_T M := by
  refine x_aload_n (by decide +kernel : am_at co_X12_qEndsPart 0 = some (1, .aload_n 0)) rfl ?_
  refine x_getf (by decide +kernel : am_at co_X12_qEndsPart 1 = some (3, .getfield 209)) pq_12_209 rfl ob_152 ?_
  refine x_if (tgt := 51) (by decide +kernel : am_at co_X12_qEndsPart 4 = some (3, .ifCond .ne 47)) rfl Iff.rfl (fun c0 => ?_) (fun c0 => ?_)
  · have h := h.1 c0
    exact x_vret (by decide +kernel : am_at co_X12_qEndsPart 51 = some (1, .return_)) h
  · have c0 := (Classical.not_not.mp c0)
    have h := h.2 c0
    refine x_aload_n (by decide +kernel : am_at co_X12_qEndsPart 7 = some (1, .aload_n 0)) rfl ?_
    refine x_getf (by decide +kernel : am_at co_X12_qEndsPart 8 = some (3, .getfield 582)) pq_12_582 rfl ob_152 ?_
    refine x_aload_n (by decide +kernel : am_at co_X12_qEndsPart 11 = some (1, .aload_n 0)) rfl ?_
    refine x_getf (by decide +kernel : am_at co_X12_qEndsPart 12 = some (3, .getfield 588)) pq_12_588 rfl ob_152 ?_
    refine x_icmp (tgt := 51) (by decide +kernel : am_at co_X12_qEndsPart 15 = some (3, .if_icmp .le 36)) rfl Iff.rfl (fun c1 => ?_) (fun c1 => ?_)
    · have h := h.1 c1
      exact x_vret (by decide +kernel : am_at co_X12_qEndsPart 51 = some (1, .return_)) h
    · have c1 := (Int.not_le.mp c1)
      have h := h.2 c1
      refine x_aload_n (by decide +kernel : am_at co_X12_qEndsPart 18 = some (1, .aload_n 0)) rfl ?_
      refine x_getF (by decide +kernel : am_at co_X12_qEndsPart 19 = some (3, .getfield 197)) pq_12_197 (by decide) rfl ob_152 ?_
      refine x_top2 (show 152 + 60 = 212 from rfl) ?_
      refine x_aload_n (by decide +kernel : am_at co_X12_qEndsPart 22 = some (1, .aload_n 0)) rfl ?_
      refine x_getf (by decide +kernel : am_at co_X12_qEndsPart 23 = some (3, .getfield 582)) pq_12_582 rfl ob_152 ?_
      refine x_iconst (by decide +kernel : am_at co_X12_qEndsPart 26 = some (1, .iconst 1)) ?_
      obtain ⟨o2, h⟩ := h
      refine x_isub (by decide +kernel : am_at co_X12_qEndsPart 27 = some (1, .isub)) o2 ?_
      obtain ⟨o3, h⟩ := h
      refine x_iald (by decide +kernel : am_at co_X12_qEndsPart 28 = some (1, .iaload)) (ia_212 o3.1 o3.2) ?_
      refine x_bipush (by decide +kernel : am_at co_X12_qEndsPart 29 = some (2, .bipush 60)) ?_
      refine x_icmp (tgt := 51) (by decide +kernel : am_at co_X12_qEndsPart 31 = some (3, .if_icmp .lt 20)) rfl Iff.rfl (fun c4 => ?_) (fun c4 => ?_)
      · have h := h.1 c4
        exact x_vret (by decide +kernel : am_at co_X12_qEndsPart 51 = some (1, .return_)) h
      · have c4 := (Int.not_lt.mp c4)
        have h := h.2 c4
        refine x_aload_n (by decide +kernel : am_at co_X12_qEndsPart 34 = some (1, .aload_n 0)) rfl ?_
        refine x_dup2' (by decide +kernel : am_at co_X12_qEndsPart 35 = some (1, .dup)) ?_
        refine x_getf (by decide +kernel : am_at co_X12_qEndsPart 36 = some (3, .getfield 579)) pq_12_579 rfl ob_152 ?_
        refine x_iconst (by decide +kernel : am_at co_X12_qEndsPart 39 = some (1, .iconst 1)) ?_
        obtain ⟨o5, h⟩ := h
        refine x_isub (by decide +kernel : am_at co_X12_qEndsPart 40 = some (1, .isub)) o5 ?_
        refine x_putf0 (by decide +kernel : am_at co_X12_qEndsPart 41 = some (3, .putfield 579)) pq_12_579 rfl ob_152 ?_
        refine x_aload_n (by decide +kernel : am_at co_X12_qEndsPart 44 = some (1, .aload_n 0)) rfl ?_
        refine x_callV (n := 1) (by decide +kernel : am_at co_X12_qEndsPart 45 = some (3, .invokevirtual 594)) pq_12_594 pm_X12_qDrops rfl rfl rfl ob_152 h (x_kv fun M7 h => ?_)
        refine x_goto (tgt := 0) (by decide +kernel : am_at co_X12_qEndsPart 48 = some (3, .goto (-48))) rfl ?_
        exact am_weak (lk ln) h
set_option maxRecDepth 20000 in
theorem bk_X12_qPartTold_0 {d : Nat} {Q : am_Q} {M : am_M} (h : am_g 12 9 co_X12_qPartTold d Q 2 [(2, 152), (0, 1), (3, 0), (3, 0), (3, 0), (3, 0)] [] sh_T M) : am_g 12 9 co_X12_qPartTold d Q 0 [(2, 152), (3, 0), (3, 0), (3, 0), (3, 0), (3, 0)] [] sh_T M := by
  refine x_iconst (by decide +kernel : am_at co_X12_qPartTold 0 = some (1, .iconst 1)) ?_
  refine x_istore_n (L' := [(2, 152), (0, 1), (3, 0), (3, 0), (3, 0), (3, 0)]) (by decide +kernel : am_at co_X12_qPartTold 1 = some (1, .istore_n 1)) rfl ?_
  exact am_weak (lk (lk (lk (lk (lk (lk ln)))))) h
set_option maxRecDepth 20000 in
theorem bk_X12_qPartTold_2 {d : Nat} {Q : am_Q} {M : am_M} {v1 : Int} (h : ((v1 = 0 → am_g 12 9 co_X12_qPartTold d Q 184 [(2, 152), (3, 0), (3, 0), (3, 0), (3, 0), (3, 0)] [] sh_T M) ∧ (¬ v1 = 0 → ((¬ M 152 5 = 0 → am_g 12 9 co_X12_qPartTold d Q 184 [(2, 152), (3, 0), (3, 0), (3, 0), (3, 0), (3, 0)] [] sh_T M) ∧ (M 152 5 = 0 → am_cal pg d 175 [(2, 152)] sh_T M (am_c0 sh_T fun x3 M3 => am_cal pg d 285 [(2, 152), (0, 5), (0, 6)] sh_T M3 (am_c0 sh_T fun x4 M4 => ((¬ x3 = 40 → am_cal pg d 176 [(2, 152), (2, 203)] sh_T M4 (am_c0 sh_T fun x6 M6 => ((¬ x6 = 0 → am_g 12 9 co_X12_qPartTold d Q 77 [(2, 152), (0, v1), (3, 0), (3, 0), (3, 0), (3, 0)] [] sh_T M6) ∧ (x6 = 0 → am_cal pg d 176 [(2, 152), (2, 204)] sh_T M6 (am_c0 sh_T fun x8 M8 => ((x8 = 0 → ((x4 = (-1) → am_g 12 9 co_X12_qPartTold d Q 181 [(2, 152), (0, 0), (3, 0), (3, 0), (3, 0), (3, 0)] [] sh_T M8) ∧ (¬ x4 = (-1) → am_r (60 + x4) ∧ am_r ((60 + x4) - 5) ∧ am_cal pg d 278 [(2, 152), (0, (60 + x4) - 5), (0, M8 152 2)] sh_T M8 (am_cv sh_T fun M13 => am_cal pg d 286 [(2, 152), (0, x4)] sh_T M13 (am_cv sh_T fun M14 => am_g 12 9 co_X12_qPartTold d Q 181 [(2, 152), (0, v1), (3, 0), (3, 0), (3, 0), (3, 0)] [] sh_T M14))))) ∧ (¬ x8 = 0 → am_g 12 9 co_X12_qPartTold d Q 77 [(2, 152), (0, v1), (3, 0), (3, 0), (3, 0), (3, 0)] [] sh_T M8))))))) ∧ (x3 = 40 → am_cal pg d 278 [(2, 152), (0, 20), (0, M4 152 2)] sh_T M4 (am_cv sh_T fun M15 => am_r ((M15 152 2) + 1) ∧ am_g 12 9 co_X12_qPartTold d Q 181 [(2, 152), (0, v1), (3, 0), (3, 0), (3, 0), (3, 0)] [] sh_T (am_up M15 152 2 ((M15 152 2) + 1)))))))))))) : am_g 12 9 co_X12_qPartTold d Q 2 [(2, 152), (0, v1), (3, 0), (3, 0), (3, 0), (3, 0)] [] sh_T M := by
  refine x_iload_n (by decide +kernel : am_at co_X12_qPartTold 2 = some (1, .iload_n 1)) rfl ?_
  refine x_if (tgt := 184) (by decide +kernel : am_at co_X12_qPartTold 3 = some (3, .ifCond .eq 181)) rfl Iff.rfl (fun c0 => ?_) (fun c0 => ?_)
  · have h := h.1 c0
    exact am_weak (lk (ld (lk (lk (lk (lk ln)))))) h
  · have c0 := c0
    have h := h.2 c0
    refine x_aload_n (by decide +kernel : am_at co_X12_qPartTold 6 = some (1, .aload_n 0)) rfl ?_
    refine x_getf (by decide +kernel : am_at co_X12_qPartTold 7 = some (3, .getfield 209)) pq_12_209 rfl ob_152 ?_
    refine x_if (tgt := 184) (by decide +kernel : am_at co_X12_qPartTold 10 = some (3, .ifCond .ne 174)) rfl Iff.rfl (fun c1 => ?_) (fun c1 => ?_)
    · have h := h.1 c1
      exact am_weak (lk (ld (lk (lk (lk (lk ln)))))) h
    · have c1 := (Classical.not_not.mp c1)
      have h := h.2 c1
      refine x_aload_n (by decide +kernel : am_at co_X12_qPartTold 13 = some (1, .aload_n 0)) rfl ?_
      refine x_callV (n := 1) (by decide +kernel : am_at co_X12_qPartTold 14 = some (3, .invokevirtual 221)) pq_12_221 pm_X12_look rfl rfl rfl ob_152 h (x_k0 fun x3 M3 h => ?_)
      refine x_istore_n (L' := [(2, 152), (0, v1), (0, x3), (3, 0), (3, 0), (3, 0)]) (by decide +kernel : am_at co_X12_qPartTold 17 = some (1, .istore_n 2)) rfl ?_
      refine x_aload_n (by decide +kernel : am_at co_X12_qPartTold 18 = some (1, .aload_n 0)) rfl ?_
      refine x_iconst (by decide +kernel : am_at co_X12_qPartTold 19 = some (1, .iconst 5)) ?_
      refine x_bipush (by decide +kernel : am_at co_X12_qPartTold 20 = some (2, .bipush 6)) ?_
      refine x_callV (n := 3) (by decide +kernel : am_at co_X12_qPartTold 22 = some (3, .invokevirtual 600)) pq_12_600 pm_X12_qWordOf rfl rfl rfl ob_152 h (x_k0 fun x4 M4 h => ?_)
      refine x_istore_n (L' := [(2, 152), (0, v1), (0, x3), (0, x4), (3, 0), (3, 0)]) (by decide +kernel : am_at co_X12_qPartTold 25 = some (1, .istore_n 3)) rfl ?_
      refine x_iload_n (by decide +kernel : am_at co_X12_qPartTold 26 = some (1, .iload_n 2)) rfl ?_
      refine x_bipush (by decide +kernel : am_at co_X12_qPartTold 27 = some (2, .bipush 40)) ?_
      refine x_icmp (tgt := 55) (by decide +kernel : am_at co_X12_qPartTold 29 = some (3, .if_icmp .ne 26)) rfl Iff.rfl (fun c4 => ?_) (fun c4 => ?_)
      · have h := h.1 c4
        refine x_aload_n (by decide +kernel : am_at co_X12_qPartTold 55 = some (1, .aload_n 0)) rfl ?_
        refine x_aload_n (by decide +kernel : am_at co_X12_qPartTold 56 = some (1, .aload_n 0)) rfl ?_
        refine x_getF (by decide +kernel : am_at co_X12_qPartTold 57 = some (3, .getfield 170)) pq_12_170 (by decide) rfl ob_152 ?_
        refine x_top2 (show 152 + 51 = 203 from rfl) ?_
        refine x_callV (n := 2) (by decide +kernel : am_at co_X12_qPartTold 60 = some (3, .invokevirtual 232)) pq_12_232 pm_X12_isHere rfl rfl rfl ob_152 h (x_k0 fun x6 M6 h => ?_)
        refine x_if (tgt := 77) (by decide +kernel : am_at co_X12_qPartTold 63 = some (3, .ifCond .ne 14)) rfl Iff.rfl (fun c6 => ?_) (fun c6 => ?_)
        · have h := h.1 c6
          exact am_weak (lk (lk (ld (ld (lk (lk ln)))))) h
        · have c6 := (Classical.not_not.mp c6)
          have h := h.2 c6
          refine x_aload_n (by decide +kernel : am_at co_X12_qPartTold 66 = some (1, .aload_n 0)) rfl ?_
          refine x_aload_n (by decide +kernel : am_at co_X12_qPartTold 67 = some (1, .aload_n 0)) rfl ?_
          refine x_getF (by decide +kernel : am_at co_X12_qPartTold 68 = some (3, .getfield 173)) pq_12_173 (by decide) rfl ob_152 ?_
          refine x_top2 (show 152 + 52 = 204 from rfl) ?_
          refine x_callV (n := 2) (by decide +kernel : am_at co_X12_qPartTold 71 = some (3, .invokevirtual 232)) pq_12_232 pm_X12_isHere rfl rfl rfl ob_152 h (x_k0 fun x8 M8 h => ?_)
          refine x_if (tgt := 152) (by decide +kernel : am_at co_X12_qPartTold 74 = some (3, .ifCond .eq 78)) rfl Iff.rfl (fun c8 => ?_) (fun c8 => ?_)
          · have h := h.1 c8
            refine x_iload_n (by decide +kernel : am_at co_X12_qPartTold 152 = some (1, .iload_n 3)) rfl ?_
            refine x_iconst (by decide +kernel : am_at co_X12_qPartTold 153 = some (1, .iconst (-1))) ?_
            refine x_icmp (tgt := 179) (by decide +kernel : am_at co_X12_qPartTold 154 = some (3, .if_icmp .eq 25)) rfl Iff.rfl (fun c9 => ?_) (fun c9 => ?_)
            · have h := h.1 c9
              refine x_iconst (by decide +kernel : am_at co_X12_qPartTold 179 = some (1, .iconst 0)) ?_
              refine x_istore_n (L' := [(2, 152), (0, 0), (0, x3), (0, x4), (3, 0), (3, 0)]) (by decide +kernel : am_at co_X12_qPartTold 180 = some (1, .istore_n 1)) rfl ?_
              exact am_weak (lk (lk (ld (ld (lk (lk ln)))))) h
            · have c9 := c9
              have h := h.2 c9
              refine x_aload_n (by decide +kernel : am_at co_X12_qPartTold 157 = some (1, .aload_n 0)) rfl ?_
              refine x_bipush (by decide +kernel : am_at co_X12_qPartTold 158 = some (2, .bipush 60)) ?_
              refine x_iload_n (by decide +kernel : am_at co_X12_qPartTold 160 = some (1, .iload_n 3)) rfl ?_
              obtain ⟨o10, h⟩ := h
              refine x_iadd (by decide +kernel : am_at co_X12_qPartTold 161 = some (1, .iadd)) o10 ?_
              refine x_iconst (by decide +kernel : am_at co_X12_qPartTold 162 = some (1, .iconst 5)) ?_
              obtain ⟨o11, h⟩ := h
              refine x_isub (by decide +kernel : am_at co_X12_qPartTold 163 = some (1, .isub)) o11 ?_
              refine x_aload_n (by decide +kernel : am_at co_X12_qPartTold 164 = some (1, .aload_n 0)) rfl ?_
              refine x_getf (by decide +kernel : am_at co_X12_qPartTold 165 = some (3, .getfield 215)) pq_12_215 rfl ob_152 ?_
              refine x_callV (n := 3) (by decide +kernel : am_at co_X12_qPartTold 168 = some (3, .invokevirtual 603)) pq_12_603 pm_X12_qOpens rfl rfl rfl ob_152 h (x_kv fun M13 h => ?_)
              refine x_aload_n (by decide +kernel : am_at co_X12_qPartTold 171 = some (1, .aload_n 0)) rfl ?_
              refine x_iload_n (by decide +kernel : am_at co_X12_qPartTold 172 = some (1, .iload_n 3)) rfl ?_
              refine x_callV (n := 2) (by decide +kernel : am_at co_X12_qPartTold 173 = some (3, .invokevirtual 606)) pq_12_606 pm_X12_qAsksWord rfl rfl rfl ob_152 h (x_kv fun M14 h => ?_)
              refine x_goto (tgt := 181) (by decide +kernel : am_at co_X12_qPartTold 176 = some (3, .goto 5)) rfl ?_
              exact am_weak (lk (lk (ld (ld (lk (lk ln)))))) h
          · have c8 := c8
            have h := h.2 c8
            exact am_weak (lk (lk (ld (ld (lk (lk ln)))))) h
      · have c4 := (Classical.not_not.mp c4)
        have h := h.2 c4
        refine x_aload_n (by decide +kernel : am_at co_X12_qPartTold 32 = some (1, .aload_n 0)) rfl ?_
        refine x_bipush (by decide +kernel : am_at co_X12_qPartTold 33 = some (2, .bipush 20)) ?_
        refine x_aload_n (by decide +kernel : am_at co_X12_qPartTold 35 = some (1, .aload_n 0)) rfl ?_
        refine x_getf (by decide +kernel : am_at co_X12_qPartTold 36 = some (3, .getfield 215)) pq_12_215 rfl ob_152 ?_
        refine x_callV (n := 3) (by decide +kernel : am_at co_X12_qPartTold 39 = some (3, .invokevirtual 603)) pq_12_603 pm_X12_qOpens rfl rfl rfl ob_152 h (x_kv fun M15 h => ?_)
        refine x_aload_n (by decide +kernel : am_at co_X12_qPartTold 42 = some (1, .aload_n 0)) rfl ?_
        refine x_dup2' (by decide +kernel : am_at co_X12_qPartTold 43 = some (1, .dup)) ?_
        refine x_getf (by decide +kernel : am_at co_X12_qPartTold 44 = some (3, .getfield 215)) pq_12_215 rfl ob_152 ?_
        refine x_iconst (by decide +kernel : am_at co_X12_qPartTold 47 = some (1, .iconst 1)) ?_
        obtain ⟨o15, h⟩ := h
        refine x_iadd (by decide +kernel : am_at co_X12_qPartTold 48 = some (1, .iadd)) o15 ?_
        refine x_putf0 (by decide +kernel : am_at co_X12_qPartTold 49 = some (3, .putfield 215)) pq_12_215 rfl ob_152 ?_
        refine x_goto (tgt := 181) (by decide +kernel : am_at co_X12_qPartTold 52 = some (3, .goto 129)) rfl ?_
        exact am_weak (lk (lk (ld (ld (lk (lk ln)))))) h
set_option maxRecDepth 20000 in
theorem bk_X12_qPartTold_77 {d : Nat} {Q : am_Q} {M : am_M} {v1 : Int} (h : am_cal pg d 177 [(2, 152), (2, 203)] sh_T M (am_c0 sh_T fun x1 M1 => ((¬ x1 = 0 → am_g 12 9 co_X12_qPartTold d Q 100 [(2, 152), (0, v1), (3, 0), (3, 0), (0, x1), (3, 0)] [] sh_T M1) ∧ (x1 = 0 → am_cal pg d 178 [(2, 152), (2, 204)] sh_T M1 (am_cv sh_T fun M3 => am_g 12 9 co_X12_qPartTold d Q 100 [(2, 152), (0, v1), (3, 0), (3, 0), (0, x1), (3, 0)] [] sh_T M3))))) : am_g 12 9 co_X12_qPartTold d Q 77 [(2, 152), (0, v1), (3, 0), (3, 0), (3, 0), (3, 0)] [] sh_T M := by
  refine x_aload_n (by decide +kernel : am_at co_X12_qPartTold 77 = some (1, .aload_n 0)) rfl ?_
  refine x_aload_n (by decide +kernel : am_at co_X12_qPartTold 78 = some (1, .aload_n 0)) rfl ?_
  refine x_getF (by decide +kernel : am_at co_X12_qPartTold 79 = some (3, .getfield 170)) pq_12_170 (by decide) rfl ob_152 ?_
  refine x_top2 (show 152 + 51 = 203 from rfl) ?_
  refine x_callV (n := 2) (by decide +kernel : am_at co_X12_qPartTold 82 = some (3, .invokevirtual 236)) pq_12_236 pm_X12_takes rfl rfl rfl ob_152 h (x_k0 fun x1 M1 h => ?_)
  refine x_istore (L' := [(2, 152), (0, v1), (3, 0), (3, 0), (0, x1), (3, 0)]) (by decide +kernel : am_at co_X12_qPartTold 85 = some (2, .istore 4)) rfl ?_
  refine x_iload (by decide +kernel : am_at co_X12_qPartTold 87 = some (2, .iload 4)) rfl ?_
  refine x_if (tgt := 100) (by decide +kernel : am_at co_X12_qPartTold 89 = some (3, .ifCond .ne 11)) rfl Iff.rfl (fun c1 => ?_) (fun c1 => ?_)
  · have h := h.1 c1
    exact am_weak (lk (lk (lk (lk (lk (lk ln)))))) h
  · have c1 := (Classical.not_not.mp c1)
    have h := h.2 c1
    refine x_aload_n (by decide +kernel : am_at co_X12_qPartTold 92 = some (1, .aload_n 0)) rfl ?_
    refine x_aload_n (by decide +kernel : am_at co_X12_qPartTold 93 = some (1, .aload_n 0)) rfl ?_
    refine x_getF (by decide +kernel : am_at co_X12_qPartTold 94 = some (3, .getfield 173)) pq_12_173 (by decide) rfl ob_152 ?_
    refine x_top2 (show 152 + 52 = 204 from rfl) ?_
    refine x_callV (n := 2) (by decide +kernel : am_at co_X12_qPartTold 97 = some (3, .invokevirtual 279)) pq_12_279 pm_X12_asks rfl rfl rfl ob_152 h (x_kv fun M3 h => ?_)
    exact am_weak (lk (lk (lk (lk (lk (lk ln)))))) h
set_option maxRecDepth 20000 in
theorem bk_X12_qPartTold_100 {d : Nat} {Q : am_Q} {M : am_M} {v1 v4 : Int} (h : am_cal pg d 175 [(2, 152)] sh_T M (am_c0 sh_T fun x1 M1 => ((¬ x1 = 40 → am_g 12 9 co_X12_qPartTold d Q 143 [(2, 152), (0, v1), (3, 0), (3, 0), (3, 0), (3, 0)] [] sh_T M1) ∧ (x1 = 40 → ((M1 152 2 = (-1) → am_g 12 9 co_X12_qPartTold d Q 143 [(2, 152), (0, v1), (3, 0), (3, 0), (3, 0), (3, 0)] [] sh_T M1) ∧ (¬ M1 152 2 = (-1) → ((v4 = 0 → am_cal pg d 278 [(2, 152), (0, 22), (0, M1 152 2)] sh_T M1 (am_cv sh_T fun M5 => am_g 12 9 co_X12_qPartTold d Q 143 [(2, 152), (0, v1), (3, 0), (3, 0), (3, 0), (3, 0)] [] sh_T M5)) ∧ (¬ v4 = 0 → am_cal pg d 278 [(2, 152), (0, 21), (0, M1 152 2)] sh_T M1 (am_cv sh_T fun M6 => am_g 12 9 co_X12_qPartTold d Q 143 [(2, 152), (0, v1), (3, 0), (3, 0), (3, 0), (3, 0)] [] sh_T M6))))))))) : am_g 12 9 co_X12_qPartTold d Q 100 [(2, 152), (0, v1), (3, 0), (3, 0), (0, v4), (3, 0)] [] sh_T M := by
  refine x_aload_n (by decide +kernel : am_at co_X12_qPartTold 100 = some (1, .aload_n 0)) rfl ?_
  refine x_callV (n := 1) (by decide +kernel : am_at co_X12_qPartTold 101 = some (3, .invokevirtual 221)) pq_12_221 pm_X12_look rfl rfl rfl ob_152 h (x_k0 fun x1 M1 h => ?_)
  refine x_bipush (by decide +kernel : am_at co_X12_qPartTold 104 = some (2, .bipush 40)) ?_
  refine x_icmp (tgt := 116) (by decide +kernel : am_at co_X12_qPartTold 106 = some (3, .if_icmp .ne 10)) rfl Iff.rfl (fun c1 => ?_) (fun c1 => ?_)
  · have h := h.1 c1
    refine x_iconst (by decide +kernel : am_at co_X12_qPartTold 116 = some (1, .iconst (-1))) ?_
    refine x_istore (L' := [(2, 152), (0, v1), (3, 0), (3, 0), (0, v4), (0, (-1))]) (by decide +kernel : am_at co_X12_qPartTold 117 = some (2, .istore 5)) rfl ?_
    refine x_iload (by decide +kernel : am_at co_X12_qPartTold 119 = some (2, .iload 5)) rfl ?_
    refine x_iconst (by decide +kernel : am_at co_X12_qPartTold 121 = some (1, .iconst (-1))) ?_
    refine x_icmp (tgt := 143) (by decide +kernel : am_at co_X12_qPartTold 122 = some (3, .if_icmp .eq 21)) rfl Iff.rfl (fun q => ?_) (fun q => absurd (show (-1 : Int) = (-1 : Int) by decide) q)
    exact am_weak (lk (lk (lk (lk (ld (ld ln)))))) h
  · have c1 := (Classical.not_not.mp c1)
    have h := h.2 c1
    refine x_aload_n (by decide +kernel : am_at co_X12_qPartTold 109 = some (1, .aload_n 0)) rfl ?_
    refine x_getf (by decide +kernel : am_at co_X12_qPartTold 110 = some (3, .getfield 215)) pq_12_215 rfl ob_152 ?_
    refine x_goto (tgt := 117) (by decide +kernel : am_at co_X12_qPartTold 113 = some (3, .goto 4)) rfl ?_
    refine x_istore (L' := [(2, 152), (0, v1), (3, 0), (3, 0), (0, v4), (0, M1 152 2)]) (by decide +kernel : am_at co_X12_qPartTold 117 = some (2, .istore 5)) rfl ?_
    refine x_iload (by decide +kernel : am_at co_X12_qPartTold 119 = some (2, .iload 5)) rfl ?_
    refine x_iconst (by decide +kernel : am_at co_X12_qPartTold 121 = some (1, .iconst (-1))) ?_
    refine x_icmp (tgt := 143) (by decide +kernel : am_at co_X12_qPartTold 122 = some (3, .if_icmp .eq 21)) rfl Iff.rfl (fun c2 => ?_) (fun c2 => ?_)
    · have h := h.1 c2
      exact am_weak (lk (lk (lk (lk (ld (ld ln)))))) h
    · have c2 := c2
      have h := h.2 c2
      refine x_aload_n (by decide +kernel : am_at co_X12_qPartTold 125 = some (1, .aload_n 0)) rfl ?_
      refine x_iload (by decide +kernel : am_at co_X12_qPartTold 126 = some (2, .iload 4)) rfl ?_
      refine x_if (tgt := 136) (by decide +kernel : am_at co_X12_qPartTold 128 = some (3, .ifCond .eq 8)) rfl Iff.rfl (fun c3 => ?_) (fun c3 => ?_)
      · have h := h.1 c3
        refine x_bipush (by decide +kernel : am_at co_X12_qPartTold 136 = some (2, .bipush 22)) ?_
        refine x_iload (by decide +kernel : am_at co_X12_qPartTold 138 = some (2, .iload 5)) rfl ?_
        refine x_callV (n := 3) (by decide +kernel : am_at co_X12_qPartTold 140 = some (3, .invokevirtual 603)) pq_12_603 pm_X12_qOpens rfl rfl rfl ob_152 h (x_kv fun M5 h => ?_)
        exact am_weak (lk (lk (lk (lk (ld (ld ln)))))) h
      · have c3 := c3
        have h := h.2 c3
        refine x_bipush (by decide +kernel : am_at co_X12_qPartTold 131 = some (2, .bipush 21)) ?_
        refine x_goto (tgt := 138) (by decide +kernel : am_at co_X12_qPartTold 133 = some (3, .goto 5)) rfl ?_
        refine x_iload (by decide +kernel : am_at co_X12_qPartTold 138 = some (2, .iload 5)) rfl ?_
        refine x_callV (n := 3) (by decide +kernel : am_at co_X12_qPartTold 140 = some (3, .invokevirtual 603)) pq_12_603 pm_X12_qOpens rfl rfl rfl ob_152 h (x_kv fun M6 h => ?_)
        exact am_weak (lk (lk (lk (lk (ld (ld ln)))))) h
set_option maxRecDepth 20000 in
theorem bk_X12_qPartTold_143 {d : Nat} {Q : am_Q} {M : am_M} {v1 : Int} (h : am_cal pg d 180 [(2, 152), (0, 40)] sh_T M (am_cv sh_T fun M1 => am_g 12 9 co_X12_qPartTold d Q 181 [(2, 152), (0, v1), (3, 0), (3, 0), (3, 0), (3, 0)] [] sh_T M1)) : am_g 12 9 co_X12_qPartTold d Q 143 [(2, 152), (0, v1), (3, 0), (3, 0), (3, 0), (3, 0)] [] sh_T M := by
  refine x_aload_n (by decide +kernel : am_at co_X12_qPartTold 143 = some (1, .aload_n 0)) rfl ?_
  refine x_bipush (by decide +kernel : am_at co_X12_qPartTold 144 = some (2, .bipush 40)) ?_
  refine x_callV (n := 2) (by decide +kernel : am_at co_X12_qPartTold 146 = some (3, .invokevirtual 325)) pq_12_325 pm_X12_asksSign rfl rfl rfl ob_152 h (x_kv fun M1 h => ?_)
  refine x_goto (tgt := 181) (by decide +kernel : am_at co_X12_qPartTold 149 = some (3, .goto 32)) rfl ?_
  exact am_weak (lk (lk (lk (lk (lk (lk ln)))))) h
set_option maxRecDepth 20000 in
theorem bk_X12_qPartTold_181 {d : Nat} {Q : am_Q} {M : am_M} {v1 : Int} (h : am_g 12 9 co_X12_qPartTold d Q 2 [(2, 152), (0, v1), (3, 0), (3, 0), (3, 0), (3, 0)] [] sh_T M) : am_g 12 9 co_X12_qPartTold d Q 181 [(2, 152), (0, v1), (3, 0), (3, 0), (3, 0), (3, 0)] [] sh_T M := by
  refine x_goto (tgt := 2) (by decide +kernel : am_at co_X12_qPartTold 181 = some (3, .goto (-179))) rfl ?_
  exact am_weak (lk (lk (lk (lk (lk (lk ln)))))) h
set_option maxRecDepth 20000 in
theorem bk_X12_qPartTold_184 {d : Nat} {Q : am_Q} {M : am_M} (h : ((M 152 5 = 0 → am_cal pg d 285 [(2, 152), (0, 0), (0, 5)] sh_T M (am_c0 sh_T fun x2 M2 => ((x2 = (-1) → am_g 12 9 co_X12_qPartTold d Q 209 [(2, 152), (3, 0), (0, x2), (3, 0), (3, 0), (3, 0)] [] sh_T M2) ∧ (¬ x2 = (-1) → am_cal pg d 286 [(2, 152), (0, x2)] sh_T M2 (am_cv sh_T fun M4 => am_g 12 9 co_X12_qPartTold d Q 209 [(2, 152), (3, 0), (0, x2), (3, 0), (3, 0), (3, 0)] [] sh_T M4))))) ∧ (¬ M 152 5 = 0 → Q (none, sh_T, M)))) : am_g 12 9 co_X12_qPartTold d Q 184 [(2, 152), (3, 0), (3, 0), (3, 0), (3, 0), (3, 0)] [] sh_T M := by
  refine x_aload_n (by decide +kernel : am_at co_X12_qPartTold 184 = some (1, .aload_n 0)) rfl ?_
  refine x_getf (by decide +kernel : am_at co_X12_qPartTold 185 = some (3, .getfield 209)) pq_12_209 rfl ob_152 ?_
  refine x_if (tgt := 192) (by decide +kernel : am_at co_X12_qPartTold 188 = some (3, .ifCond .eq 4)) rfl Iff.rfl (fun c0 => ?_) (fun c0 => ?_)
  · have h := h.1 c0
    refine x_aload_n (by decide +kernel : am_at co_X12_qPartTold 192 = some (1, .aload_n 0)) rfl ?_
    refine x_iconst (by decide +kernel : am_at co_X12_qPartTold 193 = some (1, .iconst 0)) ?_
    refine x_iconst (by decide +kernel : am_at co_X12_qPartTold 194 = some (1, .iconst 5)) ?_
    refine x_callV (n := 3) (by decide +kernel : am_at co_X12_qPartTold 195 = some (3, .invokevirtual 600)) pq_12_600 pm_X12_qWordOf rfl rfl rfl ob_152 h (x_k0 fun x2 M2 h => ?_)
    refine x_istore_n (L' := [(2, 152), (3, 0), (0, x2), (3, 0), (3, 0), (3, 0)]) (by decide +kernel : am_at co_X12_qPartTold 198 = some (1, .istore_n 2)) rfl ?_
    refine x_iload_n (by decide +kernel : am_at co_X12_qPartTold 199 = some (1, .iload_n 2)) rfl ?_
    refine x_iconst (by decide +kernel : am_at co_X12_qPartTold 200 = some (1, .iconst (-1))) ?_
    refine x_icmp (tgt := 209) (by decide +kernel : am_at co_X12_qPartTold 201 = some (3, .if_icmp .eq 8)) rfl Iff.rfl (fun c2 => ?_) (fun c2 => ?_)
    · have h := h.1 c2
      exact am_weak (lk (lk (lk (lk (lk (lk ln)))))) h
    · have c2 := c2
      have h := h.2 c2
      refine x_aload_n (by decide +kernel : am_at co_X12_qPartTold 204 = some (1, .aload_n 0)) rfl ?_
      refine x_iload_n (by decide +kernel : am_at co_X12_qPartTold 205 = some (1, .iload_n 2)) rfl ?_
      refine x_callV (n := 2) (by decide +kernel : am_at co_X12_qPartTold 206 = some (3, .invokevirtual 606)) pq_12_606 pm_X12_qAsksWord rfl rfl rfl ob_152 h (x_kv fun M4 h => ?_)
      exact am_weak (lk (lk (lk (lk (lk (lk ln)))))) h
  · have c0 := c0
    have h := h.2 c0
    exact x_vret (by decide +kernel : am_at co_X12_qPartTold 191 = some (1, .return_)) h
set_option maxRecDepth 20000 in
theorem bk_X12_qPartTold_209 {d : Nat} {Q : am_Q} {M : am_M} {v2 : Int} (h : ((v2 = (-1) → am_cal pg d 181 [(2, 152), (0, 0), (0, 9999)] sh_T M (am_c0 sh_T fun x2 M2 => am_r (1000 + x2) ∧ am_cal pg d 277 [(2, 152), (0, 1000 + x2)] sh_T M2 (am_cv sh_T fun M4 => am_cal pg d 287 [(2, 152)] sh_T M4 (am_cv sh_T fun M5 => Q (none, sh_T, M5))))) ∧ (¬ v2 = (-1) → am_r (40 + v2) ∧ am_cal pg d 277 [(2, 152), (0, 40 + v2)] sh_T M (am_cv sh_T fun M7 => am_cal pg d 287 [(2, 152)] sh_T M7 (am_cv sh_T fun M8 => Q (none, sh_T, M8)))))) : am_g 12 9 co_X12_qPartTold d Q 209 [(2, 152), (3, 0), (0, v2), (3, 0), (3, 0), (3, 0)] [] sh_T M := by
  refine x_aload_n (by decide +kernel : am_at co_X12_qPartTold 209 = some (1, .aload_n 0)) rfl ?_
  refine x_iload_n (by decide +kernel : am_at co_X12_qPartTold 210 = some (1, .iload_n 2)) rfl ?_
  refine x_iconst (by decide +kernel : am_at co_X12_qPartTold 211 = some (1, .iconst (-1))) ?_
  refine x_icmp (tgt := 222) (by decide +kernel : am_at co_X12_qPartTold 212 = some (3, .if_icmp .eq 10)) rfl Iff.rfl (fun c0 => ?_) (fun c0 => ?_)
  · have h := h.1 c0
    refine x_sipush (by decide +kernel : am_at co_X12_qPartTold 222 = some (3, .sipush 1000)) ?_
    refine x_aload_n (by decide +kernel : am_at co_X12_qPartTold 225 = some (1, .aload_n 0)) rfl ?_
    refine x_iconst (by decide +kernel : am_at co_X12_qPartTold 226 = some (1, .iconst 0)) ?_
    refine x_sipush (by decide +kernel : am_at co_X12_qPartTold 227 = some (3, .sipush 9999)) ?_
    refine x_callV (n := 3) (by decide +kernel : am_at co_X12_qPartTold 230 = some (3, .invokevirtual 283)) pq_12_283 pm_X12_number rfl rfl rfl ob_152 h (x_k0 fun x2 M2 h => ?_)
    obtain ⟨o2, h⟩ := h
    refine x_iadd (by decide +kernel : am_at co_X12_qPartTold 233 = some (1, .iadd)) o2 ?_
    refine x_callV (n := 2) (by decide +kernel : am_at co_X12_qPartTold 234 = some (3, .invokevirtual 585)) pq_12_585 pm_X12_qCode rfl rfl rfl ob_152 h (x_kv fun M4 h => ?_)
    refine x_aload_n (by decide +kernel : am_at co_X12_qPartTold 237 = some (1, .aload_n 0)) rfl ?_
    refine x_callV (n := 1) (by decide +kernel : am_at co_X12_qPartTold 238 = some (3, .invokevirtual 609)) pq_12_609 pm_X12_qEndsPart rfl rfl rfl ob_152 h (x_kv fun M5 h => ?_)
    exact x_vret (by decide +kernel : am_at co_X12_qPartTold 241 = some (1, .return_)) h
  · have c0 := c0
    have h := h.2 c0
    refine x_bipush (by decide +kernel : am_at co_X12_qPartTold 215 = some (2, .bipush 40)) ?_
    refine x_iload_n (by decide +kernel : am_at co_X12_qPartTold 217 = some (1, .iload_n 2)) rfl ?_
    obtain ⟨o5, h⟩ := h
    refine x_iadd (by decide +kernel : am_at co_X12_qPartTold 218 = some (1, .iadd)) o5 ?_
    refine x_goto (tgt := 234) (by decide +kernel : am_at co_X12_qPartTold 219 = some (3, .goto 15)) rfl ?_
    refine x_callV (n := 2) (by decide +kernel : am_at co_X12_qPartTold 234 = some (3, .invokevirtual 585)) pq_12_585 pm_X12_qCode rfl rfl rfl ob_152 h (x_kv fun M7 h => ?_)
    refine x_aload_n (by decide +kernel : am_at co_X12_qPartTold 237 = some (1, .aload_n 0)) rfl ?_
    refine x_callV (n := 1) (by decide +kernel : am_at co_X12_qPartTold 238 = some (3, .invokevirtual 609)) pq_12_609 pm_X12_qEndsPart rfl rfl rfl ob_152 h (x_kv fun M8 h => ?_)
    exact x_vret (by decide +kernel : am_at co_X12_qPartTold 241 = some (1, .return_)) h
