/-! blocks (printed) -/
set_option maxRecDepth 20000 in
theorem bk_X4_thousandths_0 {d : Nat} {Q : am_Q} {M : am_M} {v1 v2 v3 : Int} (h : am_g 4 0 co_X4_thousandths d Q 9 [(2, 128), (2, v1), (2, v2), (0, v3), (1, 0), (3, 0), (1, 1), (3, 0), (0, 0)] [] sh_T M) : am_g 4 0 co_X4_thousandths d Q 0 [(2, 128), (2, v1), (2, v2), (0, v3), (3, 0), (3, 0), (3, 0), (3, 0), (3, 0)] [] sh_T M := by
  refine x_lconst (by decide +kernel : am_at co_X4_thousandths 0 = some (1, .lconst 0)) ?_
  refine x_lstore (L' := [(2, 128), (2, v1), (2, v2), (0, v3), (1, 0), (3, 0), (3, 0), (3, 0), (3, 0)]) (by decide +kernel : am_at co_X4_thousandths 1 = some (2, .lstore 4)) rfl ?_
  refine x_lconst (by decide +kernel : am_at co_X4_thousandths 3 = some (1, .lconst 1)) ?_
  refine x_lstore (L' := [(2, 128), (2, v1), (2, v2), (0, v3), (1, 0), (3, 0), (1, 1), (3, 0), (3, 0)]) (by decide +kernel : am_at co_X4_thousandths 4 = some (2, .lstore 6)) rfl ?_
  refine x_iconst (by decide +kernel : am_at co_X4_thousandths 6 = some (1, .iconst 0)) ?_
  refine x_istore (L' := [(2, 128), (2, v1), (2, v2), (0, v3), (1, 0), (3, 0), (1, 1), (3, 0), (0, 0)]) (by decide +kernel : am_at co_X4_thousandths 7 = some (2, .istore 8)) rfl ?_
  exact am_weak (lk (lk (lk (lk (lk (lk (lk (lk (lk ln))))))))) h
set_option maxRecDepth 20000 in
theorem bk_X4_thousandths_9 {d : Nat} {Q : am_Q} {M : am_M} {v1 v2 v3 v4 v6 v8 : Int} (h : ((v3 ≤ v8 → am_g 4 0 co_X4_thousandths d Q 38 [(2, 128), (2, v1), (2, v2), (0, v3), (1, v4), (3, 0), (1, v6), (3, 0), (0, 0)] [] sh_T M) ∧ (v8 < v3 → ((4 ≤ v8 → am_g 4 0 co_X4_thousandths d Q 38 [(2, 128), (2, v1), (2, v2), (0, v3), (1, v4), (3, 0), (1, v6), (3, 0), (0, 0)] [] sh_T M) ∧ (v8 < 4 → am_rl (v6 * 100) ∧ am_r (v8 + 1) ∧ am_g 4 0 co_X4_thousandths d Q 9 [(2, 128), (2, v1), (2, v2), (0, v3), (1, v4), (3, 0), (1, v6 * 100), (3, 0), (0, v8 + 1)] [] sh_T M))))) : am_g 4 0 co_X4_thousandths d Q 9 [(2, 128), (2, v1), (2, v2), (0, v3), (1, v4), (3, 0), (1, v6), (3, 0), (0, v8)] [] sh_T M := by
  refine x_iload (by decide +kernel : am_at co_X4_thousandths 9 = some (2, .iload 8)) rfl ?_
  refine x_iload_n (by decide +kernel : am_at co_X4_thousandths 11 = some (1, .iload_n 3)) rfl ?_
  refine x_icmp (tgt := 35) (by decide +kernel : am_at co_X4_thousandths 12 = some (3, .if_icmp .ge 23)) rfl Iff.rfl (fun c0 => ?_) (fun c0 => ?_)
  · have h := h.1 c0
    refine x_iconst (by decide +kernel : am_at co_X4_thousandths 35 = some (1, .iconst 0)) ?_
    refine x_istore (L' := [(2, 128), (2, v1), (2, v2), (0, v3), (1, v4), (3, 0), (1, v6), (3, 0), (0, 0)]) (by decide +kernel : am_at co_X4_thousandths 36 = some (2, .istore 8)) rfl ?_
    exact am_weak (lk (lk (lk (lk (lk (lk (lk (lk (lk ln))))))))) h
  · have c0 := (Int.not_le.mp c0)
    have h := h.2 c0
    refine x_iload (by decide +kernel : am_at co_X4_thousandths 15 = some (2, .iload 8)) rfl ?_
    refine x_iconst (by decide +kernel : am_at co_X4_thousandths 17 = some (1, .iconst 4)) ?_
    refine x_icmp (tgt := 35) (by decide +kernel : am_at co_X4_thousandths 18 = some (3, .if_icmp .ge 17)) rfl Iff.rfl (fun c1 => ?_) (fun c1 => ?_)
    · have h := h.1 c1
      refine x_iconst (by decide +kernel : am_at co_X4_thousandths 35 = some (1, .iconst 0)) ?_
      refine x_istore (L' := [(2, 128), (2, v1), (2, v2), (0, v3), (1, v4), (3, 0), (1, v6), (3, 0), (0, 0)]) (by decide +kernel : am_at co_X4_thousandths 36 = some (2, .istore 8)) rfl ?_
      exact am_weak (lk (lk (lk (lk (lk (lk (lk (lk (lk ln))))))))) h
    · have c1 := (Int.not_le.mp c1)
      have h := h.2 c1
      refine x_lload (by decide +kernel : am_at co_X4_thousandths 21 = some (2, .lload 6)) rfl ?_
      refine x_ldc2 (by decide +kernel : am_at co_X4_thousandths 23 = some (3, .ldc2_w 72)) pq_4_72 ?_
      obtain ⟨o2, h⟩ := h
      refine x_lmul (by decide +kernel : am_at co_X4_thousandths 26 = some (1, .lmul)) o2 ?_
      refine x_lstore (L' := [(2, 128), (2, v1), (2, v2), (0, v3), (1, v4), (3, 0), (1, v6 * 100), (3, 0), (0, v8)]) (by decide +kernel : am_at co_X4_thousandths 27 = some (2, .lstore 6)) rfl ?_
      obtain ⟨o3, h⟩ := h
      refine x_iinc (L' := [(2, 128), (2, v1), (2, v2), (0, v3), (1, v4), (3, 0), (1, v6 * 100), (3, 0), (0, v8 + 1)]) (by decide +kernel : am_at co_X4_thousandths 29 = some (3, .iinc 8 1)) rfl o3 rfl ?_
      refine x_goto (tgt := 9) (by decide +kernel : am_at co_X4_thousandths 32 = some (3, .goto (-23))) rfl ?_
      exact am_weak (lk (lk (lk (lk (lk (lk (lk (lk (lk ln))))))))) h
set_option maxRecDepth 20000 in
theorem bk_X4_thousandths_38 {d : Nat} {Q : am_Q} {M : am_M} {v1 v2 v3 v4 v6 v8 : Int} (h : ((am_shl 1 v3 ≤ v8 → ((v6 ≤ 0 → Q (some (0, 0), sh_T, M)) ∧ (0 < v6 → am_rl (1000 * v4) ∧ ¬ v6 = 0 ∧ am_rl ((1000 * v4).tdiv v6) ∧ am_r ((1000 * v4).tdiv v6) ∧ Q (some (0, (1000 * v4).tdiv v6), sh_T, M)))) ∧ (v8 < am_shl 1 v3 → ((4 < v3 → ((v6 ≤ 0 → Q (some (0, 0), sh_T, M)) ∧ (0 < v6 → am_rl (1000 * v4) ∧ ¬ v6 = 0 ∧ am_rl ((1000 * v4).tdiv v6) ∧ am_r ((1000 * v4).tdiv v6) ∧ Q (some (0, (1000 * v4).tdiv v6), sh_T, M)))) ∧ (v3 ≤ 4 → am_cal pg d 51 [(2, 128), (2, v1), (2, v2), (0, v3), (0, v8)] sh_T M (am_c1 sh_T fun x13 M13 => am_rl (v4 + x13) ∧ am_r (v8 + 1) ∧ am_g 4 0 co_X4_thousandths d Q 38 [(2, 128), (2, v1), (2, v2), (0, v3), (1, v4 + x13), (3, 0), (1, v6), (3, 0), (0, v8 + 1)] [] sh_T M13)))))) : am_g 4 0 co_X4_thousandths d Q 38 [(2, 128), (2, v1), (2, v2), (0, v3), (1, v4), (3, 0), (1, v6), (3, 0), (0, v8)] [] sh_T M := by
  refine x_iload (by decide +kernel : am_at co_X4_thousandths 38 = some (2, .iload 8)) rfl ?_
  refine x_iconst (by decide +kernel : am_at co_X4_thousandths 40 = some (1, .iconst 1)) ?_
  refine x_iload_n (by decide +kernel : am_at co_X4_thousandths 41 = some (1, .iload_n 3)) rfl ?_
  refine x_ishl (by decide +kernel : am_at co_X4_thousandths 42 = some (1, .ishl)) ?_
  refine x_icmp (tgt := 71) (by decide +kernel : am_at co_X4_thousandths 43 = some (3, .if_icmp .ge 28)) rfl Iff.rfl (fun c0 => ?_) (fun c0 => ?_)
  · have h := h.1 c0
    refine x_lload (by decide +kernel : am_at co_X4_thousandths 71 = some (2, .lload 6)) rfl ?_
    refine x_lconst (by decide +kernel : am_at co_X4_thousandths 73 = some (1, .lconst 0)) ?_
    refine x_lif (tgt := 91) (by decide +kernel : am_at co_X4_thousandths 74 = some (1, .lcmp)) (by decide +kernel : am_at co_X4_thousandths 75 = some (3, .ifCond .le 16)) rfl Iff.rfl (fun c1 => ?_) (fun c1 => ?_)
    · have h := h.1 c1
      refine x_iconst (by decide +kernel : am_at co_X4_thousandths 91 = some (1, .iconst 0)) ?_
      exact x_iret (by decide +kernel : am_at co_X4_thousandths 92 = some (1, .ireturn)) h
    · have c1 := (Int.not_le.mp c1)
      have h := h.2 c1
      refine x_ldc2 (by decide +kernel : am_at co_X4_thousandths 78 = some (3, .ldc2_w 78)) pq_4_78 ?_
      refine x_lload (by decide +kernel : am_at co_X4_thousandths 81 = some (2, .lload 4)) rfl ?_
      obtain ⟨o2, h⟩ := h
      refine x_lmul (by decide +kernel : am_at co_X4_thousandths 83 = some (1, .lmul)) o2 ?_
      refine x_lload (by decide +kernel : am_at co_X4_thousandths 84 = some (2, .lload 6)) rfl ?_
      obtain ⟨o3, h⟩ := h
      obtain ⟨o4, h⟩ := h
      refine x_ldiv (by decide +kernel : am_at co_X4_thousandths 86 = some (1, .ldiv)) o3 o4 ?_
      obtain ⟨o5, h⟩ := h
      refine x_l2i (by decide +kernel : am_at co_X4_thousandths 87 = some (1, .l2i)) o5 ?_
      refine x_goto (tgt := 92) (by decide +kernel : am_at co_X4_thousandths 88 = some (3, .goto 4)) rfl ?_
      exact x_iret (by decide +kernel : am_at co_X4_thousandths 92 = some (1, .ireturn)) h
  · have c0 := (Int.not_le.mp c0)
    have h := h.2 c0
    refine x_iload_n (by decide +kernel : am_at co_X4_thousandths 46 = some (1, .iload_n 3)) rfl ?_
    refine x_iconst (by decide +kernel : am_at co_X4_thousandths 47 = some (1, .iconst 4)) ?_
    refine x_icmp (tgt := 71) (by decide +kernel : am_at co_X4_thousandths 48 = some (3, .if_icmp .gt 23)) rfl Iff.rfl (fun c6 => ?_) (fun c6 => ?_)
    · have h := h.1 c6
      refine x_lload (by decide +kernel : am_at co_X4_thousandths 71 = some (2, .lload 6)) rfl ?_
      refine x_lconst (by decide +kernel : am_at co_X4_thousandths 73 = some (1, .lconst 0)) ?_
      refine x_lif (tgt := 91) (by decide +kernel : am_at co_X4_thousandths 74 = some (1, .lcmp)) (by decide +kernel : am_at co_X4_thousandths 75 = some (3, .ifCond .le 16)) rfl Iff.rfl (fun c7 => ?_) (fun c7 => ?_)
      · have h := h.1 c7
        refine x_iconst (by decide +kernel : am_at co_X4_thousandths 91 = some (1, .iconst 0)) ?_
        exact x_iret (by decide +kernel : am_at co_X4_thousandths 92 = some (1, .ireturn)) h
      · have c7 := (Int.not_le.mp c7)
        have h := h.2 c7
        refine x_ldc2 (by decide +kernel : am_at co_X4_thousandths 78 = some (3, .ldc2_w 78)) pq_4_78 ?_
        refine x_lload (by decide +kernel : am_at co_X4_thousandths 81 = some (2, .lload 4)) rfl ?_
        obtain ⟨o8, h⟩ := h
        refine x_lmul (by decide +kernel : am_at co_X4_thousandths 83 = some (1, .lmul)) o8 ?_
        refine x_lload (by decide +kernel : am_at co_X4_thousandths 84 = some (2, .lload 6)) rfl ?_
        obtain ⟨o9, h⟩ := h
        obtain ⟨o10, h⟩ := h
        refine x_ldiv (by decide +kernel : am_at co_X4_thousandths 86 = some (1, .ldiv)) o9 o10 ?_
        obtain ⟨o11, h⟩ := h
        refine x_l2i (by decide +kernel : am_at co_X4_thousandths 87 = some (1, .l2i)) o11 ?_
        refine x_goto (tgt := 92) (by decide +kernel : am_at co_X4_thousandths 88 = some (3, .goto 4)) rfl ?_
        exact x_iret (by decide +kernel : am_at co_X4_thousandths 92 = some (1, .ireturn)) h
    · have c6 := (Int.not_lt.mp c6)
      have h := h.2 c6
      refine x_lload (by decide +kernel : am_at co_X4_thousandths 51 = some (2, .lload 4)) rfl ?_
      refine x_aload_n (by decide +kernel : am_at co_X4_thousandths 53 = some (1, .aload_n 0)) rfl ?_
      refine x_aload_n (by decide +kernel : am_at co_X4_thousandths 54 = some (1, .aload_n 1)) rfl ?_
      refine x_aload_n (by decide +kernel : am_at co_X4_thousandths 55 = some (1, .aload_n 2)) rfl ?_
      refine x_iload_n (by decide +kernel : am_at co_X4_thousandths 56 = some (1, .iload_n 3)) rfl ?_
      refine x_iload (by decide +kernel : am_at co_X4_thousandths 57 = some (2, .iload 8)) rfl ?_
      refine x_callV (n := 5) (by decide +kernel : am_at co_X4_thousandths 59 = some (3, .invokevirtual 74)) pq_4_74 pm_X4_shareHome rfl rfl rfl ob_128 h (x_k1 fun x13 M13 h => ?_)
      obtain ⟨o13, h⟩ := h
      refine x_ladd (by decide +kernel : am_at co_X4_thousandths 62 = some (1, .ladd)) o13 ?_
      refine x_lstore (L' := [(2, 128), (2, v1), (2, v2), (0, v3), (1, v4 + x13), (3, 0), (1, v6), (3, 0), (0, v8)]) (by decide +kernel : am_at co_X4_thousandths 63 = some (2, .lstore 4)) rfl ?_
      obtain ⟨o14, h⟩ := h
      refine x_iinc (L' := [(2, 128), (2, v1), (2, v2), (0, v3), (1, v4 + x13), (3, 0), (1, v6), (3, 0), (0, v8 + 1)]) (by decide +kernel : am_at co_X4_thousandths 65 = some (3, .iinc 8 1)) rfl o14 rfl ?_
      refine x_goto (tgt := 38) (by decide +kernel : am_at co_X4_thousandths 68 = some (3, .goto (-30))) rfl ?_
      exact am_weak (lk (lk (lk (lk (lk (lk (lk (lk (lk ln))))))))) h
set_option maxRecDepth 20000 in
theorem bk_X4_shareHome_0 {d : Nat} {Q : am_Q} {M : am_M} {v1 v2 v3 v4 : Int} (h : am_cal pg d 71 [(2, 147), (2, v2)] sh_T M (am_cv sh_T fun M1 => am_g 4 1 co_X4_shareHome d Q 14 [(2, 128), (2, v1), (3, 0), (0, v3), (0, v4), (1, 1), (3, 0), (0, 0)] [] sh_T M1)) : am_g 4 1 co_X4_shareHome d Q 0 [(2, 128), (2, v1), (2, v2), (0, v3), (0, v4), (3, 0), (3, 0), (3, 0)] [] sh_T M := by
  refine x_aload_n (by decide +kernel : am_at co_X4_shareHome 0 = some (1, .aload_n 0)) rfl ?_
  refine x_getF (by decide +kernel : am_at co_X4_shareHome 1 = some (3, .getfield 25)) pq_4_25 (by decide) rfl ob_128 ?_
  refine x_top2 (show 128 + 19 = 147 from rfl) ?_
  refine x_aload_n (by decide +kernel : am_at co_X4_shareHome 4 = some (1, .aload_n 2)) rfl ?_
  refine x_callV (n := 2) (by decide +kernel : am_at co_X4_shareHome 5 = some (3, .invokevirtual 29)) pq_4_29 pm_X7_copy rfl rfl rfl ob_147 h (x_kv fun M1 h => ?_)
  refine x_lconst (by decide +kernel : am_at co_X4_shareHome 8 = some (1, .lconst 1)) ?_
  refine x_lstore (L' := [(2, 128), (2, v1), (2, v2), (0, v3), (0, v4), (1, 1), (3, 0), (3, 0)]) (by decide +kernel : am_at co_X4_shareHome 9 = some (2, .lstore 5)) rfl ?_
  refine x_iconst (by decide +kernel : am_at co_X4_shareHome 11 = some (1, .iconst 0)) ?_
  refine x_istore (L' := [(2, 128), (2, v1), (2, v2), (0, v3), (0, v4), (1, 1), (3, 0), (0, 0)]) (by decide +kernel : am_at co_X4_shareHome 12 = some (2, .istore 7)) rfl ?_
  exact am_weak (lk (lk (ld (lk (lk (lk (lk (lk ln)))))))) h
set_option maxRecDepth 20000 in
theorem bk_X4_shareHome_14 {d : Nat} {Q : am_Q} {M : am_M} {v1 v3 v4 v5 v7 : Int} (h : ((v3 ≤ v7 → am_ob sh_T 2 v1 ∧ am_cal pg d 31 [(2, v1), (2, 147)] sh_T M (am_c0 sh_T fun x3 M3 => ((x3 = 0 → Q (some (1, 0), sh_T, M3)) ∧ (¬ x3 = 0 → Q (some (1, v5), sh_T, M3))))) ∧ (v7 < v3 → am_ob sh_T 2 v1 ∧ am_cal pg d 34 [(2, v1), (2, 147), (0, 0)] sh_T M (am_c0 sh_T fun x6 M6 => ((¬ am_band (am_shr v4 v7) 1 = 1 → am_r (100 - (M6 v1 6)) ∧ am_rl (v5 * (100 - (M6 v1 6))) ∧ am_r (v7 + 1) ∧ am_g 4 1 co_X4_shareHome d Q 14 [(2, 128), (2, v1), (3, 0), (0, v3), (0, v4), (1, v5 * (100 - (M6 v1 6))), (3, 0), (0, v7 + 1)] [] sh_T M6) ∧ (am_band (am_shr v4 v7) 1 = 1 → am_cal pg d 77 [(2, 147)] sh_T M6 (am_cv sh_T fun M11 => am_rl (v5 * (M11 v1 6)) ∧ am_r (v7 + 1) ∧ am_g 4 1 co_X4_shareHome d Q 14 [(2, 128), (2, v1), (3, 0), (0, v3), (0, v4), (1, v5 * (M11 v1 6)), (3, 0), (0, v7 + 1)] [] sh_T M11))))))) : am_g 4 1 co_X4_shareHome d Q 14 [(2, 128), (2, v1), (3, 0), (0, v3), (0, v4), (1, v5), (3, 0), (0, v7)] [] sh_T M := by
  refine x_iload (by decide +kernel : am_at co_X4_shareHome 14 = some (2, .iload 7)) rfl ?_
  refine x_iload_n (by decide +kernel : am_at co_X4_shareHome 16 = some (1, .iload_n 3)) rfl ?_
  refine x_icmp (tgt := 80) (by decide +kernel : am_at co_X4_shareHome 17 = some (3, .if_icmp .ge 63)) rfl Iff.rfl (fun c0 => ?_) (fun c0 => ?_)
  · have h := h.1 c0
    refine x_aload_n (by decide +kernel : am_at co_X4_shareHome 80 = some (1, .aload_n 1)) rfl ?_
    refine x_aload_n (by decide +kernel : am_at co_X4_shareHome 81 = some (1, .aload_n 0)) rfl ?_
    refine x_getF (by decide +kernel : am_at co_X4_shareHome 82 = some (3, .getfield 25)) pq_4_25 (by decide) rfl ob_128 ?_
    refine x_top2 (show 128 + 19 = 147 from rfl) ?_
    obtain ⟨o1, h⟩ := h
    refine x_callV (n := 2) (by decide +kernel : am_at co_X4_shareHome 85 = some (3, .invokevirtual 37)) pq_4_37 pm_X2_isHome rfl rfl rfl o1 h (x_k0 fun x3 M3 h => ?_)
    refine x_if (tgt := 96) (by decide +kernel : am_at co_X4_shareHome 88 = some (3, .ifCond .eq 8)) rfl Iff.rfl (fun c3 => ?_) (fun c3 => ?_)
    · have h := h.1 c3
      refine x_lconst (by decide +kernel : am_at co_X4_shareHome 96 = some (1, .lconst 0)) ?_
      exact x_lret (by decide +kernel : am_at co_X4_shareHome 97 = some (1, .lreturn)) h
    · have c3 := c3
      have h := h.2 c3
      refine x_lload (by decide +kernel : am_at co_X4_shareHome 91 = some (2, .lload 5)) rfl ?_
      refine x_goto (tgt := 97) (by decide +kernel : am_at co_X4_shareHome 93 = some (3, .goto 4)) rfl ?_
      exact x_lret (by decide +kernel : am_at co_X4_shareHome 97 = some (1, .lreturn)) h
  · have c0 := (Int.not_le.mp c0)
    have h := h.2 c0
    refine x_aload_n (by decide +kernel : am_at co_X4_shareHome 20 = some (1, .aload_n 1)) rfl ?_
    refine x_aload_n (by decide +kernel : am_at co_X4_shareHome 21 = some (1, .aload_n 0)) rfl ?_
    refine x_getF (by decide +kernel : am_at co_X4_shareHome 22 = some (3, .getfield 25)) pq_4_25 (by decide) rfl ob_128 ?_
    refine x_top2 (show 128 + 19 = 147 from rfl) ?_
    refine x_iconst (by decide +kernel : am_at co_X4_shareHome 25 = some (1, .iconst 0)) ?_
    obtain ⟨o4, h⟩ := h
    refine x_callV (n := 3) (by decide +kernel : am_at co_X4_shareHome 26 = some (3, .invokevirtual 47)) pq_4_47 pm_X2_enter rfl rfl rfl o4 h (x_k0 fun x6 M6 h => ?_)
    refine x_pop0 (by decide +kernel : am_at co_X4_shareHome 29 = some (1, .pop)) ?_
    refine x_iload (by decide +kernel : am_at co_X4_shareHome 30 = some (2, .iload 4)) rfl ?_
    refine x_iload (by decide +kernel : am_at co_X4_shareHome 32 = some (2, .iload 7)) rfl ?_
    refine x_ishr (by decide +kernel : am_at co_X4_shareHome 34 = some (1, .ishr)) ?_
    refine x_iconst (by decide +kernel : am_at co_X4_shareHome 35 = some (1, .iconst 1)) ?_
    refine x_iand (by decide +kernel : am_at co_X4_shareHome 36 = some (1, .iand)) ?_
    refine x_iconst (by decide +kernel : am_at co_X4_shareHome 37 = some (1, .iconst 1)) ?_
    refine x_icmp (tgt := 61) (by decide +kernel : am_at co_X4_shareHome 38 = some (3, .if_icmp .ne 23)) rfl Iff.rfl (fun c6 => ?_) (fun c6 => ?_)
    · have h := h.1 c6
      refine x_lload (by decide +kernel : am_at co_X4_shareHome 61 = some (2, .lload 5)) rfl ?_
      refine x_bipush (by decide +kernel : am_at co_X4_shareHome 63 = some (2, .bipush 100)) ?_
      refine x_aload_n (by decide +kernel : am_at co_X4_shareHome 65 = some (1, .aload_n 1)) rfl ?_
      refine x_getf (by decide +kernel : am_at co_X4_shareHome 66 = some (3, .getfield 83)) pq_4_83 rfl o4 ?_
      obtain ⟨o7, h⟩ := h
      refine x_isub (by decide +kernel : am_at co_X4_shareHome 69 = some (1, .isub)) o7 ?_
      refine x_i2l (by decide +kernel : am_at co_X4_shareHome 70 = some (1, .i2l)) ?_
      obtain ⟨o8, h⟩ := h
      refine x_lmul (by decide +kernel : am_at co_X4_shareHome 71 = some (1, .lmul)) o8 ?_
      refine x_lstore (L' := [(2, 128), (2, v1), (3, 0), (0, v3), (0, v4), (1, v5 * (100 - (M6 v1 6))), (3, 0), (0, v7)]) (by decide +kernel : am_at co_X4_shareHome 72 = some (2, .lstore 5)) rfl ?_
      obtain ⟨o9, h⟩ := h
      refine x_iinc (L' := [(2, 128), (2, v1), (3, 0), (0, v3), (0, v4), (1, v5 * (100 - (M6 v1 6))), (3, 0), (0, v7 + 1)]) (by decide +kernel : am_at co_X4_shareHome 74 = some (3, .iinc 7 1)) rfl o9 rfl ?_
      refine x_goto (tgt := 14) (by decide +kernel : am_at co_X4_shareHome 77 = some (3, .goto (-63))) rfl ?_
      exact am_weak (lk (lk (lk (lk (lk (lk (lk (lk ln)))))))) h
    · have c6 := (Classical.not_not.mp c6)
      have h := h.2 c6
      refine x_aload_n (by decide +kernel : am_at co_X4_shareHome 41 = some (1, .aload_n 0)) rfl ?_
      refine x_getF (by decide +kernel : am_at co_X4_shareHome 42 = some (3, .getfield 25)) pq_4_25 (by decide) rfl ob_128 ?_
      refine x_top2 (show 128 + 19 = 147 from rfl) ?_
      refine x_callV (n := 1) (by decide +kernel : am_at co_X4_shareHome 45 = some (3, .invokevirtual 80)) pq_4_80 pm_X7_laugh rfl rfl rfl ob_147 h (x_kv fun M11 h => ?_)
      refine x_lload (by decide +kernel : am_at co_X4_shareHome 48 = some (2, .lload 5)) rfl ?_
      refine x_aload_n (by decide +kernel : am_at co_X4_shareHome 50 = some (1, .aload_n 1)) rfl ?_
      refine x_getf (by decide +kernel : am_at co_X4_shareHome 51 = some (3, .getfield 83)) pq_4_83 rfl o4 ?_
      refine x_i2l (by decide +kernel : am_at co_X4_shareHome 54 = some (1, .i2l)) ?_
      obtain ⟨o11, h⟩ := h
      refine x_lmul (by decide +kernel : am_at co_X4_shareHome 55 = some (1, .lmul)) o11 ?_
      refine x_lstore (L' := [(2, 128), (2, v1), (3, 0), (0, v3), (0, v4), (1, v5 * (M11 v1 6)), (3, 0), (0, v7)]) (by decide +kernel : am_at co_X4_shareHome 56 = some (2, .lstore 5)) rfl ?_
      refine x_goto (tgt := 74) (by decide +kernel : am_at co_X4_shareHome 58 = some (3, .goto 16)) rfl ?_
      obtain ⟨o12, h⟩ := h
      refine x_iinc (L' := [(2, 128), (2, v1), (3, 0), (0, v3), (0, v4), (1, v5 * (M11 v1 6)), (3, 0), (0, v7 + 1)]) (by decide +kernel : am_at co_X4_shareHome 74 = some (3, .iinc 7 1)) rfl o12 rfl ?_
      refine x_goto (tgt := 14) (by decide +kernel : am_at co_X4_shareHome 77 = some (3, .goto (-63))) rfl ?_
      exact am_weak (lk (lk (lk (lk (lk (lk (lk (lk ln)))))))) h
set_option maxRecDepth 20000 in
theorem bk_X5_read_0 {d : Nat} {Q : am_Q} {M : am_M} (h : am_cal pg d 94 [(2, 1)] sh_T M (am_cv sh_T fun M1 => am_cal pg d 60 [(2, 6)] sh_T M1 (am_cv sh_T fun M2 => am_cal pg d 81 [(2, 3), (2, 6), (0, 1)] sh_T M2 (am_cv sh_T fun M3 => am_cal pg d 106 [(2, 1), (2, 1000003)] sh_T M3 (am_c0 sh_T fun x4 M4 => ((¬ x4 = (-1) → am_cal pg d 107 [(2, 1)] sh_T (am_up M4 5 3 x4) (am_cv sh_T fun M6 => ((2 < M6 5 3 → am_cal pg d 84 [(2, 3), (0, 0)] sh_T M6 (am_cv sh_T fun M8 => am_cal pg d 102 [(2, 1)] sh_T M8 (am_cv sh_T fun M9 => am_cal pg d 95 [(2, 1)] sh_T M9 (am_c0 sh_T fun x10 M10 => ((¬ x10 = 0 → Q (some (0, 0), sh_T, M10)) ∧ (x10 = 0 → Q (some (0, 1), sh_T, M10))))))) ∧ (M6 5 3 ≤ 2 → am_cal pg d 54 [(2, 5), (0, 0)] sh_T M6 (am_cv sh_T fun M12 => am_cal pg d 102 [(2, 1)] sh_T M12 (am_cv sh_T fun M13 => am_cal pg d 95 [(2, 1)] sh_T M13 (am_c0 sh_T fun x14 M14 => ((¬ x14 = 0 → Q (some (0, 0), sh_T, M14)) ∧ (x14 = 0 → Q (some (0, 1), sh_T, M14)))))))))) ∧ (x4 = (-1) → am_cal pg d 97 [(2, 1), (0, 1)] sh_T (am_up M4 5 3 x4) (am_cv sh_T fun M16 => Q (some (0, 0), sh_T, M16))))))))) : am_g 5 5 co_X5_read d Q 0 [(2, 5)] [] sh_T M := by
  refine x_aload_n (by decide +kernel : am_at co_X5_read 0 = some (1, .aload_n 0)) rfl ?_
  refine x_getF (by decide +kernel : am_at co_X5_read 1 = some (3, .getfield 22)) pq_5_22 (by decide) rfl ob_5 ?_
  refine x_top2 (show 5 + (-4) = 1 from rfl) ?_
  refine x_callV (n := 1) (by decide +kernel : am_at co_X5_read 4 = some (3, .invokevirtual 30)) pq_5_30 pm_X9_start rfl rfl rfl ob_1 h (x_kv fun M1 h => ?_)
  refine x_aload_n (by decide +kernel : am_at co_X5_read 7 = some (1, .aload_n 0)) rfl ?_
  refine x_getF (by decide +kernel : am_at co_X5_read 8 = some (3, .getfield 12)) pq_5_12 (by decide) rfl ob_5 ?_
  refine x_top2 (show 5 + 1 = 6 from rfl) ?_
  refine x_callV (n := 1) (by decide +kernel : am_at co_X5_read 11 = some (3, .invokevirtual 35)) pq_5_35 pm_X6_clear rfl rfl rfl ob_6 h (x_kv fun M2 h => ?_)
  refine x_aload_n (by decide +kernel : am_at co_X5_read 14 = some (1, .aload_n 0)) rfl ?_
  refine x_getF (by decide +kernel : am_at co_X5_read 15 = some (3, .getfield 26)) pq_5_26 (by decide) rfl ob_5 ?_
  refine x_top2 (show 5 + (-2) = 3 from rfl) ?_
  refine x_aload_n (by decide +kernel : am_at co_X5_read 18 = some (1, .aload_n 0)) rfl ?_
  refine x_getF (by decide +kernel : am_at co_X5_read 19 = some (3, .getfield 12)) pq_5_12 (by decide) rfl ob_5 ?_
  refine x_top2 (show 5 + 1 = 6 from rfl) ?_
  refine x_iconst (by decide +kernel : am_at co_X5_read 22 = some (1, .iconst 1)) ?_
  refine x_callV (n := 3) (by decide +kernel : am_at co_X5_read 23 = some (3, .invokevirtual 38)) pq_5_38 pm_X8_write rfl rfl rfl ob_3 h (x_kv fun M3 h => ?_)
  refine x_aload_n (by decide +kernel : am_at co_X5_read 26 = some (1, .aload_n 0)) rfl ?_
  refine x_aload_n (by decide +kernel : am_at co_X5_read 27 = some (1, .aload_n 0)) rfl ?_
  refine x_getF (by decide +kernel : am_at co_X5_read 28 = some (3, .getfield 22)) pq_5_22 (by decide) rfl ob_5 ?_
  refine x_top2 (show 5 + (-4) = 1 from rfl) ?_
  refine x_ldcS (by decide +kernel : am_at co_X5_read 31 = some (2, .ldc 44)) pq_5_44 ?_
  refine x_callV (n := 2) (by decide +kernel : am_at co_X5_read 33 = some (3, .invokevirtual 46)) pq_5_46 pm_X9_wordIn rfl rfl rfl ob_1 h (x_k0 fun x4 M4 h => ?_)
  refine x_putf0 (by decide +kernel : am_at co_X5_read 36 = some (3, .putfield 18)) pq_5_18 rfl ob_5 ?_
  refine x_aload_n (by decide +kernel : am_at co_X5_read 39 = some (1, .aload_n 0)) rfl ?_
  refine x_getf (by decide +kernel : am_at co_X5_read 40 = some (3, .getfield 18)) pq_5_18 rfl ob_5 ?_
  refine x_top0 (show (am_up M4 5 3 x4) 5 3 = x4 from by first | rfl | simp [am_up]) ?_
  refine x_iconst (by decide +kernel : am_at co_X5_read 43 = some (1, .iconst (-1))) ?_
  refine x_icmp (tgt := 57) (by decide +kernel : am_at co_X5_read 44 = some (3, .if_icmp .ne 13)) rfl Iff.rfl (fun c4 => ?_) (fun c4 => ?_)
  · have h := h.1 c4
    refine x_aload_n (by decide +kernel : am_at co_X5_read 57 = some (1, .aload_n 0)) rfl ?_
    refine x_getF (by decide +kernel : am_at co_X5_read 58 = some (3, .getfield 22)) pq_5_22 (by decide) rfl ob_5 ?_
    refine x_top2 (show 5 + (-4) = 1 from rfl) ?_
    refine x_callV (n := 1) (by decide +kernel : am_at co_X5_read 61 = some (3, .invokevirtual 54)) pq_5_54 pm_X9_skipWord rfl rfl rfl ob_1 h (x_kv fun M6 h => ?_)
    refine x_aload_n (by decide +kernel : am_at co_X5_read 64 = some (1, .aload_n 0)) rfl ?_
    refine x_getf (by decide +kernel : am_at co_X5_read 65 = some (3, .getfield 18)) pq_5_18 rfl ob_5 ?_
    refine x_iconst (by decide +kernel : am_at co_X5_read 68 = some (1, .iconst 2)) ?_
    refine x_icmp (tgt := 80) (by decide +kernel : am_at co_X5_read 69 = some (3, .if_icmp .gt 11)) rfl Iff.rfl (fun c6 => ?_) (fun c6 => ?_)
    · have h := h.1 c6
      refine x_aload_n (by decide +kernel : am_at co_X5_read 80 = some (1, .aload_n 0)) rfl ?_
      refine x_getF (by decide +kernel : am_at co_X5_read 81 = some (3, .getfield 26)) pq_5_26 (by decide) rfl ob_5 ?_
      refine x_top2 (show 5 + (-2) = 3 from rfl) ?_
      refine x_iconst (by decide +kernel : am_at co_X5_read 84 = some (1, .iconst 0)) ?_
      refine x_callV (n := 2) (by decide +kernel : am_at co_X5_read 85 = some (3, .invokevirtual 60)) pq_5_60 pm_X8_readSum rfl rfl rfl ob_3 h (x_kv fun M8 h => ?_)
      refine x_aload_n (by decide +kernel : am_at co_X5_read 88 = some (1, .aload_n 0)) rfl ?_
      refine x_getF (by decide +kernel : am_at co_X5_read 89 = some (3, .getfield 22)) pq_5_22 (by decide) rfl ob_5 ?_
      refine x_top2 (show 5 + (-4) = 1 from rfl) ?_
      refine x_callV (n := 1) (by decide +kernel : am_at co_X5_read 92 = some (3, .invokevirtual 63)) pq_5_63 pm_X9_demandEnd rfl rfl rfl ob_1 h (x_kv fun M9 h => ?_)
      refine x_aload_n (by decide +kernel : am_at co_X5_read 95 = some (1, .aload_n 0)) rfl ?_
      refine x_getF (by decide +kernel : am_at co_X5_read 96 = some (3, .getfield 22)) pq_5_22 (by decide) rfl ob_5 ?_
      refine x_top2 (show 5 + (-4) = 1 from rfl) ?_
      refine x_callV (n := 1) (by decide +kernel : am_at co_X5_read 99 = some (3, .invokevirtual 66)) pq_5_66 pm_X9_failed rfl rfl rfl ob_1 h (x_k0 fun x10 M10 h => ?_)
      refine x_if (tgt := 109) (by decide +kernel : am_at co_X5_read 102 = some (3, .ifCond .ne 7)) rfl Iff.rfl (fun c10 => ?_) (fun c10 => ?_)
      · have h := h.1 c10
        refine x_iconst (by decide +kernel : am_at co_X5_read 109 = some (1, .iconst 0)) ?_
        exact x_zret (by decide +kernel : am_at co_X5_read 110 = some (1, .ireturn)) (by decide) h
      · have c10 := (Classical.not_not.mp c10)
        have h := h.2 c10
        refine x_iconst (by decide +kernel : am_at co_X5_read 105 = some (1, .iconst 1)) ?_
        refine x_goto (tgt := 110) (by decide +kernel : am_at co_X5_read 106 = some (3, .goto 4)) rfl ?_
        exact x_zret (by decide +kernel : am_at co_X5_read 110 = some (1, .ireturn)) (by decide) h
    · have c6 := (Int.not_lt.mp c6)
      have h := h.2 c6
      refine x_aload_n (by decide +kernel : am_at co_X5_read 72 = some (1, .aload_n 0)) rfl ?_
      refine x_iconst (by decide +kernel : am_at co_X5_read 73 = some (1, .iconst 0)) ?_
      refine x_callV (n := 2) (by decide +kernel : am_at co_X5_read 74 = some (3, .invokevirtual 57)) pq_5_57 pm_X5_readTest rfl rfl rfl ob_5 h (x_kv fun M12 h => ?_)
      refine x_goto (tgt := 88) (by decide +kernel : am_at co_X5_read 77 = some (3, .goto 11)) rfl ?_
      refine x_aload_n (by decide +kernel : am_at co_X5_read 88 = some (1, .aload_n 0)) rfl ?_
      refine x_getF (by decide +kernel : am_at co_X5_read 89 = some (3, .getfield 22)) pq_5_22 (by decide) rfl ob_5 ?_
      refine x_top2 (show 5 + (-4) = 1 from rfl) ?_
      refine x_callV (n := 1) (by decide +kernel : am_at co_X5_read 92 = some (3, .invokevirtual 63)) pq_5_63 pm_X9_demandEnd rfl rfl rfl ob_1 h (x_kv fun M13 h => ?_)
      refine x_aload_n (by decide +kernel : am_at co_X5_read 95 = some (1, .aload_n 0)) rfl ?_
      refine x_getF (by decide +kernel : am_at co_X5_read 96 = some (3, .getfield 22)) pq_5_22 (by decide) rfl ob_5 ?_
      refine x_top2 (show 5 + (-4) = 1 from rfl) ?_
      refine x_callV (n := 1) (by decide +kernel : am_at co_X5_read 99 = some (3, .invokevirtual 66)) pq_5_66 pm_X9_failed rfl rfl rfl ob_1 h (x_k0 fun x14 M14 h => ?_)
      refine x_if (tgt := 109) (by decide +kernel : am_at co_X5_read 102 = some (3, .ifCond .ne 7)) rfl Iff.rfl (fun c14 => ?_) (fun c14 => ?_)
      · have h := h.1 c14
        refine x_iconst (by decide +kernel : am_at co_X5_read 109 = some (1, .iconst 0)) ?_
        exact x_zret (by decide +kernel : am_at co_X5_read 110 = some (1, .ireturn)) (by decide) h
      · have c14 := (Classical.not_not.mp c14)
        have h := h.2 c14
        refine x_iconst (by decide +kernel : am_at co_X5_read 105 = some (1, .iconst 1)) ?_
        refine x_goto (tgt := 110) (by decide +kernel : am_at co_X5_read 106 = some (3, .goto 4)) rfl ?_
        exact x_zret (by decide +kernel : am_at co_X5_read 110 = some (1, .ireturn)) (by decide) h
  · have c4 := (Classical.not_not.mp c4)
    have h := h.2 c4
    refine x_aload_n (by decide +kernel : am_at co_X5_read 47 = some (1, .aload_n 0)) rfl ?_
    refine x_getF (by decide +kernel : am_at co_X5_read 48 = some (3, .getfield 22)) pq_5_22 (by decide) rfl ob_5 ?_
    refine x_top2 (show 5 + (-4) = 1 from rfl) ?_
    refine x_iconst (by decide +kernel : am_at co_X5_read 51 = some (1, .iconst 1)) ?_
    refine x_callV (n := 2) (by decide +kernel : am_at co_X5_read 52 = some (3, .invokevirtual 50)) pq_5_50 pm_X9_blameHere rfl rfl rfl ob_1 h (x_kv fun M16 h => ?_)
    refine x_iconst (by decide +kernel : am_at co_X5_read 55 = some (1, .iconst 0)) ?_
    exact x_zret (by decide +kernel : am_at co_X5_read 56 = some (1, .ireturn)) (by decide) h
set_option maxRecDepth 20000 in
theorem bk_X5_readTest_0 {d : Nat} {Q : am_Q} {M : am_M} {v1 : Int} (h : am_cal pg d 55 [(2, 5), (0, v1)] sh_T M (am_cv sh_T fun M1 => am_g 5 9 co_X5_readTest d Q 7 [(2, 5), (0, v1), (0, 0)] [] sh_T M1)) : am_g 5 9 co_X5_readTest d Q 0 [(2, 5), (0, v1), (3, 0)] [] sh_T M := by
  refine x_aload_n (by decide +kernel : am_at co_X5_readTest 0 = some (1, .aload_n 0)) rfl ?_
  refine x_iload_n (by decide +kernel : am_at co_X5_readTest 1 = some (1, .iload_n 1)) rfl ?_
  refine x_callV (n := 2) (by decide +kernel : am_at co_X5_readTest 2 = some (3, .invokevirtual 70)) pq_5_70 pm_X5_readBoth rfl rfl rfl ob_5 h (x_kv fun M1 h => ?_)
  refine x_iconst (by decide +kernel : am_at co_X5_readTest 5 = some (1, .iconst 0)) ?_
  refine x_istore_n (L' := [(2, 5), (0, v1), (0, 0)]) (by decide +kernel : am_at co_X5_readTest 6 = some (1, .istore_n 2)) rfl ?_
  exact am_weak (lk (lk (lk ln))) h
set_option maxRecDepth 20000 in
theorem bk_X5_readTest_7 {d : Nat} {Q : am_Q} {M : am_M} {v1 v2 : Int} (h : ((1600 ≤ v2 → Q (none, sh_T, M)) ∧ (v2 < 1600 → am_cal pg d 95 [(2, 1)] sh_T M (am_c0 sh_T fun x2 M2 => ((¬ x2 = 0 → Q (none, sh_T, M2)) ∧ (x2 = 0 → am_cal pg d 108 [(2, 1), (2, 1000004)] sh_T M2 (am_c0 sh_T fun x4 M4 => ((x4 = 0 → Q (none, sh_T, M4)) ∧ (¬ x4 = 0 → am_cal pg d 55 [(2, 5), (0, v1)] sh_T M4 (am_cv sh_T fun M6 => am_cal pg d 82 [(2, 3), (0, (-11))] sh_T M6 (am_cv sh_T fun M7 => am_r (v2 + 1) ∧ am_g 5 9 co_X5_readTest d Q 7 [(2, 5), (0, v1), (0, v2 + 1)] [] sh_T M7))))))))))) : am_g 5 9 co_X5_readTest d Q 7 [(2, 5), (0, v1), (0, v2)] [] sh_T M := by
  refine x_iload_n (by decide +kernel : am_at co_X5_readTest 7 = some (1, .iload_n 2)) rfl ?_
  refine x_sipush (by decide +kernel : am_at co_X5_readTest 8 = some (3, .sipush 1600)) ?_
  refine x_icmp (tgt := 56) (by decide +kernel : am_at co_X5_readTest 11 = some (3, .if_icmp .ge 45)) rfl Iff.rfl (fun c0 => ?_) (fun c0 => ?_)
  · have h := h.1 c0
    exact x_vret (by decide +kernel : am_at co_X5_readTest 56 = some (1, .return_)) h
  · have c0 := (Int.not_le.mp c0)
    have h := h.2 c0
    refine x_aload_n (by decide +kernel : am_at co_X5_readTest 14 = some (1, .aload_n 0)) rfl ?_
    refine x_getF (by decide +kernel : am_at co_X5_readTest 15 = some (3, .getfield 22)) pq_5_22 (by decide) rfl ob_5 ?_
    refine x_top2 (show 5 + (-4) = 1 from rfl) ?_
    refine x_callV (n := 1) (by decide +kernel : am_at co_X5_readTest 18 = some (3, .invokevirtual 66)) pq_5_66 pm_X9_failed rfl rfl rfl ob_1 h (x_k0 fun x2 M2 h => ?_)
    refine x_if (tgt := 56) (by decide +kernel : am_at co_X5_readTest 21 = some (3, .ifCond .ne 35)) rfl Iff.rfl (fun c2 => ?_) (fun c2 => ?_)
    · have h := h.1 c2
      exact x_vret (by decide +kernel : am_at co_X5_readTest 56 = some (1, .return_)) h
    · have c2 := (Classical.not_not.mp c2)
      have h := h.2 c2
      refine x_aload_n (by decide +kernel : am_at co_X5_readTest 24 = some (1, .aload_n 0)) rfl ?_
      refine x_getF (by decide +kernel : am_at co_X5_readTest 25 = some (3, .getfield 22)) pq_5_22 (by decide) rfl ob_5 ?_
      refine x_top2 (show 5 + (-4) = 1 from rfl) ?_
      refine x_ldcS (by decide +kernel : am_at co_X5_readTest 28 = some (2, .ldc 73)) pq_5_73 ?_
      refine x_callV (n := 2) (by decide +kernel : am_at co_X5_readTest 30 = some (3, .invokevirtual 75)) pq_5_75 pm_X9_takeWord rfl rfl rfl ob_1 h (x_k0 fun x4 M4 h => ?_)
      refine x_if (tgt := 56) (by decide +kernel : am_at co_X5_readTest 33 = some (3, .ifCond .eq 23)) rfl Iff.rfl (fun c4 => ?_) (fun c4 => ?_)
      · have h := h.1 c4
        exact x_vret (by decide +kernel : am_at co_X5_readTest 56 = some (1, .return_)) h
      · have c4 := c4
        have h := h.2 c4
        refine x_aload_n (by decide +kernel : am_at co_X5_readTest 36 = some (1, .aload_n 0)) rfl ?_
        refine x_iload_n (by decide +kernel : am_at co_X5_readTest 37 = some (1, .iload_n 1)) rfl ?_
        refine x_callV (n := 2) (by decide +kernel : am_at co_X5_readTest 38 = some (3, .invokevirtual 70)) pq_5_70 pm_X5_readBoth rfl rfl rfl ob_5 h (x_kv fun M6 h => ?_)
        refine x_aload_n (by decide +kernel : am_at co_X5_readTest 41 = some (1, .aload_n 0)) rfl ?_
        refine x_getF (by decide +kernel : am_at co_X5_readTest 42 = some (3, .getfield 26)) pq_5_26 (by decide) rfl ob_5 ?_
        refine x_top2 (show 5 + (-2) = 3 from rfl) ?_
        refine x_bipush (by decide +kernel : am_at co_X5_readTest 45 = some (2, .bipush (-11))) ?_
        refine x_callV (n := 2) (by decide +kernel : am_at co_X5_readTest 47 = some (3, .invokevirtual 79)) pq_5_79 pm_X8_emit rfl rfl rfl ob_3 h (x_kv fun M7 h => ?_)
        obtain ⟨o7, h⟩ := h
        refine x_iinc (L' := [(2, 5), (0, v1), (0, v2 + 1)]) (by decide +kernel : am_at co_X5_readTest 50 = some (3, .iinc 2 1)) rfl o7 rfl ?_
        refine x_goto (tgt := 7) (by decide +kernel : am_at co_X5_readTest 53 = some (3, .goto (-46))) rfl ?_
        exact am_weak (lk (lk (lk ln))) h
set_option maxRecDepth 20000 in
theorem bk_X5_readBoth_0 {d : Nat} {Q : am_Q} {M : am_M} {v1 : Int} (h : am_cal pg d 56 [(2, 5), (0, v1)] sh_T M (am_cv sh_T fun M1 => am_g 5 9 co_X5_readBoth d Q 7 [(2, 5), (0, v1), (0, 0)] [] sh_T M1)) : am_g 5 9 co_X5_readBoth d Q 0 [(2, 5), (0, v1), (3, 0)] [] sh_T M := by
  refine x_aload_n (by decide +kernel : am_at co_X5_readBoth 0 = some (1, .aload_n 0)) rfl ?_
  refine x_iload_n (by decide +kernel : am_at co_X5_readBoth 1 = some (1, .iload_n 1)) rfl ?_
  refine x_callV (n := 2) (by decide +kernel : am_at co_X5_readBoth 2 = some (3, .invokevirtual 82)) pq_5_82 pm_X5_readFact rfl rfl rfl ob_5 h (x_kv fun M1 h => ?_)
  refine x_iconst (by decide +kernel : am_at co_X5_readBoth 5 = some (1, .iconst 0)) ?_
  refine x_istore_n (L' := [(2, 5), (0, v1), (0, 0)]) (by decide +kernel : am_at co_X5_readBoth 6 = some (1, .istore_n 2)) rfl ?_
  exact am_weak (lk (lk (lk ln))) h
set_option maxRecDepth 20000 in
theorem bk_X5_readBoth_7 {d : Nat} {Q : am_Q} {M : am_M} {v1 v2 : Int} (h : ((1600 ≤ v2 → Q (none, sh_T, M)) ∧ (v2 < 1600 → am_cal pg d 95 [(2, 1)] sh_T M (am_c0 sh_T fun x2 M2 => ((¬ x2 = 0 → Q (none, sh_T, M2)) ∧ (x2 = 0 → am_cal pg d 108 [(2, 1), (2, 1000005)] sh_T M2 (am_c0 sh_T fun x4 M4 => ((x4 = 0 → Q (none, sh_T, M4)) ∧ (¬ x4 = 0 → am_cal pg d 56 [(2, 5), (0, v1)] sh_T M4 (am_cv sh_T fun M6 => am_cal pg d 82 [(2, 3), (0, (-10))] sh_T M6 (am_cv sh_T fun M7 => am_r (v2 + 1) ∧ am_g 5 9 co_X5_readBoth d Q 7 [(2, 5), (0, v1), (0, v2 + 1)] [] sh_T M7))))))))))) : am_g 5 9 co_X5_readBoth d Q 7 [(2, 5), (0, v1), (0, v2)] [] sh_T M := by
  refine x_iload_n (by decide +kernel : am_at co_X5_readBoth 7 = some (1, .iload_n 2)) rfl ?_
  refine x_sipush (by decide +kernel : am_at co_X5_readBoth 8 = some (3, .sipush 1600)) ?_
  refine x_icmp (tgt := 56) (by decide +kernel : am_at co_X5_readBoth 11 = some (3, .if_icmp .ge 45)) rfl Iff.rfl (fun c0 => ?_) (fun c0 => ?_)
  · have h := h.1 c0
    exact x_vret (by decide +kernel : am_at co_X5_readBoth 56 = some (1, .return_)) h
  · have c0 := (Int.not_le.mp c0)
    have h := h.2 c0
    refine x_aload_n (by decide +kernel : am_at co_X5_readBoth 14 = some (1, .aload_n 0)) rfl ?_
    refine x_getF (by decide +kernel : am_at co_X5_readBoth 15 = some (3, .getfield 22)) pq_5_22 (by decide) rfl ob_5 ?_
    refine x_top2 (show 5 + (-4) = 1 from rfl) ?_
    refine x_callV (n := 1) (by decide +kernel : am_at co_X5_readBoth 18 = some (3, .invokevirtual 66)) pq_5_66 pm_X9_failed rfl rfl rfl ob_1 h (x_k0 fun x2 M2 h => ?_)
    refine x_if (tgt := 56) (by decide +kernel : am_at co_X5_readBoth 21 = some (3, .ifCond .ne 35)) rfl Iff.rfl (fun c2 => ?_) (fun c2 => ?_)
    · have h := h.1 c2
      exact x_vret (by decide +kernel : am_at co_X5_readBoth 56 = some (1, .return_)) h
    · have c2 := (Classical.not_not.mp c2)
      have h := h.2 c2
      refine x_aload_n (by decide +kernel : am_at co_X5_readBoth 24 = some (1, .aload_n 0)) rfl ?_
      refine x_getF (by decide +kernel : am_at co_X5_readBoth 25 = some (3, .getfield 22)) pq_5_22 (by decide) rfl ob_5 ?_
      refine x_top2 (show 5 + (-4) = 1 from rfl) ?_
      refine x_ldcS (by decide +kernel : am_at co_X5_readBoth 28 = some (2, .ldc 85)) pq_5_85 ?_
      refine x_callV (n := 2) (by decide +kernel : am_at co_X5_readBoth 30 = some (3, .invokevirtual 75)) pq_5_75 pm_X9_takeWord rfl rfl rfl ob_1 h (x_k0 fun x4 M4 h => ?_)
      refine x_if (tgt := 56) (by decide +kernel : am_at co_X5_readBoth 33 = some (3, .ifCond .eq 23)) rfl Iff.rfl (fun c4 => ?_) (fun c4 => ?_)
      · have h := h.1 c4
        exact x_vret (by decide +kernel : am_at co_X5_readBoth 56 = some (1, .return_)) h
      · have c4 := c4
        have h := h.2 c4
        refine x_aload_n (by decide +kernel : am_at co_X5_readBoth 36 = some (1, .aload_n 0)) rfl ?_
        refine x_iload_n (by decide +kernel : am_at co_X5_readBoth 37 = some (1, .iload_n 1)) rfl ?_
        refine x_callV (n := 2) (by decide +kernel : am_at co_X5_readBoth 38 = some (3, .invokevirtual 82)) pq_5_82 pm_X5_readFact rfl rfl rfl ob_5 h (x_kv fun M6 h => ?_)
        refine x_aload_n (by decide +kernel : am_at co_X5_readBoth 41 = some (1, .aload_n 0)) rfl ?_
        refine x_getF (by decide +kernel : am_at co_X5_readBoth 42 = some (3, .getfield 26)) pq_5_26 (by decide) rfl ob_5 ?_
        refine x_top2 (show 5 + (-2) = 3 from rfl) ?_
        refine x_bipush (by decide +kernel : am_at co_X5_readBoth 45 = some (2, .bipush (-10))) ?_
        refine x_callV (n := 2) (by decide +kernel : am_at co_X5_readBoth 47 = some (3, .invokevirtual 79)) pq_5_79 pm_X8_emit rfl rfl rfl ob_3 h (x_kv fun M7 h => ?_)
        obtain ⟨o7, h⟩ := h
        refine x_iinc (L' := [(2, 5), (0, v1), (0, v2 + 1)]) (by decide +kernel : am_at co_X5_readBoth 50 = some (3, .iinc 2 1)) rfl o7 rfl ?_
        refine x_goto (tgt := 7) (by decide +kernel : am_at co_X5_readBoth 53 = some (3, .goto (-46))) rfl ?_
        exact am_weak (lk (lk (lk ln))) h
set_option maxRecDepth 20000 in
theorem bk_X5_readFact_0 {d : Nat} {Q : am_Q} {M : am_M} {v1 : Int} (h : am_cal pg d 106 [(2, 1), (2, 1000006)] sh_T M (am_c0 sh_T fun x1 M1 => ((x1 = (-1) → am_cal pg d 99 [(2, 1), (0, 91)] sh_T M1 (am_c0 sh_T fun x3 M3 => ((x3 = 0 → am_cal pg d 108 [(2, 1), (2, 1000007)] sh_T M3 (am_c0 sh_T fun x5 M5 => ((x5 = 0 → am_cal pg d 84 [(2, 3), (0, v1)] sh_T M5 (am_cv sh_T fun M7 => am_cal pg d 99 [(2, 1), (0, 60)] sh_T M7 (am_c0 sh_T fun x8 M8 => ((x8 = 0 → am_cal pg d 99 [(2, 1), (0, 62)] sh_T M8 (am_c0 sh_T fun x10 M10 => ((x10 = 0 → am_cal pg d 99 [(2, 1), (0, 61)] sh_T M10 (am_c0 sh_T fun x12 M12 => ((x12 = 0 → am_cal pg d 97 [(2, 1), (0, 1)] sh_T M12 (am_cv sh_T fun M14 => Q (none, sh_T, M14))) ∧ (¬ x12 = 0 → am_cal pg d 100 [(2, 1)] sh_T M12 (am_cv sh_T fun M15 => am_cal pg d 84 [(2, 3), (0, v1)] sh_T M15 (am_cv sh_T fun M16 => am_cal pg d 82 [(2, 3), (0, (-9))] sh_T M16 (am_cv sh_T fun M17 => Q (none, sh_T, M17)))))))) ∧ (¬ x10 = 0 → am_cal pg d 100 [(2, 1)] sh_T M10 (am_cv sh_T fun M18 => am_cal pg d 84 [(2, 3), (0, v1)] sh_T M18 (am_cv sh_T fun M19 => am_cal pg d 82 [(2, 3), (0, (-8))] sh_T M19 (am_cv sh_T fun M20 => Q (none, sh_T, M20)))))))) ∧ (¬ x8 = 0 → am_cal pg d 100 [(2, 1)] sh_T M8 (am_cv sh_T fun M21 => am_cal pg d 84 [(2, 3), (0, v1)] sh_T M21 (am_cv sh_T fun M22 => am_cal pg d 82 [(2, 3), (0, (-7))] sh_T M22 (am_cv sh_T fun M23 => Q (none, sh_T, M23))))))))) ∧ (¬ x5 = 0 → am_cal pg d 82 [(2, 3), (0, 1)] sh_T M5 (am_cv sh_T fun M24 => Q (none, sh_T, M24)))))) ∧ (¬ x3 = 0 → am_cal pg d 83 [(2, 3), (0, v1)] sh_T M3 (am_c0 sh_T fun x25 M25 => ((x25 = 0 → Q (none, sh_T, M25)) ∧ (¬ x25 = 0 → am_cal pg d 100 [(2, 1)] sh_T M25 (am_cv sh_T fun M27 => am_r (v1 + 1) ∧ am_cal pg d 54 [(2, 5), (0, v1 + 1)] sh_T M27 (am_cv sh_T fun M29 => am_cal pg d 101 [(2, 1), (0, 93)] sh_T M29 (am_cv sh_T fun M30 => Q (none, sh_T, M30))))))))))) ∧ (¬ x1 = (-1) → am_cal pg d 83 [(2, 3), (0, v1)] sh_T M1 (am_c0 sh_T fun x31 M31 => ((x31 = 0 → Q (none, sh_T, M31)) ∧ (¬ x31 = 0 → am_cal pg d 107 [(2, 1)] sh_T M31 (am_cv sh_T fun M33 => am_r (v1 + 1) ∧ am_cal pg d 56 [(2, 5), (0, v1 + 1)] sh_T M33 (am_cv sh_T fun M35 => am_cal pg d 82 [(2, 3), (0, (-12))] sh_T M35 (am_cv sh_T fun M36 => Q (none, sh_T, M36))))))))))) : am_g 5 9 co_X5_readFact d Q 0 [(2, 5), (0, v1), (3, 0)] [] sh_T M := by
  refine x_aload_n (by decide +kernel : am_at co_X5_readFact 0 = some (1, .aload_n 0)) rfl ?_
  refine x_getF (by decide +kernel : am_at co_X5_readFact 1 = some (3, .getfield 22)) pq_5_22 (by decide) rfl ob_5 ?_
  refine x_top2 (show 5 + (-4) = 1 from rfl) ?_
  refine x_ldcS (by decide +kernel : am_at co_X5_readFact 4 = some (2, .ldc 87)) pq_5_87 ?_
  refine x_callV (n := 2) (by decide +kernel : am_at co_X5_readFact 6 = some (3, .invokevirtual 46)) pq_5_46 pm_X9_wordIn rfl rfl rfl ob_1 h (x_k0 fun x1 M1 h => ?_)
  refine x_iconst (by decide +kernel : am_at co_X5_readFact 9 = some (1, .iconst (-1))) ?_
  refine x_icmp (tgt := 50) (by decide +kernel : am_at co_X5_readFact 10 = some (3, .if_icmp .eq 40)) rfl Iff.rfl (fun c1 => ?_) (fun c1 => ?_)
  · have h := h.1 c1
    refine x_aload_n (by decide +kernel : am_at co_X5_readFact 50 = some (1, .aload_n 0)) rfl ?_
    refine x_getF (by decide +kernel : am_at co_X5_readFact 51 = some (3, .getfield 22)) pq_5_22 (by decide) rfl ob_5 ?_
    refine x_top2 (show 5 + (-4) = 1 from rfl) ?_
    refine x_bipush (by decide +kernel : am_at co_X5_readFact 54 = some (2, .bipush 91)) ?_
    refine x_callV (n := 2) (by decide +kernel : am_at co_X5_readFact 56 = some (3, .invokevirtual 93)) pq_5_93 pm_X9_sees rfl rfl rfl ob_1 h (x_k0 fun x3 M3 h => ?_)
    refine x_if (tgt := 99) (by decide +kernel : am_at co_X5_readFact 59 = some (3, .ifCond .eq 40)) rfl Iff.rfl (fun c3 => ?_) (fun c3 => ?_)
    · have h := h.1 c3
      refine x_aload_n (by decide +kernel : am_at co_X5_readFact 99 = some (1, .aload_n 0)) rfl ?_
      refine x_getF (by decide +kernel : am_at co_X5_readFact 100 = some (3, .getfield 22)) pq_5_22 (by decide) rfl ob_5 ?_
      refine x_top2 (show 5 + (-4) = 1 from rfl) ?_
      refine x_ldcS (by decide +kernel : am_at co_X5_readFact 103 = some (2, .ldc 104)) pq_5_104 ?_
      refine x_callV (n := 2) (by decide +kernel : am_at co_X5_readFact 105 = some (3, .invokevirtual 75)) pq_5_75 pm_X9_takeWord rfl rfl rfl ob_1 h (x_k0 fun x5 M5 h => ?_)
      refine x_if (tgt := 122) (by decide +kernel : am_at co_X5_readFact 108 = some (3, .ifCond .eq 14)) rfl Iff.rfl (fun c5 => ?_) (fun c5 => ?_)
      · have h := h.1 c5
        refine x_aload_n (by decide +kernel : am_at co_X5_readFact 122 = some (1, .aload_n 0)) rfl ?_
        refine x_getF (by decide +kernel : am_at co_X5_readFact 123 = some (3, .getfield 26)) pq_5_26 (by decide) rfl ob_5 ?_
        refine x_top2 (show 5 + (-2) = 3 from rfl) ?_
        refine x_iload_n (by decide +kernel : am_at co_X5_readFact 126 = some (1, .iload_n 1)) rfl ?_
        refine x_callV (n := 2) (by decide +kernel : am_at co_X5_readFact 127 = some (3, .invokevirtual 60)) pq_5_60 pm_X8_readSum rfl rfl rfl ob_3 h (x_kv fun M7 h => ?_)
        refine x_aload_n (by decide +kernel : am_at co_X5_readFact 130 = some (1, .aload_n 0)) rfl ?_
        refine x_getF (by decide +kernel : am_at co_X5_readFact 131 = some (3, .getfield 22)) pq_5_22 (by decide) rfl ob_5 ?_
        refine x_top2 (show 5 + (-4) = 1 from rfl) ?_
        refine x_bipush (by decide +kernel : am_at co_X5_readFact 134 = some (2, .bipush 60)) ?_
        refine x_callV (n := 2) (by decide +kernel : am_at co_X5_readFact 136 = some (3, .invokevirtual 93)) pq_5_93 pm_X9_sees rfl rfl rfl ob_1 h (x_k0 fun x8 M8 h => ?_)
        refine x_if (tgt := 147) (by decide +kernel : am_at co_X5_readFact 139 = some (3, .ifCond .eq 8)) rfl Iff.rfl (fun c8 => ?_) (fun c8 => ?_)
        · have h := h.1 c8
          refine x_aload_n (by decide +kernel : am_at co_X5_readFact 147 = some (1, .aload_n 0)) rfl ?_
          refine x_getF (by decide +kernel : am_at co_X5_readFact 148 = some (3, .getfield 22)) pq_5_22 (by decide) rfl ob_5 ?_
          refine x_top2 (show 5 + (-4) = 1 from rfl) ?_
          refine x_bipush (by decide +kernel : am_at co_X5_readFact 151 = some (2, .bipush 62)) ?_
          refine x_callV (n := 2) (by decide +kernel : am_at co_X5_readFact 153 = some (3, .invokevirtual 93)) pq_5_93 pm_X9_sees rfl rfl rfl ob_1 h (x_k0 fun x10 M10 h => ?_)
          refine x_if (tgt := 164) (by decide +kernel : am_at co_X5_readFact 156 = some (3, .ifCond .eq 8)) rfl Iff.rfl (fun c10 => ?_) (fun c10 => ?_)
          · have h := h.1 c10
            refine x_aload_n (by decide +kernel : am_at co_X5_readFact 164 = some (1, .aload_n 0)) rfl ?_
            refine x_getF (by decide +kernel : am_at co_X5_readFact 165 = some (3, .getfield 22)) pq_5_22 (by decide) rfl ob_5 ?_
            refine x_top2 (show 5 + (-4) = 1 from rfl) ?_
            refine x_bipush (by decide +kernel : am_at co_X5_readFact 168 = some (2, .bipush 61)) ?_
            refine x_callV (n := 2) (by decide +kernel : am_at co_X5_readFact 170 = some (3, .invokevirtual 93)) pq_5_93 pm_X9_sees rfl rfl rfl ob_1 h (x_k0 fun x12 M12 h => ?_)
            refine x_if (tgt := 181) (by decide +kernel : am_at co_X5_readFact 173 = some (3, .ifCond .eq 8)) rfl Iff.rfl (fun c12 => ?_) (fun c12 => ?_)
            · have h := h.1 c12
              refine x_iconst (by decide +kernel : am_at co_X5_readFact 181 = some (1, .iconst 0)) ?_
              refine x_istore_n (L' := [(2, 5), (0, v1), (0, 0)]) (by decide +kernel : am_at co_X5_readFact 182 = some (1, .istore_n 2)) rfl ?_
              refine x_iload_n (by decide +kernel : am_at co_X5_readFact 183 = some (1, .iload_n 2)) rfl ?_
              refine x_if (tgt := 198) (by decide +kernel : am_at co_X5_readFact 184 = some (3, .ifCond .ne 14)) rfl Iff.rfl (fun q => absurd q (show ¬ (¬ (0 : Int) = 0) by decide)) (fun q => ?_)
              refine x_aload_n (by decide +kernel : am_at co_X5_readFact 187 = some (1, .aload_n 0)) rfl ?_
              refine x_getF (by decide +kernel : am_at co_X5_readFact 188 = some (3, .getfield 22)) pq_5_22 (by decide) rfl ob_5 ?_
              refine x_top2 (show 5 + (-4) = 1 from rfl) ?_
              refine x_iconst (by decide +kernel : am_at co_X5_readFact 191 = some (1, .iconst 1)) ?_
              refine x_callV (n := 2) (by decide +kernel : am_at co_X5_readFact 192 = some (3, .invokevirtual 50)) pq_5_50 pm_X9_blameHere rfl rfl rfl ob_1 h (x_kv fun M14 h => ?_)
              refine x_goto (tgt := 221) (by decide +kernel : am_at co_X5_readFact 195 = some (3, .goto 26)) rfl ?_
              exact x_vret (by decide +kernel : am_at co_X5_readFact 221 = some (1, .return_)) h
            · have c12 := c12
              have h := h.2 c12
              refine x_bipush (by decide +kernel : am_at co_X5_readFact 176 = some (2, .bipush (-9))) ?_
              refine x_goto (tgt := 182) (by decide +kernel : am_at co_X5_readFact 178 = some (3, .goto 4)) rfl ?_
              refine x_istore_n (L' := [(2, 5), (0, v1), (0, (-9))]) (by decide +kernel : am_at co_X5_readFact 182 = some (1, .istore_n 2)) rfl ?_
              refine x_iload_n (by decide +kernel : am_at co_X5_readFact 183 = some (1, .iload_n 2)) rfl ?_
              refine x_if (tgt := 198) (by decide +kernel : am_at co_X5_readFact 184 = some (3, .ifCond .ne 14)) rfl Iff.rfl (fun q => ?_) (fun q => absurd (show ¬ (-9 : Int) = 0 by decide) q)
              refine x_aload_n (by decide +kernel : am_at co_X5_readFact 198 = some (1, .aload_n 0)) rfl ?_
              refine x_getF (by decide +kernel : am_at co_X5_readFact 199 = some (3, .getfield 22)) pq_5_22 (by decide) rfl ob_5 ?_
              refine x_top2 (show 5 + (-4) = 1 from rfl) ?_
              refine x_callV (n := 1) (by decide +kernel : am_at co_X5_readFact 202 = some (3, .invokevirtual 97)) pq_5_97 pm_X9_step rfl rfl rfl ob_1 h (x_kv fun M15 h => ?_)
              refine x_aload_n (by decide +kernel : am_at co_X5_readFact 205 = some (1, .aload_n 0)) rfl ?_
              refine x_getF (by decide +kernel : am_at co_X5_readFact 206 = some (3, .getfield 26)) pq_5_26 (by decide) rfl ob_5 ?_
              refine x_top2 (show 5 + (-2) = 3 from rfl) ?_
              refine x_iload_n (by decide +kernel : am_at co_X5_readFact 209 = some (1, .iload_n 1)) rfl ?_
              refine x_callV (n := 2) (by decide +kernel : am_at co_X5_readFact 210 = some (3, .invokevirtual 60)) pq_5_60 pm_X8_readSum rfl rfl rfl ob_3 h (x_kv fun M16 h => ?_)
              refine x_aload_n (by decide +kernel : am_at co_X5_readFact 213 = some (1, .aload_n 0)) rfl ?_
              refine x_getF (by decide +kernel : am_at co_X5_readFact 214 = some (3, .getfield 26)) pq_5_26 (by decide) rfl ob_5 ?_
              refine x_top2 (show 5 + (-2) = 3 from rfl) ?_
              refine x_iload_n (by decide +kernel : am_at co_X5_readFact 217 = some (1, .iload_n 2)) rfl ?_
              refine x_callV (n := 2) (by decide +kernel : am_at co_X5_readFact 218 = some (3, .invokevirtual 79)) pq_5_79 pm_X8_emit rfl rfl rfl ob_3 h (x_kv fun M17 h => ?_)
              exact x_vret (by decide +kernel : am_at co_X5_readFact 221 = some (1, .return_)) h
          · have c10 := c10
            have h := h.2 c10
            refine x_bipush (by decide +kernel : am_at co_X5_readFact 159 = some (2, .bipush (-8))) ?_
            refine x_goto (tgt := 182) (by decide +kernel : am_at co_X5_readFact 161 = some (3, .goto 21)) rfl ?_
            refine x_istore_n (L' := [(2, 5), (0, v1), (0, (-8))]) (by decide +kernel : am_at co_X5_readFact 182 = some (1, .istore_n 2)) rfl ?_
            refine x_iload_n (by decide +kernel : am_at co_X5_readFact 183 = some (1, .iload_n 2)) rfl ?_
            refine x_if (tgt := 198) (by decide +kernel : am_at co_X5_readFact 184 = some (3, .ifCond .ne 14)) rfl Iff.rfl (fun q => ?_) (fun q => absurd (show ¬ (-8 : Int) = 0 by decide) q)
            refine x_aload_n (by decide +kernel : am_at co_X5_readFact 198 = some (1, .aload_n 0)) rfl ?_
            refine x_getF (by decide +kernel : am_at co_X5_readFact 199 = some (3, .getfield 22)) pq_5_22 (by decide) rfl ob_5 ?_
            refine x_top2 (show 5 + (-4) = 1 from rfl) ?_
            refine x_callV (n := 1) (by decide +kernel : am_at co_X5_readFact 202 = some (3, .invokevirtual 97)) pq_5_97 pm_X9_step rfl rfl rfl ob_1 h (x_kv fun M18 h => ?_)
            refine x_aload_n (by decide +kernel : am_at co_X5_readFact 205 = some (1, .aload_n 0)) rfl ?_
            refine x_getF (by decide +kernel : am_at co_X5_readFact 206 = some (3, .getfield 26)) pq_5_26 (by decide) rfl ob_5 ?_
            refine x_top2 (show 5 + (-2) = 3 from rfl) ?_
            refine x_iload_n (by decide +kernel : am_at co_X5_readFact 209 = some (1, .iload_n 1)) rfl ?_
            refine x_callV (n := 2) (by decide +kernel : am_at co_X5_readFact 210 = some (3, .invokevirtual 60)) pq_5_60 pm_X8_readSum rfl rfl rfl ob_3 h (x_kv fun M19 h => ?_)
            refine x_aload_n (by decide +kernel : am_at co_X5_readFact 213 = some (1, .aload_n 0)) rfl ?_
            refine x_getF (by decide +kernel : am_at co_X5_readFact 214 = some (3, .getfield 26)) pq_5_26 (by decide) rfl ob_5 ?_
            refine x_top2 (show 5 + (-2) = 3 from rfl) ?_
            refine x_iload_n (by decide +kernel : am_at co_X5_readFact 217 = some (1, .iload_n 2)) rfl ?_
            refine x_callV (n := 2) (by decide +kernel : am_at co_X5_readFact 218 = some (3, .invokevirtual 79)) pq_5_79 pm_X8_emit rfl rfl rfl ob_3 h (x_kv fun M20 h => ?_)
            exact x_vret (by decide +kernel : am_at co_X5_readFact 221 = some (1, .return_)) h
        · have c8 := c8
          have h := h.2 c8
          refine x_bipush (by decide +kernel : am_at co_X5_readFact 142 = some (2, .bipush (-7))) ?_
          refine x_goto (tgt := 182) (by decide +kernel : am_at co_X5_readFact 144 = some (3, .goto 38)) rfl ?_
          refine x_istore_n (L' := [(2, 5), (0, v1), (0, (-7))]) (by decide +kernel : am_at co_X5_readFact 182 = some (1, .istore_n 2)) rfl ?_
          refine x_iload_n (by decide +kernel : am_at co_X5_readFact 183 = some (1, .iload_n 2)) rfl ?_
          refine x_if (tgt := 198) (by decide +kernel : am_at co_X5_readFact 184 = some (3, .ifCond .ne 14)) rfl Iff.rfl (fun q => ?_) (fun q => absurd (show ¬ (-7 : Int) = 0 by decide) q)
          refine x_aload_n (by decide +kernel : am_at co_X5_readFact 198 = some (1, .aload_n 0)) rfl ?_
          refine x_getF (by decide +kernel : am_at co_X5_readFact 199 = some (3, .getfield 22)) pq_5_22 (by decide) rfl ob_5 ?_
          refine x_top2 (show 5 + (-4) = 1 from rfl) ?_
          refine x_callV (n := 1) (by decide +kernel : am_at co_X5_readFact 202 = some (3, .invokevirtual 97)) pq_5_97 pm_X9_step rfl rfl rfl ob_1 h (x_kv fun M21 h => ?_)
          refine x_aload_n (by decide +kernel : am_at co_X5_readFact 205 = some (1, .aload_n 0)) rfl ?_
          refine x_getF (by decide +kernel : am_at co_X5_readFact 206 = some (3, .getfield 26)) pq_5_26 (by decide) rfl ob_5 ?_
          refine x_top2 (show 5 + (-2) = 3 from rfl) ?_
          refine x_iload_n (by decide +kernel : am_at co_X5_readFact 209 = some (1, .iload_n 1)) rfl ?_
          refine x_callV (n := 2) (by decide +kernel : am_at co_X5_readFact 210 = some (3, .invokevirtual 60)) pq_5_60 pm_X8_readSum rfl rfl rfl ob_3 h (x_kv fun M22 h => ?_)
          refine x_aload_n (by decide +kernel : am_at co_X5_readFact 213 = some (1, .aload_n 0)) rfl ?_
          refine x_getF (by decide +kernel : am_at co_X5_readFact 214 = some (3, .getfield 26)) pq_5_26 (by decide) rfl ob_5 ?_
          refine x_top2 (show 5 + (-2) = 3 from rfl) ?_
          refine x_iload_n (by decide +kernel : am_at co_X5_readFact 217 = some (1, .iload_n 2)) rfl ?_
          refine x_callV (n := 2) (by decide +kernel : am_at co_X5_readFact 218 = some (3, .invokevirtual 79)) pq_5_79 pm_X8_emit rfl rfl rfl ob_3 h (x_kv fun M23 h => ?_)
          exact x_vret (by decide +kernel : am_at co_X5_readFact 221 = some (1, .return_)) h
      · have c5 := c5
        have h := h.2 c5
        refine x_aload_n (by decide +kernel : am_at co_X5_readFact 111 = some (1, .aload_n 0)) rfl ?_
        refine x_getF (by decide +kernel : am_at co_X5_readFact 112 = some (3, .getfield 26)) pq_5_26 (by decide) rfl ob_5 ?_
        refine x_top2 (show 5 + (-2) = 3 from rfl) ?_
        refine x_iconst (by decide +kernel : am_at co_X5_readFact 115 = some (1, .iconst 1)) ?_
        refine x_callV (n := 2) (by decide +kernel : am_at co_X5_readFact 116 = some (3, .invokevirtual 79)) pq_5_79 pm_X8_emit rfl rfl rfl ob_3 h (x_kv fun M24 h => ?_)
        refine x_goto (tgt := 221) (by decide +kernel : am_at co_X5_readFact 119 = some (3, .goto 102)) rfl ?_
        exact x_vret (by decide +kernel : am_at co_X5_readFact 221 = some (1, .return_)) h
    · have c3 := c3
      have h := h.2 c3
      refine x_aload_n (by decide +kernel : am_at co_X5_readFact 62 = some (1, .aload_n 0)) rfl ?_
      refine x_getF (by decide +kernel : am_at co_X5_readFact 63 = some (3, .getfield 26)) pq_5_26 (by decide) rfl ob_5 ?_
      refine x_top2 (show 5 + (-2) = 3 from rfl) ?_
      refine x_iload_n (by decide +kernel : am_at co_X5_readFact 66 = some (1, .iload_n 1)) rfl ?_
      refine x_callV (n := 2) (by decide +kernel : am_at co_X5_readFact 67 = some (3, .invokevirtual 89)) pq_5_89 pm_X8_mayOpen rfl rfl rfl ob_3 h (x_k0 fun x25 M25 h => ?_)
      refine x_if (tgt := 221) (by decide +kernel : am_at co_X5_readFact 70 = some (3, .ifCond .eq 151)) rfl Iff.rfl (fun c25 => ?_) (fun c25 => ?_)
      · have h := h.1 c25
        exact x_vret (by decide +kernel : am_at co_X5_readFact 221 = some (1, .return_)) h
      · have c25 := c25
        have h := h.2 c25
        refine x_aload_n (by decide +kernel : am_at co_X5_readFact 73 = some (1, .aload_n 0)) rfl ?_
        refine x_getF (by decide +kernel : am_at co_X5_readFact 74 = some (3, .getfield 22)) pq_5_22 (by decide) rfl ob_5 ?_
        refine x_top2 (show 5 + (-4) = 1 from rfl) ?_
        refine x_callV (n := 1) (by decide +kernel : am_at co_X5_readFact 77 = some (3, .invokevirtual 97)) pq_5_97 pm_X9_step rfl rfl rfl ob_1 h (x_kv fun M27 h => ?_)
        refine x_aload_n (by decide +kernel : am_at co_X5_readFact 80 = some (1, .aload_n 0)) rfl ?_
        refine x_iload_n (by decide +kernel : am_at co_X5_readFact 81 = some (1, .iload_n 1)) rfl ?_
        refine x_iconst (by decide +kernel : am_at co_X5_readFact 82 = some (1, .iconst 1)) ?_
        obtain ⟨o27, h⟩ := h
        refine x_iadd (by decide +kernel : am_at co_X5_readFact 83 = some (1, .iadd)) o27 ?_
        refine x_callV (n := 2) (by decide +kernel : am_at co_X5_readFact 84 = some (3, .invokevirtual 57)) pq_5_57 pm_X5_readTest rfl rfl rfl ob_5 h (x_kv fun M29 h => ?_)
        refine x_aload_n (by decide +kernel : am_at co_X5_readFact 87 = some (1, .aload_n 0)) rfl ?_
        refine x_getF (by decide +kernel : am_at co_X5_readFact 88 = some (3, .getfield 22)) pq_5_22 (by decide) rfl ob_5 ?_
        refine x_top2 (show 5 + (-4) = 1 from rfl) ?_
        refine x_bipush (by decide +kernel : am_at co_X5_readFact 91 = some (2, .bipush 93)) ?_
        refine x_callV (n := 2) (by decide +kernel : am_at co_X5_readFact 93 = some (3, .invokevirtual 100)) pq_5_100 pm_X9_demand rfl rfl rfl ob_1 h (x_kv fun M30 h => ?_)
        refine x_goto (tgt := 221) (by decide +kernel : am_at co_X5_readFact 96 = some (3, .goto 125)) rfl ?_
        exact x_vret (by decide +kernel : am_at co_X5_readFact 221 = some (1, .return_)) h
  · have c1 := c1
    have h := h.2 c1
    refine x_aload_n (by decide +kernel : am_at co_X5_readFact 13 = some (1, .aload_n 0)) rfl ?_
    refine x_getF (by decide +kernel : am_at co_X5_readFact 14 = some (3, .getfield 26)) pq_5_26 (by decide) rfl ob_5 ?_
    refine x_top2 (show 5 + (-2) = 3 from rfl) ?_
    refine x_iload_n (by decide +kernel : am_at co_X5_readFact 17 = some (1, .iload_n 1)) rfl ?_
    refine x_callV (n := 2) (by decide +kernel : am_at co_X5_readFact 18 = some (3, .invokevirtual 89)) pq_5_89 pm_X8_mayOpen rfl rfl rfl ob_3 h (x_k0 fun x31 M31 h => ?_)
    refine x_if (tgt := 221) (by decide +kernel : am_at co_X5_readFact 21 = some (3, .ifCond .eq 200)) rfl Iff.rfl (fun c31 => ?_) (fun c31 => ?_)
    · have h := h.1 c31
      exact x_vret (by decide +kernel : am_at co_X5_readFact 221 = some (1, .return_)) h
    · have c31 := c31
      have h := h.2 c31
      refine x_aload_n (by decide +kernel : am_at co_X5_readFact 24 = some (1, .aload_n 0)) rfl ?_
      refine x_getF (by decide +kernel : am_at co_X5_readFact 25 = some (3, .getfield 22)) pq_5_22 (by decide) rfl ob_5 ?_
      refine x_top2 (show 5 + (-4) = 1 from rfl) ?_
      refine x_callV (n := 1) (by decide +kernel : am_at co_X5_readFact 28 = some (3, .invokevirtual 54)) pq_5_54 pm_X9_skipWord rfl rfl rfl ob_1 h (x_kv fun M33 h => ?_)
      refine x_aload_n (by decide +kernel : am_at co_X5_readFact 31 = some (1, .aload_n 0)) rfl ?_
      refine x_iload_n (by decide +kernel : am_at co_X5_readFact 32 = some (1, .iload_n 1)) rfl ?_
      refine x_iconst (by decide +kernel : am_at co_X5_readFact 33 = some (1, .iconst 1)) ?_
      obtain ⟨o33, h⟩ := h
      refine x_iadd (by decide +kernel : am_at co_X5_readFact 34 = some (1, .iadd)) o33 ?_
      refine x_callV (n := 2) (by decide +kernel : am_at co_X5_readFact 35 = some (3, .invokevirtual 82)) pq_5_82 pm_X5_readFact rfl rfl rfl ob_5 h (x_kv fun M35 h => ?_)
      refine x_aload_n (by decide +kernel : am_at co_X5_readFact 38 = some (1, .aload_n 0)) rfl ?_
      refine x_getF (by decide +kernel : am_at co_X5_readFact 39 = some (3, .getfield 26)) pq_5_26 (by decide) rfl ob_5 ?_
      refine x_top2 (show 5 + (-2) = 3 from rfl) ?_
      refine x_bipush (by decide +kernel : am_at co_X5_readFact 42 = some (2, .bipush (-12))) ?_
      refine x_callV (n := 2) (by decide +kernel : am_at co_X5_readFact 44 = some (3, .invokevirtual 79)) pq_5_79 pm_X8_emit rfl rfl rfl ob_3 h (x_kv fun M36 h => ?_)
      refine x_goto (tgt := 221) (by decide +kernel : am_at co_X5_readFact 47 = some (3, .goto 174)) rfl ?_
      exact x_vret (by decide +kernel : am_at co_X5_readFact 221 = some (1, .return_)) h
set_option maxRecDepth 20000 in
theorem bk_X5_answer_0 {d : Nat} {Q : am_Q} {M : am_M} {v1 : Int} (h : am_g 5 1 co_X5_answer d Q 20 [(2, 5), (2, v1), (1, 0), (3, 0), (0, 0), (0, 0), (0, (-1)), (0, (-1)), (0, 0), (0, 0), (3, 0)] [] sh_T M) : am_g 5 1 co_X5_answer d Q 0 [(2, 5), (2, v1), (3, 0), (3, 0), (3, 0), (3, 0), (3, 0), (3, 0), (3, 0), (3, 0), (3, 0)] [] sh_T M := by
  refine x_lconst (by decide +kernel : am_at co_X5_answer 0 = some (1, .lconst 0)) ?_
  refine x_lstore_n (L' := [(2, 5), (2, v1), (1, 0), (3, 0), (3, 0), (3, 0), (3, 0), (3, 0), (3, 0), (3, 0), (3, 0)]) (by decide +kernel : am_at co_X5_answer 1 = some (1, .lstore_n 2)) rfl ?_
  refine x_iconst (by decide +kernel : am_at co_X5_answer 2 = some (1, .iconst 0)) ?_
  refine x_istore (L' := [(2, 5), (2, v1), (1, 0), (3, 0), (0, 0), (3, 0), (3, 0), (3, 0), (3, 0), (3, 0), (3, 0)]) (by decide +kernel : am_at co_X5_answer 3 = some (2, .istore 4)) rfl ?_
  refine x_iconst (by decide +kernel : am_at co_X5_answer 5 = some (1, .iconst 0)) ?_
  refine x_istore (L' := [(2, 5), (2, v1), (1, 0), (3, 0), (0, 0), (0, 0), (3, 0), (3, 0), (3, 0), (3, 0), (3, 0)]) (by decide +kernel : am_at co_X5_answer 6 = some (2, .istore 5)) rfl ?_
  refine x_iconst (by decide +kernel : am_at co_X5_answer 8 = some (1, .iconst (-1))) ?_
  refine x_istore (L' := [(2, 5), (2, v1), (1, 0), (3, 0), (0, 0), (0, 0), (0, (-1)), (3, 0), (3, 0), (3, 0), (3, 0)]) (by decide +kernel : am_at co_X5_answer 9 = some (2, .istore 6)) rfl ?_
  refine x_iconst (by decide +kernel : am_at co_X5_answer 11 = some (1, .iconst (-1))) ?_
  refine x_istore (L' := [(2, 5), (2, v1), (1, 0), (3, 0), (0, 0), (0, 0), (0, (-1)), (0, (-1)), (3, 0), (3, 0), (3, 0)]) (by decide +kernel : am_at co_X5_answer 12 = some (2, .istore 7)) rfl ?_
  refine x_iconst (by decide +kernel : am_at co_X5_answer 14 = some (1, .iconst 0)) ?_
  refine x_istore (L' := [(2, 5), (2, v1), (1, 0), (3, 0), (0, 0), (0, 0), (0, (-1)), (0, (-1)), (0, 0), (3, 0), (3, 0)]) (by decide +kernel : am_at co_X5_answer 15 = some (2, .istore 8)) rfl ?_
  refine x_iconst (by decide +kernel : am_at co_X5_answer 17 = some (1, .iconst 0)) ?_
  refine x_istore (L' := [(2, 5), (2, v1), (1, 0), (3, 0), (0, 0), (0, 0), (0, (-1)), (0, (-1)), (0, 0), (0, 0), (3, 0)]) (by decide +kernel : am_at co_X5_answer 18 = some (2, .istore 9)) rfl ?_
  exact am_weak (lk (lk (lk (lk (lk (lk (lk (lk (lk (lk (lk ln))))))))))) h
set_option maxRecDepth 20000 in
theorem bk_X5_answer_20 {d : Nat} {Q : am_Q} {M : am_M} {v1 v2 v4 v5 v6 v7 v8 v9 : Int} (h : am_ob sh_T 1 v1 ∧ ((M v1 2 ≤ v9 → ((M 5 3 < 0 ∨ 4 < M 5 3 → Q (some (1, v5), sh_T, M)) ∧ (M 5 3 = 0 → Q (some (1, v6), sh_T, M)) ∧ (M 5 3 = 1 → Q (some (1, v7), sh_T, M)) ∧ (M 5 3 = 2 → Q (some (1, v8), sh_T, M)) ∧ (M 5 3 = 3 → Q (some (1, v2), sh_T, M)) ∧ (M 5 3 = 4 → Q (some (1, v4), sh_T, M)))) ∧ (v9 < M v1 2 → am_cal pg d 58 [(2, 5), (2, v1), (0, v9)] sh_T M (am_c0 sh_T fun x3 M3 => am_rl (v2 + x3) ∧ ((¬ v9 = 0 → am_cal pg d 316 [(0, v4), (0, x3)] sh_T M3 (am_c0 sh_T fun x6 M6 => am_cal pg d 318 [(0, v5), (0, x3)] sh_T M6 (am_c0 sh_T fun x8 M8 => ((x3 = 0 → am_g 5 1 co_X5_answer d Q 109 [(2, 5), (2, v1), (1, v2 + x3), (3, 0), (0, x6), (0, x8), (0, v6), (0, v7), (0, v8), (0, v9), (3, 0)] [] sh_T M8) ∧ (¬ x3 = 0 → ((¬ v6 = (-1) → am_r (v8 + 1) ∧ am_g 5 1 co_X5_answer d Q 109 [(2, 5), (2, v1), (1, v2 + x3), (3, 0), (0, x6), (0, x8), (0, v6), (0, v9), (0, v8 + 1), (0, v9), (3, 0)] [] sh_T M8) ∧ (v6 = (-1) → am_r (v8 + 1) ∧ am_g 5 1 co_X5_answer d Q 109 [(2, 5), (2, v1), (1, v2 + x3), (3, 0), (0, x6), (0, x8), (0, v9), (0, v9), (0, v8 + 1), (0, v9), (3, 0)] [] sh_T M8))))))) ∧ (v9 = 0 → ((x3 = 0 → am_g 5 1 co_X5_answer d Q 109 [(2, 5), (2, v1), (1, v2 + x3), (3, 0), (0, x3), (0, x3), (0, v6), (0, v7), (0, v8), (0, v9), (3, 0)] [] sh_T M3) ∧ (¬ x3 = 0 → ((¬ v6 = (-1) → am_r (v8 + 1) ∧ am_g 5 1 co_X5_answer d Q 109 [(2, 5), (2, v1), (1, v2 + x3), (3, 0), (0, x3), (0, x3), (0, v6), (0, v9), (0, v8 + 1), (0, v9), (3, 0)] [] sh_T M3) ∧ (v6 = (-1) → am_r (v8 + 1) ∧ am_g 5 1 co_X5_answer d Q 109 [(2, 5), (2, v1), (1, v2 + x3), (3, 0), (0, x3), (0, x3), (0, v9), (0, v9), (0, v8 + 1), (0, v9), (3, 0)] [] sh_T M3)))))))))) : am_g 5 1 co_X5_answer d Q 20 [(2, 5), (2, v1), (1, v2), (3, 0), (0, v4), (0, v5), (0, v6), (0, v7), (0, v8), (0, v9), (3, 0)] [] sh_T M := by
  refine x_iload (by decide +kernel : am_at co_X5_answer 20 = some (2, .iload 9)) rfl ?_
  refine x_aload_n (by decide +kernel : am_at co_X5_answer 22 = some (1, .aload_n 1)) rfl ?_
  obtain ⟨o0, h⟩ := h
  refine x_getf (by decide +kernel : am_at co_X5_answer 23 = some (3, .getfield 106)) pq_5_106 rfl o0 ?_
  refine x_icmp (tgt := 115) (by decide +kernel : am_at co_X5_answer 26 = some (3, .if_icmp .ge 89)) rfl Iff.rfl (fun c1 => ?_) (fun c1 => ?_)
  · have h := h.1 c1
    refine x_aload_n (by decide +kernel : am_at co_X5_answer 115 = some (1, .aload_n 0)) rfl ?_
    refine x_getf (by decide +kernel : am_at co_X5_answer 116 = some (3, .getfield 18)) pq_5_18 rfl ob_5 ?_
    refine x_tsw (by decide +kernel : am_at co_X5_answer 119 = some (33, .tableswitch 51 0 4 #[33, 37, 41, 45, 47])) (fun q => ?_) (fun q1 q2 => ?_)
    · have h := h.1 q
      refine x_iload (by decide +kernel : am_at co_X5_answer 170 = some (2, .iload 5)) rfl ?_
      refine x_i2l (by decide +kernel : am_at co_X5_answer 172 = some (1, .i2l)) ?_
      exact x_lret (by decide +kernel : am_at co_X5_answer 173 = some (1, .lreturn)) h
    · rcases (show M 5 3 = 0 ∨ M 5 3 = 1 ∨ M 5 3 = 2 ∨ M 5 3 = 3 ∨ M 5 3 = 4 by omega) with q | q | q | q | q
      · refine ⟨33, by rw [q]; rfl, ?_⟩
        have h := h.2.1 q
        refine x_iload (by decide +kernel : am_at co_X5_answer 152 = some (2, .iload 6)) rfl ?_
        refine x_i2l (by decide +kernel : am_at co_X5_answer 154 = some (1, .i2l)) ?_
        exact x_lret (by decide +kernel : am_at co_X5_answer 155 = some (1, .lreturn)) h
      · refine ⟨37, by rw [q]; rfl, ?_⟩
        have h := h.2.2.1 q
        refine x_iload (by decide +kernel : am_at co_X5_answer 156 = some (2, .iload 7)) rfl ?_
        refine x_i2l (by decide +kernel : am_at co_X5_answer 158 = some (1, .i2l)) ?_
        exact x_lret (by decide +kernel : am_at co_X5_answer 159 = some (1, .lreturn)) h
      · refine ⟨41, by rw [q]; rfl, ?_⟩
        have h := h.2.2.2.1 q
        refine x_iload (by decide +kernel : am_at co_X5_answer 160 = some (2, .iload 8)) rfl ?_
        refine x_i2l (by decide +kernel : am_at co_X5_answer 162 = some (1, .i2l)) ?_
        exact x_lret (by decide +kernel : am_at co_X5_answer 163 = some (1, .lreturn)) h
      · refine ⟨45, by rw [q]; rfl, ?_⟩
        have h := h.2.2.2.2.1 q
        refine x_lload_n (by decide +kernel : am_at co_X5_answer 164 = some (1, .lload_n 2)) rfl ?_
        exact x_lret (by decide +kernel : am_at co_X5_answer 165 = some (1, .lreturn)) h
      · refine ⟨47, by rw [q]; rfl, ?_⟩
        have h := h.2.2.2.2.2 q
        refine x_iload (by decide +kernel : am_at co_X5_answer 166 = some (2, .iload 4)) rfl ?_
        refine x_i2l (by decide +kernel : am_at co_X5_answer 168 = some (1, .i2l)) ?_
        exact x_lret (by decide +kernel : am_at co_X5_answer 169 = some (1, .lreturn)) h
  · have c1 := (Int.not_le.mp c1)
    have h := h.2 c1
    refine x_aload_n (by decide +kernel : am_at co_X5_answer 29 = some (1, .aload_n 0)) rfl ?_
    refine x_aload_n (by decide +kernel : am_at co_X5_answer 30 = some (1, .aload_n 1)) rfl ?_
    refine x_iload (by decide +kernel : am_at co_X5_answer 31 = some (2, .iload 9)) rfl ?_
    refine x_callV (n := 3) (by decide +kernel : am_at co_X5_answer 33 = some (3, .invokevirtual 111)) pq_5_111 pm_X5_valueIn rfl rfl rfl ob_5 h (x_k0 fun x3 M3 h => ?_)
    refine x_istore (L' := [(2, 5), (2, v1), (1, v2), (3, 0), (0, v4), (0, v5), (0, v6), (0, v7), (0, v8), (0, v9), (0, x3)]) (by decide +kernel : am_at co_X5_answer 36 = some (2, .istore 10)) rfl ?_
    refine x_lload_n (by decide +kernel : am_at co_X5_answer 38 = some (1, .lload_n 2)) rfl ?_
    refine x_iload (by decide +kernel : am_at co_X5_answer 39 = some (2, .iload 10)) rfl ?_
    refine x_i2l (by decide +kernel : am_at co_X5_answer 41 = some (1, .i2l)) ?_
    obtain ⟨o3, h⟩ := h
    refine x_ladd (by decide +kernel : am_at co_X5_answer 42 = some (1, .ladd)) o3 ?_
    refine x_lstore_n (L' := [(2, 5), (2, v1), (1, v2 + x3), (3, 0), (0, v4), (0, v5), (0, v6), (0, v7), (0, v8), (0, v9), (0, x3)]) (by decide +kernel : am_at co_X5_answer 43 = some (1, .lstore_n 2)) rfl ?_
    refine x_iload (by decide +kernel : am_at co_X5_answer 44 = some (2, .iload 9)) rfl ?_
    refine x_if (tgt := 54) (by decide +kernel : am_at co_X5_answer 46 = some (3, .ifCond .ne 8)) rfl Iff.rfl (fun c4 => ?_) (fun c4 => ?_)
    · have h := h.1 c4
      refine x_iload (by decide +kernel : am_at co_X5_answer 54 = some (2, .iload 4)) rfl ?_
      refine x_iload (by decide +kernel : am_at co_X5_answer 56 = some (2, .iload 10)) rfl ?_
      refine x_callS (n := 2) (by decide +kernel : am_at co_X5_answer 58 = some (3, .invokestatic 115)) pq_5_115 rfl rfl rfl h (x_k0 fun x6 M6 h => ?_)
      refine x_istore (L' := [(2, 5), (2, v1), (1, v2 + x3), (3, 0), (0, x6), (0, v5), (0, v6), (0, v7), (0, v8), (0, v9), (0, x3)]) (by decide +kernel : am_at co_X5_answer 61 = some (2, .istore 4)) rfl ?_
      refine x_iload (by decide +kernel : am_at co_X5_answer 63 = some (2, .iload 9)) rfl ?_
      refine x_if (tgt := 73) (by decide +kernel : am_at co_X5_answer 65 = some (3, .ifCond .ne 8)) rfl Iff.rfl (fun _ => ?_) (fun c6 => absurd c4 c6)
      refine x_iload (by decide +kernel : am_at co_X5_answer 73 = some (2, .iload 5)) rfl ?_
      refine x_iload (by decide +kernel : am_at co_X5_answer 75 = some (2, .iload 10)) rfl ?_
      refine x_callS (n := 2) (by decide +kernel : am_at co_X5_answer 77 = some (3, .invokestatic 121)) pq_5_121 rfl rfl rfl h (x_k0 fun x8 M8 h => ?_)
      refine x_istore (L' := [(2, 5), (2, v1), (1, v2 + x3), (3, 0), (0, x6), (0, x8), (0, v6), (0, v7), (0, v8), (0, v9), (0, x3)]) (by decide +kernel : am_at co_X5_answer 80 = some (2, .istore 5)) rfl ?_
      refine x_iload (by decide +kernel : am_at co_X5_answer 82 = some (2, .iload 10)) rfl ?_
      refine x_if (tgt := 109) (by decide +kernel : am_at co_X5_answer 84 = some (3, .ifCond .eq 25)) rfl Iff.rfl (fun c8 => ?_) (fun c8 => ?_)
      · have h := h.1 c8
        exact am_weak (lk (lk (lk (lk (lk (lk (lk (lk (lk (lk (ld ln))))))))))) h
      · have c8 := c8
        have h := h.2 c8
        refine x_iload (by decide +kernel : am_at co_X5_answer 87 = some (2, .iload 6)) rfl ?_
        refine x_iconst (by decide +kernel : am_at co_X5_answer 89 = some (1, .iconst (-1))) ?_
        refine x_icmp (tgt := 98) (by decide +kernel : am_at co_X5_answer 90 = some (3, .if_icmp .ne 8)) rfl Iff.rfl (fun c9 => ?_) (fun c9 => ?_)
        · have h := h.1 c9
          refine x_iload (by decide +kernel : am_at co_X5_answer 98 = some (2, .iload 6)) rfl ?_
          refine x_istore (L' := [(2, 5), (2, v1), (1, v2 + x3), (3, 0), (0, x6), (0, x8), (0, v6), (0, v7), (0, v8), (0, v9), (0, x3)]) (by decide +kernel : am_at co_X5_answer 100 = some (2, .istore 6)) rfl ?_
          refine x_iload (by decide +kernel : am_at co_X5_answer 102 = some (2, .iload 9)) rfl ?_
          refine x_istore (L' := [(2, 5), (2, v1), (1, v2 + x3), (3, 0), (0, x6), (0, x8), (0, v6), (0, v9), (0, v8), (0, v9), (0, x3)]) (by decide +kernel : am_at co_X5_answer 104 = some (2, .istore 7)) rfl ?_
          obtain ⟨o10, h⟩ := h
          refine x_iinc (L' := [(2, 5), (2, v1), (1, v2 + x3), (3, 0), (0, x6), (0, x8), (0, v6), (0, v9), (0, v8 + 1), (0, v9), (0, x3)]) (by decide +kernel : am_at co_X5_answer 106 = some (3, .iinc 8 1)) rfl o10 rfl ?_
          exact am_weak (lk (lk (lk (lk (lk (lk (lk (lk (lk (lk (ld ln))))))))))) h
        · have c9 := (Classical.not_not.mp c9)
          have h := h.2 c9
          refine x_iload (by decide +kernel : am_at co_X5_answer 93 = some (2, .iload 9)) rfl ?_
          refine x_goto (tgt := 100) (by decide +kernel : am_at co_X5_answer 95 = some (3, .goto 5)) rfl ?_
          refine x_istore (L' := [(2, 5), (2, v1), (1, v2 + x3), (3, 0), (0, x6), (0, x8), (0, v9), (0, v7), (0, v8), (0, v9), (0, x3)]) (by decide +kernel : am_at co_X5_answer 100 = some (2, .istore 6)) rfl ?_
          refine x_iload (by decide +kernel : am_at co_X5_answer 102 = some (2, .iload 9)) rfl ?_
          refine x_istore (L' := [(2, 5), (2, v1), (1, v2 + x3), (3, 0), (0, x6), (0, x8), (0, v9), (0, v9), (0, v8), (0, v9), (0, x3)]) (by decide +kernel : am_at co_X5_answer 104 = some (2, .istore 7)) rfl ?_
          obtain ⟨o11, h⟩ := h
          refine x_iinc (L' := [(2, 5), (2, v1), (1, v2 + x3), (3, 0), (0, x6), (0, x8), (0, v9), (0, v9), (0, v8 + 1), (0, v9), (0, x3)]) (by decide +kernel : am_at co_X5_answer 106 = some (3, .iinc 8 1)) rfl o11 rfl ?_
          exact am_weak (lk (lk (lk (lk (lk (lk (lk (lk (lk (lk (ld ln))))))))))) h
    · have c4 := (Classical.not_not.mp c4)
      have h := h.2 c4
      refine x_iload (by decide +kernel : am_at co_X5_answer 49 = some (2, .iload 10)) rfl ?_
      refine x_goto (tgt := 61) (by decide +kernel : am_at co_X5_answer 51 = some (3, .goto 10)) rfl ?_
      refine x_istore (L' := [(2, 5), (2, v1), (1, v2 + x3), (3, 0), (0, x3), (0, v5), (0, v6), (0, v7), (0, v8), (0, v9), (0, x3)]) (by decide +kernel : am_at co_X5_answer 61 = some (2, .istore 4)) rfl ?_
      refine x_iload (by decide +kernel : am_at co_X5_answer 63 = some (2, .iload 9)) rfl ?_
      refine x_if (tgt := 73) (by decide +kernel : am_at co_X5_answer 65 = some (3, .ifCond .ne 8)) rfl Iff.rfl (fun c12 => absurd c12 (fun z => z c4)) (fun _ => ?_)
      refine x_iload (by decide +kernel : am_at co_X5_answer 68 = some (2, .iload 10)) rfl ?_
      refine x_goto (tgt := 80) (by decide +kernel : am_at co_X5_answer 70 = some (3, .goto 10)) rfl ?_
      refine x_istore (L' := [(2, 5), (2, v1), (1, v2 + x3), (3, 0), (0, x3), (0, x3), (0, v6), (0, v7), (0, v8), (0, v9), (0, x3)]) (by decide +kernel : am_at co_X5_answer 80 = some (2, .istore 5)) rfl ?_
      refine x_iload (by decide +kernel : am_at co_X5_answer 82 = some (2, .iload 10)) rfl ?_
      refine x_if (tgt := 109) (by decide +kernel : am_at co_X5_answer 84 = some (3, .ifCond .eq 25)) rfl Iff.rfl (fun c13 => ?_) (fun c13 => ?_)
      · have h := h.1 c13
        exact am_weak (lk (lk (lk (lk (lk (lk (lk (lk (lk (lk (ld ln))))))))))) h
      · have c13 := c13
        have h := h.2 c13
        refine x_iload (by decide +kernel : am_at co_X5_answer 87 = some (2, .iload 6)) rfl ?_
        refine x_iconst (by decide +kernel : am_at co_X5_answer 89 = some (1, .iconst (-1))) ?_
        refine x_icmp (tgt := 98) (by decide +kernel : am_at co_X5_answer 90 = some (3, .if_icmp .ne 8)) rfl Iff.rfl (fun c14 => ?_) (fun c14 => ?_)
        · have h := h.1 c14
          refine x_iload (by decide +kernel : am_at co_X5_answer 98 = some (2, .iload 6)) rfl ?_
          refine x_istore (L' := [(2, 5), (2, v1), (1, v2 + x3), (3, 0), (0, x3), (0, x3), (0, v6), (0, v7), (0, v8), (0, v9), (0, x3)]) (by decide +kernel : am_at co_X5_answer 100 = some (2, .istore 6)) rfl ?_
          refine x_iload (by decide +kernel : am_at co_X5_answer 102 = some (2, .iload 9)) rfl ?_
          refine x_istore (L' := [(2, 5), (2, v1), (1, v2 + x3), (3, 0), (0, x3), (0, x3), (0, v6), (0, v9), (0, v8), (0, v9), (0, x3)]) (by decide +kernel : am_at co_X5_answer 104 = some (2, .istore 7)) rfl ?_
          obtain ⟨o15, h⟩ := h
          refine x_iinc (L' := [(2, 5), (2, v1), (1, v2 + x3), (3, 0), (0, x3), (0, x3), (0, v6), (0, v9), (0, v8 + 1), (0, v9), (0, x3)]) (by decide +kernel : am_at co_X5_answer 106 = some (3, .iinc 8 1)) rfl o15 rfl ?_
          exact am_weak (lk (lk (lk (lk (lk (lk (lk (lk (lk (lk (ld ln))))))))))) h
        · have c14 := (Classical.not_not.mp c14)
          have h := h.2 c14
          refine x_iload (by decide +kernel : am_at co_X5_answer 93 = some (2, .iload 9)) rfl ?_
          refine x_goto (tgt := 100) (by decide +kernel : am_at co_X5_answer 95 = some (3, .goto 5)) rfl ?_
          refine x_istore (L' := [(2, 5), (2, v1), (1, v2 + x3), (3, 0), (0, x3), (0, x3), (0, v9), (0, v7), (0, v8), (0, v9), (0, x3)]) (by decide +kernel : am_at co_X5_answer 100 = some (2, .istore 6)) rfl ?_
          refine x_iload (by decide +kernel : am_at co_X5_answer 102 = some (2, .iload 9)) rfl ?_
          refine x_istore (L' := [(2, 5), (2, v1), (1, v2 + x3), (3, 0), (0, x3), (0, x3), (0, v9), (0, v9), (0, v8), (0, v9), (0, x3)]) (by decide +kernel : am_at co_X5_answer 104 = some (2, .istore 7)) rfl ?_
          obtain ⟨o16, h⟩ := h
          refine x_iinc (L' := [(2, 5), (2, v1), (1, v2 + x3), (3, 0), (0, x3), (0, x3), (0, v9), (0, v9), (0, v8 + 1), (0, v9), (0, x3)]) (by decide +kernel : am_at co_X5_answer 106 = some (3, .iinc 8 1)) rfl o16 rfl ?_
          exact am_weak (lk (lk (lk (lk (lk (lk (lk (lk (lk (lk (ld ln))))))))))) h
set_option maxRecDepth 20000 in
theorem bk_X5_answer_109 {d : Nat} {Q : am_Q} {M : am_M} {v1 v2 v4 v5 v6 v7 v8 v9 : Int} (h : am_r (v9 + 1) ∧ am_g 5 1 co_X5_answer d Q 20 [(2, 5), (2, v1), (1, v2), (3, 0), (0, v4), (0, v5), (0, v6), (0, v7), (0, v8), (0, v9 + 1), (3, 0)] [] sh_T M) : am_g 5 1 co_X5_answer d Q 109 [(2, 5), (2, v1), (1, v2), (3, 0), (0, v4), (0, v5), (0, v6), (0, v7), (0, v8), (0, v9), (3, 0)] [] sh_T M := by
  obtain ⟨o0, h⟩ := h
  refine x_iinc (L' := [(2, 5), (2, v1), (1, v2), (3, 0), (0, v4), (0, v5), (0, v6), (0, v7), (0, v8), (0, v9 + 1), (3, 0)]) (by decide +kernel : am_at co_X5_answer 109 = some (3, .iinc 9 1)) rfl o0 rfl ?_
  refine x_goto (tgt := 20) (by decide +kernel : am_at co_X5_answer 112 = some (3, .goto (-92))) rfl ?_
  exact am_weak (lk (lk (lk (lk (lk (lk (lk (lk (lk (lk (lk ln))))))))))) h
set_option maxRecDepth 20000 in
theorem bk_X5_valueIn_0 {d : Nat} {Q : am_Q} {M : am_M} {v1 v2 : Int} (h : am_ob sh_T 1 v1 ∧ am_r (v2 * 6) ∧ am_cal pg d 62 [(2, 6), (2, v1 + 1), (0, v2 * 6)] sh_T M (am_cv sh_T fun M3 => am_cal pg d 63 [(2, 6), (0, 6), (0, v2)] sh_T M3 (am_cv sh_T fun M4 => am_cal pg d 6 [(2, v1), (0, v2)] sh_T M4 (am_c0 sh_T fun x5 M5 => am_cal pg d 63 [(2, 6), (0, 4), (0, x5)] sh_T M5 (am_cv sh_T fun M6 => am_cal pg d 64 [(2, 6), (0, 0), (0, M6 6 1)] sh_T M6 (am_c0 sh_T fun x7 M7 => Q (some (0, x7), sh_T, M7))))))) : am_g 5 0 co_X5_valueIn d Q 0 [(2, 5), (2, v1), (0, v2)] [] sh_T M := by
  refine x_aload_n (by decide +kernel : am_at co_X5_valueIn 0 = some (1, .aload_n 0)) rfl ?_
  refine x_getF (by decide +kernel : am_at co_X5_valueIn 1 = some (3, .getfield 12)) pq_5_12 (by decide) rfl ob_5 ?_
  refine x_top2 (show 5 + 1 = 6 from rfl) ?_
  refine x_aload_n (by decide +kernel : am_at co_X5_valueIn 4 = some (1, .aload_n 1)) rfl ?_
  obtain ⟨o0, h⟩ := h
  refine x_getF (by decide +kernel : am_at co_X5_valueIn 5 = some (3, .getfield 124)) pq_5_124 (by decide) rfl o0 ?_
  refine x_iload_n (by decide +kernel : am_at co_X5_valueIn 8 = some (1, .iload_n 2)) rfl ?_
  refine x_bipush (by decide +kernel : am_at co_X5_valueIn 9 = some (2, .bipush 6)) ?_
  obtain ⟨o1, h⟩ := h
  refine x_imul (by decide +kernel : am_at co_X5_valueIn 11 = some (1, .imul)) o1 ?_
  refine x_callV (n := 3) (by decide +kernel : am_at co_X5_valueIn 12 = some (3, .invokevirtual 128)) pq_5_128 pm_X6_see rfl rfl rfl ob_6 h (x_kv fun M3 h => ?_)
  refine x_aload_n (by decide +kernel : am_at co_X5_valueIn 15 = some (1, .aload_n 0)) rfl ?_
  refine x_getF (by decide +kernel : am_at co_X5_valueIn 16 = some (3, .getfield 12)) pq_5_12 (by decide) rfl ob_5 ?_
  refine x_top2 (show 5 + 1 = 6 from rfl) ?_
  refine x_bipush (by decide +kernel : am_at co_X5_valueIn 19 = some (2, .bipush 6)) ?_
  refine x_iload_n (by decide +kernel : am_at co_X5_valueIn 21 = some (1, .iload_n 2)) rfl ?_
  refine x_callV (n := 3) (by decide +kernel : am_at co_X5_valueIn 22 = some (3, .invokevirtual 132)) pq_5_132 pm_X6_know rfl rfl rfl ob_6 h (x_kv fun M4 h => ?_)
  refine x_aload_n (by decide +kernel : am_at co_X5_valueIn 25 = some (1, .aload_n 0)) rfl ?_
  refine x_getF (by decide +kernel : am_at co_X5_valueIn 26 = some (3, .getfield 12)) pq_5_12 (by decide) rfl ob_5 ?_
  refine x_top2 (show 5 + 1 = 6 from rfl) ?_
  refine x_iconst (by decide +kernel : am_at co_X5_valueIn 29 = some (1, .iconst 4)) ?_
  refine x_aload_n (by decide +kernel : am_at co_X5_valueIn 30 = some (1, .aload_n 1)) rfl ?_
  refine x_iload_n (by decide +kernel : am_at co_X5_valueIn 31 = some (1, .iload_n 2)) rfl ?_
  refine x_callV (n := 2) (by decide +kernel : am_at co_X5_valueIn 32 = some (3, .invokevirtual 136)) pq_5_136 pm_X1_dreadIn rfl rfl rfl o0 h (x_k0 fun x5 M5 h => ?_)
  refine x_callV (n := 3) (by decide +kernel : am_at co_X5_valueIn 35 = some (3, .invokevirtual 132)) pq_5_132 pm_X6_know rfl rfl rfl ob_6 h (x_kv fun M6 h => ?_)
  refine x_aload_n (by decide +kernel : am_at co_X5_valueIn 38 = some (1, .aload_n 0)) rfl ?_
  refine x_getF (by decide +kernel : am_at co_X5_valueIn 39 = some (3, .getfield 12)) pq_5_12 (by decide) rfl ob_5 ?_
  refine x_top2 (show 5 + 1 = 6 from rfl) ?_
  refine x_iconst (by decide +kernel : am_at co_X5_valueIn 42 = some (1, .iconst 0)) ?_
  refine x_aload_n (by decide +kernel : am_at co_X5_valueIn 43 = some (1, .aload_n 0)) rfl ?_
  refine x_getF (by decide +kernel : am_at co_X5_valueIn 44 = some (3, .getfield 12)) pq_5_12 (by decide) rfl ob_5 ?_
  refine x_top2 (show 5 + 1 = 6 from rfl) ?_
  refine x_getf (by decide +kernel : am_at co_X5_valueIn 47 = some (3, .getfield 140)) pq_5_140 rfl ob_6 ?_
  refine x_callV (n := 3) (by decide +kernel : am_at co_X5_valueIn 50 = some (3, .invokevirtual 143)) pq_5_143 pm_X6_value rfl rfl rfl ob_6 h (x_k0 fun x7 M7 h => ?_)
  exact x_iret (by decide +kernel : am_at co_X5_valueIn 53 = some (1, .ireturn)) h
set_option maxRecDepth 20000 in
theorem bk_X6_clear_0 {d : Nat} {Q : am_Q} {M : am_M} {v0 : Int} (h : am_ob sh_T 6 v0 ∧ Q (none, sh_T, (am_up M v0 1 0))) : am_g 6 9 co_X6_clear d Q 0 [(2, v0)] [] sh_T M := by
  refine x_aload_n (by decide +kernel : am_at co_X6_clear 0 = some (1, .aload_n 0)) rfl ?_
  refine x_iconst (by decide +kernel : am_at co_X6_clear 1 = some (1, .iconst 0)) ?_
  obtain ⟨o0, h⟩ := h
  refine x_putf0 (by decide +kernel : am_at co_X6_clear 2 = some (3, .putfield 15)) pq_6_15 rfl o0 ?_
  exact x_vret (by decide +kernel : am_at co_X6_clear 5 = some (1, .return_)) h
set_option maxRecDepth 20000 in
theorem bk_X6_add_0 {d : Nat} {Q : am_Q} {M : am_M} {v0 v1 : Int} (h : am_ob sh_T 6 v0 ∧ ((M v0 1 < 0 → Q (none, sh_T, M)) ∧ (0 ≤ M v0 1 → ∃ n2 : Nat, am_alen pg sh_T (v0 + 1) = some n2 ∧ (((n2 : Int) ≤ M v0 1 → Q (none, sh_T, M)) ∧ (M v0 1 < (n2 : Int) → am_own sh_T 1 (v0 + 1) (M v0 1) ∧ am_r (((am_up M (v0 + 1) (M v0 1) v1) v0 1) + 1) ∧ Q (none, sh_T, (am_up (am_up M (v0 + 1) (M v0 1) v1) v0 1 (((am_up M (v0 + 1) (M v0 1) v1) v0 1) + 1)))))))) : am_g 6 9 co_X6_add d Q 0 [(2, v0), (0, v1)] [] sh_T M := by
  refine x_aload_n (by decide +kernel : am_at co_X6_add 0 = some (1, .aload_n 0)) rfl ?_
  obtain ⟨o0, h⟩ := h
  refine x_getf (by decide +kernel : am_at co_X6_add 1 = some (3, .getfield 15)) pq_6_15 rfl o0 ?_
  refine x_if (tgt := 39) (by decide +kernel : am_at co_X6_add 4 = some (3, .ifCond .lt 35)) rfl Iff.rfl (fun c1 => ?_) (fun c1 => ?_)
  · have h := h.1 c1
    exact x_vret (by decide +kernel : am_at co_X6_add 39 = some (1, .return_)) h
  · have c1 := (Int.not_lt.mp c1)
    have h := h.2 c1
    refine x_aload_n (by decide +kernel : am_at co_X6_add 7 = some (1, .aload_n 0)) rfl ?_
    refine x_getf (by decide +kernel : am_at co_X6_add 8 = some (3, .getfield 15)) pq_6_15 rfl o0 ?_
    refine x_aload_n (by decide +kernel : am_at co_X6_add 11 = some (1, .aload_n 0)) rfl ?_
    refine x_getF (by decide +kernel : am_at co_X6_add 12 = some (3, .getfield 9)) pq_6_9 (by decide) rfl o0 ?_
    obtain ⟨n2, o2, h⟩ := h
    refine x_alen (by decide +kernel : am_at co_X6_add 15 = some (1, .arraylength)) o2 ?_
    refine x_icmp (tgt := 39) (by decide +kernel : am_at co_X6_add 16 = some (3, .if_icmp .ge 23)) rfl Iff.rfl (fun c3 => ?_) (fun c3 => ?_)
    · have h := h.1 c3
      exact x_vret (by decide +kernel : am_at co_X6_add 39 = some (1, .return_)) h
    · have c3 := (Int.not_le.mp c3)
      have h := h.2 c3
      refine x_aload_n (by decide +kernel : am_at co_X6_add 19 = some (1, .aload_n 0)) rfl ?_
      refine x_getF (by decide +kernel : am_at co_X6_add 20 = some (3, .getfield 9)) pq_6_9 (by decide) rfl o0 ?_
      refine x_aload_n (by decide +kernel : am_at co_X6_add 23 = some (1, .aload_n 0)) rfl ?_
      refine x_getf (by decide +kernel : am_at co_X6_add 24 = some (3, .getfield 15)) pq_6_15 rfl o0 ?_
      refine x_iload_n (by decide +kernel : am_at co_X6_add 27 = some (1, .iload_n 1)) rfl ?_
      obtain ⟨o4, h⟩ := h
      refine x_iast (by decide +kernel : am_at co_X6_add 28 = some (1, .iastore)) (o4) ?_
      refine x_aload_n (by decide +kernel : am_at co_X6_add 29 = some (1, .aload_n 0)) rfl ?_
      refine x_dup2' (by decide +kernel : am_at co_X6_add 30 = some (1, .dup)) ?_
      refine x_getf (by decide +kernel : am_at co_X6_add 31 = some (3, .getfield 15)) pq_6_15 rfl o0 ?_
      refine x_iconst (by decide +kernel : am_at co_X6_add 34 = some (1, .iconst 1)) ?_
      obtain ⟨o5, h⟩ := h
      refine x_iadd (by decide +kernel : am_at co_X6_add 35 = some (1, .iadd)) o5 ?_
      refine x_putf0 (by decide +kernel : am_at co_X6_add 36 = some (3, .putfield 15)) pq_6_15 rfl o0 ?_
      exact x_vret (by decide +kernel : am_at co_X6_add 39 = some (1, .return_)) h
set_option maxRecDepth 20000 in
theorem bk_X6_see_0 {d : Nat} {Q : am_Q} {M : am_M} {v0 v1 v2 : Int} (h : am_g 6 9 co_X6_see d Q 11 [(2, v0), (2, v1), (0, v2), (0, 0), (0, 0), (0, 0), (0, 0), (3, 0)] [] sh_T M) : am_g 6 9 co_X6_see d Q 0 [(2, v0), (2, v1), (0, v2), (3, 0), (3, 0), (3, 0), (3, 0), (3, 0)] [] sh_T M := by
  refine x_iconst (by decide +kernel : am_at co_X6_see 0 = some (1, .iconst 0)) ?_
  refine x_istore_n (L' := [(2, v0), (2, v1), (0, v2), (0, 0), (3, 0), (3, 0), (3, 0), (3, 0)]) (by decide +kernel : am_at co_X6_see 1 = some (1, .istore_n 3)) rfl ?_
  refine x_iconst (by decide +kernel : am_at co_X6_see 2 = some (1, .iconst 0)) ?_
  refine x_istore (L' := [(2, v0), (2, v1), (0, v2), (0, 0), (0, 0), (3, 0), (3, 0), (3, 0)]) (by decide +kernel : am_at co_X6_see 3 = some (2, .istore 4)) rfl ?_
  refine x_iconst (by decide +kernel : am_at co_X6_see 5 = some (1, .iconst 0)) ?_
  refine x_istore (L' := [(2, v0), (2, v1), (0, v2), (0, 0), (0, 0), (0, 0), (3, 0), (3, 0)]) (by decide +kernel : am_at co_X6_see 6 = some (2, .istore 5)) rfl ?_
  refine x_iconst (by decide +kernel : am_at co_X6_see 8 = some (1, .iconst 0)) ?_
  refine x_istore (L' := [(2, v0), (2, v1), (0, v2), (0, 0), (0, 0), (0, 0), (0, 0), (3, 0)]) (by decide +kernel : am_at co_X6_see 9 = some (2, .istore 6)) rfl ?_
  exact am_weak (lk (lk (lk (lk (lk (lk (lk (lk ln)))))))) h
set_option maxRecDepth 20000 in
theorem bk_X6_see_11 {d : Nat} {Q : am_Q} {M : am_M} {v0 v1 v2 v3 v4 v5 v6 : Int} (h : ((6 ≤ v6 → am_ob sh_T 6 v0 ∧ am_cal pg d 63 [(2, v0), (0, 1), (0, v3)] sh_T M (am_cv sh_T fun M3 => am_cal pg d 63 [(2, v0), (0, 2), (0, v4)] sh_T M3 (am_cv sh_T fun M4 => am_cal pg d 63 [(2, v0), (0, 3), (0, v5)] sh_T M4 (am_cv sh_T fun M5 => Q (none, sh_T, M5))))) ∧ (v6 < 6 → ((v2 < 0 → am_g 6 9 co_X6_see d Q 40 [(2, v0), (2, v1), (0, v2), (0, v3), (0, v4), (0, v5), (0, v6), (3, 0)] [] sh_T M) ∧ (0 ≤ v2 → am_r (v2 + v6) ∧ ∃ n7 : Nat, am_alen pg sh_T v1 = some n7 ∧ (((n7 : Int) ≤ v2 + v6 → am_g 6 9 co_X6_see d Q 40 [(2, v0), (2, v1), (0, v2), (0, v3), (0, v4), (0, v5), (0, v6), (3, 0)] [] sh_T M) ∧ (v2 + v6 < (n7 : Int) → am_r (v2 + v6) ∧ am_in pg sh_T 1 v1 (v2 + v6) ∧ am_ob sh_T 6 v0 ∧ am_own sh_T 1 (v0 + 4) v6 ∧ am_cal pg d 316 [(0, v3), (0, M v1 (v2 + v6))] sh_T (am_up M (v0 + 4) v6 (M v1 (v2 + v6))) (am_c0 sh_T fun x14 M14 => am_r (v4 + (M v1 (v2 + v6))) ∧ ((M v1 (v2 + v6) ≤ 0 → am_r (v5 + 0) ∧ am_r (v6 + 1) ∧ am_g 6 9 co_X6_see d Q 11 [(2, v0), (2, v1), (0, v2), (0, x14), (0, v4 + (M v1 (v2 + v6))), (0, v5 + 0), (0, v6 + 1), (3, 0)] [] sh_T M14) ∧ (0 < M v1 (v2 + v6) → am_r (v5 + 1) ∧ am_r (v6 + 1) ∧ am_g 6 9 co_X6_see d Q 11 [(2, v0), (2, v1), (0, v2), (0, x14), (0, v4 + (M v1 (v2 + v6))), (0, v5 + 1), (0, v6 + 1), (3, 0)] [] sh_T M14)))))))))) : am_g 6 9 co_X6_see d Q 11 [(2, v0), (2, v1), (0, v2), (0, v3), (0, v4), (0, v5), (0, v6), (3, 0)] [] sh_T M := by
  refine x_iload (by decide +kernel : am_at co_X6_see 11 = some (2, .iload 6)) rfl ?_
  refine x_bipush (by decide +kernel : am_at co_X6_see 13 = some (2, .bipush 6)) ?_
  refine x_icmp (tgt := 87) (by decide +kernel : am_at co_X6_see 15 = some (3, .if_icmp .ge 72)) rfl Iff.rfl (fun c0 => ?_) (fun c0 => ?_)
  · have h := h.1 c0
    refine x_aload_n (by decide +kernel : am_at co_X6_see 87 = some (1, .aload_n 0)) rfl ?_
    refine x_iconst (by decide +kernel : am_at co_X6_see 88 = some (1, .iconst 1)) ?_
    refine x_iload_n (by decide +kernel : am_at co_X6_see 89 = some (1, .iload_n 3)) rfl ?_
    obtain ⟨o1, h⟩ := h
    refine x_callV (n := 3) (by decide +kernel : am_at co_X6_see 90 = some (3, .invokevirtual 37)) pq_6_37 pm_X6_know rfl rfl rfl o1 h (x_kv fun M3 h => ?_)
    refine x_aload_n (by decide +kernel : am_at co_X6_see 93 = some (1, .aload_n 0)) rfl ?_
    refine x_iconst (by decide +kernel : am_at co_X6_see 94 = some (1, .iconst 2)) ?_
    refine x_iload (by decide +kernel : am_at co_X6_see 95 = some (2, .iload 4)) rfl ?_
    refine x_callV (n := 3) (by decide +kernel : am_at co_X6_see 97 = some (3, .invokevirtual 37)) pq_6_37 pm_X6_know rfl rfl rfl o1 h (x_kv fun M4 h => ?_)
    refine x_aload_n (by decide +kernel : am_at co_X6_see 100 = some (1, .aload_n 0)) rfl ?_
    refine x_iconst (by decide +kernel : am_at co_X6_see 101 = some (1, .iconst 3)) ?_
    refine x_iload (by decide +kernel : am_at co_X6_see 102 = some (2, .iload 5)) rfl ?_
    refine x_callV (n := 3) (by decide +kernel : am_at co_X6_see 104 = some (3, .invokevirtual 37)) pq_6_37 pm_X6_know rfl rfl rfl o1 h (x_kv fun M5 h => ?_)
    exact x_vret (by decide +kernel : am_at co_X6_see 107 = some (1, .return_)) h
  · have c0 := (Int.not_le.mp c0)
    have h := h.2 c0
    refine x_iload_n (by decide +kernel : am_at co_X6_see 18 = some (1, .iload_n 2)) rfl ?_
    refine x_if (tgt := 40) (by decide +kernel : am_at co_X6_see 19 = some (3, .ifCond .lt 21)) rfl Iff.rfl (fun c5 => ?_) (fun c5 => ?_)
    · have h := h.1 c5
      exact am_weak (lk (lk (lk (lk (lk (lk (lk (lk ln)))))))) h
    · have c5 := (Int.not_lt.mp c5)
      have h := h.2 c5
      refine x_iload_n (by decide +kernel : am_at co_X6_see 22 = some (1, .iload_n 2)) rfl ?_
      refine x_iload (by decide +kernel : am_at co_X6_see 23 = some (2, .iload 6)) rfl ?_
      obtain ⟨o6, h⟩ := h
      refine x_iadd (by decide +kernel : am_at co_X6_see 25 = some (1, .iadd)) o6 ?_
      refine x_aload_n (by decide +kernel : am_at co_X6_see 26 = some (1, .aload_n 1)) rfl ?_
      obtain ⟨n7, o7, h⟩ := h
      refine x_alen (by decide +kernel : am_at co_X6_see 27 = some (1, .arraylength)) o7 ?_
      refine x_icmp (tgt := 40) (by decide +kernel : am_at co_X6_see 28 = some (3, .if_icmp .ge 12)) rfl Iff.rfl (fun c8 => ?_) (fun c8 => ?_)
      · have h := h.1 c8
        exact am_weak (lk (lk (lk (lk (lk (lk (lk (lk ln)))))))) h
      · have c8 := (Int.not_le.mp c8)
        have h := h.2 c8
        refine x_aload_n (by decide +kernel : am_at co_X6_see 31 = some (1, .aload_n 1)) rfl ?_
        refine x_iload_n (by decide +kernel : am_at co_X6_see 32 = some (1, .iload_n 2)) rfl ?_
        refine x_iload (by decide +kernel : am_at co_X6_see 33 = some (2, .iload 6)) rfl ?_
        obtain ⟨o9, h⟩ := h
        refine x_iadd (by decide +kernel : am_at co_X6_see 35 = some (1, .iadd)) o9 ?_
        obtain ⟨o10, h⟩ := h
        refine x_iald (by decide +kernel : am_at co_X6_see 36 = some (1, .iaload)) (o10) ?_
        refine x_goto (tgt := 41) (by decide +kernel : am_at co_X6_see 37 = some (3, .goto 4)) rfl ?_
        refine x_istore (L' := [(2, v0), (2, v1), (0, v2), (0, v3), (0, v4), (0, v5), (0, v6), (0, M v1 (v2 + v6))]) (by decide +kernel : am_at co_X6_see 41 = some (2, .istore 7)) rfl ?_
        refine x_aload_n (by decide +kernel : am_at co_X6_see 43 = some (1, .aload_n 0)) rfl ?_
        obtain ⟨o11, h⟩ := h
        refine x_getF (by decide +kernel : am_at co_X6_see 44 = some (3, .getfield 28)) pq_6_28 (by decide) rfl o11 ?_
        refine x_iload (by decide +kernel : am_at co_X6_see 47 = some (2, .iload 6)) rfl ?_
        refine x_iload (by decide +kernel : am_at co_X6_see 49 = some (2, .iload 7)) rfl ?_
        obtain ⟨o12, h⟩ := h
        refine x_iast (by decide +kernel : am_at co_X6_see 51 = some (1, .iastore)) (o12) ?_
        refine x_iload_n (by decide +kernel : am_at co_X6_see 52 = some (1, .iload_n 3)) rfl ?_
        refine x_iload (by decide +kernel : am_at co_X6_see 53 = some (2, .iload 7)) rfl ?_
        refine x_callS (n := 2) (by decide +kernel : am_at co_X6_see 55 = some (3, .invokestatic 31)) pq_6_31 rfl rfl rfl h (x_k0 fun x14 M14 h => ?_)
        refine x_istore_n (L' := [(2, v0), (2, v1), (0, v2), (0, x14), (0, v4), (0, v5), (0, v6), (0, M v1 (v2 + v6))]) (by decide +kernel : am_at co_X6_see 58 = some (1, .istore_n 3)) rfl ?_
        refine x_iload (by decide +kernel : am_at co_X6_see 59 = some (2, .iload 4)) rfl ?_
        refine x_iload (by decide +kernel : am_at co_X6_see 61 = some (2, .iload 7)) rfl ?_
        obtain ⟨o14, h⟩ := h
        refine x_iadd (by decide +kernel : am_at co_X6_see 63 = some (1, .iadd)) o14 ?_
        refine x_istore (L' := [(2, v0), (2, v1), (0, v2), (0, x14), (0, v4 + (M v1 (v2 + v6))), (0, v5), (0, v6), (0, M v1 (v2 + v6))]) (by decide +kernel : am_at co_X6_see 64 = some (2, .istore 4)) rfl ?_
        refine x_iload (by decide +kernel : am_at co_X6_see 66 = some (2, .iload 5)) rfl ?_
        refine x_iload (by decide +kernel : am_at co_X6_see 68 = some (2, .iload 7)) rfl ?_
        refine x_if (tgt := 77) (by decide +kernel : am_at co_X6_see 70 = some (3, .ifCond .le 7)) rfl Iff.rfl (fun c15 => ?_) (fun c15 => ?_)
        · have h := h.1 c15
          refine x_iconst (by decide +kernel : am_at co_X6_see 77 = some (1, .iconst 0)) ?_
          obtain ⟨o16, h⟩ := h
          refine x_iadd (by decide +kernel : am_at co_X6_see 78 = some (1, .iadd)) o16 ?_
          refine x_istore (L' := [(2, v0), (2, v1), (0, v2), (0, x14), (0, v4 + (M v1 (v2 + v6))), (0, v5 + 0), (0, v6), (0, M v1 (v2 + v6))]) (by decide +kernel : am_at co_X6_see 79 = some (2, .istore 5)) rfl ?_
          obtain ⟨o17, h⟩ := h
          refine x_iinc (L' := [(2, v0), (2, v1), (0, v2), (0, x14), (0, v4 + (M v1 (v2 + v6))), (0, v5 + 0), (0, v6 + 1), (0, M v1 (v2 + v6))]) (by decide +kernel : am_at co_X6_see 81 = some (3, .iinc 6 1)) rfl o17 rfl ?_
          refine x_goto (tgt := 11) (by decide +kernel : am_at co_X6_see 84 = some (3, .goto (-73))) rfl ?_
          exact am_weak (lk (lk (lk (lk (lk (lk (lk (ld ln)))))))) h
        · have c15 := (Int.not_le.mp c15)
          have h := h.2 c15
          refine x_iconst (by decide +kernel : am_at co_X6_see 73 = some (1, .iconst 1)) ?_
          refine x_goto (tgt := 78) (by decide +kernel : am_at co_X6_see 74 = some (3, .goto 4)) rfl ?_
          obtain ⟨o18, h⟩ := h
          refine x_iadd (by decide +kernel : am_at co_X6_see 78 = some (1, .iadd)) o18 ?_
          refine x_istore (L' := [(2, v0), (2, v1), (0, v2), (0, x14), (0, v4 + (M v1 (v2 + v6))), (0, v5 + 1), (0, v6), (0, M v1 (v2 + v6))]) (by decide +kernel : am_at co_X6_see 79 = some (2, .istore 5)) rfl ?_
          obtain ⟨o19, h⟩ := h
          refine x_iinc (L' := [(2, v0), (2, v1), (0, v2), (0, x14), (0, v4 + (M v1 (v2 + v6))), (0, v5 + 1), (0, v6 + 1), (0, M v1 (v2 + v6))]) (by decide +kernel : am_at co_X6_see 81 = some (3, .iinc 6 1)) rfl o19 rfl ?_
          refine x_goto (tgt := 11) (by decide +kernel : am_at co_X6_see 84 = some (3, .goto (-73))) rfl ?_
          exact am_weak (lk (lk (lk (lk (lk (lk (lk (ld ln)))))))) h
set_option maxRecDepth 20000 in
theorem bk_X6_see_40 {d : Nat} {Q : am_Q} {M : am_M} {v0 v1 v2 v3 v4 v5 v6 : Int} (h : am_ob sh_T 6 v0 ∧ am_own sh_T 1 (v0 + 4) v6 ∧ am_cal pg d 316 [(0, v3), (0, 0)] sh_T (am_up M (v0 + 4) v6 0) (am_c0 sh_T fun x3 M3 => am_r (v4 + 0) ∧ am_r (v5 + 0) ∧ am_r (v6 + 1) ∧ am_g 6 9 co_X6_see d Q 11 [(2, v0), (2, v1), (0, v2), (0, x3), (0, v4 + 0), (0, v5 + 0), (0, v6 + 1), (3, 0)] [] sh_T M3)) : am_g 6 9 co_X6_see d Q 40 [(2, v0), (2, v1), (0, v2), (0, v3), (0, v4), (0, v5), (0, v6), (3, 0)] [] sh_T M := by
  refine x_iconst (by decide +kernel : am_at co_X6_see 40 = some (1, .iconst 0)) ?_
  refine x_istore (L' := [(2, v0), (2, v1), (0, v2), (0, v3), (0, v4), (0, v5), (0, v6), (0, 0)]) (by decide +kernel : am_at co_X6_see 41 = some (2, .istore 7)) rfl ?_
  refine x_aload_n (by decide +kernel : am_at co_X6_see 43 = some (1, .aload_n 0)) rfl ?_
  obtain ⟨o0, h⟩ := h
  refine x_getF (by decide +kernel : am_at co_X6_see 44 = some (3, .getfield 28)) pq_6_28 (by decide) rfl o0 ?_
  refine x_iload (by decide +kernel : am_at co_X6_see 47 = some (2, .iload 6)) rfl ?_
  refine x_iload (by decide +kernel : am_at co_X6_see 49 = some (2, .iload 7)) rfl ?_
  obtain ⟨o1, h⟩ := h
  refine x_iast (by decide +kernel : am_at co_X6_see 51 = some (1, .iastore)) (o1) ?_
  refine x_iload_n (by decide +kernel : am_at co_X6_see 52 = some (1, .iload_n 3)) rfl ?_
  refine x_iload (by decide +kernel : am_at co_X6_see 53 = some (2, .iload 7)) rfl ?_
  refine x_callS (n := 2) (by decide +kernel : am_at co_X6_see 55 = some (3, .invokestatic 31)) pq_6_31 rfl rfl rfl h (x_k0 fun x3 M3 h => ?_)
  refine x_istore_n (L' := [(2, v0), (2, v1), (0, v2), (0, x3), (0, v4), (0, v5), (0, v6), (0, 0)]) (by decide +kernel : am_at co_X6_see 58 = some (1, .istore_n 3)) rfl ?_
  refine x_iload (by decide +kernel : am_at co_X6_see 59 = some (2, .iload 4)) rfl ?_
  refine x_iload (by decide +kernel : am_at co_X6_see 61 = some (2, .iload 7)) rfl ?_
  obtain ⟨o3, h⟩ := h
  refine x_iadd (by decide +kernel : am_at co_X6_see 63 = some (1, .iadd)) o3 ?_
  refine x_istore (L' := [(2, v0), (2, v1), (0, v2), (0, x3), (0, v4 + 0), (0, v5), (0, v6), (0, 0)]) (by decide +kernel : am_at co_X6_see 64 = some (2, .istore 4)) rfl ?_
  refine x_iload (by decide +kernel : am_at co_X6_see 66 = some (2, .iload 5)) rfl ?_
  refine x_iload (by decide +kernel : am_at co_X6_see 68 = some (2, .iload 7)) rfl ?_
  refine x_if (tgt := 77) (by decide +kernel : am_at co_X6_see 70 = some (3, .ifCond .le 7)) rfl Iff.rfl (fun q => ?_) (fun q => absurd (show (0 : Int) ≤ 0 by decide) q)
  refine x_iconst (by decide +kernel : am_at co_X6_see 77 = some (1, .iconst 0)) ?_
  obtain ⟨o4, h⟩ := h
  refine x_iadd (by decide +kernel : am_at co_X6_see 78 = some (1, .iadd)) o4 ?_
  refine x_istore (L' := [(2, v0), (2, v1), (0, v2), (0, x3), (0, v4 + 0), (0, v5 + 0), (0, v6), (0, 0)]) (by decide +kernel : am_at co_X6_see 79 = some (2, .istore 5)) rfl ?_
  obtain ⟨o5, h⟩ := h
  refine x_iinc (L' := [(2, v0), (2, v1), (0, v2), (0, x3), (0, v4 + 0), (0, v5 + 0), (0, v6 + 1), (0, 0)]) (by decide +kernel : am_at co_X6_see 81 = some (3, .iinc 6 1)) rfl o5 rfl ?_
  refine x_goto (tgt := 11) (by decide +kernel : am_at co_X6_see 84 = some (3, .goto (-73))) rfl ?_
  exact am_weak (lk (lk (lk (lk (lk (lk (lk (ld ln)))))))) h
set_option maxRecDepth 20000 in
theorem bk_X6_know_0 {d : Nat} {Q : am_Q} {M : am_M} {v0 v1 v2 : Int} (h : ((v1 < 0 → Q (none, sh_T, M)) ∧ (0 ≤ v1 → am_ob sh_T 6 v0 ∧ ∃ n2 : Nat, am_alen pg sh_T (v0 + 3) = some n2 ∧ (((n2 : Int) ≤ v1 → Q (none, sh_T, M)) ∧ (v1 < (n2 : Int) → am_own sh_T 1 (v0 + 3) v1 ∧ Q (none, sh_T, (am_up M (v0 + 3) v1 v2))))))) : am_g 6 9 co_X6_know d Q 0 [(2, v0), (0, v1), (0, v2)] [] sh_T M := by
  refine x_iload_n (by decide +kernel : am_at co_X6_know 0 = some (1, .iload_n 1)) rfl ?_
  refine x_if (tgt := 20) (by decide +kernel : am_at co_X6_know 1 = some (3, .ifCond .lt 19)) rfl Iff.rfl (fun c0 => ?_) (fun c0 => ?_)
  · have h := h.1 c0
    exact x_vret (by decide +kernel : am_at co_X6_know 20 = some (1, .return_)) h
  · have c0 := (Int.not_lt.mp c0)
    have h := h.2 c0
    refine x_iload_n (by decide +kernel : am_at co_X6_know 4 = some (1, .iload_n 1)) rfl ?_
    refine x_aload_n (by decide +kernel : am_at co_X6_know 5 = some (1, .aload_n 0)) rfl ?_
    obtain ⟨o1, h⟩ := h
    refine x_getF (by decide +kernel : am_at co_X6_know 6 = some (3, .getfield 25)) pq_6_25 (by decide) rfl o1 ?_
    obtain ⟨n2, o2, h⟩ := h
    refine x_alen (by decide +kernel : am_at co_X6_know 9 = some (1, .arraylength)) o2 ?_
    refine x_icmp (tgt := 20) (by decide +kernel : am_at co_X6_know 10 = some (3, .if_icmp .ge 10)) rfl Iff.rfl (fun c3 => ?_) (fun c3 => ?_)
    · have h := h.1 c3
      exact x_vret (by decide +kernel : am_at co_X6_know 20 = some (1, .return_)) h
    · have c3 := (Int.not_le.mp c3)
      have h := h.2 c3
      refine x_aload_n (by decide +kernel : am_at co_X6_know 13 = some (1, .aload_n 0)) rfl ?_
      refine x_getF (by decide +kernel : am_at co_X6_know 14 = some (3, .getfield 25)) pq_6_25 (by decide) rfl o1 ?_
      refine x_iload_n (by decide +kernel : am_at co_X6_know 17 = some (1, .iload_n 1)) rfl ?_
      refine x_iload_n (by decide +kernel : am_at co_X6_know 18 = some (1, .iload_n 2)) rfl ?_
      obtain ⟨o4, h⟩ := h
      refine x_iast (by decide +kernel : am_at co_X6_know 19 = some (1, .iastore)) (o4) ?_
      exact x_vret (by decide +kernel : am_at co_X6_know 20 = some (1, .return_)) h
set_option maxRecDepth 20000 in
theorem bk_X6_value_0 {d : Nat} {Q : am_Q} {M : am_M} {v0 v1 v2 : Int} (h : am_ob sh_T 6 v0 ∧ am_cal pg d 316 [(0, v1), (0, 0)] sh_T (am_up M v0 3 0) (am_c0 sh_T fun x2 M2 => am_g 6 0 co_X6_value d Q 11 [(2, v0), (3, 0), (0, v2), (0, x2), (3, 0), (3, 0)] [] sh_T M2)) : am_g 6 0 co_X6_value d Q 0 [(2, v0), (0, v1), (0, v2), (3, 0), (3, 0), (3, 0)] [] sh_T M := by
  refine x_aload_n (by decide +kernel : am_at co_X6_value 0 = some (1, .aload_n 0)) rfl ?_
  refine x_iconst (by decide +kernel : am_at co_X6_value 1 = some (1, .iconst 0)) ?_
  obtain ⟨o0, h⟩ := h
  refine x_putf0 (by decide +kernel : am_at co_X6_value 2 = some (3, .putfield 22)) pq_6_22 rfl o0 ?_
  refine x_iload_n (by decide +kernel : am_at co_X6_value 5 = some (1, .iload_n 1)) rfl ?_
  refine x_iconst (by decide +kernel : am_at co_X6_value 6 = some (1, .iconst 0)) ?_
  refine x_callS (n := 2) (by decide +kernel : am_at co_X6_value 7 = some (3, .invokestatic 31)) pq_6_31 rfl rfl rfl h (x_k0 fun x2 M2 h => ?_)
  refine x_istore_n (L' := [(2, v0), (0, v1), (0, v2), (0, x2), (3, 0), (3, 0)]) (by decide +kernel : am_at co_X6_value 10 = some (1, .istore_n 3)) rfl ?_
  exact am_weak (lk (ld (lk (lk (lk (lk ln)))))) h
set_option maxRecDepth 20000 in
theorem bk_X6_value_11 {d : Nat} {Q : am_Q} {M : am_M} {v0 v2 v3 : Int} (h : ((v2 ≤ v3 → am_g 6 0 co_X6_value d Q 153 [(2, v0), (3, 0), (3, 0), (3, 0), (3, 0), (3, 0)] [] sh_T M) ∧ (v3 < v2 → am_ob sh_T 6 v0 ∧ ((M v0 1 ≤ v3 → am_g 6 0 co_X6_value d Q 153 [(2, v0), (3, 0), (3, 0), (3, 0), (3, 0), (3, 0)] [] sh_T M) ∧ (v3 < M v0 1 → ∃ n3 : Nat, am_alen pg sh_T (v0 + 1) = some n3 ∧ (((n3 : Int) ≤ v3 → am_g 6 0 co_X6_value d Q 153 [(2, v0), (3, 0), (3, 0), (3, 0), (3, 0), (3, 0)] [] sh_T M) ∧ (v3 < (n3 : Int) → am_in pg sh_T 1 (v0 + 1) v3 ∧ ((M (v0 + 1) v3 < 0 → (((-20) < M (v0 + 1) v3 → ((¬ M (v0 + 1) v3 = (-12) → ((¬ M (v0 + 1) v3 = (-13) → am_cal pg d 66 [(2, v0)] sh_T M (am_c0 sh_T fun x11 M11 => am_cal pg d 66 [(2, v0)] sh_T M11 (am_c0 sh_T fun x12 M12 => am_cal pg d 69 [(0, M (v0 + 1) v3), (0, x12), (0, x11)] sh_T M12 (am_c0 sh_T fun x13 M13 => am_cal pg d 65 [(2, v0), (0, x13)] sh_T M13 (am_cv sh_T fun M14 => am_g 6 0 co_X6_value d Q 147 [(2, v0), (3, 0), (0, v2), (0, v3), (3, 0), (3, 0)] [] sh_T M14))))) ∧ (M (v0 + 1) v3 = (-13) → am_cal pg d 66 [(2, v0)] sh_T M (am_c0 sh_T fun x15 M15 => am_cal pg d 68 [(2, v0), (0, x15)] sh_T M15 (am_c0 sh_T fun x16 M16 => am_cal pg d 65 [(2, v0), (0, x16)] sh_T M16 (am_cv sh_T fun M17 => am_g 6 0 co_X6_value d Q 147 [(2, v0), (3, 0), (0, v2), (0, v3), (3, 0), (3, 0)] [] sh_T M17)))))) ∧ (M (v0 + 1) v3 = (-12) → am_cal pg d 66 [(2, v0)] sh_T M (am_c0 sh_T fun x18 M18 => ((¬ x18 = 0 → am_cal pg d 65 [(2, v0), (0, 0)] sh_T M18 (am_cv sh_T fun M20 => am_g 6 0 co_X6_value d Q 147 [(2, v0), (3, 0), (0, v2), (0, v3), (3, 0), (3, 0)] [] sh_T M20)) ∧ (x18 = 0 → am_cal pg d 65 [(2, v0), (0, 1)] sh_T M18 (am_cv sh_T fun M21 => am_g 6 0 co_X6_value d Q 147 [(2, v0), (3, 0), (0, v2), (0, v3), (3, 0), (3, 0)] [] sh_T M21))))))) ∧ (M (v0 + 1) v3 ≤ (-20) → am_r ((-20) - (M (v0 + 1) v3)) ∧ am_cal pg d 67 [(2, v0), (0, (-20) - (M (v0 + 1) v3))] sh_T M (am_c0 sh_T fun x23 M23 => am_cal pg d 65 [(2, v0), (0, x23)] sh_T M23 (am_cv sh_T fun M24 => am_g 6 0 co_X6_value d Q 147 [(2, v0), (3, 0), (0, v2), (0, v3), (3, 0), (3, 0)] [] sh_T M24))))) ∧ (0 ≤ M (v0 + 1) v3 → am_cal pg d 65 [(2, v0), (0, M (v0 + 1) v3)] sh_T M (am_cv sh_T fun M25 => am_g 6 0 co_X6_value d Q 147 [(2, v0), (3, 0), (0, v2), (0, v3), (3, 0), (3, 0)] [] sh_T M25)))))))))) : am_g 6 0 co_X6_value d Q 11 [(2, v0), (3, 0), (0, v2), (0, v3), (3, 0), (3, 0)] [] sh_T M := by
  refine x_iload_n (by decide +kernel : am_at co_X6_value 11 = some (1, .iload_n 3)) rfl ?_
  refine x_iload_n (by decide +kernel : am_at co_X6_value 12 = some (1, .iload_n 2)) rfl ?_
  refine x_icmp (tgt := 153) (by decide +kernel : am_at co_X6_value 13 = some (3, .if_icmp .ge 140)) rfl Iff.rfl (fun c0 => ?_) (fun c0 => ?_)
  · have h := h.1 c0
    exact am_weak (lk (lk (ld (ld (lk (lk ln)))))) h
  · have c0 := (Int.not_le.mp c0)
    have h := h.2 c0
    refine x_iload_n (by decide +kernel : am_at co_X6_value 16 = some (1, .iload_n 3)) rfl ?_
    refine x_aload_n (by decide +kernel : am_at co_X6_value 17 = some (1, .aload_n 0)) rfl ?_
    obtain ⟨o1, h⟩ := h
    refine x_getf (by decide +kernel : am_at co_X6_value 18 = some (3, .getfield 15)) pq_6_15 rfl o1 ?_
    refine x_icmp (tgt := 153) (by decide +kernel : am_at co_X6_value 21 = some (3, .if_icmp .ge 132)) rfl Iff.rfl (fun c2 => ?_) (fun c2 => ?_)
    · have h := h.1 c2
      exact am_weak (lk (lk (ld (ld (lk (lk ln)))))) h
    · have c2 := (Int.not_le.mp c2)
      have h := h.2 c2
      refine x_iload_n (by decide +kernel : am_at co_X6_value 24 = some (1, .iload_n 3)) rfl ?_
      refine x_aload_n (by decide +kernel : am_at co_X6_value 25 = some (1, .aload_n 0)) rfl ?_
      refine x_getF (by decide +kernel : am_at co_X6_value 26 = some (3, .getfield 9)) pq_6_9 (by decide) rfl o1 ?_
      obtain ⟨n3, o3, h⟩ := h
      refine x_alen (by decide +kernel : am_at co_X6_value 29 = some (1, .arraylength)) o3 ?_
      refine x_icmp (tgt := 153) (by decide +kernel : am_at co_X6_value 30 = some (3, .if_icmp .ge 123)) rfl Iff.rfl (fun c4 => ?_) (fun c4 => ?_)
      · have h := h.1 c4
        exact am_weak (lk (lk (ld (ld (lk (lk ln)))))) h
      · have c4 := (Int.not_le.mp c4)
        have h := h.2 c4
        refine x_aload_n (by decide +kernel : am_at co_X6_value 33 = some (1, .aload_n 0)) rfl ?_
        refine x_getF (by decide +kernel : am_at co_X6_value 34 = some (3, .getfield 9)) pq_6_9 (by decide) rfl o1 ?_
        refine x_iload_n (by decide +kernel : am_at co_X6_value 37 = some (1, .iload_n 3)) rfl ?_
        obtain ⟨o5, h⟩ := h
        refine x_iald (by decide +kernel : am_at co_X6_value 38 = some (1, .iaload)) (o5) ?_
        refine x_istore (L' := [(2, v0), (3, 0), (0, v2), (0, v3), (0, M (v0 + 1) v3), (3, 0)]) (by decide +kernel : am_at co_X6_value 39 = some (2, .istore 4)) rfl ?_
        refine x_iload (by decide +kernel : am_at co_X6_value 41 = some (2, .iload 4)) rfl ?_
        refine x_if (tgt := 55) (by decide +kernel : am_at co_X6_value 43 = some (3, .ifCond .lt 12)) rfl Iff.rfl (fun c6 => ?_) (fun c6 => ?_)
        · have h := h.1 c6
          refine x_iload (by decide +kernel : am_at co_X6_value 55 = some (2, .iload 4)) rfl ?_
          refine x_bipush (by decide +kernel : am_at co_X6_value 57 = some (2, .bipush (-20))) ?_
          refine x_icmp (tgt := 78) (by decide +kernel : am_at co_X6_value 59 = some (3, .if_icmp .gt 19)) rfl Iff.rfl (fun c7 => ?_) (fun c7 => ?_)
          · have h := h.1 c7
            refine x_iload (by decide +kernel : am_at co_X6_value 78 = some (2, .iload 4)) rfl ?_
            refine x_bipush (by decide +kernel : am_at co_X6_value 80 = some (2, .bipush (-12))) ?_
            refine x_icmp (tgt := 104) (by decide +kernel : am_at co_X6_value 82 = some (3, .if_icmp .ne 22)) rfl Iff.rfl (fun c8 => ?_) (fun c8 => ?_)
            · have h := h.1 c8
              refine x_iload (by decide +kernel : am_at co_X6_value 104 = some (2, .iload 4)) rfl ?_
              refine x_bipush (by decide +kernel : am_at co_X6_value 106 = some (2, .bipush (-13))) ?_
              refine x_icmp (tgt := 126) (by decide +kernel : am_at co_X6_value 108 = some (3, .if_icmp .ne 18)) rfl Iff.rfl (fun c9 => ?_) (fun c9 => ?_)
              · have h := h.1 c9
                refine x_aload_n (by decide +kernel : am_at co_X6_value 126 = some (1, .aload_n 0)) rfl ?_
                refine x_callV (n := 1) (by decide +kernel : am_at co_X6_value 127 = some (3, .invokevirtual 49)) pq_6_49 pm_X6_pop rfl rfl rfl o1 h (x_k0 fun x11 M11 h => ?_)
                refine x_istore (L' := [(2, v0), (3, 0), (0, v2), (0, v3), (0, M (v0 + 1) v3), (0, x11)]) (by decide +kernel : am_at co_X6_value 130 = some (2, .istore 5)) rfl ?_
                refine x_aload_n (by decide +kernel : am_at co_X6_value 132 = some (1, .aload_n 0)) rfl ?_
                refine x_iload (by decide +kernel : am_at co_X6_value 133 = some (2, .iload 4)) rfl ?_
                refine x_aload_n (by decide +kernel : am_at co_X6_value 135 = some (1, .aload_n 0)) rfl ?_
                refine x_callV (n := 1) (by decide +kernel : am_at co_X6_value 136 = some (3, .invokevirtual 49)) pq_6_49 pm_X6_pop rfl rfl rfl o1 h (x_k0 fun x12 M12 h => ?_)
                refine x_iload (by decide +kernel : am_at co_X6_value 139 = some (2, .iload 5)) rfl ?_
                refine x_callS (n := 3) (by decide +kernel : am_at co_X6_value 141 = some (3, .invokestatic 56)) pq_6_56 rfl rfl rfl h (x_k0 fun x13 M13 h => ?_)
                refine x_callV (n := 2) (by decide +kernel : am_at co_X6_value 144 = some (3, .invokevirtual 41)) pq_6_41 pm_X6_push rfl rfl rfl o1 h (x_kv fun M14 h => ?_)
                exact am_weak (lk (lk (lk (lk (ld (ld ln)))))) h
              · have c9 := (Classical.not_not.mp c9)
                have h := h.2 c9
                refine x_aload_n (by decide +kernel : am_at co_X6_value 111 = some (1, .aload_n 0)) rfl ?_
                refine x_aload_n (by decide +kernel : am_at co_X6_value 112 = some (1, .aload_n 0)) rfl ?_
                refine x_aload_n (by decide +kernel : am_at co_X6_value 113 = some (1, .aload_n 0)) rfl ?_
                refine x_callV (n := 1) (by decide +kernel : am_at co_X6_value 114 = some (3, .invokevirtual 49)) pq_6_49 pm_X6_pop rfl rfl rfl o1 h (x_k0 fun x15 M15 h => ?_)
                refine x_callV (n := 2) (by decide +kernel : am_at co_X6_value 117 = some (3, .invokevirtual 53)) pq_6_53 pm_X6_weightOf rfl rfl rfl o1 h (x_k0 fun x16 M16 h => ?_)
                refine x_callV (n := 2) (by decide +kernel : am_at co_X6_value 120 = some (3, .invokevirtual 41)) pq_6_41 pm_X6_push rfl rfl rfl o1 h (x_kv fun M17 h => ?_)
                refine x_goto (tgt := 147) (by decide +kernel : am_at co_X6_value 123 = some (3, .goto 24)) rfl ?_
                exact am_weak (lk (lk (lk (lk (ld (lk ln)))))) h
            · have c8 := (Classical.not_not.mp c8)
              have h := h.2 c8
              refine x_aload_n (by decide +kernel : am_at co_X6_value 85 = some (1, .aload_n 0)) rfl ?_
              refine x_aload_n (by decide +kernel : am_at co_X6_value 86 = some (1, .aload_n 0)) rfl ?_
              refine x_callV (n := 1) (by decide +kernel : am_at co_X6_value 87 = some (3, .invokevirtual 49)) pq_6_49 pm_X6_pop rfl rfl rfl o1 h (x_k0 fun x18 M18 h => ?_)
              refine x_if (tgt := 97) (by decide +kernel : am_at co_X6_value 90 = some (3, .ifCond .ne 7)) rfl Iff.rfl (fun c18 => ?_) (fun c18 => ?_)
              · have h := h.1 c18
                refine x_iconst (by decide +kernel : am_at co_X6_value 97 = some (1, .iconst 0)) ?_
                refine x_callV (n := 2) (by decide +kernel : am_at co_X6_value 98 = some (3, .invokevirtual 41)) pq_6_41 pm_X6_push rfl rfl rfl o1 h (x_kv fun M20 h => ?_)
                refine x_goto (tgt := 147) (by decide +kernel : am_at co_X6_value 101 = some (3, .goto 46)) rfl ?_
                exact am_weak (lk (lk (lk (lk (ld (lk ln)))))) h
              · have c18 := (Classical.not_not.mp c18)
                have h := h.2 c18
                refine x_iconst (by decide +kernel : am_at co_X6_value 93 = some (1, .iconst 1)) ?_
                refine x_goto (tgt := 98) (by decide +kernel : am_at co_X6_value 94 = some (3, .goto 4)) rfl ?_
                refine x_callV (n := 2) (by decide +kernel : am_at co_X6_value 98 = some (3, .invokevirtual 41)) pq_6_41 pm_X6_push rfl rfl rfl o1 h (x_kv fun M21 h => ?_)
                refine x_goto (tgt := 147) (by decide +kernel : am_at co_X6_value 101 = some (3, .goto 46)) rfl ?_
                exact am_weak (lk (lk (lk (lk (ld (lk ln)))))) h
          · have c7 := (Int.not_lt.mp c7)
            have h := h.2 c7
            refine x_aload_n (by decide +kernel : am_at co_X6_value 62 = some (1, .aload_n 0)) rfl ?_
            refine x_aload_n (by decide +kernel : am_at co_X6_value 63 = some (1, .aload_n 0)) rfl ?_
            refine x_bipush (by decide +kernel : am_at co_X6_value 64 = some (2, .bipush (-20))) ?_
            refine x_iload (by decide +kernel : am_at co_X6_value 66 = some (2, .iload 4)) rfl ?_
            obtain ⟨o21, h⟩ := h
            refine x_isub (by decide +kernel : am_at co_X6_value 68 = some (1, .isub)) o21 ?_
            refine x_callV (n := 2) (by decide +kernel : am_at co_X6_value 69 = some (3, .invokevirtual 45)) pq_6_45 pm_X6_fact rfl rfl rfl o1 h (x_k0 fun x23 M23 h => ?_)
            refine x_callV (n := 2) (by decide +kernel : am_at co_X6_value 72 = some (3, .invokevirtual 41)) pq_6_41 pm_X6_push rfl rfl rfl o1 h (x_kv fun M24 h => ?_)
            refine x_goto (tgt := 147) (by decide +kernel : am_at co_X6_value 75 = some (3, .goto 72)) rfl ?_
            exact am_weak (lk (lk (lk (lk (ld (lk ln)))))) h
        · have c6 := (Int.not_lt.mp c6)
          have h := h.2 c6
          refine x_aload_n (by decide +kernel : am_at co_X6_value 46 = some (1, .aload_n 0)) rfl ?_
          refine x_iload (by decide +kernel : am_at co_X6_value 47 = some (2, .iload 4)) rfl ?_
          refine x_callV (n := 2) (by decide +kernel : am_at co_X6_value 49 = some (3, .invokevirtual 41)) pq_6_41 pm_X6_push rfl rfl rfl o1 h (x_kv fun M25 h => ?_)
          refine x_goto (tgt := 147) (by decide +kernel : am_at co_X6_value 52 = some (3, .goto 95)) rfl ?_
          exact am_weak (lk (lk (lk (lk (ld (lk ln)))))) h
set_option maxRecDepth 20000 in
theorem bk_X6_value_147 {d : Nat} {Q : am_Q} {M : am_M} {v0 v2 v3 : Int} (h : am_r (v3 + 1) ∧ am_g 6 0 co_X6_value d Q 11 [(2, v0), (3, 0), (0, v2), (0, v3 + 1), (3, 0), (3, 0)] [] sh_T M) : am_g 6 0 co_X6_value d Q 147 [(2, v0), (3, 0), (0, v2), (0, v3), (3, 0), (3, 0)] [] sh_T M := by
  obtain ⟨o0, h⟩ := h
  refine x_iinc (L' := [(2, v0), (3, 0), (0, v2), (0, v3 + 1), (3, 0), (3, 0)]) (by decide +kernel : am_at co_X6_value 147 = some (3, .iinc 3 1)) rfl o0 rfl ?_
  refine x_goto (tgt := 11) (by decide +kernel : am_at co_X6_value 150 = some (3, .goto (-139))) rfl ?_
  exact am_weak (lk (lk (lk (lk (lk (lk ln)))))) h
set_option maxRecDepth 20000 in
theorem bk_X6_value_153 {d : Nat} {Q : am_Q} {M : am_M} {v0 : Int} (h : am_ob sh_T 6 v0 ∧ am_cal pg d 66 [(2, v0)] sh_T M (am_c0 sh_T fun x2 M2 => Q (some (0, x2), sh_T, M2))) : am_g 6 0 co_X6_value d Q 153 [(2, v0), (3, 0), (3, 0), (3, 0), (3, 0), (3, 0)] [] sh_T M := by
  refine x_aload_n (by decide +kernel : am_at co_X6_value 153 = some (1, .aload_n 0)) rfl ?_
  obtain ⟨o0, h⟩ := h
  refine x_callV (n := 1) (by decide +kernel : am_at co_X6_value 154 = some (3, .invokevirtual 49)) pq_6_49 pm_X6_pop rfl rfl rfl o0 h (x_k0 fun x2 M2 h => ?_)
  exact x_iret (by decide +kernel : am_at co_X6_value 157 = some (1, .ireturn)) h
set_option maxRecDepth 20000 in
theorem bk_X6_push_0 {d : Nat} {Q : am_Q} {M : am_M} {v0 v1 : Int} (h : am_ob sh_T 6 v0 ∧ ((M v0 3 < 0 → Q (none, sh_T, M)) ∧ (0 ≤ M v0 3 → ∃ n2 : Nat, am_alen pg sh_T (v0 + 2) = some n2 ∧ (((n2 : Int) ≤ M v0 3 → Q (none, sh_T, M)) ∧ (M v0 3 < (n2 : Int) → am_own sh_T 1 (v0 + 2) (M v0 3) ∧ am_r (((am_up M (v0 + 2) (M v0 3) v1) v0 3) + 1) ∧ Q (none, sh_T, (am_up (am_up M (v0 + 2) (M v0 3) v1) v0 3 (((am_up M (v0 + 2) (M v0 3) v1) v0 3) + 1)))))))) : am_g 6 9 co_X6_push d Q 0 [(2, v0), (0, v1)] [] sh_T M := by
  refine x_aload_n (by decide +kernel : am_at co_X6_push 0 = some (1, .aload_n 0)) rfl ?_
  obtain ⟨o0, h⟩ := h
  refine x_getf (by decide +kernel : am_at co_X6_push 1 = some (3, .getfield 22)) pq_6_22 rfl o0 ?_
  refine x_if (tgt := 39) (by decide +kernel : am_at co_X6_push 4 = some (3, .ifCond .lt 35)) rfl Iff.rfl (fun c1 => ?_) (fun c1 => ?_)
  · have h := h.1 c1
    exact x_vret (by decide +kernel : am_at co_X6_push 39 = some (1, .return_)) h
  · have c1 := (Int.not_lt.mp c1)
    have h := h.2 c1
    refine x_aload_n (by decide +kernel : am_at co_X6_push 7 = some (1, .aload_n 0)) rfl ?_
    refine x_getf (by decide +kernel : am_at co_X6_push 8 = some (3, .getfield 22)) pq_6_22 rfl o0 ?_
    refine x_aload_n (by decide +kernel : am_at co_X6_push 11 = some (1, .aload_n 0)) rfl ?_
    refine x_getF (by decide +kernel : am_at co_X6_push 12 = some (3, .getfield 19)) pq_6_19 (by decide) rfl o0 ?_
    obtain ⟨n2, o2, h⟩ := h
    refine x_alen (by decide +kernel : am_at co_X6_push 15 = some (1, .arraylength)) o2 ?_
    refine x_icmp (tgt := 39) (by decide +kernel : am_at co_X6_push 16 = some (3, .if_icmp .ge 23)) rfl Iff.rfl (fun c3 => ?_) (fun c3 => ?_)
    · have h := h.1 c3
      exact x_vret (by decide +kernel : am_at co_X6_push 39 = some (1, .return_)) h
    · have c3 := (Int.not_le.mp c3)
      have h := h.2 c3
      refine x_aload_n (by decide +kernel : am_at co_X6_push 19 = some (1, .aload_n 0)) rfl ?_
      refine x_getF (by decide +kernel : am_at co_X6_push 20 = some (3, .getfield 19)) pq_6_19 (by decide) rfl o0 ?_
      refine x_aload_n (by decide +kernel : am_at co_X6_push 23 = some (1, .aload_n 0)) rfl ?_
      refine x_getf (by decide +kernel : am_at co_X6_push 24 = some (3, .getfield 22)) pq_6_22 rfl o0 ?_
      refine x_iload_n (by decide +kernel : am_at co_X6_push 27 = some (1, .iload_n 1)) rfl ?_
      obtain ⟨o4, h⟩ := h
      refine x_iast (by decide +kernel : am_at co_X6_push 28 = some (1, .iastore)) (o4) ?_
      refine x_aload_n (by decide +kernel : am_at co_X6_push 29 = some (1, .aload_n 0)) rfl ?_
      refine x_dup2' (by decide +kernel : am_at co_X6_push 30 = some (1, .dup)) ?_
      refine x_getf (by decide +kernel : am_at co_X6_push 31 = some (3, .getfield 22)) pq_6_22 rfl o0 ?_
      refine x_iconst (by decide +kernel : am_at co_X6_push 34 = some (1, .iconst 1)) ?_
      obtain ⟨o5, h⟩ := h
      refine x_iadd (by decide +kernel : am_at co_X6_push 35 = some (1, .iadd)) o5 ?_
      refine x_putf0 (by decide +kernel : am_at co_X6_push 36 = some (3, .putfield 22)) pq_6_22 rfl o0 ?_
      exact x_vret (by decide +kernel : am_at co_X6_push 39 = some (1, .return_)) h
