/-! blocks (printed) -/
set_option maxRecDepth 20000 in
theorem bk_X12_isIn_0 {d : Nat} {Q : am_Q} {M : am_M} {v0 v2 v4 : Int} (h : ((v0 < v2 → Q (some (0, 0), sh_T, M)) ∧ (v2 ≤ v0 → ((v4 < v0 → Q (some (0, 0), sh_T, M)) ∧ (v0 ≤ v4 → Q (some (0, 1), sh_T, M)))))) : am_g 12 5 co_X12_isIn d Q 0 [(1, v0), (3, 0), (1, v2), (3, 0), (1, v4), (3, 0)] [] sh_T M := by
  refine x_lload_n (by decide +kernel : am_at co_X12_isIn 0 = some (1, .lload_n 0)) rfl ?_
  refine x_lload_n (by decide +kernel : am_at co_X12_isIn 1 = some (1, .lload_n 2)) rfl ?_
  refine x_lif (tgt := 17) (by decide +kernel : am_at co_X12_isIn 2 = some (1, .lcmp)) (by decide +kernel : am_at co_X12_isIn 3 = some (3, .ifCond .lt 14)) rfl Iff.rfl (fun c0 => ?_) (fun c0 => ?_)
  · have h := h.1 c0
    refine x_iconst (by decide +kernel : am_at co_X12_isIn 17 = some (1, .iconst 0)) ?_
    exact x_zret (by decide +kernel : am_at co_X12_isIn 18 = some (1, .ireturn)) (by decide) h
  · have c0 := (Int.not_lt.mp c0)
    have h := h.2 c0
    refine x_lload_n (by decide +kernel : am_at co_X12_isIn 6 = some (1, .lload_n 0)) rfl ?_
    refine x_lload (by decide +kernel : am_at co_X12_isIn 7 = some (2, .lload 4)) rfl ?_
    refine x_lif (tgt := 17) (by decide +kernel : am_at co_X12_isIn 9 = some (1, .lcmp)) (by decide +kernel : am_at co_X12_isIn 10 = some (3, .ifCond .gt 7)) rfl Iff.rfl (fun c1 => ?_) (fun c1 => ?_)
    · have h := h.1 c1
      refine x_iconst (by decide +kernel : am_at co_X12_isIn 17 = some (1, .iconst 0)) ?_
      exact x_zret (by decide +kernel : am_at co_X12_isIn 18 = some (1, .ireturn)) (by decide) h
    · have c1 := (Int.not_lt.mp c1)
      have h := h.2 c1
      refine x_iconst (by decide +kernel : am_at co_X12_isIn 13 = some (1, .iconst 1)) ?_
      refine x_goto (tgt := 18) (by decide +kernel : am_at co_X12_isIn 14 = some (3, .goto 4)) rfl ?_
      exact x_zret (by decide +kernel : am_at co_X12_isIn 18 = some (1, .ireturn)) (by decide) h
set_option maxRecDepth 20000 in
theorem bk_X12_feed_0 {d : Nat} {Q : am_Q} {M : am_M} {v1 v2 v3 v4 v5 : Int} (h : am_r ((M 152 1) + 20) ∧ (((M 152 1) + 20 ≤ 1600 → am_g 12 0 co_X12_feed d Q 28 [(2, 152), (0, v1), (0, v2), (0, v3), (0, v4), (0, v5), (0, 0), (3, 0)] [] sh_T M) ∧ (1600 < (M 152 1) + 20 → am_r ((M 154 0) + 1) ∧ Q (some (0, (-1)), sh_T, (am_up M 154 0 ((M 154 0) + 1)))))) : am_g 12 0 co_X12_feed d Q 0 [(2, 152), (0, v1), (0, v2), (0, v3), (0, v4), (0, v5), (3, 0), (3, 0)] [] sh_T M := by
  refine x_aload_n (by decide +kernel : am_at co_X12_feed 0 = some (1, .aload_n 0)) rfl ?_
  refine x_getf (by decide +kernel : am_at co_X12_feed 1 = some (3, .getfield 206)) pq_12_206 rfl ob_152 ?_
  refine x_bipush (by decide +kernel : am_at co_X12_feed 4 = some (2, .bipush 20)) ?_
  obtain ⟨o0, h⟩ := h
  refine x_iadd (by decide +kernel : am_at co_X12_feed 6 = some (1, .iadd)) o0 ?_
  refine x_sipush (by decide +kernel : am_at co_X12_feed 7 = some (3, .sipush 1600)) ?_
  refine x_icmp (tgt := 25) (by decide +kernel : am_at co_X12_feed 10 = some (3, .if_icmp .le 15)) rfl Iff.rfl (fun c1 => ?_) (fun c1 => ?_)
  · have h := h.1 c1
    refine x_iconst (by decide +kernel : am_at co_X12_feed 25 = some (1, .iconst 0)) ?_
    refine x_istore (L' := [(2, 152), (0, v1), (0, v2), (0, v3), (0, v4), (0, v5), (0, 0), (3, 0)]) (by decide +kernel : am_at co_X12_feed 26 = some (2, .istore 6)) rfl ?_
    exact am_weak (lk (lk (lk (lk (lk (lk (lk (lk ln)))))))) h
  · have c1 := (Int.not_le.mp c1)
    have h := h.2 c1
    refine x_aload_n (by decide +kernel : am_at co_X12_feed 13 = some (1, .aload_n 0)) rfl ?_
    refine x_getF (by decide +kernel : am_at co_X12_feed 14 = some (3, .getfield 17)) pq_12_17 (by decide) rfl ob_152 ?_
    refine x_top2 (show 152 + 2 = 154 from rfl) ?_
    refine x_iconst (by decide +kernel : am_at co_X12_feed 17 = some (1, .iconst 0)) ?_
    refine x_dup2 (by decide +kernel : am_at co_X12_feed 18 = some (1, .dup2)) ?_
    refine x_iald (by decide +kernel : am_at co_X12_feed 19 = some (1, .iaload)) (ia_154 (by decide) (by decide)) ?_
    refine x_iconst (by decide +kernel : am_at co_X12_feed 20 = some (1, .iconst 1)) ?_
    obtain ⟨o2, h⟩ := h
    refine x_iadd (by decide +kernel : am_at co_X12_feed 21 = some (1, .iadd)) o2 ?_
    refine x_iast (by decide +kernel : am_at co_X12_feed 22 = some (1, .iastore)) (ow_154 (by decide) (by decide)) ?_
    refine x_iconst (by decide +kernel : am_at co_X12_feed 23 = some (1, .iconst (-1))) ?_
    exact x_iret (by decide +kernel : am_at co_X12_feed 24 = some (1, .ireturn)) h
set_option maxRecDepth 20000 in
theorem bk_X12_feed_28 {d : Nat} {Q : am_Q} {M : am_M} {v1 v2 v3 v4 v5 v6 : Int} (h : ((20 ≤ v6 → Q (some (0, M 152 1), sh_T, M)) ∧ (v6 < 20 → ((4 ≤ v6 → ((8 ≤ v6 → ((12 ≤ v6 → ((16 ≤ v6 → am_r (3 - (v6.tmod 4)) ∧ am_r (8 * (3 - (v6.tmod 4))) ∧ (0 ≤ M 152 1 ∧ M 152 1 < 1600) ∧ am_r ((M 152 1) + 1) ∧ am_r (v6 + 1) ∧ am_g 12 0 co_X12_feed d Q 28 [(2, 152), (0, v1), (0, v2), (0, v3), (0, v4), (0, v5), (0, v6 + 1), (3, 0)] [] sh_T (am_up (am_up M 153 (M 152 1) (am_band (am_shr v5 (8 * (3 - (v6.tmod 4)))) 255)) 152 1 ((M 152 1) + 1))) ∧ (v6 < 16 → am_r (3 - (v6.tmod 4)) ∧ am_r (8 * (3 - (v6.tmod 4))) ∧ (0 ≤ M 152 1 ∧ M 152 1 < 1600) ∧ am_r ((M 152 1) + 1) ∧ am_r (v6 + 1) ∧ am_g 12 0 co_X12_feed d Q 28 [(2, 152), (0, v1), (0, v2), (0, v3), (0, v4), (0, v5), (0, v6 + 1), (3, 0)] [] sh_T (am_up (am_up M 153 (M 152 1) (am_band (am_shr v4 (8 * (3 - (v6.tmod 4)))) 255)) 152 1 ((M 152 1) + 1))))) ∧ (v6 < 12 → am_r (3 - (v6.tmod 4)) ∧ am_r (8 * (3 - (v6.tmod 4))) ∧ (0 ≤ M 152 1 ∧ M 152 1 < 1600) ∧ am_r ((M 152 1) + 1) ∧ am_r (v6 + 1) ∧ am_g 12 0 co_X12_feed d Q 28 [(2, 152), (0, v1), (0, v2), (0, v3), (0, v4), (0, v5), (0, v6 + 1), (3, 0)] [] sh_T (am_up (am_up M 153 (M 152 1) (am_band (am_shr v3 (8 * (3 - (v6.tmod 4)))) 255)) 152 1 ((M 152 1) + 1))))) ∧ (v6 < 8 → am_r (3 - (v6.tmod 4)) ∧ am_r (8 * (3 - (v6.tmod 4))) ∧ (0 ≤ M 152 1 ∧ M 152 1 < 1600) ∧ am_r ((M 152 1) + 1) ∧ am_r (v6 + 1) ∧ am_g 12 0 co_X12_feed d Q 28 [(2, 152), (0, v1), (0, v2), (0, v3), (0, v4), (0, v5), (0, v6 + 1), (3, 0)] [] sh_T (am_up (am_up M 153 (M 152 1) (am_band (am_shr v2 (8 * (3 - (v6.tmod 4)))) 255)) 152 1 ((M 152 1) + 1))))) ∧ (v6 < 4 → am_r (3 - (v6.tmod 4)) ∧ am_r (8 * (3 - (v6.tmod 4))) ∧ (0 ≤ M 152 1 ∧ M 152 1 < 1600) ∧ am_r ((M 152 1) + 1) ∧ am_r (v6 + 1) ∧ am_g 12 0 co_X12_feed d Q 28 [(2, 152), (0, v1), (0, v2), (0, v3), (0, v4), (0, v5), (0, v6 + 1), (3, 0)] [] sh_T (am_up (am_up M 153 (M 152 1) (am_band (am_shr v1 (8 * (3 - (v6.tmod 4)))) 255)) 152 1 ((M 152 1) + 1))))))) : am_g 12 0 co_X12_feed d Q 28 [(2, 152), (0, v1), (0, v2), (0, v3), (0, v4), (0, v5), (0, v6), (3, 0)] [] sh_T M := by
  refine x_iload (by decide +kernel : am_at co_X12_feed 28 = some (2, .iload 6)) rfl ?_
  refine x_bipush (by decide +kernel : am_at co_X12_feed 30 = some (2, .bipush 20)) ?_
  refine x_icmp (tgt := 124) (by decide +kernel : am_at co_X12_feed 32 = some (3, .if_icmp .ge 92)) rfl Iff.rfl (fun c0 => ?_) (fun c0 => ?_)
  · have h := h.1 c0
    refine x_aload_n (by decide +kernel : am_at co_X12_feed 124 = some (1, .aload_n 0)) rfl ?_
    refine x_getf (by decide +kernel : am_at co_X12_feed 125 = some (3, .getfield 206)) pq_12_206 rfl ob_152 ?_
    exact x_iret (by decide +kernel : am_at co_X12_feed 128 = some (1, .ireturn)) h
  · have c0 := (Int.not_le.mp c0)
    have h := h.2 c0
    refine x_iload (by decide +kernel : am_at co_X12_feed 35 = some (2, .iload 6)) rfl ?_
    refine x_iconst (by decide +kernel : am_at co_X12_feed 37 = some (1, .iconst 4)) ?_
    refine x_icmp (tgt := 45) (by decide +kernel : am_at co_X12_feed 38 = some (3, .if_icmp .ge 7)) rfl Iff.rfl (fun c1 => ?_) (fun c1 => ?_)
    · have h := h.1 c1
      refine x_iload (by decide +kernel : am_at co_X12_feed 45 = some (2, .iload 6)) rfl ?_
      refine x_bipush (by decide +kernel : am_at co_X12_feed 47 = some (2, .bipush 8)) ?_
      refine x_icmp (tgt := 56) (by decide +kernel : am_at co_X12_feed 49 = some (3, .if_icmp .ge 7)) rfl Iff.rfl (fun c2 => ?_) (fun c2 => ?_)
      · have h := h.1 c2
        refine x_iload (by decide +kernel : am_at co_X12_feed 56 = some (2, .iload 6)) rfl ?_
        refine x_bipush (by decide +kernel : am_at co_X12_feed 58 = some (2, .bipush 12)) ?_
        refine x_icmp (tgt := 67) (by decide +kernel : am_at co_X12_feed 60 = some (3, .if_icmp .ge 7)) rfl Iff.rfl (fun c3 => ?_) (fun c3 => ?_)
        · have h := h.1 c3
          refine x_iload (by decide +kernel : am_at co_X12_feed 67 = some (2, .iload 6)) rfl ?_
          refine x_bipush (by decide +kernel : am_at co_X12_feed 69 = some (2, .bipush 16)) ?_
          refine x_icmp (tgt := 79) (by decide +kernel : am_at co_X12_feed 71 = some (3, .if_icmp .ge 8)) rfl Iff.rfl (fun c4 => ?_) (fun c4 => ?_)
          · have h := h.1 c4
            refine x_iload (by decide +kernel : am_at co_X12_feed 79 = some (2, .iload 5)) rfl ?_
            refine x_istore (L' := [(2, 152), (0, v1), (0, v2), (0, v3), (0, v4), (0, v5), (0, v6), (0, v5)]) (by decide +kernel : am_at co_X12_feed 81 = some (2, .istore 7)) rfl ?_
            refine x_aload_n (by decide +kernel : am_at co_X12_feed 83 = some (1, .aload_n 0)) rfl ?_
            refine x_getF (by decide +kernel : am_at co_X12_feed 84 = some (3, .getfield 7)) pq_12_7 (by decide) rfl ob_152 ?_
            refine x_top2 (show 152 + 1 = 153 from rfl) ?_
            refine x_aload_n (by decide +kernel : am_at co_X12_feed 87 = some (1, .aload_n 0)) rfl ?_
            refine x_getf (by decide +kernel : am_at co_X12_feed 88 = some (3, .getfield 206)) pq_12_206 rfl ob_152 ?_
            refine x_iload (by decide +kernel : am_at co_X12_feed 91 = some (2, .iload 7)) rfl ?_
            refine x_bipush (by decide +kernel : am_at co_X12_feed 93 = some (2, .bipush 8)) ?_
            refine x_iconst (by decide +kernel : am_at co_X12_feed 95 = some (1, .iconst 3)) ?_
            refine x_iload (by decide +kernel : am_at co_X12_feed 96 = some (2, .iload 6)) rfl ?_
            refine x_iconst (by decide +kernel : am_at co_X12_feed 98 = some (1, .iconst 4)) ?_
            refine x_irem (by decide +kernel : am_at co_X12_feed 99 = some (1, .irem)) (by decide) ?_
            obtain ⟨o5, h⟩ := h
            refine x_isub (by decide +kernel : am_at co_X12_feed 100 = some (1, .isub)) o5 ?_
            obtain ⟨o6, h⟩ := h
            refine x_imul (by decide +kernel : am_at co_X12_feed 101 = some (1, .imul)) o6 ?_
            refine x_ishr (by decide +kernel : am_at co_X12_feed 102 = some (1, .ishr)) ?_
            refine x_sipush (by decide +kernel : am_at co_X12_feed 103 = some (3, .sipush 255)) ?_
            refine x_iand (by decide +kernel : am_at co_X12_feed 106 = some (1, .iand)) ?_
            obtain ⟨o7, h⟩ := h
            refine x_iast (by decide +kernel : am_at co_X12_feed 107 = some (1, .iastore)) (ow_153 o7.1 o7.2) ?_
            refine x_aload_n (by decide +kernel : am_at co_X12_feed 108 = some (1, .aload_n 0)) rfl ?_
            refine x_dup2' (by decide +kernel : am_at co_X12_feed 109 = some (1, .dup)) ?_
            refine x_getf (by decide +kernel : am_at co_X12_feed 110 = some (3, .getfield 206)) pq_12_206 rfl ob_152 ?_
            refine x_top0 (show (am_up M 153 (M 152 1) (am_band (am_shr v5 (8 * (3 - (v6.tmod 4)))) 255)) 152 1 = M 152 1 from by first | rfl | simp [am_up]) ?_
            refine x_iconst (by decide +kernel : am_at co_X12_feed 113 = some (1, .iconst 1)) ?_
            obtain ⟨o8, h⟩ := h
            refine x_iadd (by decide +kernel : am_at co_X12_feed 114 = some (1, .iadd)) o8 ?_
            refine x_putf0 (by decide +kernel : am_at co_X12_feed 115 = some (3, .putfield 206)) pq_12_206 rfl ob_152 ?_
            obtain ⟨o9, h⟩ := h
            refine x_iinc (L' := [(2, 152), (0, v1), (0, v2), (0, v3), (0, v4), (0, v5), (0, v6 + 1), (0, v5)]) (by decide +kernel : am_at co_X12_feed 118 = some (3, .iinc 6 1)) rfl o9 rfl ?_
            refine x_goto (tgt := 28) (by decide +kernel : am_at co_X12_feed 121 = some (3, .goto (-93))) rfl ?_
            exact am_weak (lk (lk (lk (lk (lk (lk (lk (ld ln)))))))) h
          · have c4 := (Int.not_le.mp c4)
            have h := h.2 c4
            refine x_iload (by decide +kernel : am_at co_X12_feed 74 = some (2, .iload 4)) rfl ?_
            refine x_goto (tgt := 81) (by decide +kernel : am_at co_X12_feed 76 = some (3, .goto 5)) rfl ?_
            refine x_istore (L' := [(2, 152), (0, v1), (0, v2), (0, v3), (0, v4), (0, v5), (0, v6), (0, v4)]) (by decide +kernel : am_at co_X12_feed 81 = some (2, .istore 7)) rfl ?_
            refine x_aload_n (by decide +kernel : am_at co_X12_feed 83 = some (1, .aload_n 0)) rfl ?_
            refine x_getF (by decide +kernel : am_at co_X12_feed 84 = some (3, .getfield 7)) pq_12_7 (by decide) rfl ob_152 ?_
            refine x_top2 (show 152 + 1 = 153 from rfl) ?_
            refine x_aload_n (by decide +kernel : am_at co_X12_feed 87 = some (1, .aload_n 0)) rfl ?_
            refine x_getf (by decide +kernel : am_at co_X12_feed 88 = some (3, .getfield 206)) pq_12_206 rfl ob_152 ?_
            refine x_iload (by decide +kernel : am_at co_X12_feed 91 = some (2, .iload 7)) rfl ?_
            refine x_bipush (by decide +kernel : am_at co_X12_feed 93 = some (2, .bipush 8)) ?_
            refine x_iconst (by decide +kernel : am_at co_X12_feed 95 = some (1, .iconst 3)) ?_
            refine x_iload (by decide +kernel : am_at co_X12_feed 96 = some (2, .iload 6)) rfl ?_
            refine x_iconst (by decide +kernel : am_at co_X12_feed 98 = some (1, .iconst 4)) ?_
            refine x_irem (by decide +kernel : am_at co_X12_feed 99 = some (1, .irem)) (by decide) ?_
            obtain ⟨o10, h⟩ := h
            refine x_isub (by decide +kernel : am_at co_X12_feed 100 = some (1, .isub)) o10 ?_
            obtain ⟨o11, h⟩ := h
            refine x_imul (by decide +kernel : am_at co_X12_feed 101 = some (1, .imul)) o11 ?_
            refine x_ishr (by decide +kernel : am_at co_X12_feed 102 = some (1, .ishr)) ?_
            refine x_sipush (by decide +kernel : am_at co_X12_feed 103 = some (3, .sipush 255)) ?_
            refine x_iand (by decide +kernel : am_at co_X12_feed 106 = some (1, .iand)) ?_
            obtain ⟨o12, h⟩ := h
            refine x_iast (by decide +kernel : am_at co_X12_feed 107 = some (1, .iastore)) (ow_153 o12.1 o12.2) ?_
            refine x_aload_n (by decide +kernel : am_at co_X12_feed 108 = some (1, .aload_n 0)) rfl ?_
            refine x_dup2' (by decide +kernel : am_at co_X12_feed 109 = some (1, .dup)) ?_
            refine x_getf (by decide +kernel : am_at co_X12_feed 110 = some (3, .getfield 206)) pq_12_206 rfl ob_152 ?_
            refine x_top0 (show (am_up M 153 (M 152 1) (am_band (am_shr v4 (8 * (3 - (v6.tmod 4)))) 255)) 152 1 = M 152 1 from by first | rfl | simp [am_up]) ?_
            refine x_iconst (by decide +kernel : am_at co_X12_feed 113 = some (1, .iconst 1)) ?_
            obtain ⟨o13, h⟩ := h
            refine x_iadd (by decide +kernel : am_at co_X12_feed 114 = some (1, .iadd)) o13 ?_
            refine x_putf0 (by decide +kernel : am_at co_X12_feed 115 = some (3, .putfield 206)) pq_12_206 rfl ob_152 ?_
            obtain ⟨o14, h⟩ := h
            refine x_iinc (L' := [(2, 152), (0, v1), (0, v2), (0, v3), (0, v4), (0, v5), (0, v6 + 1), (0, v4)]) (by decide +kernel : am_at co_X12_feed 118 = some (3, .iinc 6 1)) rfl o14 rfl ?_
            refine x_goto (tgt := 28) (by decide +kernel : am_at co_X12_feed 121 = some (3, .goto (-93))) rfl ?_
            exact am_weak (lk (lk (lk (lk (lk (lk (lk (ld ln)))))))) h
        · have c3 := (Int.not_le.mp c3)
          have h := h.2 c3
          refine x_iload_n (by decide +kernel : am_at co_X12_feed 63 = some (1, .iload_n 3)) rfl ?_
          refine x_goto (tgt := 81) (by decide +kernel : am_at co_X12_feed 64 = some (3, .goto 17)) rfl ?_
          refine x_istore (L' := [(2, 152), (0, v1), (0, v2), (0, v3), (0, v4), (0, v5), (0, v6), (0, v3)]) (by decide +kernel : am_at co_X12_feed 81 = some (2, .istore 7)) rfl ?_
          refine x_aload_n (by decide +kernel : am_at co_X12_feed 83 = some (1, .aload_n 0)) rfl ?_
          refine x_getF (by decide +kernel : am_at co_X12_feed 84 = some (3, .getfield 7)) pq_12_7 (by decide) rfl ob_152 ?_
          refine x_top2 (show 152 + 1 = 153 from rfl) ?_
          refine x_aload_n (by decide +kernel : am_at co_X12_feed 87 = some (1, .aload_n 0)) rfl ?_
          refine x_getf (by decide +kernel : am_at co_X12_feed 88 = some (3, .getfield 206)) pq_12_206 rfl ob_152 ?_
          refine x_iload (by decide +kernel : am_at co_X12_feed 91 = some (2, .iload 7)) rfl ?_
          refine x_bipush (by decide +kernel : am_at co_X12_feed 93 = some (2, .bipush 8)) ?_
          refine x_iconst (by decide +kernel : am_at co_X12_feed 95 = some (1, .iconst 3)) ?_
          refine x_iload (by decide +kernel : am_at co_X12_feed 96 = some (2, .iload 6)) rfl ?_
          refine x_iconst (by decide +kernel : am_at co_X12_feed 98 = some (1, .iconst 4)) ?_
          refine x_irem (by decide +kernel : am_at co_X12_feed 99 = some (1, .irem)) (by decide) ?_
          obtain ⟨o15, h⟩ := h
          refine x_isub (by decide +kernel : am_at co_X12_feed 100 = some (1, .isub)) o15 ?_
          obtain ⟨o16, h⟩ := h
          refine x_imul (by decide +kernel : am_at co_X12_feed 101 = some (1, .imul)) o16 ?_
          refine x_ishr (by decide +kernel : am_at co_X12_feed 102 = some (1, .ishr)) ?_
          refine x_sipush (by decide +kernel : am_at co_X12_feed 103 = some (3, .sipush 255)) ?_
          refine x_iand (by decide +kernel : am_at co_X12_feed 106 = some (1, .iand)) ?_
          obtain ⟨o17, h⟩ := h
          refine x_iast (by decide +kernel : am_at co_X12_feed 107 = some (1, .iastore)) (ow_153 o17.1 o17.2) ?_
          refine x_aload_n (by decide +kernel : am_at co_X12_feed 108 = some (1, .aload_n 0)) rfl ?_
          refine x_dup2' (by decide +kernel : am_at co_X12_feed 109 = some (1, .dup)) ?_
          refine x_getf (by decide +kernel : am_at co_X12_feed 110 = some (3, .getfield 206)) pq_12_206 rfl ob_152 ?_
          refine x_top0 (show (am_up M 153 (M 152 1) (am_band (am_shr v3 (8 * (3 - (v6.tmod 4)))) 255)) 152 1 = M 152 1 from by first | rfl | simp [am_up]) ?_
          refine x_iconst (by decide +kernel : am_at co_X12_feed 113 = some (1, .iconst 1)) ?_
          obtain ⟨o18, h⟩ := h
          refine x_iadd (by decide +kernel : am_at co_X12_feed 114 = some (1, .iadd)) o18 ?_
          refine x_putf0 (by decide +kernel : am_at co_X12_feed 115 = some (3, .putfield 206)) pq_12_206 rfl ob_152 ?_
          obtain ⟨o19, h⟩ := h
          refine x_iinc (L' := [(2, 152), (0, v1), (0, v2), (0, v3), (0, v4), (0, v5), (0, v6 + 1), (0, v3)]) (by decide +kernel : am_at co_X12_feed 118 = some (3, .iinc 6 1)) rfl o19 rfl ?_
          refine x_goto (tgt := 28) (by decide +kernel : am_at co_X12_feed 121 = some (3, .goto (-93))) rfl ?_
          exact am_weak (lk (lk (lk (lk (lk (lk (lk (ld ln)))))))) h
      · have c2 := (Int.not_le.mp c2)
        have h := h.2 c2
        refine x_iload_n (by decide +kernel : am_at co_X12_feed 52 = some (1, .iload_n 2)) rfl ?_
        refine x_goto (tgt := 81) (by decide +kernel : am_at co_X12_feed 53 = some (3, .goto 28)) rfl ?_
        refine x_istore (L' := [(2, 152), (0, v1), (0, v2), (0, v3), (0, v4), (0, v5), (0, v6), (0, v2)]) (by decide +kernel : am_at co_X12_feed 81 = some (2, .istore 7)) rfl ?_
        refine x_aload_n (by decide +kernel : am_at co_X12_feed 83 = some (1, .aload_n 0)) rfl ?_
        refine x_getF (by decide +kernel : am_at co_X12_feed 84 = some (3, .getfield 7)) pq_12_7 (by decide) rfl ob_152 ?_
        refine x_top2 (show 152 + 1 = 153 from rfl) ?_
        refine x_aload_n (by decide +kernel : am_at co_X12_feed 87 = some (1, .aload_n 0)) rfl ?_
        refine x_getf (by decide +kernel : am_at co_X12_feed 88 = some (3, .getfield 206)) pq_12_206 rfl ob_152 ?_
        refine x_iload (by decide +kernel : am_at co_X12_feed 91 = some (2, .iload 7)) rfl ?_
        refine x_bipush (by decide +kernel : am_at co_X12_feed 93 = some (2, .bipush 8)) ?_
        refine x_iconst (by decide +kernel : am_at co_X12_feed 95 = some (1, .iconst 3)) ?_
        refine x_iload (by decide +kernel : am_at co_X12_feed 96 = some (2, .iload 6)) rfl ?_
        refine x_iconst (by decide +kernel : am_at co_X12_feed 98 = some (1, .iconst 4)) ?_
        refine x_irem (by decide +kernel : am_at co_X12_feed 99 = some (1, .irem)) (by decide) ?_
        obtain ⟨o20, h⟩ := h
        refine x_isub (by decide +kernel : am_at co_X12_feed 100 = some (1, .isub)) o20 ?_
        obtain ⟨o21, h⟩ := h
        refine x_imul (by decide +kernel : am_at co_X12_feed 101 = some (1, .imul)) o21 ?_
        refine x_ishr (by decide +kernel : am_at co_X12_feed 102 = some (1, .ishr)) ?_
        refine x_sipush (by decide +kernel : am_at co_X12_feed 103 = some (3, .sipush 255)) ?_
        refine x_iand (by decide +kernel : am_at co_X12_feed 106 = some (1, .iand)) ?_
        obtain ⟨o22, h⟩ := h
        refine x_iast (by decide +kernel : am_at co_X12_feed 107 = some (1, .iastore)) (ow_153 o22.1 o22.2) ?_
        refine x_aload_n (by decide +kernel : am_at co_X12_feed 108 = some (1, .aload_n 0)) rfl ?_
        refine x_dup2' (by decide +kernel : am_at co_X12_feed 109 = some (1, .dup)) ?_
        refine x_getf (by decide +kernel : am_at co_X12_feed 110 = some (3, .getfield 206)) pq_12_206 rfl ob_152 ?_
        refine x_top0 (show (am_up M 153 (M 152 1) (am_band (am_shr v2 (8 * (3 - (v6.tmod 4)))) 255)) 152 1 = M 152 1 from by first | rfl | simp [am_up]) ?_
        refine x_iconst (by decide +kernel : am_at co_X12_feed 113 = some (1, .iconst 1)) ?_
        obtain ⟨o23, h⟩ := h
        refine x_iadd (by decide +kernel : am_at co_X12_feed 114 = some (1, .iadd)) o23 ?_
        refine x_putf0 (by decide +kernel : am_at co_X12_feed 115 = some (3, .putfield 206)) pq_12_206 rfl ob_152 ?_
        obtain ⟨o24, h⟩ := h
        refine x_iinc (L' := [(2, 152), (0, v1), (0, v2), (0, v3), (0, v4), (0, v5), (0, v6 + 1), (0, v2)]) (by decide +kernel : am_at co_X12_feed 118 = some (3, .iinc 6 1)) rfl o24 rfl ?_
        refine x_goto (tgt := 28) (by decide +kernel : am_at co_X12_feed 121 = some (3, .goto (-93))) rfl ?_
        exact am_weak (lk (lk (lk (lk (lk (lk (lk (ld ln)))))))) h
    · have c1 := (Int.not_le.mp c1)
      have h := h.2 c1
      refine x_iload_n (by decide +kernel : am_at co_X12_feed 41 = some (1, .iload_n 1)) rfl ?_
      refine x_goto (tgt := 81) (by decide +kernel : am_at co_X12_feed 42 = some (3, .goto 39)) rfl ?_
      refine x_istore (L' := [(2, 152), (0, v1), (0, v2), (0, v3), (0, v4), (0, v5), (0, v6), (0, v1)]) (by decide +kernel : am_at co_X12_feed 81 = some (2, .istore 7)) rfl ?_
      refine x_aload_n (by decide +kernel : am_at co_X12_feed 83 = some (1, .aload_n 0)) rfl ?_
      refine x_getF (by decide +kernel : am_at co_X12_feed 84 = some (3, .getfield 7)) pq_12_7 (by decide) rfl ob_152 ?_
      refine x_top2 (show 152 + 1 = 153 from rfl) ?_
      refine x_aload_n (by decide +kernel : am_at co_X12_feed 87 = some (1, .aload_n 0)) rfl ?_
      refine x_getf (by decide +kernel : am_at co_X12_feed 88 = some (3, .getfield 206)) pq_12_206 rfl ob_152 ?_
      refine x_iload (by decide +kernel : am_at co_X12_feed 91 = some (2, .iload 7)) rfl ?_
      refine x_bipush (by decide +kernel : am_at co_X12_feed 93 = some (2, .bipush 8)) ?_
      refine x_iconst (by decide +kernel : am_at co_X12_feed 95 = some (1, .iconst 3)) ?_
      refine x_iload (by decide +kernel : am_at co_X12_feed 96 = some (2, .iload 6)) rfl ?_
      refine x_iconst (by decide +kernel : am_at co_X12_feed 98 = some (1, .iconst 4)) ?_
      refine x_irem (by decide +kernel : am_at co_X12_feed 99 = some (1, .irem)) (by decide) ?_
      obtain ⟨o25, h⟩ := h
      refine x_isub (by decide +kernel : am_at co_X12_feed 100 = some (1, .isub)) o25 ?_
      obtain ⟨o26, h⟩ := h
      refine x_imul (by decide +kernel : am_at co_X12_feed 101 = some (1, .imul)) o26 ?_
      refine x_ishr (by decide +kernel : am_at co_X12_feed 102 = some (1, .ishr)) ?_
      refine x_sipush (by decide +kernel : am_at co_X12_feed 103 = some (3, .sipush 255)) ?_
      refine x_iand (by decide +kernel : am_at co_X12_feed 106 = some (1, .iand)) ?_
      obtain ⟨o27, h⟩ := h
      refine x_iast (by decide +kernel : am_at co_X12_feed 107 = some (1, .iastore)) (ow_153 o27.1 o27.2) ?_
      refine x_aload_n (by decide +kernel : am_at co_X12_feed 108 = some (1, .aload_n 0)) rfl ?_
      refine x_dup2' (by decide +kernel : am_at co_X12_feed 109 = some (1, .dup)) ?_
      refine x_getf (by decide +kernel : am_at co_X12_feed 110 = some (3, .getfield 206)) pq_12_206 rfl ob_152 ?_
      refine x_top0 (show (am_up M 153 (M 152 1) (am_band (am_shr v1 (8 * (3 - (v6.tmod 4)))) 255)) 152 1 = M 152 1 from by first | rfl | simp [am_up]) ?_
      refine x_iconst (by decide +kernel : am_at co_X12_feed 113 = some (1, .iconst 1)) ?_
      obtain ⟨o28, h⟩ := h
      refine x_iadd (by decide +kernel : am_at co_X12_feed 114 = some (1, .iadd)) o28 ?_
      refine x_putf0 (by decide +kernel : am_at co_X12_feed 115 = some (3, .putfield 206)) pq_12_206 rfl ob_152 ?_
      obtain ⟨o29, h⟩ := h
      refine x_iinc (L' := [(2, 152), (0, v1), (0, v2), (0, v3), (0, v4), (0, v5), (0, v6 + 1), (0, v1)]) (by decide +kernel : am_at co_X12_feed 118 = some (3, .iinc 6 1)) rfl o29 rfl ?_
      refine x_goto (tgt := 28) (by decide +kernel : am_at co_X12_feed 121 = some (3, .goto (-93))) rfl ?_
      exact am_weak (lk (lk (lk (lk (lk (lk (lk (ld ln)))))))) h
set_option maxRecDepth 20000 in
theorem bk_X12_end_0 {d : Nat} {Q : am_Q} {M : am_M} {v1 : Int} (h : ((v1 < 0 → am_r ((M 154 0) + 1) ∧ Q (some (0, 0), sh_T, (am_up M 154 0 ((M 154 0) + 1)))) ∧ (0 ≤ v1 → ((v1 ≤ M 152 1 → Q (some (0, 1), sh_T, (am_up M 152 1 v1))) ∧ (M 152 1 < v1 → am_r ((M 154 0) + 1) ∧ Q (some (0, 0), sh_T, (am_up M 154 0 ((M 154 0) + 1)))))))) : am_g 12 5 co_X12_end d Q 0 [(2, 152), (0, v1)] [] sh_T M := by
  refine x_iload_n (by decide +kernel : am_at co_X12_end 0 = some (1, .iload_n 1)) rfl ?_
  refine x_if (tgt := 12) (by decide +kernel : am_at co_X12_end 1 = some (3, .ifCond .lt 11)) rfl Iff.rfl (fun c0 => ?_) (fun c0 => ?_)
  · have h := h.1 c0
    refine x_aload_n (by decide +kernel : am_at co_X12_end 12 = some (1, .aload_n 0)) rfl ?_
    refine x_getF (by decide +kernel : am_at co_X12_end 13 = some (3, .getfield 17)) pq_12_17 (by decide) rfl ob_152 ?_
    refine x_top2 (show 152 + 2 = 154 from rfl) ?_
    refine x_iconst (by decide +kernel : am_at co_X12_end 16 = some (1, .iconst 0)) ?_
    refine x_dup2 (by decide +kernel : am_at co_X12_end 17 = some (1, .dup2)) ?_
    refine x_iald (by decide +kernel : am_at co_X12_end 18 = some (1, .iaload)) (ia_154 (by decide) (by decide)) ?_
    refine x_iconst (by decide +kernel : am_at co_X12_end 19 = some (1, .iconst 1)) ?_
    obtain ⟨o1, h⟩ := h
    refine x_iadd (by decide +kernel : am_at co_X12_end 20 = some (1, .iadd)) o1 ?_
    refine x_iast (by decide +kernel : am_at co_X12_end 21 = some (1, .iastore)) (ow_154 (by decide) (by decide)) ?_
    refine x_iconst (by decide +kernel : am_at co_X12_end 22 = some (1, .iconst 0)) ?_
    exact x_zret (by decide +kernel : am_at co_X12_end 23 = some (1, .ireturn)) (by decide) h
  · have c0 := (Int.not_lt.mp c0)
    have h := h.2 c0
    refine x_iload_n (by decide +kernel : am_at co_X12_end 4 = some (1, .iload_n 1)) rfl ?_
    refine x_aload_n (by decide +kernel : am_at co_X12_end 5 = some (1, .aload_n 0)) rfl ?_
    refine x_getf (by decide +kernel : am_at co_X12_end 6 = some (3, .getfield 206)) pq_12_206 rfl ob_152 ?_
    refine x_icmp (tgt := 24) (by decide +kernel : am_at co_X12_end 9 = some (3, .if_icmp .le 15)) rfl Iff.rfl (fun c2 => ?_) (fun c2 => ?_)
    · have h := h.1 c2
      refine x_aload_n (by decide +kernel : am_at co_X12_end 24 = some (1, .aload_n 0)) rfl ?_
      refine x_iload_n (by decide +kernel : am_at co_X12_end 25 = some (1, .iload_n 1)) rfl ?_
      refine x_putf0 (by decide +kernel : am_at co_X12_end 26 = some (3, .putfield 206)) pq_12_206 rfl ob_152 ?_
      refine x_iconst (by decide +kernel : am_at co_X12_end 29 = some (1, .iconst 1)) ?_
      exact x_zret (by decide +kernel : am_at co_X12_end 30 = some (1, .ireturn)) (by decide) h
    · have c2 := (Int.not_le.mp c2)
      have h := h.2 c2
      refine x_aload_n (by decide +kernel : am_at co_X12_end 12 = some (1, .aload_n 0)) rfl ?_
      refine x_getF (by decide +kernel : am_at co_X12_end 13 = some (3, .getfield 17)) pq_12_17 (by decide) rfl ob_152 ?_
      refine x_top2 (show 152 + 2 = 154 from rfl) ?_
      refine x_iconst (by decide +kernel : am_at co_X12_end 16 = some (1, .iconst 0)) ?_
      refine x_dup2 (by decide +kernel : am_at co_X12_end 17 = some (1, .dup2)) ?_
      refine x_iald (by decide +kernel : am_at co_X12_end 18 = some (1, .iaload)) (ia_154 (by decide) (by decide)) ?_
      refine x_iconst (by decide +kernel : am_at co_X12_end 19 = some (1, .iconst 1)) ?_
      obtain ⟨o3, h⟩ := h
      refine x_iadd (by decide +kernel : am_at co_X12_end 20 = some (1, .iadd)) o3 ?_
      refine x_iast (by decide +kernel : am_at co_X12_end 21 = some (1, .iastore)) (ow_154 (by decide) (by decide)) ?_
      refine x_iconst (by decide +kernel : am_at co_X12_end 22 = some (1, .iconst 0)) ?_
      exact x_zret (by decide +kernel : am_at co_X12_end 23 = some (1, .ireturn)) (by decide) h
set_option maxRecDepth 20000 in
theorem bk_X12_fail_0 {d : Nat} {Q : am_Q} {M : am_M} {v1 v2 : Int} (h : ((M 152 5 = 0 → Q (none, sh_T, (am_up (am_up M 152 5 v1) 152 6 v2))) ∧ (¬ M 152 5 = 0 → Q (none, sh_T, M)))) : am_g 12 9 co_X12_fail d Q 0 [(2, 152), (0, v1), (0, v2)] [] sh_T M := by
  refine x_aload_n (by decide +kernel : am_at co_X12_fail 0 = some (1, .aload_n 0)) rfl ?_
  refine x_getf (by decide +kernel : am_at co_X12_fail 1 = some (3, .getfield 209)) pq_12_209 rfl ob_152 ?_
  refine x_if (tgt := 8) (by decide +kernel : am_at co_X12_fail 4 = some (3, .ifCond .eq 4)) rfl Iff.rfl (fun c0 => ?_) (fun c0 => ?_)
  · have h := h.1 c0
    refine x_aload_n (by decide +kernel : am_at co_X12_fail 8 = some (1, .aload_n 0)) rfl ?_
    refine x_iload_n (by decide +kernel : am_at co_X12_fail 9 = some (1, .iload_n 1)) rfl ?_
    refine x_putf0 (by decide +kernel : am_at co_X12_fail 10 = some (3, .putfield 209)) pq_12_209 rfl ob_152 ?_
    refine x_aload_n (by decide +kernel : am_at co_X12_fail 13 = some (1, .aload_n 0)) rfl ?_
    refine x_iload_n (by decide +kernel : am_at co_X12_fail 14 = some (1, .iload_n 2)) rfl ?_
    refine x_putf0 (by decide +kernel : am_at co_X12_fail 15 = some (3, .putfield 212)) pq_12_212 rfl ob_152 ?_
    exact x_vret (by decide +kernel : am_at co_X12_fail 18 = some (1, .return_)) h
  · have c0 := c0
    have h := h.2 c0
    exact x_vret (by decide +kernel : am_at co_X12_fail 7 = some (1, .return_)) h
set_option maxRecDepth 20000 in
theorem bk_X12_isLetter_0 {d : Nat} {Q : am_Q} {M : am_M} {v0 : Int} (h : ((v0 < 97 → Q (some (0, 0), sh_T, M)) ∧ (97 ≤ v0 → ((122 < v0 → Q (some (0, 0), sh_T, M)) ∧ (v0 ≤ 122 → Q (some (0, 1), sh_T, M)))))) : am_g 12 5 co_X12_isLetter d Q 0 [(0, v0)] [] sh_T M := by
  refine x_iload_n (by decide +kernel : am_at co_X12_isLetter 0 = some (1, .iload_n 0)) rfl ?_
  refine x_bipush (by decide +kernel : am_at co_X12_isLetter 1 = some (2, .bipush 97)) ?_
  refine x_icmp (tgt := 16) (by decide +kernel : am_at co_X12_isLetter 3 = some (3, .if_icmp .lt 13)) rfl Iff.rfl (fun c0 => ?_) (fun c0 => ?_)
  · have h := h.1 c0
    refine x_iconst (by decide +kernel : am_at co_X12_isLetter 16 = some (1, .iconst 0)) ?_
    exact x_zret (by decide +kernel : am_at co_X12_isLetter 17 = some (1, .ireturn)) (by decide) h
  · have c0 := (Int.not_lt.mp c0)
    have h := h.2 c0
    refine x_iload_n (by decide +kernel : am_at co_X12_isLetter 6 = some (1, .iload_n 0)) rfl ?_
    refine x_bipush (by decide +kernel : am_at co_X12_isLetter 7 = some (2, .bipush 122)) ?_
    refine x_icmp (tgt := 16) (by decide +kernel : am_at co_X12_isLetter 9 = some (3, .if_icmp .gt 7)) rfl Iff.rfl (fun c1 => ?_) (fun c1 => ?_)
    · have h := h.1 c1
      refine x_iconst (by decide +kernel : am_at co_X12_isLetter 16 = some (1, .iconst 0)) ?_
      exact x_zret (by decide +kernel : am_at co_X12_isLetter 17 = some (1, .ireturn)) (by decide) h
    · have c1 := (Int.not_lt.mp c1)
      have h := h.2 c1
      refine x_iconst (by decide +kernel : am_at co_X12_isLetter 12 = some (1, .iconst 1)) ?_
      refine x_goto (tgt := 17) (by decide +kernel : am_at co_X12_isLetter 13 = some (3, .goto 4)) rfl ?_
      exact x_zret (by decide +kernel : am_at co_X12_isLetter 17 = some (1, .ireturn)) (by decide) h
set_option maxRecDepth 20000 in
theorem bk_X12_isDigit_0 {d : Nat} {Q : am_Q} {M : am_M} {v0 : Int} (h : ((v0 < 48 → Q (some (0, 0), sh_T, M)) ∧ (48 ≤ v0 → ((57 < v0 → Q (some (0, 0), sh_T, M)) ∧ (v0 ≤ 57 → Q (some (0, 1), sh_T, M)))))) : am_g 12 5 co_X12_isDigit d Q 0 [(0, v0)] [] sh_T M := by
  refine x_iload_n (by decide +kernel : am_at co_X12_isDigit 0 = some (1, .iload_n 0)) rfl ?_
  refine x_bipush (by decide +kernel : am_at co_X12_isDigit 1 = some (2, .bipush 48)) ?_
  refine x_icmp (tgt := 16) (by decide +kernel : am_at co_X12_isDigit 3 = some (3, .if_icmp .lt 13)) rfl Iff.rfl (fun c0 => ?_) (fun c0 => ?_)
  · have h := h.1 c0
    refine x_iconst (by decide +kernel : am_at co_X12_isDigit 16 = some (1, .iconst 0)) ?_
    exact x_zret (by decide +kernel : am_at co_X12_isDigit 17 = some (1, .ireturn)) (by decide) h
  · have c0 := (Int.not_lt.mp c0)
    have h := h.2 c0
    refine x_iload_n (by decide +kernel : am_at co_X12_isDigit 6 = some (1, .iload_n 0)) rfl ?_
    refine x_bipush (by decide +kernel : am_at co_X12_isDigit 7 = some (2, .bipush 57)) ?_
    refine x_icmp (tgt := 16) (by decide +kernel : am_at co_X12_isDigit 9 = some (3, .if_icmp .gt 7)) rfl Iff.rfl (fun c1 => ?_) (fun c1 => ?_)
    · have h := h.1 c1
      refine x_iconst (by decide +kernel : am_at co_X12_isDigit 16 = some (1, .iconst 0)) ?_
      exact x_zret (by decide +kernel : am_at co_X12_isDigit 17 = some (1, .ireturn)) (by decide) h
    · have c1 := (Int.not_lt.mp c1)
      have h := h.2 c1
      refine x_iconst (by decide +kernel : am_at co_X12_isDigit 12 = some (1, .iconst 1)) ?_
      refine x_goto (tgt := 17) (by decide +kernel : am_at co_X12_isDigit 13 = some (3, .goto 4)) rfl ?_
      exact x_zret (by decide +kernel : am_at co_X12_isDigit 17 = some (1, .ireturn)) (by decide) h
set_option maxRecDepth 20000 in
theorem bk_X12_look_0 {d : Nat} {Q : am_Q} {M : am_M} (h : ((M 152 3 ≤ M 152 2 → Q (some (0, (-1)), sh_T, M)) ∧ (M 152 2 < M 152 3 → (0 ≤ M 152 2 ∧ M 152 2 < 1600) ∧ ((M 153 (M 152 2) = 10 → am_r ((M 152 2) + 1) ∧ am_g 12 0 co_X12_look d Q 0 [(2, 152)] [] sh_T (am_up M 152 2 ((M 152 2) + 1))) ∧ (¬ M 153 (M 152 2) = 10 → ((¬ M 153 (M 152 2) = 32 → Q (some (0, M 153 (M 152 2)), sh_T, M)) ∧ (M 153 (M 152 2) = 32 → am_r ((M 152 2) + 1) ∧ am_g 12 0 co_X12_look d Q 0 [(2, 152)] [] sh_T (am_up M 152 2 ((M 152 2) + 1))))))))) : am_g 12 0 co_X12_look d Q 0 [(2, 152)] [] sh_T M := by
  refine x_aload_n (by decide +kernel : am_at co_X12_look 0 = some (1, .aload_n 0)) rfl ?_
  refine x_getf (by decide +kernel : am_at co_X12_look 1 = some (3, .getfield 215)) pq_12_215 rfl ob_152 ?_
  refine x_aload_n (by decide +kernel : am_at co_X12_look 4 = some (1, .aload_n 0)) rfl ?_
  refine x_getf (by decide +kernel : am_at co_X12_look 5 = some (3, .getfield 218)) pq_12_218 rfl ob_152 ?_
  refine x_icmp (tgt := 52) (by decide +kernel : am_at co_X12_look 8 = some (3, .if_icmp .ge 44)) rfl Iff.rfl (fun c0 => ?_) (fun c0 => ?_)
  · have h := h.1 c0
    refine x_aload_n (by decide +kernel : am_at co_X12_look 52 = some (1, .aload_n 0)) rfl ?_
    refine x_getf (by decide +kernel : am_at co_X12_look 53 = some (3, .getfield 215)) pq_12_215 rfl ob_152 ?_
    refine x_aload_n (by decide +kernel : am_at co_X12_look 56 = some (1, .aload_n 0)) rfl ?_
    refine x_getf (by decide +kernel : am_at co_X12_look 57 = some (3, .getfield 218)) pq_12_218 rfl ob_152 ?_
    refine x_icmp (tgt := 75) (by decide +kernel : am_at co_X12_look 60 = some (3, .if_icmp .ge 15)) rfl Iff.rfl (fun _ => ?_) (fun c1 => absurd c0 c1)
    refine x_iconst (by decide +kernel : am_at co_X12_look 75 = some (1, .iconst (-1))) ?_
    exact x_iret (by decide +kernel : am_at co_X12_look 76 = some (1, .ireturn)) h
  · have c0 := (Int.not_le.mp c0)
    have h := h.2 c0
    refine x_aload_n (by decide +kernel : am_at co_X12_look 11 = some (1, .aload_n 0)) rfl ?_
    refine x_getF (by decide +kernel : am_at co_X12_look 12 = some (3, .getfield 7)) pq_12_7 (by decide) rfl ob_152 ?_
    refine x_top2 (show 152 + 1 = 153 from rfl) ?_
    refine x_aload_n (by decide +kernel : am_at co_X12_look 15 = some (1, .aload_n 0)) rfl ?_
    refine x_getf (by decide +kernel : am_at co_X12_look 16 = some (3, .getfield 215)) pq_12_215 rfl ob_152 ?_
    obtain ⟨o2, h⟩ := h
    refine x_iald (by decide +kernel : am_at co_X12_look 19 = some (1, .iaload)) (ia_153 o2.1 o2.2) ?_
    refine x_bipush (by decide +kernel : am_at co_X12_look 20 = some (2, .bipush 10)) ?_
    refine x_icmp (tgt := 39) (by decide +kernel : am_at co_X12_look 22 = some (3, .if_icmp .eq 17)) rfl Iff.rfl (fun c3 => ?_) (fun c3 => ?_)
    · have h := h.1 c3
      refine x_aload_n (by decide +kernel : am_at co_X12_look 39 = some (1, .aload_n 0)) rfl ?_
      refine x_dup2' (by decide +kernel : am_at co_X12_look 40 = some (1, .dup)) ?_
      refine x_getf (by decide +kernel : am_at co_X12_look 41 = some (3, .getfield 215)) pq_12_215 rfl ob_152 ?_
      refine x_iconst (by decide +kernel : am_at co_X12_look 44 = some (1, .iconst 1)) ?_
      obtain ⟨o4, h⟩ := h
      refine x_iadd (by decide +kernel : am_at co_X12_look 45 = some (1, .iadd)) o4 ?_
      refine x_putf0 (by decide +kernel : am_at co_X12_look 46 = some (3, .putfield 215)) pq_12_215 rfl ob_152 ?_
      refine x_goto (tgt := 0) (by decide +kernel : am_at co_X12_look 49 = some (3, .goto (-49))) rfl ?_
      exact am_weak (lk ln) h
    · have c3 := c3
      have h := h.2 c3
      refine x_aload_n (by decide +kernel : am_at co_X12_look 25 = some (1, .aload_n 0)) rfl ?_
      refine x_getF (by decide +kernel : am_at co_X12_look 26 = some (3, .getfield 7)) pq_12_7 (by decide) rfl ob_152 ?_
      refine x_top2 (show 152 + 1 = 153 from rfl) ?_
      refine x_aload_n (by decide +kernel : am_at co_X12_look 29 = some (1, .aload_n 0)) rfl ?_
      refine x_getf (by decide +kernel : am_at co_X12_look 30 = some (3, .getfield 215)) pq_12_215 rfl ob_152 ?_
      refine x_iald (by decide +kernel : am_at co_X12_look 33 = some (1, .iaload)) (ia_153 o2.1 o2.2) ?_
      refine x_bipush (by decide +kernel : am_at co_X12_look 34 = some (2, .bipush 32)) ?_
      refine x_icmp (tgt := 52) (by decide +kernel : am_at co_X12_look 36 = some (3, .if_icmp .ne 16)) rfl Iff.rfl (fun c5 => ?_) (fun c5 => ?_)
      · have h := h.1 c5
        refine x_aload_n (by decide +kernel : am_at co_X12_look 52 = some (1, .aload_n 0)) rfl ?_
        refine x_getf (by decide +kernel : am_at co_X12_look 53 = some (3, .getfield 215)) pq_12_215 rfl ob_152 ?_
        refine x_aload_n (by decide +kernel : am_at co_X12_look 56 = some (1, .aload_n 0)) rfl ?_
        refine x_getf (by decide +kernel : am_at co_X12_look 57 = some (3, .getfield 218)) pq_12_218 rfl ob_152 ?_
        refine x_icmp (tgt := 75) (by decide +kernel : am_at co_X12_look 60 = some (3, .if_icmp .ge 15)) rfl Iff.rfl (fun c6 => absurd c6 (Int.not_le.mpr c0)) (fun _ => ?_)
        refine x_aload_n (by decide +kernel : am_at co_X12_look 63 = some (1, .aload_n 0)) rfl ?_
        refine x_getF (by decide +kernel : am_at co_X12_look 64 = some (3, .getfield 7)) pq_12_7 (by decide) rfl ob_152 ?_
        refine x_top2 (show 152 + 1 = 153 from rfl) ?_
        refine x_aload_n (by decide +kernel : am_at co_X12_look 67 = some (1, .aload_n 0)) rfl ?_
        refine x_getf (by decide +kernel : am_at co_X12_look 68 = some (3, .getfield 215)) pq_12_215 rfl ob_152 ?_
        refine x_iald (by decide +kernel : am_at co_X12_look 71 = some (1, .iaload)) (ia_153 o2.1 o2.2) ?_
        refine x_goto (tgt := 76) (by decide +kernel : am_at co_X12_look 72 = some (3, .goto 4)) rfl ?_
        exact x_iret (by decide +kernel : am_at co_X12_look 76 = some (1, .ireturn)) h
      · have c5 := (Classical.not_not.mp c5)
        have h := h.2 c5
        refine x_aload_n (by decide +kernel : am_at co_X12_look 39 = some (1, .aload_n 0)) rfl ?_
        refine x_dup2' (by decide +kernel : am_at co_X12_look 40 = some (1, .dup)) ?_
        refine x_getf (by decide +kernel : am_at co_X12_look 41 = some (3, .getfield 215)) pq_12_215 rfl ob_152 ?_
        refine x_iconst (by decide +kernel : am_at co_X12_look 44 = some (1, .iconst 1)) ?_
        obtain ⟨o7, h⟩ := h
        refine x_iadd (by decide +kernel : am_at co_X12_look 45 = some (1, .iadd)) o7 ?_
        refine x_putf0 (by decide +kernel : am_at co_X12_look 46 = some (3, .putfield 215)) pq_12_215 rfl ob_152 ?_
        refine x_goto (tgt := 0) (by decide +kernel : am_at co_X12_look 49 = some (3, .goto (-49))) rfl ?_
        exact am_weak (lk ln) h
set_option maxRecDepth 20000 in
theorem bk_X12_isHere_0 {d : Nat} {Q : am_Q} {M : am_M} {v1 : Int} (h : ((¬ M 152 5 = 0 → Q (some (0, 0), sh_T, M)) ∧ (M 152 5 = 0 → am_cal pg d 175 [(2, 152)] sh_T M (am_c0 sh_T fun x2 M2 => am_cal pg d 173 [(0, x2)] sh_T M2 (am_c0 sh_T fun x3 M3 => ((x3 = 0 → Q (some (0, 0), sh_T, M3)) ∧ (¬ x3 = 0 → ((¬ M3 152 2 = M3 152 4 → am_g 12 5 co_X12_isHere d Q 35 [(2, 152), (2, v1), (0, M3 152 2), (3, 0)] [] sh_T M3) ∧ (M3 152 2 = M3 152 4 → Q (some (0, 0), sh_T, M3)))))))))) : am_g 12 5 co_X12_isHere d Q 0 [(2, 152), (2, v1), (3, 0), (3, 0)] [] sh_T M := by
  refine x_aload_n (by decide +kernel : am_at co_X12_isHere 0 = some (1, .aload_n 0)) rfl ?_
  refine x_getf (by decide +kernel : am_at co_X12_isHere 1 = some (3, .getfield 209)) pq_12_209 rfl ob_152 ?_
  refine x_if (tgt := 28) (by decide +kernel : am_at co_X12_isHere 4 = some (3, .ifCond .ne 24)) rfl Iff.rfl (fun c0 => ?_) (fun c0 => ?_)
  · have h := h.1 c0
    refine x_iconst (by decide +kernel : am_at co_X12_isHere 28 = some (1, .iconst 0)) ?_
    exact x_zret (by decide +kernel : am_at co_X12_isHere 29 = some (1, .ireturn)) (by decide) h
  · have c0 := (Classical.not_not.mp c0)
    have h := h.2 c0
    refine x_aload_n (by decide +kernel : am_at co_X12_isHere 7 = some (1, .aload_n 0)) rfl ?_
    refine x_callV (n := 1) (by decide +kernel : am_at co_X12_isHere 8 = some (3, .invokevirtual 221)) pq_12_221 pm_X12_look rfl rfl rfl ob_152 h (x_k0 fun x2 M2 h => ?_)
    refine x_callS (n := 1) (by decide +kernel : am_at co_X12_isHere 11 = some (3, .invokestatic 225)) pq_12_225 rfl rfl rfl h (x_k0 fun x3 M3 h => ?_)
    refine x_if (tgt := 28) (by decide +kernel : am_at co_X12_isHere 14 = some (3, .ifCond .eq 14)) rfl Iff.rfl (fun c3 => ?_) (fun c3 => ?_)
    · have h := h.1 c3
      refine x_iconst (by decide +kernel : am_at co_X12_isHere 28 = some (1, .iconst 0)) ?_
      exact x_zret (by decide +kernel : am_at co_X12_isHere 29 = some (1, .ireturn)) (by decide) h
    · have c3 := c3
      have h := h.2 c3
      refine x_aload_n (by decide +kernel : am_at co_X12_isHere 17 = some (1, .aload_n 0)) rfl ?_
      refine x_getf (by decide +kernel : am_at co_X12_isHere 18 = some (3, .getfield 215)) pq_12_215 rfl ob_152 ?_
      refine x_aload_n (by decide +kernel : am_at co_X12_isHere 21 = some (1, .aload_n 0)) rfl ?_
      refine x_getf (by decide +kernel : am_at co_X12_isHere 22 = some (3, .getfield 229)) pq_12_229 rfl ob_152 ?_
      refine x_icmp (tgt := 30) (by decide +kernel : am_at co_X12_isHere 25 = some (3, .if_icmp .ne 5)) rfl Iff.rfl (fun c4 => ?_) (fun c4 => ?_)
      · have h := h.1 c4
        refine x_aload_n (by decide +kernel : am_at co_X12_isHere 30 = some (1, .aload_n 0)) rfl ?_
        refine x_getf (by decide +kernel : am_at co_X12_isHere 31 = some (3, .getfield 215)) pq_12_215 rfl ob_152 ?_
        refine x_istore_n (L' := [(2, 152), (2, v1), (0, M3 152 2), (3, 0)]) (by decide +kernel : am_at co_X12_isHere 34 = some (1, .istore_n 2)) rfl ?_
        exact am_weak (lk (lk (lk (lk ln)))) h
      · have c4 := (Classical.not_not.mp c4)
        have h := h.2 c4
        refine x_iconst (by decide +kernel : am_at co_X12_isHere 28 = some (1, .iconst 0)) ?_
        exact x_zret (by decide +kernel : am_at co_X12_isHere 29 = some (1, .ireturn)) (by decide) h
set_option maxRecDepth 20000 in
theorem bk_X12_isHere_35 {d : Nat} {Q : am_Q} {M : am_M} {v1 v2 : Int} (h : ((M 152 3 ≤ v2 → am_r (v2 - (M 152 2)) ∧ ∃ n2 : Nat, am_alen pg sh_T v1 = some n2 ∧ ((v2 - (M 152 2) = (n2 : Int) → am_g 12 5 co_X12_isHere d Q 76 [(2, 152), (2, v1), (3, 0), (0, 0)] [] sh_T M) ∧ (¬ v2 - (M 152 2) = (n2 : Int) → Q (some (0, 0), sh_T, M)))) ∧ (v2 < M 152 3 → (0 ≤ v2 ∧ v2 < 1600) ∧ am_cal pg d 173 [(0, M 153 v2)] sh_T M (am_c0 sh_T fun x6 M6 => ((x6 = 0 → am_r (v2 - (M6 152 2)) ∧ ∃ n8 : Nat, am_alen pg sh_T v1 = some n8 ∧ ((v2 - (M6 152 2) = (n8 : Int) → am_g 12 5 co_X12_isHere d Q 76 [(2, 152), (2, v1), (3, 0), (0, 0)] [] sh_T M6) ∧ (¬ v2 - (M6 152 2) = (n8 : Int) → Q (some (0, 0), sh_T, M6)))) ∧ (¬ x6 = 0 → am_r (v2 + 1) ∧ am_g 12 5 co_X12_isHere d Q 35 [(2, 152), (2, v1), (0, v2 + 1), (3, 0)] [] sh_T M6)))))) : am_g 12 5 co_X12_isHere d Q 35 [(2, 152), (2, v1), (0, v2), (3, 0)] [] sh_T M := by
  refine x_iload_n (by decide +kernel : am_at co_X12_isHere 35 = some (1, .iload_n 2)) rfl ?_
  refine x_aload_n (by decide +kernel : am_at co_X12_isHere 36 = some (1, .aload_n 0)) rfl ?_
  refine x_getf (by decide +kernel : am_at co_X12_isHere 37 = some (3, .getfield 218)) pq_12_218 rfl ob_152 ?_
  refine x_icmp (tgt := 61) (by decide +kernel : am_at co_X12_isHere 40 = some (3, .if_icmp .ge 21)) rfl Iff.rfl (fun c0 => ?_) (fun c0 => ?_)
  · have h := h.1 c0
    refine x_iload_n (by decide +kernel : am_at co_X12_isHere 61 = some (1, .iload_n 2)) rfl ?_
    refine x_aload_n (by decide +kernel : am_at co_X12_isHere 62 = some (1, .aload_n 0)) rfl ?_
    refine x_getf (by decide +kernel : am_at co_X12_isHere 63 = some (3, .getfield 215)) pq_12_215 rfl ob_152 ?_
    obtain ⟨o1, h⟩ := h
    refine x_isub (by decide +kernel : am_at co_X12_isHere 66 = some (1, .isub)) o1 ?_
    refine x_aload_n (by decide +kernel : am_at co_X12_isHere 67 = some (1, .aload_n 1)) rfl ?_
    obtain ⟨n2, o2, h⟩ := h
    refine x_alen (by decide +kernel : am_at co_X12_isHere 68 = some (1, .arraylength)) o2 ?_
    refine x_icmp (tgt := 74) (by decide +kernel : am_at co_X12_isHere 69 = some (3, .if_icmp .eq 5)) rfl Iff.rfl (fun c3 => ?_) (fun c3 => ?_)
    · have h := h.1 c3
      refine x_iconst (by decide +kernel : am_at co_X12_isHere 74 = some (1, .iconst 0)) ?_
      refine x_istore_n (L' := [(2, 152), (2, v1), (0, v2), (0, 0)]) (by decide +kernel : am_at co_X12_isHere 75 = some (1, .istore_n 3)) rfl ?_
      exact am_weak (lk (lk (ld (lk ln)))) h
    · have c3 := c3
      have h := h.2 c3
      refine x_iconst (by decide +kernel : am_at co_X12_isHere 72 = some (1, .iconst 0)) ?_
      exact x_zret (by decide +kernel : am_at co_X12_isHere 73 = some (1, .ireturn)) (by decide) h
  · have c0 := (Int.not_le.mp c0)
    have h := h.2 c0
    refine x_aload_n (by decide +kernel : am_at co_X12_isHere 43 = some (1, .aload_n 0)) rfl ?_
    refine x_getF (by decide +kernel : am_at co_X12_isHere 44 = some (3, .getfield 7)) pq_12_7 (by decide) rfl ob_152 ?_
    refine x_top2 (show 152 + 1 = 153 from rfl) ?_
    refine x_iload_n (by decide +kernel : am_at co_X12_isHere 47 = some (1, .iload_n 2)) rfl ?_
    obtain ⟨o4, h⟩ := h
    refine x_iald (by decide +kernel : am_at co_X12_isHere 48 = some (1, .iaload)) (ia_153 o4.1 o4.2) ?_
    refine x_callS (n := 1) (by decide +kernel : am_at co_X12_isHere 49 = some (3, .invokestatic 225)) pq_12_225 rfl rfl rfl h (x_k0 fun x6 M6 h => ?_)
    refine x_if (tgt := 61) (by decide +kernel : am_at co_X12_isHere 52 = some (3, .ifCond .eq 9)) rfl Iff.rfl (fun c6 => ?_) (fun c6 => ?_)
    · have h := h.1 c6
      refine x_iload_n (by decide +kernel : am_at co_X12_isHere 61 = some (1, .iload_n 2)) rfl ?_
      refine x_aload_n (by decide +kernel : am_at co_X12_isHere 62 = some (1, .aload_n 0)) rfl ?_
      refine x_getf (by decide +kernel : am_at co_X12_isHere 63 = some (3, .getfield 215)) pq_12_215 rfl ob_152 ?_
      obtain ⟨o7, h⟩ := h
      refine x_isub (by decide +kernel : am_at co_X12_isHere 66 = some (1, .isub)) o7 ?_
      refine x_aload_n (by decide +kernel : am_at co_X12_isHere 67 = some (1, .aload_n 1)) rfl ?_
      obtain ⟨n8, o8, h⟩ := h
      refine x_alen (by decide +kernel : am_at co_X12_isHere 68 = some (1, .arraylength)) o8 ?_
      refine x_icmp (tgt := 74) (by decide +kernel : am_at co_X12_isHere 69 = some (3, .if_icmp .eq 5)) rfl Iff.rfl (fun c9 => ?_) (fun c9 => ?_)
      · have h := h.1 c9
        refine x_iconst (by decide +kernel : am_at co_X12_isHere 74 = some (1, .iconst 0)) ?_
        refine x_istore_n (L' := [(2, 152), (2, v1), (0, v2), (0, 0)]) (by decide +kernel : am_at co_X12_isHere 75 = some (1, .istore_n 3)) rfl ?_
        exact am_weak (lk (lk (ld (lk ln)))) h
      · have c9 := c9
        have h := h.2 c9
        refine x_iconst (by decide +kernel : am_at co_X12_isHere 72 = some (1, .iconst 0)) ?_
        exact x_zret (by decide +kernel : am_at co_X12_isHere 73 = some (1, .ireturn)) (by decide) h
    · have c6 := c6
      have h := h.2 c6
      obtain ⟨o10, h⟩ := h
      refine x_iinc (L' := [(2, 152), (2, v1), (0, v2 + 1), (3, 0)]) (by decide +kernel : am_at co_X12_isHere 55 = some (3, .iinc 2 1)) rfl o10 rfl ?_
      refine x_goto (tgt := 35) (by decide +kernel : am_at co_X12_isHere 58 = some (3, .goto (-23))) rfl ?_
      exact am_weak (lk (lk (lk (lk ln)))) h
set_option maxRecDepth 20000 in
theorem bk_X12_isHere_76 {d : Nat} {Q : am_Q} {M : am_M} {v1 v3 : Int} (h : ∃ n0 : Nat, am_alen pg sh_T v1 = some n0 ∧ (((n0 : Int) ≤ v3 → Q (some (0, 1), sh_T, M)) ∧ (v3 < (n0 : Int) → am_r ((M 152 2) + v3) ∧ (0 ≤ (M 152 2) + v3 ∧ (M 152 2) + v3 < 1600) ∧ am_in pg sh_T 2 v1 v3 ∧ ((M 153 ((M 152 2) + v3) = M v1 v3 → am_r (v3 + 1) ∧ am_g 12 5 co_X12_isHere d Q 76 [(2, 152), (2, v1), (3, 0), (0, v3 + 1)] [] sh_T M) ∧ (¬ M 153 ((M 152 2) + v3) = M v1 v3 → Q (some (0, 0), sh_T, M)))))) : am_g 12 5 co_X12_isHere d Q 76 [(2, 152), (2, v1), (3, 0), (0, v3)] [] sh_T M := by
  refine x_iload_n (by decide +kernel : am_at co_X12_isHere 76 = some (1, .iload_n 3)) rfl ?_
  refine x_aload_n (by decide +kernel : am_at co_X12_isHere 77 = some (1, .aload_n 1)) rfl ?_
  obtain ⟨n0, o0, h⟩ := h
  refine x_alen (by decide +kernel : am_at co_X12_isHere 78 = some (1, .arraylength)) o0 ?_
  refine x_icmp (tgt := 107) (by decide +kernel : am_at co_X12_isHere 79 = some (3, .if_icmp .ge 28)) rfl Iff.rfl (fun c1 => ?_) (fun c1 => ?_)
  · have h := h.1 c1
    refine x_iconst (by decide +kernel : am_at co_X12_isHere 107 = some (1, .iconst 1)) ?_
    exact x_zret (by decide +kernel : am_at co_X12_isHere 108 = some (1, .ireturn)) (by decide) h
  · have c1 := (Int.not_le.mp c1)
    have h := h.2 c1
    refine x_aload_n (by decide +kernel : am_at co_X12_isHere 82 = some (1, .aload_n 0)) rfl ?_
    refine x_getF (by decide +kernel : am_at co_X12_isHere 83 = some (3, .getfield 7)) pq_12_7 (by decide) rfl ob_152 ?_
    refine x_top2 (show 152 + 1 = 153 from rfl) ?_
    refine x_aload_n (by decide +kernel : am_at co_X12_isHere 86 = some (1, .aload_n 0)) rfl ?_
    refine x_getf (by decide +kernel : am_at co_X12_isHere 87 = some (3, .getfield 215)) pq_12_215 rfl ob_152 ?_
    refine x_iload_n (by decide +kernel : am_at co_X12_isHere 90 = some (1, .iload_n 3)) rfl ?_
    obtain ⟨o2, h⟩ := h
    refine x_iadd (by decide +kernel : am_at co_X12_isHere 91 = some (1, .iadd)) o2 ?_
    obtain ⟨o3, h⟩ := h
    refine x_iald (by decide +kernel : am_at co_X12_isHere 92 = some (1, .iaload)) (ia_153 o3.1 o3.2) ?_
    refine x_aload_n (by decide +kernel : am_at co_X12_isHere 93 = some (1, .aload_n 1)) rfl ?_
    refine x_iload_n (by decide +kernel : am_at co_X12_isHere 94 = some (1, .iload_n 3)) rfl ?_
    obtain ⟨o4, h⟩ := h
    refine x_cald (by decide +kernel : am_at co_X12_isHere 95 = some (1, .caload)) (o4) ?_
    refine x_icmp (tgt := 101) (by decide +kernel : am_at co_X12_isHere 96 = some (3, .if_icmp .eq 5)) rfl Iff.rfl (fun c5 => ?_) (fun c5 => ?_)
    · have h := h.1 c5
      obtain ⟨o6, h⟩ := h
      refine x_iinc (L' := [(2, 152), (2, v1), (3, 0), (0, v3 + 1)]) (by decide +kernel : am_at co_X12_isHere 101 = some (3, .iinc 3 1)) rfl o6 rfl ?_
      refine x_goto (tgt := 76) (by decide +kernel : am_at co_X12_isHere 104 = some (3, .goto (-28))) rfl ?_
      exact am_weak (lk (lk (lk (lk ln)))) h
    · have c5 := c5
      have h := h.2 c5
      refine x_iconst (by decide +kernel : am_at co_X12_isHere 99 = some (1, .iconst 0)) ?_
      exact x_zret (by decide +kernel : am_at co_X12_isHere 100 = some (1, .ireturn)) (by decide) h
set_option maxRecDepth 20000 in
theorem bk_X12_takes_0 {d : Nat} {Q : am_Q} {M : am_M} {v1 : Int} (h : am_cal pg d 176 [(2, 152), (2, v1)] sh_T M (am_c0 sh_T fun x1 M1 => ((¬ x1 = 0 → ∃ n2 : Nat, am_alen pg sh_T v1 = some n2 ∧ am_r ((M1 152 2) + (n2 : Int)) ∧ Q (some (0, 1), sh_T, (am_up (am_up M1 152 2 ((M1 152 2) + (n2 : Int))) 152 4 ((M1 152 2) + (n2 : Int))))) ∧ (x1 = 0 → Q (some (0, 0), sh_T, M1))))) : am_g 12 5 co_X12_takes d Q 0 [(2, 152), (2, v1)] [] sh_T M := by
  refine x_aload_n (by decide +kernel : am_at co_X12_takes 0 = some (1, .aload_n 0)) rfl ?_
  refine x_aload_n (by decide +kernel : am_at co_X12_takes 1 = some (1, .aload_n 1)) rfl ?_
  refine x_callV (n := 2) (by decide +kernel : am_at co_X12_takes 2 = some (3, .invokevirtual 232)) pq_12_232 pm_X12_isHere rfl rfl rfl ob_152 h (x_k0 fun x1 M1 h => ?_)
  refine x_if (tgt := 10) (by decide +kernel : am_at co_X12_takes 5 = some (3, .ifCond .ne 5)) rfl Iff.rfl (fun c1 => ?_) (fun c1 => ?_)
  · have h := h.1 c1
    refine x_aload_n (by decide +kernel : am_at co_X12_takes 10 = some (1, .aload_n 0)) rfl ?_
    refine x_dup2' (by decide +kernel : am_at co_X12_takes 11 = some (1, .dup)) ?_
    refine x_getf (by decide +kernel : am_at co_X12_takes 12 = some (3, .getfield 215)) pq_12_215 rfl ob_152 ?_
    refine x_aload_n (by decide +kernel : am_at co_X12_takes 15 = some (1, .aload_n 1)) rfl ?_
    obtain ⟨n2, o2, h⟩ := h
    refine x_alen (by decide +kernel : am_at co_X12_takes 16 = some (1, .arraylength)) o2 ?_
    obtain ⟨o3, h⟩ := h
    refine x_iadd (by decide +kernel : am_at co_X12_takes 17 = some (1, .iadd)) o3 ?_
    refine x_putf0 (by decide +kernel : am_at co_X12_takes 18 = some (3, .putfield 215)) pq_12_215 rfl ob_152 ?_
    refine x_aload_n (by decide +kernel : am_at co_X12_takes 21 = some (1, .aload_n 0)) rfl ?_
    refine x_aload_n (by decide +kernel : am_at co_X12_takes 22 = some (1, .aload_n 0)) rfl ?_
    refine x_getf (by decide +kernel : am_at co_X12_takes 23 = some (3, .getfield 215)) pq_12_215 rfl ob_152 ?_
    refine x_top0 (show (am_up M1 152 2 ((M1 152 2) + (n2 : Int))) 152 2 = (M1 152 2) + (n2 : Int) from by first | rfl | simp [am_up]) ?_
    refine x_putf0 (by decide +kernel : am_at co_X12_takes 26 = some (3, .putfield 229)) pq_12_229 rfl ob_152 ?_
    refine x_iconst (by decide +kernel : am_at co_X12_takes 29 = some (1, .iconst 1)) ?_
    exact x_zret (by decide +kernel : am_at co_X12_takes 30 = some (1, .ireturn)) (by decide) h
  · have c1 := (Classical.not_not.mp c1)
    have h := h.2 c1
    refine x_iconst (by decide +kernel : am_at co_X12_takes 8 = some (1, .iconst 0)) ?_
    exact x_zret (by decide +kernel : am_at co_X12_takes 9 = some (1, .ireturn)) (by decide) h
set_option maxRecDepth 20000 in
theorem bk_X12_asks_0 {d : Nat} {Q : am_Q} {M : am_M} {v1 : Int} (h : ((¬ M 152 5 = 0 → Q (none, sh_T, M)) ∧ (M 152 5 = 0 → am_cal pg d 177 [(2, 152), (2, v1)] sh_T M (am_c0 sh_T fun x2 M2 => ((¬ x2 = 0 → Q (none, sh_T, M2)) ∧ (x2 = 0 → am_cal pg d 172 [(2, 152), (0, 1), (0, M2 152 2)] sh_T M2 (am_cv sh_T fun M4 => Q (none, sh_T, M4)))))))) : am_g 12 9 co_X12_asks d Q 0 [(2, 152), (2, v1)] [] sh_T M := by
  refine x_aload_n (by decide +kernel : am_at co_X12_asks 0 = some (1, .aload_n 0)) rfl ?_
  refine x_getf (by decide +kernel : am_at co_X12_asks 1 = some (3, .getfield 209)) pq_12_209 rfl ob_152 ?_
  refine x_if (tgt := 24) (by decide +kernel : am_at co_X12_asks 4 = some (3, .ifCond .ne 20)) rfl Iff.rfl (fun c0 => ?_) (fun c0 => ?_)
  · have h := h.1 c0
    exact x_vret (by decide +kernel : am_at co_X12_asks 24 = some (1, .return_)) h
  · have c0 := (Classical.not_not.mp c0)
    have h := h.2 c0
    refine x_aload_n (by decide +kernel : am_at co_X12_asks 7 = some (1, .aload_n 0)) rfl ?_
    refine x_aload_n (by decide +kernel : am_at co_X12_asks 8 = some (1, .aload_n 1)) rfl ?_
    refine x_callV (n := 2) (by decide +kernel : am_at co_X12_asks 9 = some (3, .invokevirtual 236)) pq_12_236 pm_X12_takes rfl rfl rfl ob_152 h (x_k0 fun x2 M2 h => ?_)
    refine x_if (tgt := 24) (by decide +kernel : am_at co_X12_asks 12 = some (3, .ifCond .ne 12)) rfl Iff.rfl (fun c2 => ?_) (fun c2 => ?_)
    · have h := h.1 c2
      exact x_vret (by decide +kernel : am_at co_X12_asks 24 = some (1, .return_)) h
    · have c2 := (Classical.not_not.mp c2)
      have h := h.2 c2
      refine x_aload_n (by decide +kernel : am_at co_X12_asks 15 = some (1, .aload_n 0)) rfl ?_
      refine x_iconst (by decide +kernel : am_at co_X12_asks 16 = some (1, .iconst 1)) ?_
      refine x_aload_n (by decide +kernel : am_at co_X12_asks 17 = some (1, .aload_n 0)) rfl ?_
      refine x_getf (by decide +kernel : am_at co_X12_asks 18 = some (3, .getfield 215)) pq_12_215 rfl ob_152 ?_
      refine x_callV (n := 3) (by decide +kernel : am_at co_X12_asks 21 = some (3, .invokevirtual 239)) pq_12_239 pm_X12_fail rfl rfl rfl ob_152 h (x_kv fun M4 h => ?_)
      exact x_vret (by decide +kernel : am_at co_X12_asks 24 = some (1, .return_)) h
set_option maxRecDepth 20000 in
theorem bk_X12_takesSign_0 {d : Nat} {Q : am_Q} {M : am_M} {v1 : Int} (h : ((¬ M 152 5 = 0 → Q (some (0, 0), sh_T, M)) ∧ (M 152 5 = 0 → am_cal pg d 175 [(2, 152)] sh_T M (am_c0 sh_T fun x2 M2 => ((x2 = v1 → am_r ((M2 152 2) + 1) ∧ Q (some (0, 1), sh_T, (am_up M2 152 2 ((M2 152 2) + 1)))) ∧ (¬ x2 = v1 → Q (some (0, 0), sh_T, M2))))))) : am_g 12 5 co_X12_takesSign d Q 0 [(2, 152), (0, v1)] [] sh_T M := by
  refine x_aload_n (by decide +kernel : am_at co_X12_takesSign 0 = some (1, .aload_n 0)) rfl ?_
  refine x_getf (by decide +kernel : am_at co_X12_takesSign 1 = some (3, .getfield 209)) pq_12_209 rfl ob_152 ?_
  refine x_if (tgt := 15) (by decide +kernel : am_at co_X12_takesSign 4 = some (3, .ifCond .ne 11)) rfl Iff.rfl (fun c0 => ?_) (fun c0 => ?_)
  · have h := h.1 c0
    refine x_iconst (by decide +kernel : am_at co_X12_takesSign 15 = some (1, .iconst 0)) ?_
    exact x_zret (by decide +kernel : am_at co_X12_takesSign 16 = some (1, .ireturn)) (by decide) h
  · have c0 := (Classical.not_not.mp c0)
    have h := h.2 c0
    refine x_aload_n (by decide +kernel : am_at co_X12_takesSign 7 = some (1, .aload_n 0)) rfl ?_
    refine x_callV (n := 1) (by decide +kernel : am_at co_X12_takesSign 8 = some (3, .invokevirtual 221)) pq_12_221 pm_X12_look rfl rfl rfl ob_152 h (x_k0 fun x2 M2 h => ?_)
    refine x_iload_n (by decide +kernel : am_at co_X12_takesSign 11 = some (1, .iload_n 1)) rfl ?_
    refine x_icmp (tgt := 17) (by decide +kernel : am_at co_X12_takesSign 12 = some (3, .if_icmp .eq 5)) rfl Iff.rfl (fun c2 => ?_) (fun c2 => ?_)
    · have h := h.1 c2
      refine x_aload_n (by decide +kernel : am_at co_X12_takesSign 17 = some (1, .aload_n 0)) rfl ?_
      refine x_dup2' (by decide +kernel : am_at co_X12_takesSign 18 = some (1, .dup)) ?_
      refine x_getf (by decide +kernel : am_at co_X12_takesSign 19 = some (3, .getfield 215)) pq_12_215 rfl ob_152 ?_
      refine x_iconst (by decide +kernel : am_at co_X12_takesSign 22 = some (1, .iconst 1)) ?_
      obtain ⟨o3, h⟩ := h
      refine x_iadd (by decide +kernel : am_at co_X12_takesSign 23 = some (1, .iadd)) o3 ?_
      refine x_putf0 (by decide +kernel : am_at co_X12_takesSign 24 = some (3, .putfield 215)) pq_12_215 rfl ob_152 ?_
      refine x_iconst (by decide +kernel : am_at co_X12_takesSign 27 = some (1, .iconst 1)) ?_
      exact x_zret (by decide +kernel : am_at co_X12_takesSign 28 = some (1, .ireturn)) (by decide) h
    · have c2 := c2
      have h := h.2 c2
      refine x_iconst (by decide +kernel : am_at co_X12_takesSign 15 = some (1, .iconst 0)) ?_
      exact x_zret (by decide +kernel : am_at co_X12_takesSign 16 = some (1, .ireturn)) (by decide) h
set_option maxRecDepth 20000 in
theorem bk_X12_asksSign_0 {d : Nat} {Q : am_Q} {M : am_M} {v1 : Int} (h : ((¬ M 152 5 = 0 → Q (none, sh_T, M)) ∧ (M 152 5 = 0 → am_cal pg d 179 [(2, 152), (0, v1)] sh_T M (am_c0 sh_T fun x2 M2 => ((¬ x2 = 0 → Q (none, sh_T, M2)) ∧ (x2 = 0 → am_cal pg d 172 [(2, 152), (0, 1), (0, M2 152 2)] sh_T M2 (am_cv sh_T fun M4 => Q (none, sh_T, M4)))))))) : am_g 12 9 co_X12_asksSign d Q 0 [(2, 152), (0, v1)] [] sh_T M := by
  refine x_aload_n (by decide +kernel : am_at co_X12_asksSign 0 = some (1, .aload_n 0)) rfl ?_
  refine x_getf (by decide +kernel : am_at co_X12_asksSign 1 = some (3, .getfield 209)) pq_12_209 rfl ob_152 ?_
  refine x_if (tgt := 24) (by decide +kernel : am_at co_X12_asksSign 4 = some (3, .ifCond .ne 20)) rfl Iff.rfl (fun c0 => ?_) (fun c0 => ?_)
  · have h := h.1 c0
    exact x_vret (by decide +kernel : am_at co_X12_asksSign 24 = some (1, .return_)) h
  · have c0 := (Classical.not_not.mp c0)
    have h := h.2 c0
    refine x_aload_n (by decide +kernel : am_at co_X12_asksSign 7 = some (1, .aload_n 0)) rfl ?_
    refine x_iload_n (by decide +kernel : am_at co_X12_asksSign 8 = some (1, .iload_n 1)) rfl ?_
    refine x_callV (n := 2) (by decide +kernel : am_at co_X12_asksSign 9 = some (3, .invokevirtual 243)) pq_12_243 pm_X12_takesSign rfl rfl rfl ob_152 h (x_k0 fun x2 M2 h => ?_)
    refine x_if (tgt := 24) (by decide +kernel : am_at co_X12_asksSign 12 = some (3, .ifCond .ne 12)) rfl Iff.rfl (fun c2 => ?_) (fun c2 => ?_)
    · have h := h.1 c2
      exact x_vret (by decide +kernel : am_at co_X12_asksSign 24 = some (1, .return_)) h
    · have c2 := (Classical.not_not.mp c2)
      have h := h.2 c2
      refine x_aload_n (by decide +kernel : am_at co_X12_asksSign 15 = some (1, .aload_n 0)) rfl ?_
      refine x_iconst (by decide +kernel : am_at co_X12_asksSign 16 = some (1, .iconst 1)) ?_
      refine x_aload_n (by decide +kernel : am_at co_X12_asksSign 17 = some (1, .aload_n 0)) rfl ?_
      refine x_getf (by decide +kernel : am_at co_X12_asksSign 18 = some (3, .getfield 215)) pq_12_215 rfl ob_152 ?_
      refine x_callV (n := 3) (by decide +kernel : am_at co_X12_asksSign 21 = some (3, .invokevirtual 239)) pq_12_239 pm_X12_fail rfl rfl rfl ob_152 h (x_kv fun M4 h => ?_)
      exact x_vret (by decide +kernel : am_at co_X12_asksSign 24 = some (1, .return_)) h
set_option maxRecDepth 20000 in
theorem bk_X12_number_0 {d : Nat} {Q : am_Q} {M : am_M} {v1 v2 : Int} (h : ((M 152 5 = 0 → am_cal pg d 175 [(2, 152)] sh_T M (am_c0 sh_T fun x2 M2 => am_cal pg d 174 [(0, x2)] sh_T M2 (am_c0 sh_T fun x3 M3 => ((x3 = 0 → am_g 12 0 co_X12_number d Q 30 [(2, 152), (3, 0), (3, 0), (3, 0), (3, 0)] [] sh_T M3) ∧ (¬ x3 = 0 → ((¬ M3 152 2 = M3 152 4 → am_g 12 0 co_X12_number d Q 49 [(2, 152), (0, v1), (0, v2), (0, M3 152 2), (0, 0)] [] sh_T M3) ∧ (M3 152 2 = M3 152 4 → am_g 12 0 co_X12_number d Q 30 [(2, 152), (3, 0), (3, 0), (3, 0), (3, 0)] [] sh_T M3))))))) ∧ (¬ M 152 5 = 0 → Q (some (0, 0), sh_T, M)))) : am_g 12 0 co_X12_number d Q 0 [(2, 152), (0, v1), (0, v2), (3, 0), (3, 0)] [] sh_T M := by
  refine x_aload_n (by decide +kernel : am_at co_X12_number 0 = some (1, .aload_n 0)) rfl ?_
  refine x_getf (by decide +kernel : am_at co_X12_number 1 = some (3, .getfield 209)) pq_12_209 rfl ob_152 ?_
  refine x_if (tgt := 9) (by decide +kernel : am_at co_X12_number 4 = some (3, .ifCond .eq 5)) rfl Iff.rfl (fun c0 => ?_) (fun c0 => ?_)
  · have h := h.1 c0
    refine x_aload_n (by decide +kernel : am_at co_X12_number 9 = some (1, .aload_n 0)) rfl ?_
    refine x_callV (n := 1) (by decide +kernel : am_at co_X12_number 10 = some (3, .invokevirtual 221)) pq_12_221 pm_X12_look rfl rfl rfl ob_152 h (x_k0 fun x2 M2 h => ?_)
    refine x_callS (n := 1) (by decide +kernel : am_at co_X12_number 13 = some (3, .invokestatic 246)) pq_12_246 rfl rfl rfl h (x_k0 fun x3 M3 h => ?_)
    refine x_if (tgt := 30) (by decide +kernel : am_at co_X12_number 16 = some (3, .ifCond .eq 14)) rfl Iff.rfl (fun c3 => ?_) (fun c3 => ?_)
    · have h := h.1 c3
      exact am_weak (lk (ld (ld (lk (lk ln))))) h
    · have c3 := c3
      have h := h.2 c3
      refine x_aload_n (by decide +kernel : am_at co_X12_number 19 = some (1, .aload_n 0)) rfl ?_
      refine x_getf (by decide +kernel : am_at co_X12_number 20 = some (3, .getfield 215)) pq_12_215 rfl ob_152 ?_
      refine x_aload_n (by decide +kernel : am_at co_X12_number 23 = some (1, .aload_n 0)) rfl ?_
      refine x_getf (by decide +kernel : am_at co_X12_number 24 = some (3, .getfield 229)) pq_12_229 rfl ob_152 ?_
      refine x_icmp (tgt := 41) (by decide +kernel : am_at co_X12_number 27 = some (3, .if_icmp .ne 14)) rfl Iff.rfl (fun c4 => ?_) (fun c4 => ?_)
      · have h := h.1 c4
        refine x_aload_n (by decide +kernel : am_at co_X12_number 41 = some (1, .aload_n 0)) rfl ?_
        refine x_getf (by decide +kernel : am_at co_X12_number 42 = some (3, .getfield 215)) pq_12_215 rfl ob_152 ?_
        refine x_istore_n (L' := [(2, 152), (0, v1), (0, v2), (0, M3 152 2), (3, 0)]) (by decide +kernel : am_at co_X12_number 45 = some (1, .istore_n 3)) rfl ?_
        refine x_iconst (by decide +kernel : am_at co_X12_number 46 = some (1, .iconst 0)) ?_
        refine x_istore (L' := [(2, 152), (0, v1), (0, v2), (0, M3 152 2), (0, 0)]) (by decide +kernel : am_at co_X12_number 47 = some (2, .istore 4)) rfl ?_
        exact am_weak (lk (lk (lk (lk (lk ln))))) h
      · have c4 := (Classical.not_not.mp c4)
        have h := h.2 c4
        exact am_weak (lk (ld (ld (lk (lk ln))))) h
  · have c0 := c0
    have h := h.2 c0
    refine x_iconst (by decide +kernel : am_at co_X12_number 7 = some (1, .iconst 0)) ?_
    exact x_iret (by decide +kernel : am_at co_X12_number 8 = some (1, .ireturn)) h
set_option maxRecDepth 20000 in
theorem bk_X12_number_30 {d : Nat} {Q : am_Q} {M : am_M} (h : am_cal pg d 172 [(2, 152), (0, 1), (0, M 152 2)] sh_T M (am_cv sh_T fun M1 => Q (some (0, 0), sh_T, M1))) : am_g 12 0 co_X12_number d Q 30 [(2, 152), (3, 0), (3, 0), (3, 0), (3, 0)] [] sh_T M := by
  refine x_aload_n (by decide +kernel : am_at co_X12_number 30 = some (1, .aload_n 0)) rfl ?_
  refine x_iconst (by decide +kernel : am_at co_X12_number 31 = some (1, .iconst 1)) ?_
  refine x_aload_n (by decide +kernel : am_at co_X12_number 32 = some (1, .aload_n 0)) rfl ?_
  refine x_getf (by decide +kernel : am_at co_X12_number 33 = some (3, .getfield 215)) pq_12_215 rfl ob_152 ?_
  refine x_callV (n := 3) (by decide +kernel : am_at co_X12_number 36 = some (3, .invokevirtual 239)) pq_12_239 pm_X12_fail rfl rfl rfl ob_152 h (x_kv fun M1 h => ?_)
  refine x_iconst (by decide +kernel : am_at co_X12_number 39 = some (1, .iconst 0)) ?_
  exact x_iret (by decide +kernel : am_at co_X12_number 40 = some (1, .ireturn)) h
set_option maxRecDepth 20000 in
theorem bk_X12_number_49 {d : Nat} {Q : am_Q} {M : am_M} {v1 v2 v3 v4 : Int} (h : ((M 152 3 ≤ M 152 2 → am_g 12 0 co_X12_number d Q 129 [(2, 152), (0, v1), (0, v2), (0, v3), (0, v4)] [] sh_T M) ∧ (M 152 2 < M 152 3 → (0 ≤ M 152 2 ∧ M 152 2 < 1600) ∧ am_cal pg d 174 [(0, M 153 (M 152 2))] sh_T M (am_c0 sh_T fun x3 M3 => ((x3 = 0 → am_g 12 0 co_X12_number d Q 129 [(2, 152), (0, v1), (0, v2), (0, v3), (0, v4)] [] sh_T M3) ∧ (¬ x3 = 0 → am_r ((M3 152 2) - v3) ∧ ((¬ (M3 152 2) - v3 = 4 → am_r (10 * v4) ∧ (0 ≤ M3 152 2 ∧ M3 152 2 < 1600) ∧ am_r ((10 * v4) + (M3 153 (M3 152 2))) ∧ am_r (((10 * v4) + (M3 153 (M3 152 2))) - 48) ∧ am_r ((M3 152 2) + 1) ∧ am_g 12 0 co_X12_number d Q 49 [(2, 152), (0, v1), (0, v2), (0, v3), (0, ((10 * v4) + (M3 153 (M3 152 2))) - 48)] [] sh_T (am_up M3 152 2 ((M3 152 2) + 1))) ∧ ((M3 152 2) - v3 = 4 → am_cal pg d 172 [(2, 152), (0, 1), (0, M3 152 2)] sh_T M3 (am_cv sh_T fun M12 => Q (some (0, 0), sh_T, M12)))))))))) : am_g 12 0 co_X12_number d Q 49 [(2, 152), (0, v1), (0, v2), (0, v3), (0, v4)] [] sh_T M := by
  refine x_aload_n (by decide +kernel : am_at co_X12_number 49 = some (1, .aload_n 0)) rfl ?_
  refine x_getf (by decide +kernel : am_at co_X12_number 50 = some (3, .getfield 215)) pq_12_215 rfl ob_152 ?_
  refine x_aload_n (by decide +kernel : am_at co_X12_number 53 = some (1, .aload_n 0)) rfl ?_
  refine x_getf (by decide +kernel : am_at co_X12_number 54 = some (3, .getfield 218)) pq_12_218 rfl ob_152 ?_
  refine x_icmp (tgt := 129) (by decide +kernel : am_at co_X12_number 57 = some (3, .if_icmp .ge 72)) rfl Iff.rfl (fun c0 => ?_) (fun c0 => ?_)
  · have h := h.1 c0
    exact am_weak (lk (lk (lk (lk (lk ln))))) h
  · have c0 := (Int.not_le.mp c0)
    have h := h.2 c0
    refine x_aload_n (by decide +kernel : am_at co_X12_number 60 = some (1, .aload_n 0)) rfl ?_
    refine x_getF (by decide +kernel : am_at co_X12_number 61 = some (3, .getfield 7)) pq_12_7 (by decide) rfl ob_152 ?_
    refine x_top2 (show 152 + 1 = 153 from rfl) ?_
    refine x_aload_n (by decide +kernel : am_at co_X12_number 64 = some (1, .aload_n 0)) rfl ?_
    refine x_getf (by decide +kernel : am_at co_X12_number 65 = some (3, .getfield 215)) pq_12_215 rfl ob_152 ?_
    obtain ⟨o1, h⟩ := h
    refine x_iald (by decide +kernel : am_at co_X12_number 68 = some (1, .iaload)) (ia_153 o1.1 o1.2) ?_
    refine x_callS (n := 1) (by decide +kernel : am_at co_X12_number 69 = some (3, .invokestatic 246)) pq_12_246 rfl rfl rfl h (x_k0 fun x3 M3 h => ?_)
    refine x_if (tgt := 129) (by decide +kernel : am_at co_X12_number 72 = some (3, .ifCond .eq 57)) rfl Iff.rfl (fun c3 => ?_) (fun c3 => ?_)
    · have h := h.1 c3
      exact am_weak (lk (lk (lk (lk (lk ln))))) h
    · have c3 := c3
      have h := h.2 c3
      refine x_aload_n (by decide +kernel : am_at co_X12_number 75 = some (1, .aload_n 0)) rfl ?_
      refine x_getf (by decide +kernel : am_at co_X12_number 76 = some (3, .getfield 215)) pq_12_215 rfl ob_152 ?_
      refine x_iload_n (by decide +kernel : am_at co_X12_number 79 = some (1, .iload_n 3)) rfl ?_
      obtain ⟨o4, h⟩ := h
      refine x_isub (by decide +kernel : am_at co_X12_number 80 = some (1, .isub)) o4 ?_
      refine x_iconst (by decide +kernel : am_at co_X12_number 81 = some (1, .iconst 4)) ?_
      refine x_icmp (tgt := 96) (by decide +kernel : am_at co_X12_number 82 = some (3, .if_icmp .ne 14)) rfl Iff.rfl (fun c5 => ?_) (fun c5 => ?_)
      · have h := h.1 c5
        refine x_bipush (by decide +kernel : am_at co_X12_number 96 = some (2, .bipush 10)) ?_
        refine x_iload (by decide +kernel : am_at co_X12_number 98 = some (2, .iload 4)) rfl ?_
        obtain ⟨o6, h⟩ := h
        refine x_imul (by decide +kernel : am_at co_X12_number 100 = some (1, .imul)) o6 ?_
        refine x_aload_n (by decide +kernel : am_at co_X12_number 101 = some (1, .aload_n 0)) rfl ?_
        refine x_getF (by decide +kernel : am_at co_X12_number 102 = some (3, .getfield 7)) pq_12_7 (by decide) rfl ob_152 ?_
        refine x_top2 (show 152 + 1 = 153 from rfl) ?_
        refine x_aload_n (by decide +kernel : am_at co_X12_number 105 = some (1, .aload_n 0)) rfl ?_
        refine x_getf (by decide +kernel : am_at co_X12_number 106 = some (3, .getfield 215)) pq_12_215 rfl ob_152 ?_
        obtain ⟨o7, h⟩ := h
        refine x_iald (by decide +kernel : am_at co_X12_number 109 = some (1, .iaload)) (ia_153 o7.1 o7.2) ?_
        obtain ⟨o8, h⟩ := h
        refine x_iadd (by decide +kernel : am_at co_X12_number 110 = some (1, .iadd)) o8 ?_
        refine x_bipush (by decide +kernel : am_at co_X12_number 111 = some (2, .bipush 48)) ?_
        obtain ⟨o9, h⟩ := h
        refine x_isub (by decide +kernel : am_at co_X12_number 113 = some (1, .isub)) o9 ?_
        refine x_istore (L' := [(2, 152), (0, v1), (0, v2), (0, v3), (0, ((10 * v4) + (M3 153 (M3 152 2))) - 48)]) (by decide +kernel : am_at co_X12_number 114 = some (2, .istore 4)) rfl ?_
        refine x_aload_n (by decide +kernel : am_at co_X12_number 116 = some (1, .aload_n 0)) rfl ?_
        refine x_dup2' (by decide +kernel : am_at co_X12_number 117 = some (1, .dup)) ?_
        refine x_getf (by decide +kernel : am_at co_X12_number 118 = some (3, .getfield 215)) pq_12_215 rfl ob_152 ?_
        refine x_iconst (by decide +kernel : am_at co_X12_number 121 = some (1, .iconst 1)) ?_
        obtain ⟨o10, h⟩ := h
        refine x_iadd (by decide +kernel : am_at co_X12_number 122 = some (1, .iadd)) o10 ?_
        refine x_putf0 (by decide +kernel : am_at co_X12_number 123 = some (3, .putfield 215)) pq_12_215 rfl ob_152 ?_
        refine x_goto (tgt := 49) (by decide +kernel : am_at co_X12_number 126 = some (3, .goto (-77))) rfl ?_
        exact am_weak (lk (lk (lk (lk (lk ln))))) h
      · have c5 := (Classical.not_not.mp c5)
        have h := h.2 c5
        refine x_aload_n (by decide +kernel : am_at co_X12_number 85 = some (1, .aload_n 0)) rfl ?_
        refine x_iconst (by decide +kernel : am_at co_X12_number 86 = some (1, .iconst 1)) ?_
        refine x_aload_n (by decide +kernel : am_at co_X12_number 87 = some (1, .aload_n 0)) rfl ?_
        refine x_getf (by decide +kernel : am_at co_X12_number 88 = some (3, .getfield 215)) pq_12_215 rfl ob_152 ?_
        refine x_callV (n := 3) (by decide +kernel : am_at co_X12_number 91 = some (3, .invokevirtual 239)) pq_12_239 pm_X12_fail rfl rfl rfl ob_152 h (x_kv fun M12 h => ?_)
        refine x_iconst (by decide +kernel : am_at co_X12_number 94 = some (1, .iconst 0)) ?_
        exact x_iret (by decide +kernel : am_at co_X12_number 95 = some (1, .ireturn)) h
set_option maxRecDepth 20000 in
theorem bk_X12_number_129 {d : Nat} {Q : am_Q} {M : am_M} {v1 v2 v3 v4 : Int} (h : am_cal pg d 169 [(1, v4), (1, v1), (1, v2)] sh_T (am_up M 152 4 (M 152 2)) (am_c0 sh_T fun x1 M1 => ((¬ x1 = 0 → am_g 12 0 co_X12_number d Q 156 [(3, 0), (3, 0), (3, 0), (3, 0), (0, v4)] [] sh_T M1) ∧ (x1 = 0 → am_cal pg d 172 [(2, 152), (0, 2), (0, v3)] sh_T M1 (am_cv sh_T fun M3 => am_g 12 0 co_X12_number d Q 156 [(3, 0), (3, 0), (3, 0), (3, 0), (0, v4)] [] sh_T M3))))) : am_g 12 0 co_X12_number d Q 129 [(2, 152), (0, v1), (0, v2), (0, v3), (0, v4)] [] sh_T M := by
  refine x_aload_n (by decide +kernel : am_at co_X12_number 129 = some (1, .aload_n 0)) rfl ?_
  refine x_aload_n (by decide +kernel : am_at co_X12_number 130 = some (1, .aload_n 0)) rfl ?_
  refine x_getf (by decide +kernel : am_at co_X12_number 131 = some (3, .getfield 215)) pq_12_215 rfl ob_152 ?_
  refine x_putf0 (by decide +kernel : am_at co_X12_number 134 = some (3, .putfield 229)) pq_12_229 rfl ob_152 ?_
  refine x_iload (by decide +kernel : am_at co_X12_number 137 = some (2, .iload 4)) rfl ?_
  refine x_i2l (by decide +kernel : am_at co_X12_number 139 = some (1, .i2l)) ?_
  refine x_iload_n (by decide +kernel : am_at co_X12_number 140 = some (1, .iload_n 1)) rfl ?_
  refine x_i2l (by decide +kernel : am_at co_X12_number 141 = some (1, .i2l)) ?_
  refine x_iload_n (by decide +kernel : am_at co_X12_number 142 = some (1, .iload_n 2)) rfl ?_
  refine x_i2l (by decide +kernel : am_at co_X12_number 143 = some (1, .i2l)) ?_
  refine x_callS (n := 3) (by decide +kernel : am_at co_X12_number 144 = some (3, .invokestatic 249)) pq_12_249 rfl rfl rfl h (x_k0 fun x1 M1 h => ?_)
  refine x_if (tgt := 156) (by decide +kernel : am_at co_X12_number 147 = some (3, .ifCond .ne 9)) rfl Iff.rfl (fun c1 => ?_) (fun c1 => ?_)
  · have h := h.1 c1
    exact am_weak (ld (ld (ld (ld (lk ln))))) h
  · have c1 := (Classical.not_not.mp c1)
    have h := h.2 c1
    refine x_aload_n (by decide +kernel : am_at co_X12_number 150 = some (1, .aload_n 0)) rfl ?_
    refine x_iconst (by decide +kernel : am_at co_X12_number 151 = some (1, .iconst 2)) ?_
    refine x_iload_n (by decide +kernel : am_at co_X12_number 152 = some (1, .iload_n 3)) rfl ?_
    refine x_callV (n := 3) (by decide +kernel : am_at co_X12_number 153 = some (3, .invokevirtual 239)) pq_12_239 pm_X12_fail rfl rfl rfl ob_152 h (x_kv fun M3 h => ?_)
    exact am_weak (ld (ld (ld (ld (lk ln))))) h
set_option maxRecDepth 20000 in
theorem bk_X12_number_156 {d : Nat} {Q : am_Q} {M : am_M} {v4 : Int} (h : Q (some (0, v4), sh_T, M)) : am_g 12 0 co_X12_number d Q 156 [(3, 0), (3, 0), (3, 0), (3, 0), (0, v4)] [] sh_T M := by
  refine x_iload (by decide +kernel : am_at co_X12_number 156 = some (2, .iload 4)) rfl ?_
  exact x_iret (by decide +kernel : am_at co_X12_number 158 = some (1, .ireturn)) h
set_option maxRecDepth 20000 in
theorem bk_X12_isOwnHere_0 {d : Nat} {Q : am_Q} {M : am_M} (h : am_cal pg d 176 [(2, 152), (2, 155)] sh_T M (am_c0 sh_T fun x1 M1 => ((¬ x1 = 0 → am_g 12 5 co_X12_isOwnHere d Q 66 [(2, 152), (3, 0)] [] sh_T M1) ∧ (x1 = 0 → am_cal pg d 176 [(2, 152), (2, 156)] sh_T M1 (am_c0 sh_T fun x3 M3 => ((¬ x3 = 0 → am_g 12 5 co_X12_isOwnHere d Q 66 [(2, 152), (3, 0)] [] sh_T M3) ∧ (x3 = 0 → am_cal pg d 176 [(2, 152), (2, 157)] sh_T M3 (am_c0 sh_T fun x5 M5 => ((¬ x5 = 0 → am_g 12 5 co_X12_isOwnHere d Q 66 [(2, 152), (3, 0)] [] sh_T M5) ∧ (x5 = 0 → am_cal pg d 176 [(2, 152), (2, 158)] sh_T M5 (am_c0 sh_T fun x7 M7 => ((¬ x7 = 0 → am_g 12 5 co_X12_isOwnHere d Q 66 [(2, 152), (3, 0)] [] sh_T M7) ∧ (x7 = 0 → am_cal pg d 176 [(2, 152), (2, 159)] sh_T M7 (am_c0 sh_T fun x9 M9 => ((¬ x9 = 0 → am_g 12 5 co_X12_isOwnHere d Q 66 [(2, 152), (3, 0)] [] sh_T M9) ∧ (x9 = 0 → am_cal pg d 176 [(2, 152), (2, 160)] sh_T M9 (am_c0 sh_T fun x11 M11 => ((x11 = 0 → am_cal pg d 176 [(2, 152), (2, 161)] sh_T M11 (am_c0 sh_T fun x13 M13 => ((¬ x13 = 0 → am_g 12 5 co_X12_isOwnHere d Q 142 [(2, 152), (3, 0)] [] sh_T M13) ∧ (x13 = 0 → am_cal pg d 176 [(2, 152), (2, 162)] sh_T M13 (am_c0 sh_T fun x15 M15 => ((¬ x15 = 0 → am_g 12 5 co_X12_isOwnHere d Q 142 [(2, 152), (3, 0)] [] sh_T M15) ∧ (x15 = 0 → am_cal pg d 176 [(2, 152), (2, 163)] sh_T M15 (am_c0 sh_T fun x17 M17 => ((¬ x17 = 0 → am_g 12 5 co_X12_isOwnHere d Q 142 [(2, 152), (3, 0)] [] sh_T M17) ∧ (x17 = 0 → am_cal pg d 176 [(2, 152), (2, 164)] sh_T M17 (am_c0 sh_T fun x19 M19 => ((¬ x19 = 0 → am_g 12 5 co_X12_isOwnHere d Q 142 [(2, 152), (3, 0)] [] sh_T M19) ∧ (x19 = 0 → am_cal pg d 176 [(2, 152), (2, 165)] sh_T M19 (am_c0 sh_T fun x21 M21 => ((¬ x21 = 0 → am_g 12 5 co_X12_isOwnHere d Q 142 [(2, 152), (3, 0)] [] sh_T M21) ∧ (x21 = 0 → am_cal pg d 176 [(2, 152), (2, 166)] sh_T M21 (am_c0 sh_T fun x23 M23 => ((x23 = 0 → am_cal pg d 176 [(2, 152), (2, 167)] sh_T M23 (am_c0 sh_T fun x25 M25 => ((¬ x25 = 0 → am_g 12 5 co_X12_isOwnHere d Q 218 [(2, 152), (3, 0)] [] sh_T M25) ∧ (x25 = 0 → am_cal pg d 176 [(2, 152), (2, 168)] sh_T M25 (am_c0 sh_T fun x27 M27 => ((¬ x27 = 0 → am_g 12 5 co_X12_isOwnHere d Q 218 [(2, 152), (3, 0)] [] sh_T M27) ∧ (x27 = 0 → am_cal pg d 176 [(2, 152), (2, 169)] sh_T M27 (am_c0 sh_T fun x29 M29 => ((¬ x29 = 0 → am_g 12 5 co_X12_isOwnHere d Q 218 [(2, 152), (3, 0)] [] sh_T M29) ∧ (x29 = 0 → am_cal pg d 176 [(2, 152), (2, 170)] sh_T M29 (am_c0 sh_T fun x31 M31 => ((¬ x31 = 0 → am_g 12 5 co_X12_isOwnHere d Q 218 [(2, 152), (3, 0)] [] sh_T M31) ∧ (x31 = 0 → am_cal pg d 176 [(2, 152), (2, 171)] sh_T M31 (am_c0 sh_T fun x33 M33 => ((¬ x33 = 0 → am_g 12 5 co_X12_isOwnHere d Q 218 [(2, 152), (3, 0)] [] sh_T M33) ∧ (x33 = 0 → am_cal pg d 176 [(2, 152), (2, 172)] sh_T M33 (am_c0 sh_T fun x35 M35 => ((x35 = 0 → am_cal pg d 176 [(2, 152), (2, 173)] sh_T M35 (am_c0 sh_T fun x37 M37 => ((x37 = 0 → Q (some (0, 0), sh_T, M37)) ∧ (¬ x37 = 0 → am_g 12 5 co_X12_isOwnHere d Q 239 [(3, 0), (3, 0)] [] sh_T M37)))) ∧ (¬ x35 = 0 → am_g 12 5 co_X12_isOwnHere d Q 218 [(2, 152), (3, 0)] [] sh_T M35))))))))))))))))))) ∧ (¬ x23 = 0 → am_g 12 5 co_X12_isOwnHere d Q 142 [(2, 152), (3, 0)] [] sh_T M23))))))))))))))))))) ∧ (¬ x11 = 0 → am_g 12 5 co_X12_isOwnHere d Q 66 [(2, 152), (3, 0)] [] sh_T M11))))))))))))))))))) : am_g 12 5 co_X12_isOwnHere d Q 0 [(2, 152), (3, 0)] [] sh_T M := by
  refine x_aload_n (by decide +kernel : am_at co_X12_isOwnHere 0 = some (1, .aload_n 0)) rfl ?_
  refine x_aload_n (by decide +kernel : am_at co_X12_isOwnHere 1 = some (1, .aload_n 0)) rfl ?_
  refine x_getF (by decide +kernel : am_at co_X12_isOwnHere 2 = some (3, .getfield 20)) pq_12_20 (by decide) rfl ob_152 ?_
  refine x_top2 (show 152 + 3 = 155 from rfl) ?_
  refine x_callV (n := 2) (by decide +kernel : am_at co_X12_isOwnHere 5 = some (3, .invokevirtual 232)) pq_12_232 pm_X12_isHere rfl rfl rfl ob_152 h (x_k0 fun x1 M1 h => ?_)
  refine x_if (tgt := 66) (by decide +kernel : am_at co_X12_isOwnHere 8 = some (3, .ifCond .ne 58)) rfl Iff.rfl (fun c1 => ?_) (fun c1 => ?_)
  · have h := h.1 c1
    exact am_weak (lk (lk ln)) h
  · have c1 := (Classical.not_not.mp c1)
    have h := h.2 c1
    refine x_aload_n (by decide +kernel : am_at co_X12_isOwnHere 11 = some (1, .aload_n 0)) rfl ?_
    refine x_aload_n (by decide +kernel : am_at co_X12_isOwnHere 12 = some (1, .aload_n 0)) rfl ?_
    refine x_getF (by decide +kernel : am_at co_X12_isOwnHere 13 = some (3, .getfield 24)) pq_12_24 (by decide) rfl ob_152 ?_
    refine x_top2 (show 152 + 4 = 156 from rfl) ?_
    refine x_callV (n := 2) (by decide +kernel : am_at co_X12_isOwnHere 16 = some (3, .invokevirtual 232)) pq_12_232 pm_X12_isHere rfl rfl rfl ob_152 h (x_k0 fun x3 M3 h => ?_)
    refine x_if (tgt := 66) (by decide +kernel : am_at co_X12_isOwnHere 19 = some (3, .ifCond .ne 47)) rfl Iff.rfl (fun c3 => ?_) (fun c3 => ?_)
    · have h := h.1 c3
      exact am_weak (lk (lk ln)) h
    · have c3 := (Classical.not_not.mp c3)
      have h := h.2 c3
      refine x_aload_n (by decide +kernel : am_at co_X12_isOwnHere 22 = some (1, .aload_n 0)) rfl ?_
      refine x_aload_n (by decide +kernel : am_at co_X12_isOwnHere 23 = some (1, .aload_n 0)) rfl ?_
      refine x_getF (by decide +kernel : am_at co_X12_isOwnHere 24 = some (3, .getfield 27)) pq_12_27 (by decide) rfl ob_152 ?_
      refine x_top2 (show 152 + 5 = 157 from rfl) ?_
      refine x_callV (n := 2) (by decide +kernel : am_at co_X12_isOwnHere 27 = some (3, .invokevirtual 232)) pq_12_232 pm_X12_isHere rfl rfl rfl ob_152 h (x_k0 fun x5 M5 h => ?_)
      refine x_if (tgt := 66) (by decide +kernel : am_at co_X12_isOwnHere 30 = some (3, .ifCond .ne 36)) rfl Iff.rfl (fun c5 => ?_) (fun c5 => ?_)
      · have h := h.1 c5
        exact am_weak (lk (lk ln)) h
      · have c5 := (Classical.not_not.mp c5)
        have h := h.2 c5
        refine x_aload_n (by decide +kernel : am_at co_X12_isOwnHere 33 = some (1, .aload_n 0)) rfl ?_
        refine x_aload_n (by decide +kernel : am_at co_X12_isOwnHere 34 = some (1, .aload_n 0)) rfl ?_
        refine x_getF (by decide +kernel : am_at co_X12_isOwnHere 35 = some (3, .getfield 30)) pq_12_30 (by decide) rfl ob_152 ?_
        refine x_top2 (show 152 + 6 = 158 from rfl) ?_
        refine x_callV (n := 2) (by decide +kernel : am_at co_X12_isOwnHere 38 = some (3, .invokevirtual 232)) pq_12_232 pm_X12_isHere rfl rfl rfl ob_152 h (x_k0 fun x7 M7 h => ?_)
        refine x_if (tgt := 66) (by decide +kernel : am_at co_X12_isOwnHere 41 = some (3, .ifCond .ne 25)) rfl Iff.rfl (fun c7 => ?_) (fun c7 => ?_)
        · have h := h.1 c7
          exact am_weak (lk (lk ln)) h
        · have c7 := (Classical.not_not.mp c7)
          have h := h.2 c7
          refine x_aload_n (by decide +kernel : am_at co_X12_isOwnHere 44 = some (1, .aload_n 0)) rfl ?_
          refine x_aload_n (by decide +kernel : am_at co_X12_isOwnHere 45 = some (1, .aload_n 0)) rfl ?_
          refine x_getF (by decide +kernel : am_at co_X12_isOwnHere 46 = some (3, .getfield 33)) pq_12_33 (by decide) rfl ob_152 ?_
          refine x_top2 (show 152 + 7 = 159 from rfl) ?_
          refine x_callV (n := 2) (by decide +kernel : am_at co_X12_isOwnHere 49 = some (3, .invokevirtual 232)) pq_12_232 pm_X12_isHere rfl rfl rfl ob_152 h (x_k0 fun x9 M9 h => ?_)
          refine x_if (tgt := 66) (by decide +kernel : am_at co_X12_isOwnHere 52 = some (3, .ifCond .ne 14)) rfl Iff.rfl (fun c9 => ?_) (fun c9 => ?_)
          · have h := h.1 c9
            exact am_weak (lk (lk ln)) h
          · have c9 := (Classical.not_not.mp c9)
            have h := h.2 c9
            refine x_aload_n (by decide +kernel : am_at co_X12_isOwnHere 55 = some (1, .aload_n 0)) rfl ?_
            refine x_aload_n (by decide +kernel : am_at co_X12_isOwnHere 56 = some (1, .aload_n 0)) rfl ?_
            refine x_getF (by decide +kernel : am_at co_X12_isOwnHere 57 = some (3, .getfield 36)) pq_12_36 (by decide) rfl ob_152 ?_
            refine x_top2 (show 152 + 8 = 160 from rfl) ?_
            refine x_callV (n := 2) (by decide +kernel : am_at co_X12_isOwnHere 60 = some (3, .invokevirtual 232)) pq_12_232 pm_X12_isHere rfl rfl rfl ob_152 h (x_k0 fun x11 M11 h => ?_)
            refine x_if (tgt := 70) (by decide +kernel : am_at co_X12_isOwnHere 63 = some (3, .ifCond .eq 7)) rfl Iff.rfl (fun c11 => ?_) (fun c11 => ?_)
            · have h := h.1 c11
              refine x_iconst (by decide +kernel : am_at co_X12_isOwnHere 70 = some (1, .iconst 0)) ?_
              refine x_istore_n (L' := [(2, 152), (0, 0)]) (by decide +kernel : am_at co_X12_isOwnHere 71 = some (1, .istore_n 1)) rfl ?_
              refine x_iload_n (by decide +kernel : am_at co_X12_isOwnHere 72 = some (1, .iload_n 1)) rfl ?_
              refine x_if (tgt := 142) (by decide +kernel : am_at co_X12_isOwnHere 73 = some (3, .ifCond .ne 69)) rfl Iff.rfl (fun q => absurd q (show ¬ (¬ (0 : Int) = 0) by decide)) (fun q => ?_)
              refine x_aload_n (by decide +kernel : am_at co_X12_isOwnHere 76 = some (1, .aload_n 0)) rfl ?_
              refine x_aload_n (by decide +kernel : am_at co_X12_isOwnHere 77 = some (1, .aload_n 0)) rfl ?_
              refine x_getF (by decide +kernel : am_at co_X12_isOwnHere 78 = some (3, .getfield 39)) pq_12_39 (by decide) rfl ob_152 ?_
              refine x_top2 (show 152 + 9 = 161 from rfl) ?_
              refine x_callV (n := 2) (by decide +kernel : am_at co_X12_isOwnHere 81 = some (3, .invokevirtual 232)) pq_12_232 pm_X12_isHere rfl rfl rfl ob_152 h (x_k0 fun x13 M13 h => ?_)
              refine x_if (tgt := 142) (by decide +kernel : am_at co_X12_isOwnHere 84 = some (3, .ifCond .ne 58)) rfl Iff.rfl (fun c13 => ?_) (fun c13 => ?_)
              · have h := h.1 c13
                exact am_weak (lk (ld ln)) h
              · have c13 := (Classical.not_not.mp c13)
                have h := h.2 c13
                refine x_aload_n (by decide +kernel : am_at co_X12_isOwnHere 87 = some (1, .aload_n 0)) rfl ?_
                refine x_aload_n (by decide +kernel : am_at co_X12_isOwnHere 88 = some (1, .aload_n 0)) rfl ?_
                refine x_getF (by decide +kernel : am_at co_X12_isOwnHere 89 = some (3, .getfield 42)) pq_12_42 (by decide) rfl ob_152 ?_
                refine x_top2 (show 152 + 10 = 162 from rfl) ?_
                refine x_callV (n := 2) (by decide +kernel : am_at co_X12_isOwnHere 92 = some (3, .invokevirtual 232)) pq_12_232 pm_X12_isHere rfl rfl rfl ob_152 h (x_k0 fun x15 M15 h => ?_)
                refine x_if (tgt := 142) (by decide +kernel : am_at co_X12_isOwnHere 95 = some (3, .ifCond .ne 47)) rfl Iff.rfl (fun c15 => ?_) (fun c15 => ?_)
                · have h := h.1 c15
                  exact am_weak (lk (ld ln)) h
                · have c15 := (Classical.not_not.mp c15)
                  have h := h.2 c15
                  refine x_aload_n (by decide +kernel : am_at co_X12_isOwnHere 98 = some (1, .aload_n 0)) rfl ?_
                  refine x_aload_n (by decide +kernel : am_at co_X12_isOwnHere 99 = some (1, .aload_n 0)) rfl ?_
                  refine x_getF (by decide +kernel : am_at co_X12_isOwnHere 100 = some (3, .getfield 45)) pq_12_45 (by decide) rfl ob_152 ?_
                  refine x_top2 (show 152 + 11 = 163 from rfl) ?_
                  refine x_callV (n := 2) (by decide +kernel : am_at co_X12_isOwnHere 103 = some (3, .invokevirtual 232)) pq_12_232 pm_X12_isHere rfl rfl rfl ob_152 h (x_k0 fun x17 M17 h => ?_)
                  refine x_if (tgt := 142) (by decide +kernel : am_at co_X12_isOwnHere 106 = some (3, .ifCond .ne 36)) rfl Iff.rfl (fun c17 => ?_) (fun c17 => ?_)
                  · have h := h.1 c17
                    exact am_weak (lk (ld ln)) h
                  · have c17 := (Classical.not_not.mp c17)
                    have h := h.2 c17
                    refine x_aload_n (by decide +kernel : am_at co_X12_isOwnHere 109 = some (1, .aload_n 0)) rfl ?_
                    refine x_aload_n (by decide +kernel : am_at co_X12_isOwnHere 110 = some (1, .aload_n 0)) rfl ?_
                    refine x_getF (by decide +kernel : am_at co_X12_isOwnHere 111 = some (3, .getfield 48)) pq_12_48 (by decide) rfl ob_152 ?_
                    refine x_top2 (show 152 + 12 = 164 from rfl) ?_
                    refine x_callV (n := 2) (by decide +kernel : am_at co_X12_isOwnHere 114 = some (3, .invokevirtual 232)) pq_12_232 pm_X12_isHere rfl rfl rfl ob_152 h (x_k0 fun x19 M19 h => ?_)
                    refine x_if (tgt := 142) (by decide +kernel : am_at co_X12_isOwnHere 117 = some (3, .ifCond .ne 25)) rfl Iff.rfl (fun c19 => ?_) (fun c19 => ?_)
                    · have h := h.1 c19
                      exact am_weak (lk (ld ln)) h
                    · have c19 := (Classical.not_not.mp c19)
                      have h := h.2 c19
                      refine x_aload_n (by decide +kernel : am_at co_X12_isOwnHere 120 = some (1, .aload_n 0)) rfl ?_
                      refine x_aload_n (by decide +kernel : am_at co_X12_isOwnHere 121 = some (1, .aload_n 0)) rfl ?_
                      refine x_getF (by decide +kernel : am_at co_X12_isOwnHere 122 = some (3, .getfield 51)) pq_12_51 (by decide) rfl ob_152 ?_
                      refine x_top2 (show 152 + 13 = 165 from rfl) ?_
                      refine x_callV (n := 2) (by decide +kernel : am_at co_X12_isOwnHere 125 = some (3, .invokevirtual 232)) pq_12_232 pm_X12_isHere rfl rfl rfl ob_152 h (x_k0 fun x21 M21 h => ?_)
                      refine x_if (tgt := 142) (by decide +kernel : am_at co_X12_isOwnHere 128 = some (3, .ifCond .ne 14)) rfl Iff.rfl (fun c21 => ?_) (fun c21 => ?_)
                      · have h := h.1 c21
                        exact am_weak (lk (ld ln)) h
                      · have c21 := (Classical.not_not.mp c21)
                        have h := h.2 c21
                        refine x_aload_n (by decide +kernel : am_at co_X12_isOwnHere 131 = some (1, .aload_n 0)) rfl ?_
                        refine x_aload_n (by decide +kernel : am_at co_X12_isOwnHere 132 = some (1, .aload_n 0)) rfl ?_
                        refine x_getF (by decide +kernel : am_at co_X12_isOwnHere 133 = some (3, .getfield 54)) pq_12_54 (by decide) rfl ob_152 ?_
                        refine x_top2 (show 152 + 14 = 166 from rfl) ?_
                        refine x_callV (n := 2) (by decide +kernel : am_at co_X12_isOwnHere 136 = some (3, .invokevirtual 232)) pq_12_232 pm_X12_isHere rfl rfl rfl ob_152 h (x_k0 fun x23 M23 h => ?_)
                        refine x_if (tgt := 146) (by decide +kernel : am_at co_X12_isOwnHere 139 = some (3, .ifCond .eq 7)) rfl Iff.rfl (fun c23 => ?_) (fun c23 => ?_)
                        · have h := h.1 c23
                          refine x_iconst (by decide +kernel : am_at co_X12_isOwnHere 146 = some (1, .iconst 0)) ?_
                          refine x_istore_n (L' := [(2, 152), (0, 0)]) (by decide +kernel : am_at co_X12_isOwnHere 147 = some (1, .istore_n 1)) rfl ?_
                          refine x_iload_n (by decide +kernel : am_at co_X12_isOwnHere 148 = some (1, .iload_n 1)) rfl ?_
                          refine x_if (tgt := 218) (by decide +kernel : am_at co_X12_isOwnHere 149 = some (3, .ifCond .ne 69)) rfl Iff.rfl (fun q => absurd q (show ¬ (¬ (0 : Int) = 0) by decide)) (fun q => ?_)
                          refine x_aload_n (by decide +kernel : am_at co_X12_isOwnHere 152 = some (1, .aload_n 0)) rfl ?_
                          refine x_aload_n (by decide +kernel : am_at co_X12_isOwnHere 153 = some (1, .aload_n 0)) rfl ?_
                          refine x_getF (by decide +kernel : am_at co_X12_isOwnHere 154 = some (3, .getfield 57)) pq_12_57 (by decide) rfl ob_152 ?_
                          refine x_top2 (show 152 + 15 = 167 from rfl) ?_
                          refine x_callV (n := 2) (by decide +kernel : am_at co_X12_isOwnHere 157 = some (3, .invokevirtual 232)) pq_12_232 pm_X12_isHere rfl rfl rfl ob_152 h (x_k0 fun x25 M25 h => ?_)
                          refine x_if (tgt := 218) (by decide +kernel : am_at co_X12_isOwnHere 160 = some (3, .ifCond .ne 58)) rfl Iff.rfl (fun c25 => ?_) (fun c25 => ?_)
                          · have h := h.1 c25
                            exact am_weak (lk (ld ln)) h
                          · have c25 := (Classical.not_not.mp c25)
                            have h := h.2 c25
                            refine x_aload_n (by decide +kernel : am_at co_X12_isOwnHere 163 = some (1, .aload_n 0)) rfl ?_
                            refine x_aload_n (by decide +kernel : am_at co_X12_isOwnHere 164 = some (1, .aload_n 0)) rfl ?_
                            refine x_getF (by decide +kernel : am_at co_X12_isOwnHere 165 = some (3, .getfield 60)) pq_12_60 (by decide) rfl ob_152 ?_
                            refine x_top2 (show 152 + 16 = 168 from rfl) ?_
                            refine x_callV (n := 2) (by decide +kernel : am_at co_X12_isOwnHere 168 = some (3, .invokevirtual 232)) pq_12_232 pm_X12_isHere rfl rfl rfl ob_152 h (x_k0 fun x27 M27 h => ?_)
                            refine x_if (tgt := 218) (by decide +kernel : am_at co_X12_isOwnHere 171 = some (3, .ifCond .ne 47)) rfl Iff.rfl (fun c27 => ?_) (fun c27 => ?_)
                            · have h := h.1 c27
                              exact am_weak (lk (ld ln)) h
                            · have c27 := (Classical.not_not.mp c27)
                              have h := h.2 c27
                              refine x_aload_n (by decide +kernel : am_at co_X12_isOwnHere 174 = some (1, .aload_n 0)) rfl ?_
                              refine x_aload_n (by decide +kernel : am_at co_X12_isOwnHere 175 = some (1, .aload_n 0)) rfl ?_
                              refine x_getF (by decide +kernel : am_at co_X12_isOwnHere 176 = some (3, .getfield 63)) pq_12_63 (by decide) rfl ob_152 ?_
                              refine x_top2 (show 152 + 17 = 169 from rfl) ?_
                              refine x_callV (n := 2) (by decide +kernel : am_at co_X12_isOwnHere 179 = some (3, .invokevirtual 232)) pq_12_232 pm_X12_isHere rfl rfl rfl ob_152 h (x_k0 fun x29 M29 h => ?_)
                              refine x_if (tgt := 218) (by decide +kernel : am_at co_X12_isOwnHere 182 = some (3, .ifCond .ne 36)) rfl Iff.rfl (fun c29 => ?_) (fun c29 => ?_)
                              · have h := h.1 c29
                                exact am_weak (lk (ld ln)) h
                              · have c29 := (Classical.not_not.mp c29)
                                have h := h.2 c29
                                refine x_aload_n (by decide +kernel : am_at co_X12_isOwnHere 185 = some (1, .aload_n 0)) rfl ?_
                                refine x_aload_n (by decide +kernel : am_at co_X12_isOwnHere 186 = some (1, .aload_n 0)) rfl ?_
                                refine x_getF (by decide +kernel : am_at co_X12_isOwnHere 187 = some (3, .getfield 66)) pq_12_66 (by decide) rfl ob_152 ?_
                                refine x_top2 (show 152 + 18 = 170 from rfl) ?_
                                refine x_callV (n := 2) (by decide +kernel : am_at co_X12_isOwnHere 190 = some (3, .invokevirtual 232)) pq_12_232 pm_X12_isHere rfl rfl rfl ob_152 h (x_k0 fun x31 M31 h => ?_)
                                refine x_if (tgt := 218) (by decide +kernel : am_at co_X12_isOwnHere 193 = some (3, .ifCond .ne 25)) rfl Iff.rfl (fun c31 => ?_) (fun c31 => ?_)
                                · have h := h.1 c31
                                  exact am_weak (lk (ld ln)) h
                                · have c31 := (Classical.not_not.mp c31)
                                  have h := h.2 c31
                                  refine x_aload_n (by decide +kernel : am_at co_X12_isOwnHere 196 = some (1, .aload_n 0)) rfl ?_
                                  refine x_aload_n (by decide +kernel : am_at co_X12_isOwnHere 197 = some (1, .aload_n 0)) rfl ?_
                                  refine x_getF (by decide +kernel : am_at co_X12_isOwnHere 198 = some (3, .getfield 69)) pq_12_69 (by decide) rfl ob_152 ?_
                                  refine x_top2 (show 152 + 19 = 171 from rfl) ?_
                                  refine x_callV (n := 2) (by decide +kernel : am_at co_X12_isOwnHere 201 = some (3, .invokevirtual 232)) pq_12_232 pm_X12_isHere rfl rfl rfl ob_152 h (x_k0 fun x33 M33 h => ?_)
                                  refine x_if (tgt := 218) (by decide +kernel : am_at co_X12_isOwnHere 204 = some (3, .ifCond .ne 14)) rfl Iff.rfl (fun c33 => ?_) (fun c33 => ?_)
                                  · have h := h.1 c33
                                    exact am_weak (lk (ld ln)) h
                                  · have c33 := (Classical.not_not.mp c33)
                                    have h := h.2 c33
                                    refine x_aload_n (by decide +kernel : am_at co_X12_isOwnHere 207 = some (1, .aload_n 0)) rfl ?_
                                    refine x_aload_n (by decide +kernel : am_at co_X12_isOwnHere 208 = some (1, .aload_n 0)) rfl ?_
                                    refine x_getF (by decide +kernel : am_at co_X12_isOwnHere 209 = some (3, .getfield 72)) pq_12_72 (by decide) rfl ob_152 ?_
                                    refine x_top2 (show 152 + 20 = 172 from rfl) ?_
                                    refine x_callV (n := 2) (by decide +kernel : am_at co_X12_isOwnHere 212 = some (3, .invokevirtual 232)) pq_12_232 pm_X12_isHere rfl rfl rfl ob_152 h (x_k0 fun x35 M35 h => ?_)
                                    refine x_if (tgt := 222) (by decide +kernel : am_at co_X12_isOwnHere 215 = some (3, .ifCond .eq 7)) rfl Iff.rfl (fun c35 => ?_) (fun c35 => ?_)
                                    · have h := h.1 c35
                                      refine x_iconst (by decide +kernel : am_at co_X12_isOwnHere 222 = some (1, .iconst 0)) ?_
                                      refine x_istore_n (L' := [(2, 152), (0, 0)]) (by decide +kernel : am_at co_X12_isOwnHere 223 = some (1, .istore_n 1)) rfl ?_
                                      refine x_iload_n (by decide +kernel : am_at co_X12_isOwnHere 224 = some (1, .iload_n 1)) rfl ?_
                                      refine x_if (tgt := 239) (by decide +kernel : am_at co_X12_isOwnHere 225 = some (3, .ifCond .ne 14)) rfl Iff.rfl (fun q => absurd q (show ¬ (¬ (0 : Int) = 0) by decide)) (fun q => ?_)
                                      refine x_aload_n (by decide +kernel : am_at co_X12_isOwnHere 228 = some (1, .aload_n 0)) rfl ?_
                                      refine x_aload_n (by decide +kernel : am_at co_X12_isOwnHere 229 = some (1, .aload_n 0)) rfl ?_
                                      refine x_getF (by decide +kernel : am_at co_X12_isOwnHere 230 = some (3, .getfield 75)) pq_12_75 (by decide) rfl ob_152 ?_
                                      refine x_top2 (show 152 + 21 = 173 from rfl) ?_
                                      refine x_callV (n := 2) (by decide +kernel : am_at co_X12_isOwnHere 233 = some (3, .invokevirtual 232)) pq_12_232 pm_X12_isHere rfl rfl rfl ob_152 h (x_k0 fun x37 M37 h => ?_)
                                      refine x_if (tgt := 243) (by decide +kernel : am_at co_X12_isOwnHere 236 = some (3, .ifCond .eq 7)) rfl Iff.rfl (fun c37 => ?_) (fun c37 => ?_)
                                      · have h := h.1 c37
                                        refine x_iconst (by decide +kernel : am_at co_X12_isOwnHere 243 = some (1, .iconst 0)) ?_
                                        refine x_istore_n (L' := [(2, 152), (0, 0)]) (by decide +kernel : am_at co_X12_isOwnHere 244 = some (1, .istore_n 1)) rfl ?_
                                        refine x_iload_n (by decide +kernel : am_at co_X12_isOwnHere 245 = some (1, .iload_n 1)) rfl ?_
                                        exact x_zret (by decide +kernel : am_at co_X12_isOwnHere 246 = some (1, .ireturn)) (by decide) h
                                      · have c37 := c37
                                        have h := h.2 c37
                                        exact am_weak (ld (ld ln)) h
                                    · have c35 := c35
                                      have h := h.2 c35
                                      exact am_weak (lk (ld ln)) h
                        · have c23 := c23
                          have h := h.2 c23
                          exact am_weak (lk (ld ln)) h
            · have c11 := c11
              have h := h.2 c11
              exact am_weak (lk (lk ln)) h
set_option maxRecDepth 20000 in
theorem bk_X12_isOwnHere_66 {d : Nat} {Q : am_Q} {M : am_M} (h : am_g 12 5 co_X12_isOwnHere d Q 142 [(2, 152), (3, 0)] [] sh_T M) : am_g 12 5 co_X12_isOwnHere d Q 66 [(2, 152), (3, 0)] [] sh_T M := by
  refine x_iconst (by decide +kernel : am_at co_X12_isOwnHere 66 = some (1, .iconst 1)) ?_
  refine x_goto (tgt := 71) (by decide +kernel : am_at co_X12_isOwnHere 67 = some (3, .goto 4)) rfl ?_
  refine x_istore_n (L' := [(2, 152), (0, 1)]) (by decide +kernel : am_at co_X12_isOwnHere 71 = some (1, .istore_n 1)) rfl ?_
  refine x_iload_n (by decide +kernel : am_at co_X12_isOwnHere 72 = some (1, .iload_n 1)) rfl ?_
  refine x_if (tgt := 142) (by decide +kernel : am_at co_X12_isOwnHere 73 = some (3, .ifCond .ne 69)) rfl Iff.rfl (fun q => ?_) (fun q => absurd (show ¬ (1 : Int) = 0 by decide) q)
  exact am_weak (lk (ld ln)) h
set_option maxRecDepth 20000 in
theorem bk_X12_isOwnHere_142 {d : Nat} {Q : am_Q} {M : am_M} (h : am_g 12 5 co_X12_isOwnHere d Q 218 [(2, 152), (3, 0)] [] sh_T M) : am_g 12 5 co_X12_isOwnHere d Q 142 [(2, 152), (3, 0)] [] sh_T M := by
  refine x_iconst (by decide +kernel : am_at co_X12_isOwnHere 142 = some (1, .iconst 1)) ?_
  refine x_goto (tgt := 147) (by decide +kernel : am_at co_X12_isOwnHere 143 = some (3, .goto 4)) rfl ?_
  refine x_istore_n (L' := [(2, 152), (0, 1)]) (by decide +kernel : am_at co_X12_isOwnHere 147 = some (1, .istore_n 1)) rfl ?_
  refine x_iload_n (by decide +kernel : am_at co_X12_isOwnHere 148 = some (1, .iload_n 1)) rfl ?_
  refine x_if (tgt := 218) (by decide +kernel : am_at co_X12_isOwnHere 149 = some (3, .ifCond .ne 69)) rfl Iff.rfl (fun q => ?_) (fun q => absurd (show ¬ (1 : Int) = 0 by decide) q)
  exact am_weak (lk (ld ln)) h
set_option maxRecDepth 20000 in
theorem bk_X12_isOwnHere_218 {d : Nat} {Q : am_Q} {M : am_M} (h : am_g 12 5 co_X12_isOwnHere d Q 239 [(3, 0), (3, 0)] [] sh_T M) : am_g 12 5 co_X12_isOwnHere d Q 218 [(2, 152), (3, 0)] [] sh_T M := by
  refine x_iconst (by decide +kernel : am_at co_X12_isOwnHere 218 = some (1, .iconst 1)) ?_
  refine x_goto (tgt := 223) (by decide +kernel : am_at co_X12_isOwnHere 219 = some (3, .goto 4)) rfl ?_
  refine x_istore_n (L' := [(2, 152), (0, 1)]) (by decide +kernel : am_at co_X12_isOwnHere 223 = some (1, .istore_n 1)) rfl ?_
  refine x_iload_n (by decide +kernel : am_at co_X12_isOwnHere 224 = some (1, .iload_n 1)) rfl ?_
  refine x_if (tgt := 239) (by decide +kernel : am_at co_X12_isOwnHere 225 = some (3, .ifCond .ne 14)) rfl Iff.rfl (fun q => ?_) (fun q => absurd (show ¬ (1 : Int) = 0 by decide) q)
  exact am_weak (ld (ld ln)) h
set_option maxRecDepth 20000 in
theorem bk_X12_isOwnHere_239 {d : Nat} {Q : am_Q} {M : am_M} (h : Q (some (0, 1), sh_T, M)) : am_g 12 5 co_X12_isOwnHere d Q 239 [(3, 0), (3, 0)] [] sh_T M := by
  refine x_iconst (by decide +kernel : am_at co_X12_isOwnHere 239 = some (1, .iconst 1)) ?_
  refine x_goto (tgt := 244) (by decide +kernel : am_at co_X12_isOwnHere 240 = some (3, .goto 4)) rfl ?_
  refine x_istore_n (L' := [(3, 0), (0, 1)]) (by decide +kernel : am_at co_X12_isOwnHere 244 = some (1, .istore_n 1)) rfl ?_
  refine x_iload_n (by decide +kernel : am_at co_X12_isOwnHere 245 = some (1, .iload_n 1)) rfl ?_
  exact x_zret (by decide +kernel : am_at co_X12_isOwnHere 246 = some (1, .ireturn)) (by decide) h
set_option maxRecDepth 20000 in
theorem bk_X12_name_0 {d : Nat} {Q : am_Q} {M : am_M} (h : ((M 152 5 = 0 → am_cal pg d 175 [(2, 152)] sh_T M (am_c0 sh_T fun x2 M2 => am_cal pg d 173 [(0, x2)] sh_T M2 (am_c0 sh_T fun x3 M3 => ((x3 = 0 → am_cal pg d 172 [(2, 152), (0, 1), (0, M3 152 2)] sh_T M3 (am_cv sh_T fun M5 => Q (some (1, 0), sh_T, M5))) ∧ (¬ x3 = 0 → ((M3 152 2 = M3 152 4 → am_cal pg d 172 [(2, 152), (0, 1), (0, M3 152 2)] sh_T M3 (am_cv sh_T fun M7 => Q (some (1, 0), sh_T, M7))) ∧ (¬ M3 152 2 = M3 152 4 → am_cal pg d 182 [(2, 152)] sh_T M3 (am_c0 sh_T fun x8 M8 => ((x8 = 0 → am_g 12 1 co_X12_name d Q 58 [(2, 152), (1, 0), (3, 0)] [] sh_T (am_up M8 152 29 (M8 152 2))) ∧ (¬ x8 = 0 → am_cal pg d 172 [(2, 152), (0, 1), (0, M8 152 2)] sh_T M8 (am_cv sh_T fun M10 => Q (some (1, 0), sh_T, M10)))))))))))) ∧ (¬ M 152 5 = 0 → Q (some (1, 0), sh_T, M)))) : am_g 12 1 co_X12_name d Q 0 [(2, 152), (3, 0), (3, 0)] [] sh_T M := by
  refine x_aload_n (by decide +kernel : am_at co_X12_name 0 = some (1, .aload_n 0)) rfl ?_
  refine x_getf (by decide +kernel : am_at co_X12_name 1 = some (3, .getfield 209)) pq_12_209 rfl ob_152 ?_
  refine x_if (tgt := 9) (by decide +kernel : am_at co_X12_name 4 = some (3, .ifCond .eq 5)) rfl Iff.rfl (fun c0 => ?_) (fun c0 => ?_)
  · have h := h.1 c0
    refine x_aload_n (by decide +kernel : am_at co_X12_name 9 = some (1, .aload_n 0)) rfl ?_
    refine x_callV (n := 1) (by decide +kernel : am_at co_X12_name 10 = some (3, .invokevirtual 221)) pq_12_221 pm_X12_look rfl rfl rfl ob_152 h (x_k0 fun x2 M2 h => ?_)
    refine x_callS (n := 1) (by decide +kernel : am_at co_X12_name 13 = some (3, .invokestatic 225)) pq_12_225 rfl rfl rfl h (x_k0 fun x3 M3 h => ?_)
    refine x_if (tgt := 37) (by decide +kernel : am_at co_X12_name 16 = some (3, .ifCond .eq 21)) rfl Iff.rfl (fun c3 => ?_) (fun c3 => ?_)
    · have h := h.1 c3
      refine x_aload_n (by decide +kernel : am_at co_X12_name 37 = some (1, .aload_n 0)) rfl ?_
      refine x_iconst (by decide +kernel : am_at co_X12_name 38 = some (1, .iconst 1)) ?_
      refine x_aload_n (by decide +kernel : am_at co_X12_name 39 = some (1, .aload_n 0)) rfl ?_
      refine x_getf (by decide +kernel : am_at co_X12_name 40 = some (3, .getfield 215)) pq_12_215 rfl ob_152 ?_
      refine x_callV (n := 3) (by decide +kernel : am_at co_X12_name 43 = some (3, .invokevirtual 239)) pq_12_239 pm_X12_fail rfl rfl rfl ob_152 h (x_kv fun M5 h => ?_)
      refine x_lconst (by decide +kernel : am_at co_X12_name 46 = some (1, .lconst 0)) ?_
      exact x_lret (by decide +kernel : am_at co_X12_name 47 = some (1, .lreturn)) h
    · have c3 := c3
      have h := h.2 c3
      refine x_aload_n (by decide +kernel : am_at co_X12_name 19 = some (1, .aload_n 0)) rfl ?_
      refine x_getf (by decide +kernel : am_at co_X12_name 20 = some (3, .getfield 215)) pq_12_215 rfl ob_152 ?_
      refine x_aload_n (by decide +kernel : am_at co_X12_name 23 = some (1, .aload_n 0)) rfl ?_
      refine x_getf (by decide +kernel : am_at co_X12_name 24 = some (3, .getfield 229)) pq_12_229 rfl ob_152 ?_
      refine x_icmp (tgt := 37) (by decide +kernel : am_at co_X12_name 27 = some (3, .if_icmp .eq 10)) rfl Iff.rfl (fun c5 => ?_) (fun c5 => ?_)
      · have h := h.1 c5
        refine x_aload_n (by decide +kernel : am_at co_X12_name 37 = some (1, .aload_n 0)) rfl ?_
        refine x_iconst (by decide +kernel : am_at co_X12_name 38 = some (1, .iconst 1)) ?_
        refine x_aload_n (by decide +kernel : am_at co_X12_name 39 = some (1, .aload_n 0)) rfl ?_
        refine x_getf (by decide +kernel : am_at co_X12_name 40 = some (3, .getfield 215)) pq_12_215 rfl ob_152 ?_
        refine x_callV (n := 3) (by decide +kernel : am_at co_X12_name 43 = some (3, .invokevirtual 239)) pq_12_239 pm_X12_fail rfl rfl rfl ob_152 h (x_kv fun M7 h => ?_)
        refine x_lconst (by decide +kernel : am_at co_X12_name 46 = some (1, .lconst 0)) ?_
        exact x_lret (by decide +kernel : am_at co_X12_name 47 = some (1, .lreturn)) h
      · have c5 := c5
        have h := h.2 c5
        refine x_aload_n (by decide +kernel : am_at co_X12_name 30 = some (1, .aload_n 0)) rfl ?_
        refine x_callV (n := 1) (by decide +kernel : am_at co_X12_name 31 = some (3, .invokevirtual 253)) pq_12_253 pm_X12_isOwnHere rfl rfl rfl ob_152 h (x_k0 fun x8 M8 h => ?_)
        refine x_if (tgt := 48) (by decide +kernel : am_at co_X12_name 34 = some (3, .ifCond .eq 14)) rfl Iff.rfl (fun c8 => ?_) (fun c8 => ?_)
        · have h := h.1 c8
          refine x_aload_n (by decide +kernel : am_at co_X12_name 48 = some (1, .aload_n 0)) rfl ?_
          refine x_aload_n (by decide +kernel : am_at co_X12_name 49 = some (1, .aload_n 0)) rfl ?_
          refine x_getf (by decide +kernel : am_at co_X12_name 50 = some (3, .getfield 215)) pq_12_215 rfl ob_152 ?_
          refine x_putf0 (by decide +kernel : am_at co_X12_name 53 = some (3, .putfield 257)) pq_12_257 rfl ob_152 ?_
          refine x_lconst (by decide +kernel : am_at co_X12_name 56 = some (1, .lconst 0)) ?_
          refine x_lstore_n (L' := [(2, 152), (1, 0), (3, 0)]) (by decide +kernel : am_at co_X12_name 57 = some (1, .lstore_n 1)) rfl ?_
          exact am_weak (lk (lk (lk ln))) h
        · have c8 := c8
          have h := h.2 c8
          refine x_aload_n (by decide +kernel : am_at co_X12_name 37 = some (1, .aload_n 0)) rfl ?_
          refine x_iconst (by decide +kernel : am_at co_X12_name 38 = some (1, .iconst 1)) ?_
          refine x_aload_n (by decide +kernel : am_at co_X12_name 39 = some (1, .aload_n 0)) rfl ?_
          refine x_getf (by decide +kernel : am_at co_X12_name 40 = some (3, .getfield 215)) pq_12_215 rfl ob_152 ?_
          refine x_callV (n := 3) (by decide +kernel : am_at co_X12_name 43 = some (3, .invokevirtual 239)) pq_12_239 pm_X12_fail rfl rfl rfl ob_152 h (x_kv fun M10 h => ?_)
          refine x_lconst (by decide +kernel : am_at co_X12_name 46 = some (1, .lconst 0)) ?_
          exact x_lret (by decide +kernel : am_at co_X12_name 47 = some (1, .lreturn)) h
  · have c0 := c0
    have h := h.2 c0
    refine x_lconst (by decide +kernel : am_at co_X12_name 7 = some (1, .lconst 0)) ?_
    exact x_lret (by decide +kernel : am_at co_X12_name 8 = some (1, .lreturn)) h
set_option maxRecDepth 20000 in
theorem bk_X12_name_58 {d : Nat} {Q : am_Q} {M : am_M} {v1 : Int} (h : ((M 152 3 ≤ M 152 2 → Q (some (1, v1), sh_T, (am_up M 152 4 (M 152 2)))) ∧ (M 152 2 < M 152 3 → (0 ≤ M 152 2 ∧ M 152 2 < 1600) ∧ am_cal pg d 173 [(0, M 153 (M 152 2))] sh_T M (am_c0 sh_T fun x3 M3 => ((x3 = 0 → Q (some (1, v1), sh_T, (am_up M3 152 4 (M3 152 2)))) ∧ (¬ x3 = 0 → am_r ((M3 152 2) - (M3 152 29)) ∧ ((¬ (M3 152 2) - (M3 152 29) = 6 → am_rl (27 * v1) ∧ (0 ≤ M3 152 2 ∧ M3 152 2 < 1600) ∧ am_rl ((27 * v1) + (M3 153 (M3 152 2))) ∧ am_rl (((27 * v1) + (M3 153 (M3 152 2))) - 97) ∧ am_rl ((((27 * v1) + (M3 153 (M3 152 2))) - 97) + 1) ∧ am_r ((M3 152 2) + 1) ∧ am_g 12 1 co_X12_name d Q 58 [(2, 152), (1, (((27 * v1) + (M3 153 (M3 152 2))) - 97) + 1), (3, 0)] [] sh_T (am_up M3 152 2 ((M3 152 2) + 1))) ∧ ((M3 152 2) - (M3 152 29) = 6 → am_cal pg d 172 [(2, 152), (0, 1), (0, M3 152 2)] sh_T M3 (am_cv sh_T fun M13 => Q (some (1, 0), sh_T, M13)))))))))) : am_g 12 1 co_X12_name d Q 58 [(2, 152), (1, v1), (3, 0)] [] sh_T M := by
  refine x_aload_n (by decide +kernel : am_at co_X12_name 58 = some (1, .aload_n 0)) rfl ?_
  refine x_getf (by decide +kernel : am_at co_X12_name 59 = some (3, .getfield 215)) pq_12_215 rfl ob_152 ?_
  refine x_aload_n (by decide +kernel : am_at co_X12_name 62 = some (1, .aload_n 0)) rfl ?_
  refine x_getf (by decide +kernel : am_at co_X12_name 63 = some (3, .getfield 218)) pq_12_218 rfl ob_152 ?_
  refine x_icmp (tgt := 145) (by decide +kernel : am_at co_X12_name 66 = some (3, .if_icmp .ge 79)) rfl Iff.rfl (fun c0 => ?_) (fun c0 => ?_)
  · have h := h.1 c0
    refine x_aload_n (by decide +kernel : am_at co_X12_name 145 = some (1, .aload_n 0)) rfl ?_
    refine x_aload_n (by decide +kernel : am_at co_X12_name 146 = some (1, .aload_n 0)) rfl ?_
    refine x_getf (by decide +kernel : am_at co_X12_name 147 = some (3, .getfield 215)) pq_12_215 rfl ob_152 ?_
    refine x_putf0 (by decide +kernel : am_at co_X12_name 150 = some (3, .putfield 229)) pq_12_229 rfl ob_152 ?_
    refine x_lload_n (by decide +kernel : am_at co_X12_name 153 = some (1, .lload_n 1)) rfl ?_
    exact x_lret (by decide +kernel : am_at co_X12_name 154 = some (1, .lreturn)) h
  · have c0 := (Int.not_le.mp c0)
    have h := h.2 c0
    refine x_aload_n (by decide +kernel : am_at co_X12_name 69 = some (1, .aload_n 0)) rfl ?_
    refine x_getF (by decide +kernel : am_at co_X12_name 70 = some (3, .getfield 7)) pq_12_7 (by decide) rfl ob_152 ?_
    refine x_top2 (show 152 + 1 = 153 from rfl) ?_
    refine x_aload_n (by decide +kernel : am_at co_X12_name 73 = some (1, .aload_n 0)) rfl ?_
    refine x_getf (by decide +kernel : am_at co_X12_name 74 = some (3, .getfield 215)) pq_12_215 rfl ob_152 ?_
    obtain ⟨o1, h⟩ := h
    refine x_iald (by decide +kernel : am_at co_X12_name 77 = some (1, .iaload)) (ia_153 o1.1 o1.2) ?_
    refine x_callS (n := 1) (by decide +kernel : am_at co_X12_name 78 = some (3, .invokestatic 225)) pq_12_225 rfl rfl rfl h (x_k0 fun x3 M3 h => ?_)
    refine x_if (tgt := 145) (by decide +kernel : am_at co_X12_name 81 = some (3, .ifCond .eq 64)) rfl Iff.rfl (fun c3 => ?_) (fun c3 => ?_)
    · have h := h.1 c3
      refine x_aload_n (by decide +kernel : am_at co_X12_name 145 = some (1, .aload_n 0)) rfl ?_
      refine x_aload_n (by decide +kernel : am_at co_X12_name 146 = some (1, .aload_n 0)) rfl ?_
      refine x_getf (by decide +kernel : am_at co_X12_name 147 = some (3, .getfield 215)) pq_12_215 rfl ob_152 ?_
      refine x_putf0 (by decide +kernel : am_at co_X12_name 150 = some (3, .putfield 229)) pq_12_229 rfl ob_152 ?_
      refine x_lload_n (by decide +kernel : am_at co_X12_name 153 = some (1, .lload_n 1)) rfl ?_
      exact x_lret (by decide +kernel : am_at co_X12_name 154 = some (1, .lreturn)) h
    · have c3 := c3
      have h := h.2 c3
      refine x_aload_n (by decide +kernel : am_at co_X12_name 84 = some (1, .aload_n 0)) rfl ?_
      refine x_getf (by decide +kernel : am_at co_X12_name 85 = some (3, .getfield 215)) pq_12_215 rfl ob_152 ?_
      refine x_aload_n (by decide +kernel : am_at co_X12_name 88 = some (1, .aload_n 0)) rfl ?_
      refine x_getf (by decide +kernel : am_at co_X12_name 89 = some (3, .getfield 257)) pq_12_257 rfl ob_152 ?_
      obtain ⟨o4, h⟩ := h
      refine x_isub (by decide +kernel : am_at co_X12_name 92 = some (1, .isub)) o4 ?_
      refine x_bipush (by decide +kernel : am_at co_X12_name 93 = some (2, .bipush 6)) ?_
      refine x_icmp (tgt := 109) (by decide +kernel : am_at co_X12_name 95 = some (3, .if_icmp .ne 14)) rfl Iff.rfl (fun c5 => ?_) (fun c5 => ?_)
      · have h := h.1 c5
        refine x_ldc2 (by decide +kernel : am_at co_X12_name 109 = some (3, .ldc2_w 260)) pq_12_260 ?_
        refine x_lload_n (by decide +kernel : am_at co_X12_name 112 = some (1, .lload_n 1)) rfl ?_
        obtain ⟨o6, h⟩ := h
        refine x_lmul (by decide +kernel : am_at co_X12_name 113 = some (1, .lmul)) o6 ?_
        refine x_aload_n (by decide +kernel : am_at co_X12_name 114 = some (1, .aload_n 0)) rfl ?_
        refine x_getF (by decide +kernel : am_at co_X12_name 115 = some (3, .getfield 7)) pq_12_7 (by decide) rfl ob_152 ?_
        refine x_top2 (show 152 + 1 = 153 from rfl) ?_
        refine x_aload_n (by decide +kernel : am_at co_X12_name 118 = some (1, .aload_n 0)) rfl ?_
        refine x_getf (by decide +kernel : am_at co_X12_name 119 = some (3, .getfield 215)) pq_12_215 rfl ob_152 ?_
        obtain ⟨o7, h⟩ := h
        refine x_iald (by decide +kernel : am_at co_X12_name 122 = some (1, .iaload)) (ia_153 o7.1 o7.2) ?_
        refine x_i2l (by decide +kernel : am_at co_X12_name 123 = some (1, .i2l)) ?_
        obtain ⟨o8, h⟩ := h
        refine x_ladd (by decide +kernel : am_at co_X12_name 124 = some (1, .ladd)) o8 ?_
        refine x_ldc2 (by decide +kernel : am_at co_X12_name 125 = some (3, .ldc2_w 262)) pq_12_262 ?_
        obtain ⟨o9, h⟩ := h
        refine x_lsub (by decide +kernel : am_at co_X12_name 128 = some (1, .lsub)) o9 ?_
        refine x_lconst (by decide +kernel : am_at co_X12_name 129 = some (1, .lconst 1)) ?_
        obtain ⟨o10, h⟩ := h
        refine x_ladd (by decide +kernel : am_at co_X12_name 130 = some (1, .ladd)) o10 ?_
        refine x_lstore_n (L' := [(2, 152), (1, (((27 * v1) + (M3 153 (M3 152 2))) - 97) + 1), (3, 0)]) (by decide +kernel : am_at co_X12_name 131 = some (1, .lstore_n 1)) rfl ?_
        refine x_aload_n (by decide +kernel : am_at co_X12_name 132 = some (1, .aload_n 0)) rfl ?_
        refine x_dup2' (by decide +kernel : am_at co_X12_name 133 = some (1, .dup)) ?_
        refine x_getf (by decide +kernel : am_at co_X12_name 134 = some (3, .getfield 215)) pq_12_215 rfl ob_152 ?_
        refine x_iconst (by decide +kernel : am_at co_X12_name 137 = some (1, .iconst 1)) ?_
        obtain ⟨o11, h⟩ := h
        refine x_iadd (by decide +kernel : am_at co_X12_name 138 = some (1, .iadd)) o11 ?_
        refine x_putf0 (by decide +kernel : am_at co_X12_name 139 = some (3, .putfield 215)) pq_12_215 rfl ob_152 ?_
        refine x_goto (tgt := 58) (by decide +kernel : am_at co_X12_name 142 = some (3, .goto (-84))) rfl ?_
        exact am_weak (lk (lk (lk ln))) h
      · have c5 := (Classical.not_not.mp c5)
        have h := h.2 c5
        refine x_aload_n (by decide +kernel : am_at co_X12_name 98 = some (1, .aload_n 0)) rfl ?_
        refine x_iconst (by decide +kernel : am_at co_X12_name 99 = some (1, .iconst 1)) ?_
        refine x_aload_n (by decide +kernel : am_at co_X12_name 100 = some (1, .aload_n 0)) rfl ?_
        refine x_getf (by decide +kernel : am_at co_X12_name 101 = some (3, .getfield 215)) pq_12_215 rfl ob_152 ?_
        refine x_callV (n := 3) (by decide +kernel : am_at co_X12_name 104 = some (3, .invokevirtual 239)) pq_12_239 pm_X12_fail rfl rfl rfl ob_152 h (x_kv fun M13 h => ?_)
        refine x_lconst (by decide +kernel : am_at co_X12_name 107 = some (1, .lconst 0)) ?_
        exact x_lret (by decide +kernel : am_at co_X12_name 108 = some (1, .lreturn)) h
set_option maxRecDepth 20000 in
theorem bk_X12_isFull_0 {d : Nat} {Q : am_Q} {M : am_M} {v1 v2 v3 : Int} (h : ((¬ M 152 5 = 0 → Q (some (0, 1), sh_T, M)) ∧ (M 152 5 = 0 → (0 ≤ v1 ∧ v1 < 6) ∧ ((¬ M 174 v1 = v2 → Q (some (0, 0), sh_T, M)) ∧ (M 174 v1 = v2 → am_cal pg d 172 [(2, 152), (0, 5), (0, v3)] sh_T M (am_cv sh_T fun M6 => ((M6 152 5 = 0 → Q (some (0, 0), sh_T, M6)) ∧ (¬ M6 152 5 = 0 → Q (some (0, 1), sh_T, M6))))))))) : am_g 12 5 co_X12_isFull d Q 0 [(2, 152), (0, v1), (0, v2), (0, v3)] [] sh_T M := by
  refine x_aload_n (by decide +kernel : am_at co_X12_isFull 0 = some (1, .aload_n 0)) rfl ?_
  refine x_getf (by decide +kernel : am_at co_X12_isFull 1 = some (3, .getfield 209)) pq_12_209 rfl ob_152 ?_
  refine x_if (tgt := 23) (by decide +kernel : am_at co_X12_isFull 4 = some (3, .ifCond .ne 19)) rfl Iff.rfl (fun c0 => ?_) (fun c0 => ?_)
  · have h := h.1 c0
    refine x_aload_n (by decide +kernel : am_at co_X12_isFull 23 = some (1, .aload_n 0)) rfl ?_
    refine x_getf (by decide +kernel : am_at co_X12_isFull 24 = some (3, .getfield 209)) pq_12_209 rfl ob_152 ?_
    refine x_if (tgt := 34) (by decide +kernel : am_at co_X12_isFull 27 = some (3, .ifCond .eq 7)) rfl Iff.rfl (fun c1 => absurd c1 c0) (fun _ => ?_)
    refine x_iconst (by decide +kernel : am_at co_X12_isFull 30 = some (1, .iconst 1)) ?_
    refine x_goto (tgt := 35) (by decide +kernel : am_at co_X12_isFull 31 = some (3, .goto 4)) rfl ?_
    exact x_zret (by decide +kernel : am_at co_X12_isFull 35 = some (1, .ireturn)) (by decide) h
  · have c0 := (Classical.not_not.mp c0)
    have h := h.2 c0
    refine x_aload_n (by decide +kernel : am_at co_X12_isFull 7 = some (1, .aload_n 0)) rfl ?_
    refine x_getF (by decide +kernel : am_at co_X12_isFull 8 = some (3, .getfield 78)) pq_12_78 (by decide) rfl ob_152 ?_
    refine x_top2 (show 152 + 22 = 174 from rfl) ?_
    refine x_iload_n (by decide +kernel : am_at co_X12_isFull 11 = some (1, .iload_n 1)) rfl ?_
    obtain ⟨o2, h⟩ := h
    refine x_iald (by decide +kernel : am_at co_X12_isFull 12 = some (1, .iaload)) (ia_174 o2.1 o2.2) ?_
    refine x_iload_n (by decide +kernel : am_at co_X12_isFull 13 = some (1, .iload_n 2)) rfl ?_
    refine x_icmp (tgt := 23) (by decide +kernel : am_at co_X12_isFull 14 = some (3, .if_icmp .ne 9)) rfl Iff.rfl (fun c3 => ?_) (fun c3 => ?_)
    · have h := h.1 c3
      refine x_aload_n (by decide +kernel : am_at co_X12_isFull 23 = some (1, .aload_n 0)) rfl ?_
      refine x_getf (by decide +kernel : am_at co_X12_isFull 24 = some (3, .getfield 209)) pq_12_209 rfl ob_152 ?_
      refine x_if (tgt := 34) (by decide +kernel : am_at co_X12_isFull 27 = some (3, .ifCond .eq 7)) rfl Iff.rfl (fun _ => ?_) (fun c4 => absurd c0 c4)
      refine x_iconst (by decide +kernel : am_at co_X12_isFull 34 = some (1, .iconst 0)) ?_
      exact x_zret (by decide +kernel : am_at co_X12_isFull 35 = some (1, .ireturn)) (by decide) h
    · have c3 := (Classical.not_not.mp c3)
      have h := h.2 c3
      refine x_aload_n (by decide +kernel : am_at co_X12_isFull 17 = some (1, .aload_n 0)) rfl ?_
      refine x_iconst (by decide +kernel : am_at co_X12_isFull 18 = some (1, .iconst 5)) ?_
      refine x_iload_n (by decide +kernel : am_at co_X12_isFull 19 = some (1, .iload_n 3)) rfl ?_
      refine x_callV (n := 3) (by decide +kernel : am_at co_X12_isFull 20 = some (3, .invokevirtual 239)) pq_12_239 pm_X12_fail rfl rfl rfl ob_152 h (x_kv fun M6 h => ?_)
      refine x_aload_n (by decide +kernel : am_at co_X12_isFull 23 = some (1, .aload_n 0)) rfl ?_
      refine x_getf (by decide +kernel : am_at co_X12_isFull 24 = some (3, .getfield 209)) pq_12_209 rfl ob_152 ?_
      refine x_if (tgt := 34) (by decide +kernel : am_at co_X12_isFull 27 = some (3, .ifCond .eq 7)) rfl Iff.rfl (fun c6 => ?_) (fun c6 => ?_)
      · have h := h.1 c6
        refine x_iconst (by decide +kernel : am_at co_X12_isFull 34 = some (1, .iconst 0)) ?_
        exact x_zret (by decide +kernel : am_at co_X12_isFull 35 = some (1, .ireturn)) (by decide) h
      · have c6 := c6
        have h := h.2 c6
        refine x_iconst (by decide +kernel : am_at co_X12_isFull 30 = some (1, .iconst 1)) ?_
        refine x_goto (tgt := 35) (by decide +kernel : am_at co_X12_isFull 31 = some (3, .goto 4)) rfl ?_
        exact x_zret (by decide +kernel : am_at co_X12_isFull 35 = some (1, .ireturn)) (by decide) h
