/-! blocks (printed) -/
set_option maxRecDepth 20000 in
theorem bk_X10_metByDay_0 {d : Nat} {Q : am_Q} {M : am_M} {v1 : Int} (h : ((v1 < 0 → Q (some (0, (-1)), sh_T, M)) ∧ (0 ≤ v1 → ((4 ≤ v1 → Q (some (0, (-1)), sh_T, M)) ∧ (v1 < 4 → (0 ≤ v1 ∧ v1 < 4) ∧ Q (some (0, M 126 v1), sh_T, M)))))) : am_g 10 0 co_X10_metByDay d Q 0 [(2, 95), (0, v1)] [] sh_T M := by
  refine x_iload_n (by decide +kernel : am_at co_X10_metByDay 0 = some (1, .iload_n 1)) rfl ?_
  refine x_if (tgt := 22) (by decide +kernel : am_at co_X10_metByDay 1 = some (3, .ifCond .lt 21)) rfl Iff.rfl (fun c0 => ?_) (fun c0 => ?_)
  · have h := h.1 c0
    refine x_iconst (by decide +kernel : am_at co_X10_metByDay 22 = some (1, .iconst (-1))) ?_
    exact x_iret (by decide +kernel : am_at co_X10_metByDay 23 = some (1, .ireturn)) h
  · have c0 := (Int.not_lt.mp c0)
    have h := h.2 c0
    refine x_iload_n (by decide +kernel : am_at co_X10_metByDay 4 = some (1, .iload_n 1)) rfl ?_
    refine x_aload_n (by decide +kernel : am_at co_X10_metByDay 5 = some (1, .aload_n 0)) rfl ?_
    refine x_getF (by decide +kernel : am_at co_X10_metByDay 6 = some (3, .getfield 53)) pq_10_53 (by decide) rfl ob_95 ?_
    refine x_top2 (show 95 + 31 = 126 from rfl) ?_
    refine x_alen (by decide +kernel : am_at co_X10_metByDay 9 = some (1, .arraylength)) (n := 4) rfl ?_
    refine x_top0 (show ((4 : Nat) : Int) = 4 from rfl) ?_
    refine x_icmp (tgt := 22) (by decide +kernel : am_at co_X10_metByDay 10 = some (3, .if_icmp .ge 12)) rfl Iff.rfl (fun c1 => ?_) (fun c1 => ?_)
    · have h := h.1 c1
      refine x_iconst (by decide +kernel : am_at co_X10_metByDay 22 = some (1, .iconst (-1))) ?_
      exact x_iret (by decide +kernel : am_at co_X10_metByDay 23 = some (1, .ireturn)) h
    · have c1 := (Int.not_le.mp c1)
      have h := h.2 c1
      refine x_aload_n (by decide +kernel : am_at co_X10_metByDay 13 = some (1, .aload_n 0)) rfl ?_
      refine x_getF (by decide +kernel : am_at co_X10_metByDay 14 = some (3, .getfield 53)) pq_10_53 (by decide) rfl ob_95 ?_
      refine x_top2 (show 95 + 31 = 126 from rfl) ?_
      refine x_iload_n (by decide +kernel : am_at co_X10_metByDay 17 = some (1, .iload_n 1)) rfl ?_
      obtain ⟨o2, h⟩ := h
      refine x_iald (by decide +kernel : am_at co_X10_metByDay 18 = some (1, .iaload)) (ia_126 o2.1 o2.2) ?_
      refine x_goto (tgt := 23) (by decide +kernel : am_at co_X10_metByDay 19 = some (3, .goto 4)) rfl ?_
      exact x_iret (by decide +kernel : am_at co_X10_metByDay 23 = some (1, .ireturn)) h
set_option maxRecDepth 20000 in
theorem bk_X10_setOrder_0 {d : Nat} {Q : am_Q} {M : am_M} {v1 v2 : Int} (h : am_cal pg d 314 [(0, v1)] sh_T M (am_c0 sh_T fun x1 M1 => am_g 10 0 co_X10_setOrder d Q 11 [(2, 95), (0, v1), (0, v2), (0, x1), (0, 1), (0, 2), (3, 0), (3, 0)] [] sh_T M1)) : am_g 10 0 co_X10_setOrder d Q 0 [(2, 95), (0, v1), (0, v2), (3, 0), (3, 0), (3, 0), (3, 0), (3, 0)] [] sh_T M := by
  refine x_iload_n (by decide +kernel : am_at co_X10_setOrder 0 = some (1, .iload_n 1)) rfl ?_
  refine x_callS (n := 1) (by decide +kernel : am_at co_X10_setOrder 1 = some (3, .invokestatic 120)) pq_10_120 rfl rfl rfl h (x_k0 fun x1 M1 h => ?_)
  refine x_istore_n (L' := [(2, 95), (0, v1), (0, v2), (0, x1), (3, 0), (3, 0), (3, 0), (3, 0)]) (by decide +kernel : am_at co_X10_setOrder 4 = some (1, .istore_n 3)) rfl ?_
  refine x_iconst (by decide +kernel : am_at co_X10_setOrder 5 = some (1, .iconst 1)) ?_
  refine x_istore (L' := [(2, 95), (0, v1), (0, v2), (0, x1), (0, 1), (3, 0), (3, 0), (3, 0)]) (by decide +kernel : am_at co_X10_setOrder 6 = some (2, .istore 4)) rfl ?_
  refine x_iconst (by decide +kernel : am_at co_X10_setOrder 8 = some (1, .iconst 2)) ?_
  refine x_istore (L' := [(2, 95), (0, v1), (0, v2), (0, x1), (0, 1), (0, 2), (3, 0), (3, 0)]) (by decide +kernel : am_at co_X10_setOrder 9 = some (2, .istore 5)) rfl ?_
  exact am_weak (lk (lk (lk (lk (lk (lk (lk (lk ln)))))))) h
set_option maxRecDepth 20000 in
theorem bk_X10_setOrder_11 {d : Nat} {Q : am_Q} {M : am_M} {v1 v2 v3 v4 v5 : Int} (h : ((v3 < v5 → am_g 10 0 co_X10_setOrder d Q 36 [(2, 95), (0, v1), (0, v2), (0, v3), (0, v4), (3, 0), (3, 0), (3, 0)] [] sh_T M) ∧ (v5 ≤ v3 → ((4 < v5 → am_g 10 0 co_X10_setOrder d Q 36 [(2, 95), (0, v1), (0, v2), (0, v3), (0, v4), (3, 0), (3, 0), (3, 0)] [] sh_T M) ∧ (v5 ≤ 4 → am_r (v4 * v5) ∧ am_r (v5 + 1) ∧ am_g 10 0 co_X10_setOrder d Q 11 [(2, 95), (0, v1), (0, v2), (0, v3), (0, v4 * v5), (0, v5 + 1), (3, 0), (3, 0)] [] sh_T M))))) : am_g 10 0 co_X10_setOrder d Q 11 [(2, 95), (0, v1), (0, v2), (0, v3), (0, v4), (0, v5), (3, 0), (3, 0)] [] sh_T M := by
  refine x_iload (by decide +kernel : am_at co_X10_setOrder 11 = some (2, .iload 5)) rfl ?_
  refine x_iload_n (by decide +kernel : am_at co_X10_setOrder 13 = some (1, .iload_n 3)) rfl ?_
  refine x_icmp (tgt := 36) (by decide +kernel : am_at co_X10_setOrder 14 = some (3, .if_icmp .gt 22)) rfl Iff.rfl (fun c0 => ?_) (fun c0 => ?_)
  · have h := h.1 c0
    exact am_weak (lk (lk (lk (lk (lk (ld (lk (lk ln)))))))) h
  · have c0 := (Int.not_lt.mp c0)
    have h := h.2 c0
    refine x_iload (by decide +kernel : am_at co_X10_setOrder 17 = some (2, .iload 5)) rfl ?_
    refine x_iconst (by decide +kernel : am_at co_X10_setOrder 19 = some (1, .iconst 4)) ?_
    refine x_icmp (tgt := 36) (by decide +kernel : am_at co_X10_setOrder 20 = some (3, .if_icmp .gt 16)) rfl Iff.rfl (fun c1 => ?_) (fun c1 => ?_)
    · have h := h.1 c1
      exact am_weak (lk (lk (lk (lk (lk (ld (lk (lk ln)))))))) h
    · have c1 := (Int.not_lt.mp c1)
      have h := h.2 c1
      refine x_iload (by decide +kernel : am_at co_X10_setOrder 23 = some (2, .iload 4)) rfl ?_
      refine x_iload (by decide +kernel : am_at co_X10_setOrder 25 = some (2, .iload 5)) rfl ?_
      obtain ⟨o2, h⟩ := h
      refine x_imul (by decide +kernel : am_at co_X10_setOrder 27 = some (1, .imul)) o2 ?_
      refine x_istore (L' := [(2, 95), (0, v1), (0, v2), (0, v3), (0, v4 * v5), (0, v5), (3, 0), (3, 0)]) (by decide +kernel : am_at co_X10_setOrder 28 = some (2, .istore 4)) rfl ?_
      obtain ⟨o3, h⟩ := h
      refine x_iinc (L' := [(2, 95), (0, v1), (0, v2), (0, v3), (0, v4 * v5), (0, v5 + 1), (3, 0), (3, 0)]) (by decide +kernel : am_at co_X10_setOrder 30 = some (3, .iinc 5 1)) rfl o3 rfl ?_
      refine x_goto (tgt := 11) (by decide +kernel : am_at co_X10_setOrder 33 = some (3, .goto (-22))) rfl ?_
      exact am_weak (lk (lk (lk (lk (lk (lk (lk (lk ln)))))))) h
set_option maxRecDepth 20000 in
theorem bk_X10_setOrder_36 {d : Nat} {Q : am_Q} {M : am_M} {v1 v2 v3 v4 : Int} (h : ((v4 ≤ v2 → am_g 10 0 co_X10_setOrder d Q 47 [(3, 0), (3, 0), (3, 0), (3, 0), (3, 0), (3, 0), (3, 0), (3, 0)] [] sh_T M) ∧ (v2 < v4 → ((v3 ≤ 4 → am_g 10 0 co_X10_setOrder d Q 58 [(2, 95), (3, 0), (3, 0), (0, v3), (0, v4), (0, v1), (0, v2), (0, 0)] [] sh_T M) ∧ (4 < v3 → am_g 10 0 co_X10_setOrder d Q 47 [(3, 0), (3, 0), (3, 0), (3, 0), (3, 0), (3, 0), (3, 0), (3, 0)] [] sh_T M))))) : am_g 10 0 co_X10_setOrder d Q 36 [(2, 95), (0, v1), (0, v2), (0, v3), (0, v4), (3, 0), (3, 0), (3, 0)] [] sh_T M := by
  refine x_iload_n (by decide +kernel : am_at co_X10_setOrder 36 = some (1, .iload_n 2)) rfl ?_
  refine x_iload (by decide +kernel : am_at co_X10_setOrder 37 = some (2, .iload 4)) rfl ?_
  refine x_icmp (tgt := 47) (by decide +kernel : am_at co_X10_setOrder 39 = some (3, .if_icmp .ge 8)) rfl Iff.rfl (fun c0 => ?_) (fun c0 => ?_)
  · have h := h.1 c0
    exact am_weak (ld (ld (ld (ld (ld (lk (lk (lk ln)))))))) h
  · have c0 := (Int.not_le.mp c0)
    have h := h.2 c0
    refine x_iload_n (by decide +kernel : am_at co_X10_setOrder 42 = some (1, .iload_n 3)) rfl ?_
    refine x_iconst (by decide +kernel : am_at co_X10_setOrder 43 = some (1, .iconst 4)) ?_
    refine x_icmp (tgt := 49) (by decide +kernel : am_at co_X10_setOrder 44 = some (3, .if_icmp .le 5)) rfl Iff.rfl (fun c1 => ?_) (fun c1 => ?_)
    · have h := h.1 c1
      refine x_iload_n (by decide +kernel : am_at co_X10_setOrder 49 = some (1, .iload_n 1)) rfl ?_
      refine x_istore (L' := [(2, 95), (0, v1), (0, v2), (0, v3), (0, v4), (0, v1), (3, 0), (3, 0)]) (by decide +kernel : am_at co_X10_setOrder 50 = some (2, .istore 5)) rfl ?_
      refine x_iload_n (by decide +kernel : am_at co_X10_setOrder 52 = some (1, .iload_n 2)) rfl ?_
      refine x_istore (L' := [(2, 95), (0, v1), (0, v2), (0, v3), (0, v4), (0, v1), (0, v2), (3, 0)]) (by decide +kernel : am_at co_X10_setOrder 53 = some (2, .istore 6)) rfl ?_
      refine x_iconst (by decide +kernel : am_at co_X10_setOrder 55 = some (1, .iconst 0)) ?_
      refine x_istore (L' := [(2, 95), (0, v1), (0, v2), (0, v3), (0, v4), (0, v1), (0, v2), (0, 0)]) (by decide +kernel : am_at co_X10_setOrder 56 = some (2, .istore 7)) rfl ?_
      exact am_weak (lk (ld (ld (lk (lk (lk (lk (lk ln)))))))) h
    · have c1 := (Int.not_le.mp c1)
      have h := h.2 c1
      exact am_weak (ld (ld (ld (ld (ld (lk (lk (lk ln)))))))) h
set_option maxRecDepth 20000 in
theorem bk_X10_setOrder_47 {d : Nat} {Q : am_Q} {M : am_M} (h : Q (some (0, (-1)), sh_T, M)) : am_g 10 0 co_X10_setOrder d Q 47 [(3, 0), (3, 0), (3, 0), (3, 0), (3, 0), (3, 0), (3, 0), (3, 0)] [] sh_T M := by
  refine x_iconst (by decide +kernel : am_at co_X10_setOrder 47 = some (1, .iconst (-1))) ?_
  exact x_iret (by decide +kernel : am_at co_X10_setOrder 48 = some (1, .ireturn)) h
set_option maxRecDepth 20000 in
theorem bk_X10_setOrder_58 {d : Nat} {Q : am_Q} {M : am_M} {v3 v4 v5 v6 v7 : Int} (h : ((v3 ≤ v7 → am_g 10 0 co_X10_setOrder d Q 147 [(3, 0), (3, 0), (3, 0), (0, v3), (3, 0), (3, 0), (3, 0), (3, 0)] [] sh_T M) ∧ (v7 < v3 → ((4 ≤ v7 → am_g 10 0 co_X10_setOrder d Q 147 [(3, 0), (3, 0), (3, 0), (0, v3), (3, 0), (3, 0), (3, 0), (3, 0)] [] sh_T M) ∧ (v7 < 4 → am_r (v3 - v7) ∧ ¬ v3 - v7 = 0 ∧ am_r (v4.tdiv (v3 - v7)) ∧ ((v4.tdiv (v3 - v7) ≤ 0 → am_cal pg d 123 [(0, v5), (0, 0)] sh_T M (am_c0 sh_T fun x7 M7 => (0 ≤ v7 ∧ v7 < 4) ∧ am_r (v7 + 1) ∧ am_g 10 0 co_X10_setOrder d Q 58 [(2, 95), (3, 0), (3, 0), (0, v3), (0, v4.tdiv (v3 - v7)), (0, am_band v5 (am_bxor (am_shl 1 x7) (-1))), (0, 0), (0, v7 + 1)] [] sh_T (am_up M7 125 v7 x7))) ∧ (0 < v4.tdiv (v3 - v7) → ¬ v4.tdiv (v3 - v7) = 0 ∧ am_r (v6.tdiv (v4.tdiv (v3 - v7))) ∧ am_cal pg d 123 [(0, v5), (0, v6.tdiv (v4.tdiv (v3 - v7)))] sh_T M (am_c0 sh_T fun x13 M13 => (0 ≤ v7 ∧ v7 < 4) ∧ ¬ v4.tdiv (v3 - v7) = 0 ∧ am_r (v7 + 1) ∧ am_g 10 0 co_X10_setOrder d Q 58 [(2, 95), (3, 0), (3, 0), (0, v3), (0, v4.tdiv (v3 - v7)), (0, am_band v5 (am_bxor (am_shl 1 x13) (-1))), (0, v6.tmod (v4.tdiv (v3 - v7))), (0, v7 + 1)] [] sh_T (am_up M13 125 v7 x13))))))))) : am_g 10 0 co_X10_setOrder d Q 58 [(2, 95), (3, 0), (3, 0), (0, v3), (0, v4), (0, v5), (0, v6), (0, v7)] [] sh_T M := by
  refine x_iload (by decide +kernel : am_at co_X10_setOrder 58 = some (2, .iload 7)) rfl ?_
  refine x_iload_n (by decide +kernel : am_at co_X10_setOrder 60 = some (1, .iload_n 3)) rfl ?_
  refine x_icmp (tgt := 147) (by decide +kernel : am_at co_X10_setOrder 61 = some (3, .if_icmp .ge 86)) rfl Iff.rfl (fun c0 => ?_) (fun c0 => ?_)
  · have h := h.1 c0
    exact am_weak (ld (lk (lk (lk (ld (ld (ld (ld ln)))))))) h
  · have c0 := (Int.not_le.mp c0)
    have h := h.2 c0
    refine x_iload (by decide +kernel : am_at co_X10_setOrder 64 = some (2, .iload 7)) rfl ?_
    refine x_aload_n (by decide +kernel : am_at co_X10_setOrder 66 = some (1, .aload_n 0)) rfl ?_
    refine x_getF (by decide +kernel : am_at co_X10_setOrder 67 = some (3, .getfield 50)) pq_10_50 (by decide) rfl ob_95 ?_
    refine x_top2 (show 95 + 30 = 125 from rfl) ?_
    refine x_alen (by decide +kernel : am_at co_X10_setOrder 70 = some (1, .arraylength)) (n := 4) rfl ?_
    refine x_top0 (show ((4 : Nat) : Int) = 4 from rfl) ?_
    refine x_icmp (tgt := 147) (by decide +kernel : am_at co_X10_setOrder 71 = some (3, .if_icmp .ge 76)) rfl Iff.rfl (fun c1 => ?_) (fun c1 => ?_)
    · have h := h.1 c1
      exact am_weak (ld (lk (lk (lk (ld (ld (ld (ld ln)))))))) h
    · have c1 := (Int.not_le.mp c1)
      have h := h.2 c1
      refine x_iload (by decide +kernel : am_at co_X10_setOrder 74 = some (2, .iload 4)) rfl ?_
      refine x_iload_n (by decide +kernel : am_at co_X10_setOrder 76 = some (1, .iload_n 3)) rfl ?_
      refine x_iload (by decide +kernel : am_at co_X10_setOrder 77 = some (2, .iload 7)) rfl ?_
      obtain ⟨o2, h⟩ := h
      refine x_isub (by decide +kernel : am_at co_X10_setOrder 79 = some (1, .isub)) o2 ?_
      obtain ⟨o3, h⟩ := h
      obtain ⟨o4, h⟩ := h
      refine x_idiv (by decide +kernel : am_at co_X10_setOrder 80 = some (1, .idiv)) o3 o4 ?_
      refine x_istore (L' := [(2, 95), (3, 0), (3, 0), (0, v3), (0, v4.tdiv (v3 - v7)), (0, v5), (0, v6), (0, v7)]) (by decide +kernel : am_at co_X10_setOrder 81 = some (2, .istore 4)) rfl ?_
      refine x_aload_n (by decide +kernel : am_at co_X10_setOrder 83 = some (1, .aload_n 0)) rfl ?_
      refine x_getF (by decide +kernel : am_at co_X10_setOrder 84 = some (3, .getfield 50)) pq_10_50 (by decide) rfl ob_95 ?_
      refine x_top2 (show 95 + 30 = 125 from rfl) ?_
      refine x_iload (by decide +kernel : am_at co_X10_setOrder 87 = some (2, .iload 7)) rfl ?_
      refine x_iload (by decide +kernel : am_at co_X10_setOrder 89 = some (2, .iload 5)) rfl ?_
      refine x_iload (by decide +kernel : am_at co_X10_setOrder 91 = some (2, .iload 4)) rfl ?_
      refine x_if (tgt := 104) (by decide +kernel : am_at co_X10_setOrder 93 = some (3, .ifCond .le 11)) rfl Iff.rfl (fun c5 => ?_) (fun c5 => ?_)
      · have h := h.1 c5
        refine x_iconst (by decide +kernel : am_at co_X10_setOrder 104 = some (1, .iconst 0)) ?_
        refine x_callS (n := 2) (by decide +kernel : am_at co_X10_setOrder 105 = some (3, .invokestatic 125)) pq_10_125 rfl rfl rfl h (x_k0 fun x7 M7 h => ?_)
        obtain ⟨o7, h⟩ := h
        refine x_iast (by decide +kernel : am_at co_X10_setOrder 108 = some (1, .iastore)) (ow_125 o7.1 o7.2) ?_
        refine x_iload (by decide +kernel : am_at co_X10_setOrder 109 = some (2, .iload 4)) rfl ?_
        refine x_if (tgt := 122) (by decide +kernel : am_at co_X10_setOrder 111 = some (3, .ifCond .le 11)) rfl Iff.rfl (fun _ => ?_) (fun c8 => absurd c5 c8)
        refine x_iconst (by decide +kernel : am_at co_X10_setOrder 122 = some (1, .iconst 0)) ?_
        refine x_istore (L' := [(2, 95), (3, 0), (3, 0), (0, v3), (0, v4.tdiv (v3 - v7)), (0, v5), (0, 0), (0, v7)]) (by decide +kernel : am_at co_X10_setOrder 123 = some (2, .istore 6)) rfl ?_
        refine x_iload (by decide +kernel : am_at co_X10_setOrder 125 = some (2, .iload 5)) rfl ?_
        refine x_iconst (by decide +kernel : am_at co_X10_setOrder 127 = some (1, .iconst 1)) ?_
        refine x_aload_n (by decide +kernel : am_at co_X10_setOrder 128 = some (1, .aload_n 0)) rfl ?_
        refine x_getF (by decide +kernel : am_at co_X10_setOrder 129 = some (3, .getfield 50)) pq_10_50 (by decide) rfl ob_95 ?_
        refine x_top2 (show 95 + 30 = 125 from rfl) ?_
        refine x_iload (by decide +kernel : am_at co_X10_setOrder 132 = some (2, .iload 7)) rfl ?_
        refine x_iald (by decide +kernel : am_at co_X10_setOrder 134 = some (1, .iaload)) (ia_125 o7.1 o7.2) ?_
        refine x_top0 (show (am_up M7 125 v7 x7) 125 v7 = x7 from by first | rfl | simp [am_up]) ?_
        refine x_ishl (by decide +kernel : am_at co_X10_setOrder 135 = some (1, .ishl)) ?_
        refine x_iconst (by decide +kernel : am_at co_X10_setOrder 136 = some (1, .iconst (-1))) ?_
        refine x_ixor (by decide +kernel : am_at co_X10_setOrder 137 = some (1, .ixor)) ?_
        refine x_iand (by decide +kernel : am_at co_X10_setOrder 138 = some (1, .iand)) ?_
        refine x_istore (L' := [(2, 95), (3, 0), (3, 0), (0, v3), (0, v4.tdiv (v3 - v7)), (0, am_band v5 (am_bxor (am_shl 1 x7) (-1))), (0, 0), (0, v7)]) (by decide +kernel : am_at co_X10_setOrder 139 = some (2, .istore 5)) rfl ?_
        obtain ⟨o9, h⟩ := h
        refine x_iinc (L' := [(2, 95), (3, 0), (3, 0), (0, v3), (0, v4.tdiv (v3 - v7)), (0, am_band v5 (am_bxor (am_shl 1 x7) (-1))), (0, 0), (0, v7 + 1)]) (by decide +kernel : am_at co_X10_setOrder 141 = some (3, .iinc 7 1)) rfl o9 rfl ?_
        refine x_goto (tgt := 58) (by decide +kernel : am_at co_X10_setOrder 144 = some (3, .goto (-86))) rfl ?_
        exact am_weak (lk (lk (lk (lk (lk (lk (lk (lk ln)))))))) h
      · have c5 := (Int.not_le.mp c5)
        have h := h.2 c5
        refine x_iload (by decide +kernel : am_at co_X10_setOrder 96 = some (2, .iload 6)) rfl ?_
        refine x_iload (by decide +kernel : am_at co_X10_setOrder 98 = some (2, .iload 4)) rfl ?_
        obtain ⟨o10, h⟩ := h
        obtain ⟨o11, h⟩ := h
        refine x_idiv (by decide +kernel : am_at co_X10_setOrder 100 = some (1, .idiv)) o10 o11 ?_
        refine x_goto (tgt := 105) (by decide +kernel : am_at co_X10_setOrder 101 = some (3, .goto 4)) rfl ?_
        refine x_callS (n := 2) (by decide +kernel : am_at co_X10_setOrder 105 = some (3, .invokestatic 125)) pq_10_125 rfl rfl rfl h (x_k0 fun x13 M13 h => ?_)
        obtain ⟨o13, h⟩ := h
        refine x_iast (by decide +kernel : am_at co_X10_setOrder 108 = some (1, .iastore)) (ow_125 o13.1 o13.2) ?_
        refine x_iload (by decide +kernel : am_at co_X10_setOrder 109 = some (2, .iload 4)) rfl ?_
        refine x_if (tgt := 122) (by decide +kernel : am_at co_X10_setOrder 111 = some (3, .ifCond .le 11)) rfl Iff.rfl (fun c14 => absurd c14 (Int.not_le.mpr c5)) (fun _ => ?_)
        refine x_iload (by decide +kernel : am_at co_X10_setOrder 114 = some (2, .iload 6)) rfl ?_
        refine x_iload (by decide +kernel : am_at co_X10_setOrder 116 = some (2, .iload 4)) rfl ?_
        obtain ⟨o15, h⟩ := h
        refine x_irem (by decide +kernel : am_at co_X10_setOrder 118 = some (1, .irem)) o15 ?_
        refine x_goto (tgt := 123) (by decide +kernel : am_at co_X10_setOrder 119 = some (3, .goto 4)) rfl ?_
        refine x_istore (L' := [(2, 95), (3, 0), (3, 0), (0, v3), (0, v4.tdiv (v3 - v7)), (0, v5), (0, v6.tmod (v4.tdiv (v3 - v7))), (0, v7)]) (by decide +kernel : am_at co_X10_setOrder 123 = some (2, .istore 6)) rfl ?_
        refine x_iload (by decide +kernel : am_at co_X10_setOrder 125 = some (2, .iload 5)) rfl ?_
        refine x_iconst (by decide +kernel : am_at co_X10_setOrder 127 = some (1, .iconst 1)) ?_
        refine x_aload_n (by decide +kernel : am_at co_X10_setOrder 128 = some (1, .aload_n 0)) rfl ?_
        refine x_getF (by decide +kernel : am_at co_X10_setOrder 129 = some (3, .getfield 50)) pq_10_50 (by decide) rfl ob_95 ?_
        refine x_top2 (show 95 + 30 = 125 from rfl) ?_
        refine x_iload (by decide +kernel : am_at co_X10_setOrder 132 = some (2, .iload 7)) rfl ?_
        refine x_iald (by decide +kernel : am_at co_X10_setOrder 134 = some (1, .iaload)) (ia_125 o13.1 o13.2) ?_
        refine x_top0 (show (am_up M13 125 v7 x13) 125 v7 = x13 from by first | rfl | simp [am_up]) ?_
        refine x_ishl (by decide +kernel : am_at co_X10_setOrder 135 = some (1, .ishl)) ?_
        refine x_iconst (by decide +kernel : am_at co_X10_setOrder 136 = some (1, .iconst (-1))) ?_
        refine x_ixor (by decide +kernel : am_at co_X10_setOrder 137 = some (1, .ixor)) ?_
        refine x_iand (by decide +kernel : am_at co_X10_setOrder 138 = some (1, .iand)) ?_
        refine x_istore (L' := [(2, 95), (3, 0), (3, 0), (0, v3), (0, v4.tdiv (v3 - v7)), (0, am_band v5 (am_bxor (am_shl 1 x13) (-1))), (0, v6.tmod (v4.tdiv (v3 - v7))), (0, v7)]) (by decide +kernel : am_at co_X10_setOrder 139 = some (2, .istore 5)) rfl ?_
        obtain ⟨o16, h⟩ := h
        refine x_iinc (L' := [(2, 95), (3, 0), (3, 0), (0, v3), (0, v4.tdiv (v3 - v7)), (0, am_band v5 (am_bxor (am_shl 1 x13) (-1))), (0, v6.tmod (v4.tdiv (v3 - v7))), (0, v7 + 1)]) (by decide +kernel : am_at co_X10_setOrder 141 = some (3, .iinc 7 1)) rfl o16 rfl ?_
        refine x_goto (tgt := 58) (by decide +kernel : am_at co_X10_setOrder 144 = some (3, .goto (-86))) rfl ?_
        exact am_weak (lk (lk (lk (lk (lk (lk (lk (lk ln)))))))) h
set_option maxRecDepth 20000 in
theorem bk_X10_setOrder_147 {d : Nat} {Q : am_Q} {M : am_M} {v3 : Int} (h : Q (some (0, v3), sh_T, M)) : am_g 10 0 co_X10_setOrder d Q 147 [(3, 0), (3, 0), (3, 0), (0, v3), (3, 0), (3, 0), (3, 0), (3, 0)] [] sh_T M := by
  refine x_iload_n (by decide +kernel : am_at co_X10_setOrder 147 = some (1, .iload_n 3)) rfl ?_
  exact x_iret (by decide +kernel : am_at co_X10_setOrder 148 = some (1, .ireturn)) h
set_option maxRecDepth 20000 in
theorem bk_X10_lowestBit_0 {d : Nat} {Q : am_Q} {M : am_M} {v0 v1 : Int} (h : am_g 10 0 co_X10_lowestBit d Q 4 [(0, v0), (0, v1), (0, 0), (0, 0)] [] sh_T M) : am_g 10 0 co_X10_lowestBit d Q 0 [(0, v0), (0, v1), (3, 0), (3, 0)] [] sh_T M := by
  refine x_iconst (by decide +kernel : am_at co_X10_lowestBit 0 = some (1, .iconst 0)) ?_
  refine x_istore_n (L' := [(0, v0), (0, v1), (0, 0), (3, 0)]) (by decide +kernel : am_at co_X10_lowestBit 1 = some (1, .istore_n 2)) rfl ?_
  refine x_iconst (by decide +kernel : am_at co_X10_lowestBit 2 = some (1, .iconst 0)) ?_
  refine x_istore_n (L' := [(0, v0), (0, v1), (0, 0), (0, 0)]) (by decide +kernel : am_at co_X10_lowestBit 3 = some (1, .istore_n 3)) rfl ?_
  exact am_weak (lk (lk (lk (lk ln)))) h
set_option maxRecDepth 20000 in
theorem bk_X10_lowestBit_4 {d : Nat} {Q : am_Q} {M : am_M} {v0 v1 v2 v3 : Int} (h : ((6 ≤ v3 → Q (some (0, 0), sh_T, M)) ∧ (v3 < 6 → ((¬ am_band (am_shr v0 v3) 1 = 1 → am_r (v3 + 1) ∧ am_g 10 0 co_X10_lowestBit d Q 4 [(0, v0), (0, v1), (0, v2), (0, v3 + 1)] [] sh_T M) ∧ (am_band (am_shr v0 v3) 1 = 1 → ((¬ v2 = v1 → am_r (v2 + 1) ∧ am_r (v3 + 1) ∧ am_g 10 0 co_X10_lowestBit d Q 4 [(0, v0), (0, v1), (0, v2 + 1), (0, v3 + 1)] [] sh_T M) ∧ (v2 = v1 → Q (some (0, v3), sh_T, M)))))))) : am_g 10 0 co_X10_lowestBit d Q 4 [(0, v0), (0, v1), (0, v2), (0, v3)] [] sh_T M := by
  refine x_iload_n (by decide +kernel : am_at co_X10_lowestBit 4 = some (1, .iload_n 3)) rfl ?_
  refine x_bipush (by decide +kernel : am_at co_X10_lowestBit 5 = some (2, .bipush 6)) ?_
  refine x_icmp (tgt := 35) (by decide +kernel : am_at co_X10_lowestBit 7 = some (3, .if_icmp .ge 28)) rfl Iff.rfl (fun c0 => ?_) (fun c0 => ?_)
  · have h := h.1 c0
    refine x_iconst (by decide +kernel : am_at co_X10_lowestBit 35 = some (1, .iconst 0)) ?_
    exact x_iret (by decide +kernel : am_at co_X10_lowestBit 36 = some (1, .ireturn)) h
  · have c0 := (Int.not_le.mp c0)
    have h := h.2 c0
    refine x_iload_n (by decide +kernel : am_at co_X10_lowestBit 10 = some (1, .iload_n 0)) rfl ?_
    refine x_iload_n (by decide +kernel : am_at co_X10_lowestBit 11 = some (1, .iload_n 3)) rfl ?_
    refine x_ishr (by decide +kernel : am_at co_X10_lowestBit 12 = some (1, .ishr)) ?_
    refine x_iconst (by decide +kernel : am_at co_X10_lowestBit 13 = some (1, .iconst 1)) ?_
    refine x_iand (by decide +kernel : am_at co_X10_lowestBit 14 = some (1, .iand)) ?_
    refine x_iconst (by decide +kernel : am_at co_X10_lowestBit 15 = some (1, .iconst 1)) ?_
    refine x_icmp (tgt := 29) (by decide +kernel : am_at co_X10_lowestBit 16 = some (3, .if_icmp .ne 13)) rfl Iff.rfl (fun c1 => ?_) (fun c1 => ?_)
    · have h := h.1 c1
      obtain ⟨o2, h⟩ := h
      refine x_iinc (L' := [(0, v0), (0, v1), (0, v2), (0, v3 + 1)]) (by decide +kernel : am_at co_X10_lowestBit 29 = some (3, .iinc 3 1)) rfl o2 rfl ?_
      refine x_goto (tgt := 4) (by decide +kernel : am_at co_X10_lowestBit 32 = some (3, .goto (-28))) rfl ?_
      exact am_weak (lk (lk (lk (lk ln)))) h
    · have c1 := (Classical.not_not.mp c1)
      have h := h.2 c1
      refine x_iload_n (by decide +kernel : am_at co_X10_lowestBit 19 = some (1, .iload_n 2)) rfl ?_
      refine x_iload_n (by decide +kernel : am_at co_X10_lowestBit 20 = some (1, .iload_n 1)) rfl ?_
      refine x_icmp (tgt := 26) (by decide +kernel : am_at co_X10_lowestBit 21 = some (3, .if_icmp .ne 5)) rfl Iff.rfl (fun c3 => ?_) (fun c3 => ?_)
      · have h := h.1 c3
        obtain ⟨o4, h⟩ := h
        refine x_iinc (L' := [(0, v0), (0, v1), (0, v2 + 1), (0, v3)]) (by decide +kernel : am_at co_X10_lowestBit 26 = some (3, .iinc 2 1)) rfl o4 rfl ?_
        obtain ⟨o5, h⟩ := h
        refine x_iinc (L' := [(0, v0), (0, v1), (0, v2 + 1), (0, v3 + 1)]) (by decide +kernel : am_at co_X10_lowestBit 29 = some (3, .iinc 3 1)) rfl o5 rfl ?_
        refine x_goto (tgt := 4) (by decide +kernel : am_at co_X10_lowestBit 32 = some (3, .goto (-28))) rfl ?_
        exact am_weak (lk (lk (lk (lk ln)))) h
      · have c3 := (Classical.not_not.mp c3)
        have h := h.2 c3
        refine x_iload_n (by decide +kernel : am_at co_X10_lowestBit 24 = some (1, .iload_n 3)) rfl ?_
        exact x_iret (by decide +kernel : am_at co_X10_lowestBit 25 = some (1, .ireturn)) h
set_option maxRecDepth 20000 in
theorem bk_X10_isEndKnown_0 {d : Nat} {Q : am_Q} {M : am_M} {v1 : Int} (h : am_g 10 5 co_X10_isEndKnown d Q 2 [(2, 95), (2, v1), (0, 0)] [] sh_T M) : am_g 10 5 co_X10_isEndKnown d Q 0 [(2, 95), (2, v1), (3, 0)] [] sh_T M := by
  refine x_iconst (by decide +kernel : am_at co_X10_isEndKnown 0 = some (1, .iconst 0)) ?_
  refine x_istore_n (L' := [(2, 95), (2, v1), (0, 0)]) (by decide +kernel : am_at co_X10_isEndKnown 1 = some (1, .istore_n 2)) rfl ?_
  exact am_weak (lk (lk (lk ln))) h
set_option maxRecDepth 20000 in
theorem bk_X10_isEndKnown_2 {d : Nat} {Q : am_Q} {M : am_M} {v1 v2 : Int} (h : ((M 95 12 ≤ v2 → am_r ((M 95 12) * 6) ∧ am_ob sh_T 7 v1 ∧ am_cal pg d 79 [(2, v1), (2, 127), (0, (M 95 12) * 6)] sh_T M (am_cv sh_T fun M4 => am_r ((M4 95 12) + 1) ∧ am_cal pg d 318 [(0, (M4 95 12) + 1), (0, 24)] sh_T M4 (am_c0 sh_T fun x6 M6 => Q (some (0, 0), sh_T, (am_up M6 95 12 x6))))) ∧ (v2 < M 95 12 → am_r (v2 * 6) ∧ am_ob sh_T 7 v1 ∧ am_cal pg d 78 [(2, v1), (2, 127), (0, v2 * 6)] sh_T M (am_c0 sh_T fun x9 M9 => ((x9 = 0 → am_r (v2 + 1) ∧ am_g 10 5 co_X10_isEndKnown d Q 2 [(2, 95), (2, v1), (0, v2 + 1)] [] sh_T M9) ∧ (¬ x9 = 0 → Q (some (0, 1), sh_T, M9))))))) : am_g 10 5 co_X10_isEndKnown d Q 2 [(2, 95), (2, v1), (0, v2)] [] sh_T M := by
  refine x_iload_n (by decide +kernel : am_at co_X10_isEndKnown 2 = some (1, .iload_n 2)) rfl ?_
  refine x_aload_n (by decide +kernel : am_at co_X10_isEndKnown 3 = some (1, .aload_n 0)) rfl ?_
  refine x_getf (by decide +kernel : am_at co_X10_isEndKnown 4 = some (3, .getfield 59)) pq_10_59 rfl ob_95 ?_
  refine x_icmp (tgt := 33) (by decide +kernel : am_at co_X10_isEndKnown 7 = some (3, .if_icmp .ge 26)) rfl Iff.rfl (fun c0 => ?_) (fun c0 => ?_)
  · have h := h.1 c0
    refine x_aload_n (by decide +kernel : am_at co_X10_isEndKnown 33 = some (1, .aload_n 1)) rfl ?_
    refine x_aload_n (by decide +kernel : am_at co_X10_isEndKnown 34 = some (1, .aload_n 0)) rfl ?_
    refine x_getF (by decide +kernel : am_at co_X10_isEndKnown 35 = some (3, .getfield 56)) pq_10_56 (by decide) rfl ob_95 ?_
    refine x_top2 (show 95 + 32 = 127 from rfl) ?_
    refine x_aload_n (by decide +kernel : am_at co_X10_isEndKnown 38 = some (1, .aload_n 0)) rfl ?_
    refine x_getf (by decide +kernel : am_at co_X10_isEndKnown 39 = some (3, .getfield 59)) pq_10_59 rfl ob_95 ?_
    refine x_bipush (by decide +kernel : am_at co_X10_isEndKnown 42 = some (2, .bipush 6)) ?_
    obtain ⟨o1, h⟩ := h
    refine x_imul (by decide +kernel : am_at co_X10_isEndKnown 44 = some (1, .imul)) o1 ?_
    obtain ⟨o2, h⟩ := h
    refine x_callV (n := 3) (by decide +kernel : am_at co_X10_isEndKnown 45 = some (3, .invokevirtual 132)) pq_10_132 pm_X7_writeTo rfl rfl rfl o2 h (x_kv fun M4 h => ?_)
    refine x_aload_n (by decide +kernel : am_at co_X10_isEndKnown 48 = some (1, .aload_n 0)) rfl ?_
    refine x_aload_n (by decide +kernel : am_at co_X10_isEndKnown 49 = some (1, .aload_n 0)) rfl ?_
    refine x_getf (by decide +kernel : am_at co_X10_isEndKnown 50 = some (3, .getfield 59)) pq_10_59 rfl ob_95 ?_
    refine x_iconst (by decide +kernel : am_at co_X10_isEndKnown 53 = some (1, .iconst 1)) ?_
    obtain ⟨o4, h⟩ := h
    refine x_iadd (by decide +kernel : am_at co_X10_isEndKnown 54 = some (1, .iadd)) o4 ?_
    refine x_bipush (by decide +kernel : am_at co_X10_isEndKnown 55 = some (2, .bipush 24)) ?_
    refine x_callS (n := 2) (by decide +kernel : am_at co_X10_isEndKnown 57 = some (3, .invokestatic 136)) pq_10_136 rfl rfl rfl h (x_k0 fun x6 M6 h => ?_)
    refine x_putf0 (by decide +kernel : am_at co_X10_isEndKnown 60 = some (3, .putfield 59)) pq_10_59 rfl ob_95 ?_
    refine x_iconst (by decide +kernel : am_at co_X10_isEndKnown 63 = some (1, .iconst 0)) ?_
    exact x_zret (by decide +kernel : am_at co_X10_isEndKnown 64 = some (1, .ireturn)) (by decide) h
  · have c0 := (Int.not_le.mp c0)
    have h := h.2 c0
    refine x_aload_n (by decide +kernel : am_at co_X10_isEndKnown 10 = some (1, .aload_n 1)) rfl ?_
    refine x_aload_n (by decide +kernel : am_at co_X10_isEndKnown 11 = some (1, .aload_n 0)) rfl ?_
    refine x_getF (by decide +kernel : am_at co_X10_isEndKnown 12 = some (3, .getfield 56)) pq_10_56 (by decide) rfl ob_95 ?_
    refine x_top2 (show 95 + 32 = 127 from rfl) ?_
    refine x_iload_n (by decide +kernel : am_at co_X10_isEndKnown 15 = some (1, .iload_n 2)) rfl ?_
    refine x_bipush (by decide +kernel : am_at co_X10_isEndKnown 16 = some (2, .bipush 6)) ?_
    obtain ⟨o6, h⟩ := h
    refine x_imul (by decide +kernel : am_at co_X10_isEndKnown 18 = some (1, .imul)) o6 ?_
    obtain ⟨o7, h⟩ := h
    refine x_callV (n := 3) (by decide +kernel : am_at co_X10_isEndKnown 19 = some (3, .invokevirtual 128)) pq_10_128 pm_X7_isLike rfl rfl rfl o7 h (x_k0 fun x9 M9 h => ?_)
    refine x_if (tgt := 27) (by decide +kernel : am_at co_X10_isEndKnown 22 = some (3, .ifCond .eq 5)) rfl Iff.rfl (fun c9 => ?_) (fun c9 => ?_)
    · have h := h.1 c9
      obtain ⟨o10, h⟩ := h
      refine x_iinc (L' := [(2, 95), (2, v1), (0, v2 + 1)]) (by decide +kernel : am_at co_X10_isEndKnown 27 = some (3, .iinc 2 1)) rfl o10 rfl ?_
      refine x_goto (tgt := 2) (by decide +kernel : am_at co_X10_isEndKnown 30 = some (3, .goto (-28))) rfl ?_
      exact am_weak (lk (lk (lk ln))) h
    · have c9 := c9
      have h := h.2 c9
      refine x_iconst (by decide +kernel : am_at co_X10_isEndKnown 25 = some (1, .iconst 1)) ?_
      exact x_zret (by decide +kernel : am_at co_X10_isEndKnown 26 = some (1, .ireturn)) (by decide) h
set_option maxRecDepth 20000 in
theorem bk_X11_feed_0 {d : Nat} {Q : am_Q} {M : am_M} {v1 v2 v3 v4 v5 : Int} (h : am_r ((M 1 1) + 20) ∧ (((M 1 1) + 20 ≤ 1600 → am_cal pg d 90 [(2, 1), (0, v1)] sh_T M (am_cv sh_T fun M3 => am_cal pg d 90 [(2, 1), (0, v2)] sh_T M3 (am_cv sh_T fun M4 => am_cal pg d 90 [(2, 1), (0, v3)] sh_T M4 (am_cv sh_T fun M5 => am_cal pg d 90 [(2, 1), (0, v4)] sh_T M5 (am_cv sh_T fun M6 => am_cal pg d 90 [(2, 1), (0, v5)] sh_T M6 (am_cv sh_T fun M7 => Q (some (0, M7 1 1), sh_T, M7))))))) ∧ (1600 < (M 1 1) + 20 → am_cal pg d 160 [(2, 0), (0, 0)] sh_T M (am_c0 sh_T fun x8 M8 => Q (some (0, x8), sh_T, M8))))) : am_g 11 0 co_X11_feed d Q 0 [(2, 0), (0, v1), (0, v2), (0, v3), (0, v4), (0, v5)] [] sh_T M := by
  refine x_aload_n (by decide +kernel : am_at co_X11_feed 0 = some (1, .aload_n 0)) rfl ?_
  refine x_getF (by decide +kernel : am_at co_X11_feed 1 = some (3, .getfield 10)) pq_11_10 (by decide) rfl ob_0 ?_
  refine x_top2 (show 0 + 1 = 1 from rfl) ?_
  refine x_getf (by decide +kernel : am_at co_X11_feed 4 = some (3, .getfield 110)) pq_11_110 rfl ob_1 ?_
  refine x_bipush (by decide +kernel : am_at co_X11_feed 7 = some (2, .bipush 20)) ?_
  obtain ⟨o0, h⟩ := h
  refine x_iadd (by decide +kernel : am_at co_X11_feed 9 = some (1, .iadd)) o0 ?_
  refine x_sipush (by decide +kernel : am_at co_X11_feed 10 = some (3, .sipush 1600)) ?_
  refine x_icmp (tgt := 22) (by decide +kernel : am_at co_X11_feed 13 = some (3, .if_icmp .le 9)) rfl Iff.rfl (fun c1 => ?_) (fun c1 => ?_)
  · have h := h.1 c1
    refine x_aload_n (by decide +kernel : am_at co_X11_feed 22 = some (1, .aload_n 0)) rfl ?_
    refine x_getF (by decide +kernel : am_at co_X11_feed 23 = some (3, .getfield 10)) pq_11_10 (by decide) rfl ob_0 ?_
    refine x_top2 (show 0 + 1 = 1 from rfl) ?_
    refine x_iload_n (by decide +kernel : am_at co_X11_feed 26 = some (1, .iload_n 1)) rfl ?_
    refine x_callV (n := 2) (by decide +kernel : am_at co_X11_feed 27 = some (3, .invokevirtual 117)) pq_11_117 pm_X9_add rfl rfl rfl ob_1 h (x_kv fun M3 h => ?_)
    refine x_aload_n (by decide +kernel : am_at co_X11_feed 30 = some (1, .aload_n 0)) rfl ?_
    refine x_getF (by decide +kernel : am_at co_X11_feed 31 = some (3, .getfield 10)) pq_11_10 (by decide) rfl ob_0 ?_
    refine x_top2 (show 0 + 1 = 1 from rfl) ?_
    refine x_iload_n (by decide +kernel : am_at co_X11_feed 34 = some (1, .iload_n 2)) rfl ?_
    refine x_callV (n := 2) (by decide +kernel : am_at co_X11_feed 35 = some (3, .invokevirtual 117)) pq_11_117 pm_X9_add rfl rfl rfl ob_1 h (x_kv fun M4 h => ?_)
    refine x_aload_n (by decide +kernel : am_at co_X11_feed 38 = some (1, .aload_n 0)) rfl ?_
    refine x_getF (by decide +kernel : am_at co_X11_feed 39 = some (3, .getfield 10)) pq_11_10 (by decide) rfl ob_0 ?_
    refine x_top2 (show 0 + 1 = 1 from rfl) ?_
    refine x_iload_n (by decide +kernel : am_at co_X11_feed 42 = some (1, .iload_n 3)) rfl ?_
    refine x_callV (n := 2) (by decide +kernel : am_at co_X11_feed 43 = some (3, .invokevirtual 117)) pq_11_117 pm_X9_add rfl rfl rfl ob_1 h (x_kv fun M5 h => ?_)
    refine x_aload_n (by decide +kernel : am_at co_X11_feed 46 = some (1, .aload_n 0)) rfl ?_
    refine x_getF (by decide +kernel : am_at co_X11_feed 47 = some (3, .getfield 10)) pq_11_10 (by decide) rfl ob_0 ?_
    refine x_top2 (show 0 + 1 = 1 from rfl) ?_
    refine x_iload (by decide +kernel : am_at co_X11_feed 50 = some (2, .iload 4)) rfl ?_
    refine x_callV (n := 2) (by decide +kernel : am_at co_X11_feed 52 = some (3, .invokevirtual 117)) pq_11_117 pm_X9_add rfl rfl rfl ob_1 h (x_kv fun M6 h => ?_)
    refine x_aload_n (by decide +kernel : am_at co_X11_feed 55 = some (1, .aload_n 0)) rfl ?_
    refine x_getF (by decide +kernel : am_at co_X11_feed 56 = some (3, .getfield 10)) pq_11_10 (by decide) rfl ob_0 ?_
    refine x_top2 (show 0 + 1 = 1 from rfl) ?_
    refine x_iload (by decide +kernel : am_at co_X11_feed 59 = some (2, .iload 5)) rfl ?_
    refine x_callV (n := 2) (by decide +kernel : am_at co_X11_feed 61 = some (3, .invokevirtual 117)) pq_11_117 pm_X9_add rfl rfl rfl ob_1 h (x_kv fun M7 h => ?_)
    refine x_aload_n (by decide +kernel : am_at co_X11_feed 64 = some (1, .aload_n 0)) rfl ?_
    refine x_getF (by decide +kernel : am_at co_X11_feed 65 = some (3, .getfield 10)) pq_11_10 (by decide) rfl ob_0 ?_
    refine x_top2 (show 0 + 1 = 1 from rfl) ?_
    refine x_getf (by decide +kernel : am_at co_X11_feed 68 = some (3, .getfield 110)) pq_11_110 rfl ob_1 ?_
    exact x_iret (by decide +kernel : am_at co_X11_feed 71 = some (1, .ireturn)) h
  · have c1 := (Int.not_le.mp c1)
    have h := h.2 c1
    refine x_aload_n (by decide +kernel : am_at co_X11_feed 16 = some (1, .aload_n 0)) rfl ?_
    refine x_iconst (by decide +kernel : am_at co_X11_feed 17 = some (1, .iconst 0)) ?_
    refine x_callV (n := 2) (by decide +kernel : am_at co_X11_feed 18 = some (3, .invokevirtual 113)) pq_11_113 pm_X11_refuse rfl rfl rfl ob_0 h (x_k0 fun x8 M8 h => ?_)
    exact x_iret (by decide +kernel : am_at co_X11_feed 21 = some (1, .ireturn)) h
set_option maxRecDepth 20000 in
theorem bk_X11_end_0 {d : Nat} {Q : am_Q} {M : am_M} {v1 : Int} (h : ((v1 < 0 → am_cal pg d 160 [(2, 0), (0, 0)] sh_T M (am_c0 sh_T fun x2 M2 => Q (some (0, 0), sh_T, M2))) ∧ (0 ≤ v1 → ((v1 ≤ M 1 1 → Q (some (0, 1), sh_T, (am_up M 1 1 v1))) ∧ (M 1 1 < v1 → am_cal pg d 160 [(2, 0), (0, 0)] sh_T M (am_c0 sh_T fun x4 M4 => Q (some (0, 0), sh_T, M4))))))) : am_g 11 5 co_X11_end d Q 0 [(2, 0), (0, v1)] [] sh_T M := by
  refine x_iload_n (by decide +kernel : am_at co_X11_end 0 = some (1, .iload_n 1)) rfl ?_
  refine x_if (tgt := 15) (by decide +kernel : am_at co_X11_end 1 = some (3, .ifCond .lt 14)) rfl Iff.rfl (fun c0 => ?_) (fun c0 => ?_)
  · have h := h.1 c0
    refine x_aload_n (by decide +kernel : am_at co_X11_end 15 = some (1, .aload_n 0)) rfl ?_
    refine x_iconst (by decide +kernel : am_at co_X11_end 16 = some (1, .iconst 0)) ?_
    refine x_callV (n := 2) (by decide +kernel : am_at co_X11_end 17 = some (3, .invokevirtual 113)) pq_11_113 pm_X11_refuse rfl rfl rfl ob_0 h (x_k0 fun x2 M2 h => ?_)
    refine x_pop0 (by decide +kernel : am_at co_X11_end 20 = some (1, .pop)) ?_
    refine x_iconst (by decide +kernel : am_at co_X11_end 21 = some (1, .iconst 0)) ?_
    exact x_zret (by decide +kernel : am_at co_X11_end 22 = some (1, .ireturn)) (by decide) h
  · have c0 := (Int.not_lt.mp c0)
    have h := h.2 c0
    refine x_iload_n (by decide +kernel : am_at co_X11_end 4 = some (1, .iload_n 1)) rfl ?_
    refine x_aload_n (by decide +kernel : am_at co_X11_end 5 = some (1, .aload_n 0)) rfl ?_
    refine x_getF (by decide +kernel : am_at co_X11_end 6 = some (3, .getfield 10)) pq_11_10 (by decide) rfl ob_0 ?_
    refine x_top2 (show 0 + 1 = 1 from rfl) ?_
    refine x_getf (by decide +kernel : am_at co_X11_end 9 = some (3, .getfield 110)) pq_11_110 rfl ob_1 ?_
    refine x_icmp (tgt := 23) (by decide +kernel : am_at co_X11_end 12 = some (3, .if_icmp .le 11)) rfl Iff.rfl (fun c2 => ?_) (fun c2 => ?_)
    · have h := h.1 c2
      refine x_aload_n (by decide +kernel : am_at co_X11_end 23 = some (1, .aload_n 0)) rfl ?_
      refine x_getF (by decide +kernel : am_at co_X11_end 24 = some (3, .getfield 10)) pq_11_10 (by decide) rfl ob_0 ?_
      refine x_top2 (show 0 + 1 = 1 from rfl) ?_
      refine x_iload_n (by decide +kernel : am_at co_X11_end 27 = some (1, .iload_n 1)) rfl ?_
      refine x_putf0 (by decide +kernel : am_at co_X11_end 28 = some (3, .putfield 110)) pq_11_110 rfl ob_1 ?_
      refine x_iconst (by decide +kernel : am_at co_X11_end 31 = some (1, .iconst 1)) ?_
      exact x_zret (by decide +kernel : am_at co_X11_end 32 = some (1, .ireturn)) (by decide) h
    · have c2 := (Int.not_le.mp c2)
      have h := h.2 c2
      refine x_aload_n (by decide +kernel : am_at co_X11_end 15 = some (1, .aload_n 0)) rfl ?_
      refine x_iconst (by decide +kernel : am_at co_X11_end 16 = some (1, .iconst 0)) ?_
      refine x_callV (n := 2) (by decide +kernel : am_at co_X11_end 17 = some (3, .invokevirtual 113)) pq_11_113 pm_X11_refuse rfl rfl rfl ob_0 h (x_k0 fun x4 M4 h => ?_)
      refine x_pop0 (by decide +kernel : am_at co_X11_end 20 = some (1, .pop)) ?_
      refine x_iconst (by decide +kernel : am_at co_X11_end 21 = some (1, .iconst 0)) ?_
      exact x_zret (by decide +kernel : am_at co_X11_end 22 = some (1, .ireturn)) (by decide) h
set_option maxRecDepth 20000 in
theorem bk_X11_dream_0 {d : Nat} {Q : am_Q} {M : am_M} (h : am_cal pg d 37 [(2, 4), (2, M 0 5)] sh_T M (am_c0 sh_T fun x1 M1 => am_cal pg d 91 [(2, 1)] sh_T M1 (am_cv sh_T fun M2 => ((¬ x1 = (-1) → am_g 11 0 co_X11_dream d Q 50 [(2, 0), (0, x1), (3, 0), (0, 0)] [] sh_T (am_up (am_up M2 0 4 (M2 0 5)) 0 5 (M2 0 4))) ∧ (x1 = (-1) → am_cal pg d 160 [(2, 0), (0, 1)] sh_T M2 (am_c0 sh_T fun x4 M4 => Q (some (0, x4), sh_T, M4))))))) : am_g 11 0 co_X11_dream d Q 0 [(2, 0), (3, 0), (3, 0), (3, 0)] [] sh_T M := by
  refine x_aload_n (by decide +kernel : am_at co_X11_dream 0 = some (1, .aload_n 0)) rfl ?_
  refine x_getF (by decide +kernel : am_at co_X11_dream 1 = some (3, .getfield 30)) pq_11_30 (by decide) rfl ob_0 ?_
  refine x_top2 (show 0 + 4 = 4 from rfl) ?_
  refine x_aload_n (by decide +kernel : am_at co_X11_dream 4 = some (1, .aload_n 0)) rfl ?_
  refine x_getf (by decide +kernel : am_at co_X11_dream 5 = some (3, .getfield 48)) pq_11_48 rfl ob_0 ?_
  refine x_callV (n := 2) (by decide +kernel : am_at co_X11_dream 8 = some (3, .invokevirtual 121)) pq_11_121 pm_X3_read rfl rfl rfl ob_4 h (x_k0 fun x1 M1 h => ?_)
  refine x_istore_n (L' := [(2, 0), (0, x1), (3, 0), (3, 0)]) (by decide +kernel : am_at co_X11_dream 11 = some (1, .istore_n 1)) rfl ?_
  refine x_aload_n (by decide +kernel : am_at co_X11_dream 12 = some (1, .aload_n 0)) rfl ?_
  refine x_getF (by decide +kernel : am_at co_X11_dream 13 = some (3, .getfield 10)) pq_11_10 (by decide) rfl ob_0 ?_
  refine x_top2 (show 0 + 1 = 1 from rfl) ?_
  refine x_callV (n := 1) (by decide +kernel : am_at co_X11_dream 16 = some (3, .invokevirtual 125)) pq_11_125 pm_X9_wipe rfl rfl rfl ob_1 h (x_kv fun M2 h => ?_)
  refine x_iload_n (by decide +kernel : am_at co_X11_dream 19 = some (1, .iload_n 1)) rfl ?_
  refine x_iconst (by decide +kernel : am_at co_X11_dream 20 = some (1, .iconst (-1))) ?_
  refine x_icmp (tgt := 30) (by decide +kernel : am_at co_X11_dream 21 = some (3, .if_icmp .ne 9)) rfl Iff.rfl (fun c2 => ?_) (fun c2 => ?_)
  · have h := h.1 c2
    refine x_aload_n (by decide +kernel : am_at co_X11_dream 30 = some (1, .aload_n 0)) rfl ?_
    refine x_getf (by decide +kernel : am_at co_X11_dream 31 = some (3, .getfield 44)) pq_11_44 rfl ob_0 ?_
    refine x_astore_n (L' := [(2, 0), (0, x1), (2, M2 0 4), (3, 0)]) (by decide +kernel : am_at co_X11_dream 34 = some (1, .astore_n 2)) rfl ?_
    refine x_aload_n (by decide +kernel : am_at co_X11_dream 35 = some (1, .aload_n 0)) rfl ?_
    refine x_aload_n (by decide +kernel : am_at co_X11_dream 36 = some (1, .aload_n 0)) rfl ?_
    refine x_getf (by decide +kernel : am_at co_X11_dream 37 = some (3, .getfield 48)) pq_11_48 rfl ob_0 ?_
    refine x_putf2 (by decide +kernel : am_at co_X11_dream 40 = some (3, .putfield 44)) pq_11_44 rfl ob_0 ?_
    refine x_aload_n (by decide +kernel : am_at co_X11_dream 43 = some (1, .aload_n 0)) rfl ?_
    refine x_aload_n (by decide +kernel : am_at co_X11_dream 44 = some (1, .aload_n 2)) rfl ?_
    refine x_putf2 (by decide +kernel : am_at co_X11_dream 45 = some (3, .putfield 48)) pq_11_48 rfl ob_0 ?_
    refine x_iconst (by decide +kernel : am_at co_X11_dream 48 = some (1, .iconst 0)) ?_
    refine x_istore_n (L' := [(2, 0), (0, x1), (2, M2 0 4), (0, 0)]) (by decide +kernel : am_at co_X11_dream 49 = some (1, .istore_n 3)) rfl ?_
    exact am_weak (lk (lk (ld (lk ln)))) h
  · have c2 := (Classical.not_not.mp c2)
    have h := h.2 c2
    refine x_aload_n (by decide +kernel : am_at co_X11_dream 24 = some (1, .aload_n 0)) rfl ?_
    refine x_iconst (by decide +kernel : am_at co_X11_dream 25 = some (1, .iconst 1)) ?_
    refine x_callV (n := 2) (by decide +kernel : am_at co_X11_dream 26 = some (3, .invokevirtual 113)) pq_11_113 pm_X11_refuse rfl rfl rfl ob_0 h (x_k0 fun x4 M4 h => ?_)
    exact x_iret (by decide +kernel : am_at co_X11_dream 29 = some (1, .ireturn)) h
set_option maxRecDepth 20000 in
theorem bk_X11_dream_50 {d : Nat} {Q : am_Q} {M : am_M} {v1 v3 : Int} (h : ((4 ≤ v3 → am_cal pg d 1 [(2, 46)] sh_T M (am_cv sh_T fun M2 => Q (some (0, v1), sh_T, (am_up M2 0 13 (-1))))) ∧ (v3 < 4 → (0 ≤ v3 ∧ v3 < 4) ∧ am_ob sh_T 2 (M 0 4) ∧ am_cal pg d 28 [(2, M 0 4), (2, 37 + 1 + 2 * v3), (0, v3)] sh_T M (am_cv sh_T fun M5 => am_r (v3 + 1) ∧ am_g 11 0 co_X11_dream d Q 50 [(2, 0), (0, v1), (3, 0), (0, v3 + 1)] [] sh_T M5)))) : am_g 11 0 co_X11_dream d Q 50 [(2, 0), (0, v1), (3, 0), (0, v3)] [] sh_T M := by
  refine x_iload_n (by decide +kernel : am_at co_X11_dream 50 = some (1, .iload_n 3)) rfl ?_
  refine x_aload_n (by decide +kernel : am_at co_X11_dream 51 = some (1, .aload_n 0)) rfl ?_
  refine x_getF (by decide +kernel : am_at co_X11_dream 52 = some (3, .getfield 55)) pq_11_55 (by decide) rfl ob_0 ?_
  refine x_top2 (show 0 + 37 = 37 from rfl) ?_
  refine x_alen (by decide +kernel : am_at co_X11_dream 55 = some (1, .arraylength)) (n := 4) rfl ?_
  refine x_top0 (show ((4 : Nat) : Int) = 4 from rfl) ?_
  refine x_icmp (tgt := 79) (by decide +kernel : am_at co_X11_dream 56 = some (3, .if_icmp .ge 23)) rfl Iff.rfl (fun c0 => ?_) (fun c0 => ?_)
  · have h := h.1 c0
    refine x_aload_n (by decide +kernel : am_at co_X11_dream 79 = some (1, .aload_n 0)) rfl ?_
    refine x_getF (by decide +kernel : am_at co_X11_dream 80 = some (3, .getfield 62)) pq_11_62 (by decide) rfl ob_0 ?_
    refine x_top2 (show 0 + 46 = 46 from rfl) ?_
    refine x_callV (n := 1) (by decide +kernel : am_at co_X11_dream 83 = some (3, .invokevirtual 132)) pq_11_132 pm_X0_forget rfl rfl rfl ob_46 h (x_kv fun M2 h => ?_)
    refine x_aload_n (by decide +kernel : am_at co_X11_dream 86 = some (1, .aload_n 0)) rfl ?_
    refine x_iconst (by decide +kernel : am_at co_X11_dream 87 = some (1, .iconst (-1))) ?_
    refine x_putf0 (by decide +kernel : am_at co_X11_dream 88 = some (3, .putfield 95)) pq_11_95 rfl ob_0 ?_
    refine x_iload_n (by decide +kernel : am_at co_X11_dream 91 = some (1, .iload_n 1)) rfl ?_
    exact x_iret (by decide +kernel : am_at co_X11_dream 92 = some (1, .ireturn)) h
  · have c0 := (Int.not_le.mp c0)
    have h := h.2 c0
    refine x_aload_n (by decide +kernel : am_at co_X11_dream 59 = some (1, .aload_n 0)) rfl ?_
    refine x_getf (by decide +kernel : am_at co_X11_dream 60 = some (3, .getfield 44)) pq_11_44 rfl ob_0 ?_
    refine x_aload_n (by decide +kernel : am_at co_X11_dream 63 = some (1, .aload_n 0)) rfl ?_
    refine x_getF (by decide +kernel : am_at co_X11_dream 64 = some (3, .getfield 55)) pq_11_55 (by decide) rfl ob_0 ?_
    refine x_top2 (show 0 + 37 = 37 from rfl) ?_
    refine x_iload_n (by decide +kernel : am_at co_X11_dream 67 = some (1, .iload_n 3)) rfl ?_
    obtain ⟨o2, h⟩ := h
    refine x_aald (by decide +kernel : am_at co_X11_dream 68 = some (1, .aaload)) (ia_37 o2.1 o2.2) ?_
    refine x_iload_n (by decide +kernel : am_at co_X11_dream 69 = some (1, .iload_n 3)) rfl ?_
    obtain ⟨o3, h⟩ := h
    refine x_callV (n := 3) (by decide +kernel : am_at co_X11_dream 70 = some (3, .invokevirtual 128)) pq_11_128 pm_X2_lay rfl rfl rfl o3 h (x_kv fun M5 h => ?_)
    obtain ⟨o5, h⟩ := h
    refine x_iinc (L' := [(2, 0), (0, v1), (3, 0), (0, v3 + 1)]) (by decide +kernel : am_at co_X11_dream 73 = some (3, .iinc 3 1)) rfl o5 rfl ?_
    refine x_goto (tgt := 50) (by decide +kernel : am_at co_X11_dream 76 = some (3, .goto (-26))) rfl ?_
    exact am_weak (lk (lk (lk (lk ln)))) h
set_option maxRecDepth 20000 in
theorem bk_X11_fault_0 {d : Nat} {Q : am_Q} {M : am_M} {v1 : Int} (h : ((¬ v1 = 0 → ((¬ v1 = 1 → Q (some (0, (-1)), sh_T, M)) ∧ (v1 = 1 → Q (some (0, M 1 4), sh_T, M)))) ∧ (v1 = 0 → Q (some (0, M 1 3), sh_T, M)))) : am_g 11 0 co_X11_fault d Q 0 [(2, 0), (0, v1)] [] sh_T M := by
  refine x_iload_n (by decide +kernel : am_at co_X11_fault 0 = some (1, .iload_n 1)) rfl ?_
  refine x_if (tgt := 12) (by decide +kernel : am_at co_X11_fault 1 = some (3, .ifCond .ne 11)) rfl Iff.rfl (fun c0 => ?_) (fun c0 => ?_)
  · have h := h.1 c0
    refine x_iload_n (by decide +kernel : am_at co_X11_fault 12 = some (1, .iload_n 1)) rfl ?_
    refine x_iconst (by decide +kernel : am_at co_X11_fault 13 = some (1, .iconst 1)) ?_
    refine x_icmp (tgt := 27) (by decide +kernel : am_at co_X11_fault 14 = some (3, .if_icmp .ne 13)) rfl Iff.rfl (fun c1 => ?_) (fun c1 => ?_)
    · have h := h.1 c1
      refine x_iconst (by decide +kernel : am_at co_X11_fault 27 = some (1, .iconst (-1))) ?_
      exact x_iret (by decide +kernel : am_at co_X11_fault 28 = some (1, .ireturn)) h
    · have c1 := (Classical.not_not.mp c1)
      have h := h.2 c1
      refine x_aload_n (by decide +kernel : am_at co_X11_fault 17 = some (1, .aload_n 0)) rfl ?_
      refine x_getF (by decide +kernel : am_at co_X11_fault 18 = some (3, .getfield 10)) pq_11_10 (by decide) rfl ob_0 ?_
      refine x_top2 (show 0 + 1 = 1 from rfl) ?_
      refine x_getf (by decide +kernel : am_at co_X11_fault 21 = some (3, .getfield 138)) pq_11_138 rfl ob_1 ?_
      refine x_goto (tgt := 28) (by decide +kernel : am_at co_X11_fault 24 = some (3, .goto 4)) rfl ?_
      exact x_iret (by decide +kernel : am_at co_X11_fault 28 = some (1, .ireturn)) h
  · have c0 := (Classical.not_not.mp c0)
    have h := h.2 c0
    refine x_aload_n (by decide +kernel : am_at co_X11_fault 4 = some (1, .aload_n 0)) rfl ?_
    refine x_getF (by decide +kernel : am_at co_X11_fault 5 = some (3, .getfield 10)) pq_11_10 (by decide) rfl ob_0 ?_
    refine x_top2 (show 0 + 1 = 1 from rfl) ?_
    refine x_getf (by decide +kernel : am_at co_X11_fault 8 = some (3, .getfield 135)) pq_11_135 rfl ob_1 ?_
    exact x_iret (by decide +kernel : am_at co_X11_fault 11 = some (1, .ireturn)) h
set_option maxRecDepth 20000 in
theorem bk_X11_has_0 {d : Nat} {Q : am_Q} {M : am_M} {v1 : Int} (h : ((v1 < 0 ∨ 7 < v1 → Q (some (0, (-1)), sh_T, M)) ∧ (v1 = 0 → am_ob sh_T 2 (M 0 4) ∧ am_cal pg d 14 [(2, M 0 4), (0, 0)] sh_T M (am_c0 sh_T fun x2 M2 => Q (some (0, x2), sh_T, M2))) ∧ (v1 = 1 → am_ob sh_T 2 (M 0 4) ∧ am_cal pg d 14 [(2, M 0 4), (0, 1)] sh_T M (am_c0 sh_T fun x4 M4 => Q (some (0, x4), sh_T, M4))) ∧ (v1 = 2 → am_ob sh_T 2 (M 0 4) ∧ am_cal pg d 14 [(2, M 0 4), (0, 2)] sh_T M (am_c0 sh_T fun x6 M6 => Q (some (0, x6), sh_T, M6))) ∧ (v1 = 3 → am_ob sh_T 2 (M 0 4) ∧ Q (some (0, M (M 0 4) 5), sh_T, M)) ∧ (v1 = 4 → am_ob sh_T 2 (M 0 4) ∧ Q (some (0, M (M 0 4) 6), sh_T, M)) ∧ (v1 = 5 → am_ob sh_T 2 (M 0 4) ∧ Q (some (0, M (M 0 4) 7), sh_T, M)) ∧ (v1 = 6 → am_cal pg d 163 [(2, 0)] sh_T M (am_c0 sh_T fun x10 M10 => Q (some (0, x10), sh_T, M10))) ∧ (v1 = 7 → Q (some (0, M 46 2), sh_T, M)))) : am_g 11 0 co_X11_has d Q 0 [(2, 0), (0, v1)] [] sh_T M := by
  refine x_iload_n (by decide +kernel : am_at co_X11_has 0 = some (1, .iload_n 1)) rfl ?_
  refine x_tsw (by decide +kernel : am_at co_X11_has 1 = some (47, .tableswitch 111 0 7 #[47, 56, 65, 74, 82, 90, 98, 103])) (fun q => ?_) (fun q1 q2 => ?_)
  · have h := h.1 q
    refine x_iconst (by decide +kernel : am_at co_X11_has 112 = some (1, .iconst (-1))) ?_
    exact x_iret (by decide +kernel : am_at co_X11_has 113 = some (1, .ireturn)) h
  · rcases (show v1 = 0 ∨ v1 = 1 ∨ v1 = 2 ∨ v1 = 3 ∨ v1 = 4 ∨ v1 = 5 ∨ v1 = 6 ∨ v1 = 7 by omega) with q | q | q | q | q | q | q | q
    · refine ⟨47, by rw [q]; rfl, ?_⟩
      have h := h.2.1 q
      refine x_aload_n (by decide +kernel : am_at co_X11_has 48 = some (1, .aload_n 0)) rfl ?_
      refine x_getf (by decide +kernel : am_at co_X11_has 49 = some (3, .getfield 44)) pq_11_44 rfl ob_0 ?_
      refine x_iconst (by decide +kernel : am_at co_X11_has 52 = some (1, .iconst 0)) ?_
      obtain ⟨o0, h⟩ := h
      refine x_callV (n := 2) (by decide +kernel : am_at co_X11_has 53 = some (3, .invokevirtual 141)) pq_11_141 pm_X2_count rfl rfl rfl o0 h (x_k0 fun x2 M2 h => ?_)
      exact x_iret (by decide +kernel : am_at co_X11_has 56 = some (1, .ireturn)) h
    · refine ⟨56, by rw [q]; rfl, ?_⟩
      have h := h.2.2.1 q
      refine x_aload_n (by decide +kernel : am_at co_X11_has 57 = some (1, .aload_n 0)) rfl ?_
      refine x_getf (by decide +kernel : am_at co_X11_has 58 = some (3, .getfield 44)) pq_11_44 rfl ob_0 ?_
      refine x_iconst (by decide +kernel : am_at co_X11_has 61 = some (1, .iconst 1)) ?_
      obtain ⟨o2, h⟩ := h
      refine x_callV (n := 2) (by decide +kernel : am_at co_X11_has 62 = some (3, .invokevirtual 141)) pq_11_141 pm_X2_count rfl rfl rfl o2 h (x_k0 fun x4 M4 h => ?_)
      exact x_iret (by decide +kernel : am_at co_X11_has 65 = some (1, .ireturn)) h
    · refine ⟨65, by rw [q]; rfl, ?_⟩
      have h := h.2.2.2.1 q
      refine x_aload_n (by decide +kernel : am_at co_X11_has 66 = some (1, .aload_n 0)) rfl ?_
      refine x_getf (by decide +kernel : am_at co_X11_has 67 = some (3, .getfield 44)) pq_11_44 rfl ob_0 ?_
      refine x_iconst (by decide +kernel : am_at co_X11_has 70 = some (1, .iconst 2)) ?_
      obtain ⟨o4, h⟩ := h
      refine x_callV (n := 2) (by decide +kernel : am_at co_X11_has 71 = some (3, .invokevirtual 141)) pq_11_141 pm_X2_count rfl rfl rfl o4 h (x_k0 fun x6 M6 h => ?_)
      exact x_iret (by decide +kernel : am_at co_X11_has 74 = some (1, .ireturn)) h
    · refine ⟨74, by rw [q]; rfl, ?_⟩
      have h := h.2.2.2.2.1 q
      refine x_aload_n (by decide +kernel : am_at co_X11_has 75 = some (1, .aload_n 0)) rfl ?_
      refine x_getf (by decide +kernel : am_at co_X11_has 76 = some (3, .getfield 44)) pq_11_44 rfl ob_0 ?_
      obtain ⟨o6, h⟩ := h
      refine x_getf (by decide +kernel : am_at co_X11_has 79 = some (3, .getfield 144)) pq_11_144 rfl o6 ?_
      exact x_iret (by decide +kernel : am_at co_X11_has 82 = some (1, .ireturn)) h
    · refine ⟨82, by rw [q]; rfl, ?_⟩
      have h := h.2.2.2.2.2.1 q
      refine x_aload_n (by decide +kernel : am_at co_X11_has 83 = some (1, .aload_n 0)) rfl ?_
      refine x_getf (by decide +kernel : am_at co_X11_has 84 = some (3, .getfield 44)) pq_11_44 rfl ob_0 ?_
      obtain ⟨o7, h⟩ := h
      refine x_getf (by decide +kernel : am_at co_X11_has 87 = some (3, .getfield 147)) pq_11_147 rfl o7 ?_
      exact x_iret (by decide +kernel : am_at co_X11_has 90 = some (1, .ireturn)) h
    · refine ⟨90, by rw [q]; rfl, ?_⟩
      have h := h.2.2.2.2.2.2.1 q
      refine x_aload_n (by decide +kernel : am_at co_X11_has 91 = some (1, .aload_n 0)) rfl ?_
      refine x_getf (by decide +kernel : am_at co_X11_has 92 = some (3, .getfield 44)) pq_11_44 rfl ob_0 ?_
      obtain ⟨o8, h⟩ := h
      refine x_getf (by decide +kernel : am_at co_X11_has 95 = some (3, .getfield 150)) pq_11_150 rfl o8 ?_
      exact x_iret (by decide +kernel : am_at co_X11_has 98 = some (1, .ireturn)) h
    · refine ⟨98, by rw [q]; rfl, ?_⟩
      have h := h.2.2.2.2.2.2.2.1 q
      refine x_aload_n (by decide +kernel : am_at co_X11_has 99 = some (1, .aload_n 0)) rfl ?_
      refine x_callV (n := 1) (by decide +kernel : am_at co_X11_has 100 = some (3, .invokevirtual 153)) pq_11_153 pm_X11_countHome rfl rfl rfl ob_0 h (x_k0 fun x10 M10 h => ?_)
      exact x_iret (by decide +kernel : am_at co_X11_has 103 = some (1, .ireturn)) h
    · refine ⟨103, by rw [q]; rfl, ?_⟩
      have h := h.2.2.2.2.2.2.2.2 q
      refine x_aload_n (by decide +kernel : am_at co_X11_has 104 = some (1, .aload_n 0)) rfl ?_
      refine x_getF (by decide +kernel : am_at co_X11_has 105 = some (3, .getfield 62)) pq_11_62 (by decide) rfl ob_0 ?_
      refine x_top2 (show 0 + 46 = 46 from rfl) ?_
      refine x_getf (by decide +kernel : am_at co_X11_has 108 = some (3, .getfield 157)) pq_11_157 rfl ob_46 ?_
      exact x_iret (by decide +kernel : am_at co_X11_has 111 = some (1, .ireturn)) h
set_option maxRecDepth 20000 in
theorem bk_X11_letter_0 {d : Nat} {Q : am_Q} {M : am_M} {v1 v2 v3 : Int} (h : am_ob sh_T 2 (M 0 4) ∧ am_cal pg d 15 [(2, M 0 4), (0, v1), (0, v2)] sh_T M (am_c0 sh_T fun x2 M2 => ((x2 = 0 → Q (some (0, (-1)), sh_T, M2)) ∧ (¬ x2 = 0 → ((v3 < 0 → Q (some (0, (-1)), sh_T, M2)) ∧ (0 ≤ v3 → ((v3 < 6 → am_ob sh_T 2 (M2 0 4) ∧ am_cal pg d 17 [(2, M2 0 4), (0, v1), (0, v2)] sh_T M2 (am_c0 sh_T fun x7 M7 => am_cal pg d 18 [(2, M2 0 4), (0, x7), (0, v3)] sh_T M7 (am_c0 sh_T fun x8 M8 => Q (some (0, x8), sh_T, M8)))) ∧ (6 ≤ v3 → Q (some (0, (-1)), sh_T, M2))))))))) : am_g 11 0 co_X11_letter d Q 0 [(2, 0), (0, v1), (0, v2), (0, v3)] [] sh_T M := by
  refine x_aload_n (by decide +kernel : am_at co_X11_letter 0 = some (1, .aload_n 0)) rfl ?_
  refine x_getf (by decide +kernel : am_at co_X11_letter 1 = some (3, .getfield 44)) pq_11_44 rfl ob_0 ?_
  refine x_iload_n (by decide +kernel : am_at co_X11_letter 4 = some (1, .iload_n 1)) rfl ?_
  refine x_iload_n (by decide +kernel : am_at co_X11_letter 5 = some (1, .iload_n 2)) rfl ?_
  obtain ⟨o0, h⟩ := h
  refine x_callV (n := 3) (by decide +kernel : am_at co_X11_letter 6 = some (3, .invokevirtual 159)) pq_11_159 pm_X2_isThere rfl rfl rfl o0 h (x_k0 fun x2 M2 h => ?_)
  refine x_if (tgt := 22) (by decide +kernel : am_at co_X11_letter 9 = some (3, .ifCond .eq 13)) rfl Iff.rfl (fun c2 => ?_) (fun c2 => ?_)
  · have h := h.1 c2
    refine x_iconst (by decide +kernel : am_at co_X11_letter 22 = some (1, .iconst (-1))) ?_
    exact x_iret (by decide +kernel : am_at co_X11_letter 23 = some (1, .ireturn)) h
  · have c2 := c2
    have h := h.2 c2
    refine x_iload_n (by decide +kernel : am_at co_X11_letter 12 = some (1, .iload_n 3)) rfl ?_
    refine x_if (tgt := 22) (by decide +kernel : am_at co_X11_letter 13 = some (3, .ifCond .lt 9)) rfl Iff.rfl (fun c3 => ?_) (fun c3 => ?_)
    · have h := h.1 c3
      refine x_iconst (by decide +kernel : am_at co_X11_letter 22 = some (1, .iconst (-1))) ?_
      exact x_iret (by decide +kernel : am_at co_X11_letter 23 = some (1, .ireturn)) h
    · have c3 := (Int.not_lt.mp c3)
      have h := h.2 c3
      refine x_iload_n (by decide +kernel : am_at co_X11_letter 16 = some (1, .iload_n 3)) rfl ?_
      refine x_bipush (by decide +kernel : am_at co_X11_letter 17 = some (2, .bipush 6)) ?_
      refine x_icmp (tgt := 24) (by decide +kernel : am_at co_X11_letter 19 = some (3, .if_icmp .lt 5)) rfl Iff.rfl (fun c4 => ?_) (fun c4 => ?_)
      · have h := h.1 c4
        refine x_aload_n (by decide +kernel : am_at co_X11_letter 24 = some (1, .aload_n 0)) rfl ?_
        refine x_getf (by decide +kernel : am_at co_X11_letter 25 = some (3, .getfield 44)) pq_11_44 rfl ob_0 ?_
        refine x_aload_n (by decide +kernel : am_at co_X11_letter 28 = some (1, .aload_n 0)) rfl ?_
        refine x_getf (by decide +kernel : am_at co_X11_letter 29 = some (3, .getfield 44)) pq_11_44 rfl ob_0 ?_
        refine x_iload_n (by decide +kernel : am_at co_X11_letter 32 = some (1, .iload_n 1)) rfl ?_
        refine x_iload_n (by decide +kernel : am_at co_X11_letter 33 = some (1, .iload_n 2)) rfl ?_
        obtain ⟨o5, h⟩ := h
        refine x_callV (n := 3) (by decide +kernel : am_at co_X11_letter 34 = some (3, .invokevirtual 163)) pq_11_163 pm_X2_placeOf rfl rfl rfl o5 h (x_k0 fun x7 M7 h => ?_)
        refine x_iload_n (by decide +kernel : am_at co_X11_letter 37 = some (1, .iload_n 3)) rfl ?_
        refine x_callV (n := 3) (by decide +kernel : am_at co_X11_letter 38 = some (3, .invokevirtual 167)) pq_11_167 pm_X2_letterAt rfl rfl rfl o5 h (x_k0 fun x8 M8 h => ?_)
        exact x_iret (by decide +kernel : am_at co_X11_letter 41 = some (1, .ireturn)) h
      · have c4 := (Int.not_lt.mp c4)
        have h := h.2 c4
        refine x_iconst (by decide +kernel : am_at co_X11_letter 22 = some (1, .iconst (-1))) ?_
        exact x_iret (by decide +kernel : am_at co_X11_letter 23 = some (1, .ireturn)) h
set_option maxRecDepth 20000 in
theorem bk_X11_dreamer_0 {d : Nat} {Q : am_Q} {M : am_M} {v1 v2 : Int} (h : am_cal pg d 161 [(2, 0), (0, v1)] sh_T M (am_c0 sh_T fun x1 M1 => ((¬ x1 = 0 → (0 ≤ v1 ∧ v1 < 4) ∧ ((v2 < 0 ∨ 7 < v2 → Q (some (0, (-1)), sh_T, M1)) ∧ (v2 = 0 → am_ob sh_T 2 (M1 0 4) ∧ am_cal pg d 26 [(2, M1 0 4), (0, v1)] sh_T M1 (am_c0 sh_T fun x5 M5 => Q (some (0, x5), sh_T, M5))) ∧ (v2 = 1 → am_ob sh_T 7 (37 + 1 + 2 * v1) ∧ Q (some (0, M1 (37 + 1 + 2 * v1) 2), sh_T, M1)) ∧ (v2 = 2 → am_ob sh_T 7 (37 + 1 + 2 * v1) ∧ am_cal pg d 74 [(2, 37 + 1 + 2 * v1)] sh_T M1 (am_c0 sh_T fun x8 M8 => Q (some (0, x8), sh_T, M8))) ∧ (v2 = 3 → am_ob sh_T 7 (37 + 1 + 2 * v1) ∧ am_cal pg d 75 [(2, 37 + 1 + 2 * v1)] sh_T M1 (am_c0 sh_T fun x10 M10 => Q (some (0, x10), sh_T, M10))) ∧ (v2 = 4 → am_ob sh_T 7 (37 + 1 + 2 * v1) ∧ am_cal pg d 76 [(2, 37 + 1 + 2 * v1)] sh_T M1 (am_c0 sh_T fun x12 M12 => Q (some (0, x12), sh_T, M12))) ∧ (v2 = 5 → am_ob sh_T 2 (M1 0 4) ∧ am_cal pg d 30 [(2, M1 0 4), (2, 37 + 1 + 2 * v1), (0, (-1))] sh_T M1 (am_c0 sh_T fun x14 M14 => Q (some (0, x14), sh_T, M14))) ∧ (v2 = 6 → am_ob sh_T 2 (M1 0 4) ∧ am_cal pg d 30 [(2, M1 0 4), (2, 37 + 1 + 2 * v1), (0, (-1))] sh_T M1 (am_c0 sh_T fun x16 M16 => am_cal pg d 30 [(2, M1 0 4), (2, 37 + 1 + 2 * v1), (0, x16)] sh_T M16 (am_c0 sh_T fun x17 M17 => Q (some (0, x17), sh_T, M17)))) ∧ (v2 = 7 → am_ob sh_T 2 (M1 0 4) ∧ am_cal pg d 31 [(2, M1 0 4), (2, 37 + 1 + 2 * v1)] sh_T M1 (am_c0 sh_T fun x19 M19 => ((x19 = 0 → Q (some (0, 0), sh_T, M19)) ∧ (¬ x19 = 0 → Q (some (0, 1), sh_T, M19))))))) ∧ (x1 = 0 → Q (some (0, (-1)), sh_T, M1))))) : am_g 11 0 co_X11_dreamer d Q 0 [(2, 0), (0, v1), (0, v2), (3, 0)] [] sh_T M := by
  refine x_aload_n (by decide +kernel : am_at co_X11_dreamer 0 = some (1, .aload_n 0)) rfl ?_
  refine x_iload_n (by decide +kernel : am_at co_X11_dreamer 1 = some (1, .iload_n 1)) rfl ?_
  refine x_callV (n := 2) (by decide +kernel : am_at co_X11_dreamer 2 = some (3, .invokevirtual 170)) pq_11_170 pm_X11_isDreamer rfl rfl rfl ob_0 h (x_k0 fun x1 M1 h => ?_)
  refine x_if (tgt := 10) (by decide +kernel : am_at co_X11_dreamer 5 = some (3, .ifCond .ne 5)) rfl Iff.rfl (fun c1 => ?_) (fun c1 => ?_)
  · have h := h.1 c1
    refine x_aload_n (by decide +kernel : am_at co_X11_dreamer 10 = some (1, .aload_n 0)) rfl ?_
    refine x_getF (by decide +kernel : am_at co_X11_dreamer 11 = some (3, .getfield 55)) pq_11_55 (by decide) rfl ob_0 ?_
    refine x_top2 (show 0 + 37 = 37 from rfl) ?_
    refine x_iload_n (by decide +kernel : am_at co_X11_dreamer 14 = some (1, .iload_n 1)) rfl ?_
    obtain ⟨o2, h⟩ := h
    refine x_aald (by decide +kernel : am_at co_X11_dreamer 15 = some (1, .aaload)) (ia_37 o2.1 o2.2) ?_
    refine x_astore_n (L' := [(2, 0), (0, v1), (0, v2), (2, 37 + 1 + 2 * v1)]) (by decide +kernel : am_at co_X11_dreamer 16 = some (1, .astore_n 3)) rfl ?_
    refine x_iload_n (by decide +kernel : am_at co_X11_dreamer 17 = some (1, .iload_n 2)) rfl ?_
    refine x_tsw (by decide +kernel : am_at co_X11_dreamer 18 = some (46, .tableswitch 120 0 7 #[46, 55, 60, 65, 70, 75, 85, 103])) (fun q => ?_) (fun q1 q2 => ?_)
    · have h := h.1 q
      refine x_iconst (by decide +kernel : am_at co_X11_dreamer 138 = some (1, .iconst (-1))) ?_
      exact x_iret (by decide +kernel : am_at co_X11_dreamer 139 = some (1, .ireturn)) h
    · rcases (show v2 = 0 ∨ v2 = 1 ∨ v2 = 2 ∨ v2 = 3 ∨ v2 = 4 ∨ v2 = 5 ∨ v2 = 6 ∨ v2 = 7 by omega) with q | q | q | q | q | q | q | q
      · refine ⟨46, by rw [q]; rfl, ?_⟩
        have h := h.2.1 q
        refine x_aload_n (by decide +kernel : am_at co_X11_dreamer 64 = some (1, .aload_n 0)) rfl ?_
        refine x_getf (by decide +kernel : am_at co_X11_dreamer 65 = some (3, .getfield 44)) pq_11_44 rfl ob_0 ?_
        refine x_iload_n (by decide +kernel : am_at co_X11_dreamer 68 = some (1, .iload_n 1)) rfl ?_
        obtain ⟨o3, h⟩ := h
        refine x_callV (n := 2) (by decide +kernel : am_at co_X11_dreamer 69 = some (3, .invokevirtual 174)) pq_11_174 pm_X2_braveryOf rfl rfl rfl o3 h (x_k0 fun x5 M5 h => ?_)
        exact x_iret (by decide +kernel : am_at co_X11_dreamer 72 = some (1, .ireturn)) h
      · refine ⟨55, by rw [q]; rfl, ?_⟩
        have h := h.2.2.1 q
        refine x_aload_n (by decide +kernel : am_at co_X11_dreamer 73 = some (1, .aload_n 3)) rfl ?_
        obtain ⟨o5, h⟩ := h
        refine x_getf (by decide +kernel : am_at co_X11_dreamer 74 = some (3, .getfield 177)) pq_11_177 rfl o5 ?_
        exact x_iret (by decide +kernel : am_at co_X11_dreamer 77 = some (1, .ireturn)) h
      · refine ⟨60, by rw [q]; rfl, ?_⟩
        have h := h.2.2.2.1 q
        refine x_aload_n (by decide +kernel : am_at co_X11_dreamer 78 = some (1, .aload_n 3)) rfl ?_
        obtain ⟨o6, h⟩ := h
        refine x_callV (n := 1) (by decide +kernel : am_at co_X11_dreamer 79 = some (3, .invokevirtual 182)) pq_11_182 pm_X7_total rfl rfl rfl o6 h (x_k0 fun x8 M8 h => ?_)
        exact x_iret (by decide +kernel : am_at co_X11_dreamer 82 = some (1, .ireturn)) h
      · refine ⟨65, by rw [q]; rfl, ?_⟩
        have h := h.2.2.2.2.1 q
        refine x_aload_n (by decide +kernel : am_at co_X11_dreamer 83 = some (1, .aload_n 3)) rfl ?_
        obtain ⟨o8, h⟩ := h
        refine x_callV (n := 1) (by decide +kernel : am_at co_X11_dreamer 84 = some (3, .invokevirtual 185)) pq_11_185 pm_X7_greatest rfl rfl rfl o8 h (x_k0 fun x10 M10 h => ?_)
        exact x_iret (by decide +kernel : am_at co_X11_dreamer 87 = some (1, .ireturn)) h
      · refine ⟨70, by rw [q]; rfl, ?_⟩
        have h := h.2.2.2.2.2.1 q
        refine x_aload_n (by decide +kernel : am_at co_X11_dreamer 88 = some (1, .aload_n 3)) rfl ?_
        obtain ⟨o10, h⟩ := h
        refine x_callV (n := 1) (by decide +kernel : am_at co_X11_dreamer 89 = some (3, .invokevirtual 188)) pq_11_188 pm_X7_countHeavy rfl rfl rfl o10 h (x_k0 fun x12 M12 h => ?_)
        exact x_iret (by decide +kernel : am_at co_X11_dreamer 92 = some (1, .ireturn)) h
      · refine ⟨75, by rw [q]; rfl, ?_⟩
        have h := h.2.2.2.2.2.2.1 q
        refine x_aload_n (by decide +kernel : am_at co_X11_dreamer 93 = some (1, .aload_n 0)) rfl ?_
        refine x_getf (by decide +kernel : am_at co_X11_dreamer 94 = some (3, .getfield 44)) pq_11_44 rfl ob_0 ?_
        refine x_aload_n (by decide +kernel : am_at co_X11_dreamer 97 = some (1, .aload_n 3)) rfl ?_
        refine x_iconst (by decide +kernel : am_at co_X11_dreamer 98 = some (1, .iconst (-1))) ?_
        obtain ⟨o12, h⟩ := h
        refine x_callV (n := 3) (by decide +kernel : am_at co_X11_dreamer 99 = some (3, .invokevirtual 191)) pq_11_191 pm_X2_heaviest rfl rfl rfl o12 h (x_k0 fun x14 M14 h => ?_)
        exact x_iret (by decide +kernel : am_at co_X11_dreamer 102 = some (1, .ireturn)) h
      · refine ⟨85, by rw [q]; rfl, ?_⟩
        have h := h.2.2.2.2.2.2.2.1 q
        refine x_aload_n (by decide +kernel : am_at co_X11_dreamer 103 = some (1, .aload_n 0)) rfl ?_
        refine x_getf (by decide +kernel : am_at co_X11_dreamer 104 = some (3, .getfield 44)) pq_11_44 rfl ob_0 ?_
        refine x_aload_n (by decide +kernel : am_at co_X11_dreamer 107 = some (1, .aload_n 3)) rfl ?_
        refine x_aload_n (by decide +kernel : am_at co_X11_dreamer 108 = some (1, .aload_n 0)) rfl ?_
        refine x_getf (by decide +kernel : am_at co_X11_dreamer 109 = some (3, .getfield 44)) pq_11_44 rfl ob_0 ?_
        refine x_aload_n (by decide +kernel : am_at co_X11_dreamer 112 = some (1, .aload_n 3)) rfl ?_
        refine x_iconst (by decide +kernel : am_at co_X11_dreamer 113 = some (1, .iconst (-1))) ?_
        obtain ⟨o14, h⟩ := h
        refine x_callV (n := 3) (by decide +kernel : am_at co_X11_dreamer 114 = some (3, .invokevirtual 191)) pq_11_191 pm_X2_heaviest rfl rfl rfl o14 h (x_k0 fun x16 M16 h => ?_)
        refine x_callV (n := 3) (by decide +kernel : am_at co_X11_dreamer 117 = some (3, .invokevirtual 191)) pq_11_191 pm_X2_heaviest rfl rfl rfl o14 h (x_k0 fun x17 M17 h => ?_)
        exact x_iret (by decide +kernel : am_at co_X11_dreamer 120 = some (1, .ireturn)) h
      · refine ⟨103, by rw [q]; rfl, ?_⟩
        have h := h.2.2.2.2.2.2.2.2 q
        refine x_aload_n (by decide +kernel : am_at co_X11_dreamer 121 = some (1, .aload_n 0)) rfl ?_
        refine x_getf (by decide +kernel : am_at co_X11_dreamer 122 = some (3, .getfield 44)) pq_11_44 rfl ob_0 ?_
        refine x_aload_n (by decide +kernel : am_at co_X11_dreamer 125 = some (1, .aload_n 3)) rfl ?_
        obtain ⟨o17, h⟩ := h
        refine x_callV (n := 2) (by decide +kernel : am_at co_X11_dreamer 126 = some (3, .invokevirtual 195)) pq_11_195 pm_X2_isHome rfl rfl rfl o17 h (x_k0 fun x19 M19 h => ?_)
        refine x_if (tgt := 136) (by decide +kernel : am_at co_X11_dreamer 129 = some (3, .ifCond .eq 7)) rfl Iff.rfl (fun c19 => ?_) (fun c19 => ?_)
        · have h := h.1 c19
          refine x_iconst (by decide +kernel : am_at co_X11_dreamer 136 = some (1, .iconst 0)) ?_
          exact x_iret (by decide +kernel : am_at co_X11_dreamer 137 = some (1, .ireturn)) h
        · have c19 := c19
          have h := h.2 c19
          refine x_iconst (by decide +kernel : am_at co_X11_dreamer 132 = some (1, .iconst 1)) ?_
          refine x_goto (tgt := 137) (by decide +kernel : am_at co_X11_dreamer 133 = some (3, .goto 4)) rfl ?_
          exact x_iret (by decide +kernel : am_at co_X11_dreamer 137 = some (1, .ireturn)) h
  · have c1 := (Classical.not_not.mp c1)
    have h := h.2 c1
    refine x_iconst (by decide +kernel : am_at co_X11_dreamer 8 = some (1, .iconst (-1))) ?_
    exact x_iret (by decide +kernel : am_at co_X11_dreamer 9 = some (1, .ireturn)) h
set_option maxRecDepth 20000 in
theorem bk_X11_weigh_0 {d : Nat} {Q : am_Q} {M : am_M} {v1 v2 v3 : Int} (h : am_cal pg d 161 [(2, 0), (0, v1)] sh_T M (am_c0 sh_T fun x1 M1 => ((x1 = 0 → Q (some (0, (-1)), sh_T, M1)) ∧ (¬ x1 = 0 → am_cal pg d 162 [(2, 0), (0, v2)] sh_T M1 (am_c0 sh_T fun x3 M3 => ((¬ x3 = 0 → (0 ≤ v1 ∧ v1 < 4) ∧ ((v3 < 0 ∨ 4 < v3 → Q (some (0, (-1)), sh_T, M3)) ∧ (v3 = 0 → am_ob sh_T 7 (37 + 1 + 2 * v1) ∧ am_cal pg d 72 [(2, 37 + 1 + 2 * v1), (0, v2)] sh_T M3 (am_c0 sh_T fun x7 M7 => Q (some (0, x7), sh_T, M7))) ∧ (v3 = 1 → am_ob sh_T 2 (M3 0 4) ∧ am_cal pg d 29 [(2, M3 0 4), (2, 37 + 1 + 2 * v1), (0, v2)] sh_T M3 (am_c0 sh_T fun x9 M9 => Q (some (0, x9), sh_T, M9))) ∧ (v3 = 2 → am_ob sh_T 2 (M3 0 4) ∧ am_cal pg d 32 [(2, M3 0 4), (2, 37 + 1 + 2 * v1), (0, v2), (0, 0)] sh_T M3 (am_c0 sh_T fun x11 M11 => Q (some (0, x11), sh_T, M11))) ∧ (v3 = 3 → am_ob sh_T 2 (M3 0 4) ∧ am_cal pg d 32 [(2, M3 0 4), (2, 37 + 1 + 2 * v1), (0, v2), (0, 1)] sh_T M3 (am_c0 sh_T fun x13 M13 => Q (some (0, x13), sh_T, M13))) ∧ (v3 = 4 → am_ob sh_T 2 (M3 0 4) ∧ am_cal pg d 32 [(2, M3 0 4), (2, 37 + 1 + 2 * v1), (0, v2), (0, 2)] sh_T M3 (am_c0 sh_T fun x15 M15 => Q (some (0, x15), sh_T, M15))))) ∧ (x3 = 0 → Q (some (0, (-1)), sh_T, M3)))))))) : am_g 11 0 co_X11_weigh d Q 0 [(2, 0), (0, v1), (0, v2), (0, v3), (3, 0)] [] sh_T M := by
  refine x_aload_n (by decide +kernel : am_at co_X11_weigh 0 = some (1, .aload_n 0)) rfl ?_
  refine x_iload_n (by decide +kernel : am_at co_X11_weigh 1 = some (1, .iload_n 1)) rfl ?_
  refine x_callV (n := 2) (by decide +kernel : am_at co_X11_weigh 2 = some (3, .invokevirtual 170)) pq_11_170 pm_X11_isDreamer rfl rfl rfl ob_0 h (x_k0 fun x1 M1 h => ?_)
  refine x_if (tgt := 16) (by decide +kernel : am_at co_X11_weigh 5 = some (3, .ifCond .eq 11)) rfl Iff.rfl (fun c1 => ?_) (fun c1 => ?_)
  · have h := h.1 c1
    refine x_iconst (by decide +kernel : am_at co_X11_weigh 16 = some (1, .iconst (-1))) ?_
    exact x_iret (by decide +kernel : am_at co_X11_weigh 17 = some (1, .ireturn)) h
  · have c1 := c1
    have h := h.2 c1
    refine x_aload_n (by decide +kernel : am_at co_X11_weigh 8 = some (1, .aload_n 0)) rfl ?_
    refine x_iload_n (by decide +kernel : am_at co_X11_weigh 9 = some (1, .iload_n 2)) rfl ?_
    refine x_callV (n := 2) (by decide +kernel : am_at co_X11_weigh 10 = some (3, .invokevirtual 199)) pq_11_199 pm_X11_isDread rfl rfl rfl ob_0 h (x_k0 fun x3 M3 h => ?_)
    refine x_if (tgt := 18) (by decide +kernel : am_at co_X11_weigh 13 = some (3, .ifCond .ne 5)) rfl Iff.rfl (fun c3 => ?_) (fun c3 => ?_)
    · have h := h.1 c3
      refine x_aload_n (by decide +kernel : am_at co_X11_weigh 18 = some (1, .aload_n 0)) rfl ?_
      refine x_getF (by decide +kernel : am_at co_X11_weigh 19 = some (3, .getfield 55)) pq_11_55 (by decide) rfl ob_0 ?_
      refine x_top2 (show 0 + 37 = 37 from rfl) ?_
      refine x_iload_n (by decide +kernel : am_at co_X11_weigh 22 = some (1, .iload_n 1)) rfl ?_
      obtain ⟨o4, h⟩ := h
      refine x_aald (by decide +kernel : am_at co_X11_weigh 23 = some (1, .aaload)) (ia_37 o4.1 o4.2) ?_
      refine x_astore (L' := [(2, 0), (0, v1), (0, v2), (0, v3), (2, 37 + 1 + 2 * v1)]) (by decide +kernel : am_at co_X11_weigh 24 = some (2, .astore 4)) rfl ?_
      refine x_iload_n (by decide +kernel : am_at co_X11_weigh 26 = some (1, .iload_n 3)) rfl ?_
      refine x_tsw (by decide +kernel : am_at co_X11_weigh 27 = some (33, .tableswitch 87 0 4 #[33, 40, 51, 63, 75])) (fun q => ?_) (fun q1 q2 => ?_)
      · have h := h.1 q
        refine x_iconst (by decide +kernel : am_at co_X11_weigh 114 = some (1, .iconst (-1))) ?_
        exact x_iret (by decide +kernel : am_at co_X11_weigh 115 = some (1, .ireturn)) h
      · rcases (show v3 = 0 ∨ v3 = 1 ∨ v3 = 2 ∨ v3 = 3 ∨ v3 = 4 by omega) with q | q | q | q | q
        · refine ⟨33, by rw [q]; rfl, ?_⟩
          have h := h.2.1 q
          refine x_aload (by decide +kernel : am_at co_X11_weigh 60 = some (2, .aload 4)) rfl ?_
          refine x_iload_n (by decide +kernel : am_at co_X11_weigh 62 = some (1, .iload_n 2)) rfl ?_
          obtain ⟨o5, h⟩ := h
          refine x_callV (n := 2) (by decide +kernel : am_at co_X11_weigh 63 = some (3, .invokevirtual 202)) pq_11_202 pm_X7_at rfl rfl rfl o5 h (x_k0 fun x7 M7 h => ?_)
          exact x_iret (by decide +kernel : am_at co_X11_weigh 66 = some (1, .ireturn)) h
        · refine ⟨40, by rw [q]; rfl, ?_⟩
          have h := h.2.2.1 q
          refine x_aload_n (by decide +kernel : am_at co_X11_weigh 67 = some (1, .aload_n 0)) rfl ?_
          refine x_getf (by decide +kernel : am_at co_X11_weigh 68 = some (3, .getfield 44)) pq_11_44 rfl ob_0 ?_
          refine x_aload (by decide +kernel : am_at co_X11_weigh 71 = some (2, .aload 4)) rfl ?_
          refine x_iload_n (by decide +kernel : am_at co_X11_weigh 73 = some (1, .iload_n 2)) rfl ?_
          obtain ⟨o7, h⟩ := h
          refine x_callV (n := 3) (by decide +kernel : am_at co_X11_weigh 74 = some (3, .invokevirtual 205)) pq_11_205 pm_X2_counts rfl rfl rfl o7 h (x_k0 fun x9 M9 h => ?_)
          exact x_iret (by decide +kernel : am_at co_X11_weigh 77 = some (1, .ireturn)) h
        · refine ⟨51, by rw [q]; rfl, ?_⟩
          have h := h.2.2.2.1 q
          refine x_aload_n (by decide +kernel : am_at co_X11_weigh 78 = some (1, .aload_n 0)) rfl ?_
          refine x_getf (by decide +kernel : am_at co_X11_weigh 79 = some (3, .getfield 44)) pq_11_44 rfl ob_0 ?_
          refine x_aload (by decide +kernel : am_at co_X11_weigh 82 = some (2, .aload 4)) rfl ?_
          refine x_iload_n (by decide +kernel : am_at co_X11_weigh 84 = some (1, .iload_n 2)) rfl ?_
          refine x_iconst (by decide +kernel : am_at co_X11_weigh 85 = some (1, .iconst 0)) ?_
          obtain ⟨o9, h⟩ := h
          refine x_callV (n := 4) (by decide +kernel : am_at co_X11_weigh 86 = some (3, .invokevirtual 208)) pq_11_208 pm_X2_becomes rfl rfl rfl o9 h (x_k0 fun x11 M11 h => ?_)
          exact x_iret (by decide +kernel : am_at co_X11_weigh 89 = some (1, .ireturn)) h
        · refine ⟨63, by rw [q]; rfl, ?_⟩
          have h := h.2.2.2.2.1 q
          refine x_aload_n (by decide +kernel : am_at co_X11_weigh 90 = some (1, .aload_n 0)) rfl ?_
          refine x_getf (by decide +kernel : am_at co_X11_weigh 91 = some (3, .getfield 44)) pq_11_44 rfl ob_0 ?_
          refine x_aload (by decide +kernel : am_at co_X11_weigh 94 = some (2, .aload 4)) rfl ?_
          refine x_iload_n (by decide +kernel : am_at co_X11_weigh 96 = some (1, .iload_n 2)) rfl ?_
          refine x_iconst (by decide +kernel : am_at co_X11_weigh 97 = some (1, .iconst 1)) ?_
          obtain ⟨o11, h⟩ := h
          refine x_callV (n := 4) (by decide +kernel : am_at co_X11_weigh 98 = some (3, .invokevirtual 208)) pq_11_208 pm_X2_becomes rfl rfl rfl o11 h (x_k0 fun x13 M13 h => ?_)
          exact x_iret (by decide +kernel : am_at co_X11_weigh 101 = some (1, .ireturn)) h
        · refine ⟨75, by rw [q]; rfl, ?_⟩
          have h := h.2.2.2.2.2 q
          refine x_aload_n (by decide +kernel : am_at co_X11_weigh 102 = some (1, .aload_n 0)) rfl ?_
          refine x_getf (by decide +kernel : am_at co_X11_weigh 103 = some (3, .getfield 44)) pq_11_44 rfl ob_0 ?_
          refine x_aload (by decide +kernel : am_at co_X11_weigh 106 = some (2, .aload 4)) rfl ?_
          refine x_iload_n (by decide +kernel : am_at co_X11_weigh 108 = some (1, .iload_n 2)) rfl ?_
          refine x_iconst (by decide +kernel : am_at co_X11_weigh 109 = some (1, .iconst 2)) ?_
          obtain ⟨o13, h⟩ := h
          refine x_callV (n := 4) (by decide +kernel : am_at co_X11_weigh 110 = some (3, .invokevirtual 208)) pq_11_208 pm_X2_becomes rfl rfl rfl o13 h (x_k0 fun x15 M15 h => ?_)
          exact x_iret (by decide +kernel : am_at co_X11_weigh 113 = some (1, .ireturn)) h
    · have c3 := (Classical.not_not.mp c3)
      have h := h.2 c3
      refine x_iconst (by decide +kernel : am_at co_X11_weigh 16 = some (1, .iconst (-1))) ?_
      exact x_iret (by decide +kernel : am_at co_X11_weigh 17 = some (1, .ireturn)) h
set_option maxRecDepth 20000 in
theorem bk_X11_guide_0 {d : Nat} {Q : am_Q} {M : am_M} {v1 : Int} (h : am_ob sh_T 2 (M 0 4) ∧ am_cal pg d 15 [(2, M 0 4), (0, 2), (0, v1)] sh_T M (am_c0 sh_T fun x2 M2 => ((x2 = 0 → Q (some (0, (-1)), sh_T, M2)) ∧ (¬ x2 = 0 → am_ob sh_T 2 (M2 0 4) ∧ am_cal pg d 27 [(2, M2 0 4), (0, v1)] sh_T M2 (am_c0 sh_T fun x5 M5 => Q (some (0, x5), sh_T, M5)))))) : am_g 11 0 co_X11_guide d Q 0 [(2, 0), (0, v1)] [] sh_T M := by
  refine x_aload_n (by decide +kernel : am_at co_X11_guide 0 = some (1, .aload_n 0)) rfl ?_
  refine x_getf (by decide +kernel : am_at co_X11_guide 1 = some (3, .getfield 44)) pq_11_44 rfl ob_0 ?_
  refine x_iconst (by decide +kernel : am_at co_X11_guide 4 = some (1, .iconst 2)) ?_
  refine x_iload_n (by decide +kernel : am_at co_X11_guide 5 = some (1, .iload_n 1)) rfl ?_
  obtain ⟨o0, h⟩ := h
  refine x_callV (n := 3) (by decide +kernel : am_at co_X11_guide 6 = some (3, .invokevirtual 159)) pq_11_159 pm_X2_isThere rfl rfl rfl o0 h (x_k0 fun x2 M2 h => ?_)
  refine x_if (tgt := 23) (by decide +kernel : am_at co_X11_guide 9 = some (3, .ifCond .eq 14)) rfl Iff.rfl (fun c2 => ?_) (fun c2 => ?_)
  · have h := h.1 c2
    refine x_iconst (by decide +kernel : am_at co_X11_guide 23 = some (1, .iconst (-1))) ?_
    exact x_iret (by decide +kernel : am_at co_X11_guide 24 = some (1, .ireturn)) h
  · have c2 := c2
    have h := h.2 c2
    refine x_aload_n (by decide +kernel : am_at co_X11_guide 12 = some (1, .aload_n 0)) rfl ?_
    refine x_getf (by decide +kernel : am_at co_X11_guide 13 = some (3, .getfield 44)) pq_11_44 rfl ob_0 ?_
    refine x_iload_n (by decide +kernel : am_at co_X11_guide 16 = some (1, .iload_n 1)) rfl ?_
    obtain ⟨o3, h⟩ := h
    refine x_callV (n := 2) (by decide +kernel : am_at co_X11_guide 17 = some (3, .invokevirtual 212)) pq_11_212 pm_X2_dreadOf rfl rfl rfl o3 h (x_k0 fun x5 M5 h => ?_)
    refine x_goto (tgt := 24) (by decide +kernel : am_at co_X11_guide 20 = some (3, .goto 4)) rfl ?_
    exact x_iret (by decide +kernel : am_at co_X11_guide 24 = some (1, .ireturn)) h
set_option maxRecDepth 20000 in
theorem bk_X11_room_0 {d : Nat} {Q : am_Q} {M : am_M} {v1 v2 : Int} (h : am_cal pg d 161 [(2, 0), (0, v1)] sh_T M (am_c0 sh_T fun x1 M1 => ((¬ x1 = 0 → (0 ≤ v1 ∧ v1 < 4) ∧ am_cal pg d 5 [(2, 88), (2, M1 0 4), (2, 37 + 1 + 2 * v1)] sh_T M1 (am_cv sh_T fun M4 => am_cal pg d 6 [(2, 88), (0, v2)] sh_T M4 (am_c0 sh_T fun x5 M5 => Q (some (0, x5), sh_T, M5)))) ∧ (x1 = 0 → Q (some (0, (-1)), sh_T, M1))))) : am_g 11 0 co_X11_room d Q 0 [(2, 0), (0, v1), (0, v2)] [] sh_T M := by
  refine x_aload_n (by decide +kernel : am_at co_X11_room 0 = some (1, .aload_n 0)) rfl ?_
  refine x_iload_n (by decide +kernel : am_at co_X11_room 1 = some (1, .iload_n 1)) rfl ?_
  refine x_callV (n := 2) (by decide +kernel : am_at co_X11_room 2 = some (3, .invokevirtual 170)) pq_11_170 pm_X11_isDreamer rfl rfl rfl ob_0 h (x_k0 fun x1 M1 h => ?_)
  refine x_if (tgt := 10) (by decide +kernel : am_at co_X11_room 5 = some (3, .ifCond .ne 5)) rfl Iff.rfl (fun c1 => ?_) (fun c1 => ?_)
  · have h := h.1 c1
    refine x_aload_n (by decide +kernel : am_at co_X11_room 10 = some (1, .aload_n 0)) rfl ?_
    refine x_getF (by decide +kernel : am_at co_X11_room 11 = some (3, .getfield 69)) pq_11_69 (by decide) rfl ob_0 ?_
    refine x_top2 (show 0 + 88 = 88 from rfl) ?_
    refine x_aload_n (by decide +kernel : am_at co_X11_room 14 = some (1, .aload_n 0)) rfl ?_
    refine x_getf (by decide +kernel : am_at co_X11_room 15 = some (3, .getfield 44)) pq_11_44 rfl ob_0 ?_
    refine x_aload_n (by decide +kernel : am_at co_X11_room 18 = some (1, .aload_n 0)) rfl ?_
    refine x_getF (by decide +kernel : am_at co_X11_room 19 = some (3, .getfield 55)) pq_11_55 (by decide) rfl ob_0 ?_
    refine x_top2 (show 0 + 37 = 37 from rfl) ?_
    refine x_iload_n (by decide +kernel : am_at co_X11_room 22 = some (1, .iload_n 1)) rfl ?_
    obtain ⟨o2, h⟩ := h
    refine x_aald (by decide +kernel : am_at co_X11_room 23 = some (1, .aaload)) (ia_37 o2.1 o2.2) ?_
    refine x_callV (n := 3) (by decide +kernel : am_at co_X11_room 24 = some (3, .invokevirtual 215)) pq_11_215 pm_X1_go rfl rfl rfl ob_88 h (x_kv fun M4 h => ?_)
    refine x_aload_n (by decide +kernel : am_at co_X11_room 27 = some (1, .aload_n 0)) rfl ?_
    refine x_getF (by decide +kernel : am_at co_X11_room 28 = some (3, .getfield 69)) pq_11_69 (by decide) rfl ob_0 ?_
    refine x_top2 (show 0 + 88 = 88 from rfl) ?_
    refine x_iload_n (by decide +kernel : am_at co_X11_room 31 = some (1, .iload_n 2)) rfl ?_
    refine x_callV (n := 2) (by decide +kernel : am_at co_X11_room 32 = some (3, .invokevirtual 219)) pq_11_219 pm_X1_dreadIn rfl rfl rfl ob_88 h (x_k0 fun x5 M5 h => ?_)
    exact x_iret (by decide +kernel : am_at co_X11_room 35 = some (1, .ireturn)) h
  · have c1 := (Classical.not_not.mp c1)
    have h := h.2 c1
    refine x_iconst (by decide +kernel : am_at co_X11_room 8 = some (1, .iconst (-1))) ?_
    exact x_iret (by decide +kernel : am_at co_X11_room 9 = some (1, .ireturn)) h
set_option maxRecDepth 20000 in
theorem bk_X11_later_0 {d : Nat} {Q : am_Q} {M : am_M} {v1 v2 v3 : Int} (h : am_cal pg d 161 [(2, 0), (0, v1)] sh_T M (am_c0 sh_T fun x1 M1 => ((x1 = 0 → Q (some (0, (-1)), sh_T, M1)) ∧ (¬ x1 = 0 → am_cal pg d 162 [(2, 0), (0, v2)] sh_T M1 (am_c0 sh_T fun x3 M3 => ((x3 = 0 → Q (some (0, (-1)), sh_T, M3)) ∧ (¬ x3 = 0 → ((v3 < 0 → Q (some (0, (-1)), sh_T, M3)) ∧ (0 ≤ v3 → ((v3 ≤ 200 → (0 ≤ v1 ∧ v1 < 4) ∧ am_cal pg d 5 [(2, 88), (2, M3 0 4), (2, 37 + 1 + 2 * v1)] sh_T M3 (am_cv sh_T fun M8 => am_cal pg d 318 [(0, v3), (0, M8 88 2)] sh_T M8 (am_c0 sh_T fun x9 M9 => am_cal pg d 7 [(2, 88), (0, x9), (0, v2)] sh_T M9 (am_c0 sh_T fun x10 M10 => Q (some (0, x10), sh_T, M10))))) ∧ (200 < v3 → Q (some (0, (-1)), sh_T, M3)))))))))))) : am_g 11 0 co_X11_later d Q 0 [(2, 0), (0, v1), (0, v2), (0, v3)] [] sh_T M := by
  refine x_aload_n (by decide +kernel : am_at co_X11_later 0 = some (1, .aload_n 0)) rfl ?_
  refine x_iload_n (by decide +kernel : am_at co_X11_later 1 = some (1, .iload_n 1)) rfl ?_
  refine x_callV (n := 2) (by decide +kernel : am_at co_X11_later 2 = some (3, .invokevirtual 170)) pq_11_170 pm_X11_isDreamer rfl rfl rfl ob_0 h (x_k0 fun x1 M1 h => ?_)
  refine x_if (tgt := 27) (by decide +kernel : am_at co_X11_later 5 = some (3, .ifCond .eq 22)) rfl Iff.rfl (fun c1 => ?_) (fun c1 => ?_)
  · have h := h.1 c1
    refine x_iconst (by decide +kernel : am_at co_X11_later 27 = some (1, .iconst (-1))) ?_
    exact x_iret (by decide +kernel : am_at co_X11_later 28 = some (1, .ireturn)) h
  · have c1 := c1
    have h := h.2 c1
    refine x_aload_n (by decide +kernel : am_at co_X11_later 8 = some (1, .aload_n 0)) rfl ?_
    refine x_iload_n (by decide +kernel : am_at co_X11_later 9 = some (1, .iload_n 2)) rfl ?_
    refine x_callV (n := 2) (by decide +kernel : am_at co_X11_later 10 = some (3, .invokevirtual 199)) pq_11_199 pm_X11_isDread rfl rfl rfl ob_0 h (x_k0 fun x3 M3 h => ?_)
    refine x_if (tgt := 27) (by decide +kernel : am_at co_X11_later 13 = some (3, .ifCond .eq 14)) rfl Iff.rfl (fun c3 => ?_) (fun c3 => ?_)
    · have h := h.1 c3
      refine x_iconst (by decide +kernel : am_at co_X11_later 27 = some (1, .iconst (-1))) ?_
      exact x_iret (by decide +kernel : am_at co_X11_later 28 = some (1, .ireturn)) h
    · have c3 := c3
      have h := h.2 c3
      refine x_iload_n (by decide +kernel : am_at co_X11_later 16 = some (1, .iload_n 3)) rfl ?_
      refine x_if (tgt := 27) (by decide +kernel : am_at co_X11_later 17 = some (3, .ifCond .lt 10)) rfl Iff.rfl (fun c4 => ?_) (fun c4 => ?_)
      · have h := h.1 c4
        refine x_iconst (by decide +kernel : am_at co_X11_later 27 = some (1, .iconst (-1))) ?_
        exact x_iret (by decide +kernel : am_at co_X11_later 28 = some (1, .ireturn)) h
      · have c4 := (Int.not_lt.mp c4)
        have h := h.2 c4
        refine x_iload_n (by decide +kernel : am_at co_X11_later 20 = some (1, .iload_n 3)) rfl ?_
        refine x_sipush (by decide +kernel : am_at co_X11_later 21 = some (3, .sipush 200)) ?_
        refine x_icmp (tgt := 29) (by decide +kernel : am_at co_X11_later 24 = some (3, .if_icmp .le 5)) rfl Iff.rfl (fun c5 => ?_) (fun c5 => ?_)
        · have h := h.1 c5
          refine x_aload_n (by decide +kernel : am_at co_X11_later 29 = some (1, .aload_n 0)) rfl ?_
          refine x_getF (by decide +kernel : am_at co_X11_later 30 = some (3, .getfield 69)) pq_11_69 (by decide) rfl ob_0 ?_
          refine x_top2 (show 0 + 88 = 88 from rfl) ?_
          refine x_aload_n (by decide +kernel : am_at co_X11_later 33 = some (1, .aload_n 0)) rfl ?_
          refine x_getf (by decide +kernel : am_at co_X11_later 34 = some (3, .getfield 44)) pq_11_44 rfl ob_0 ?_
          refine x_aload_n (by decide +kernel : am_at co_X11_later 37 = some (1, .aload_n 0)) rfl ?_
          refine x_getF (by decide +kernel : am_at co_X11_later 38 = some (3, .getfield 55)) pq_11_55 (by decide) rfl ob_0 ?_
          refine x_top2 (show 0 + 37 = 37 from rfl) ?_
          refine x_iload_n (by decide +kernel : am_at co_X11_later 41 = some (1, .iload_n 1)) rfl ?_
          obtain ⟨o6, h⟩ := h
          refine x_aald (by decide +kernel : am_at co_X11_later 42 = some (1, .aaload)) (ia_37 o6.1 o6.2) ?_
          refine x_callV (n := 3) (by decide +kernel : am_at co_X11_later 43 = some (3, .invokevirtual 215)) pq_11_215 pm_X1_go rfl rfl rfl ob_88 h (x_kv fun M8 h => ?_)
          refine x_aload_n (by decide +kernel : am_at co_X11_later 46 = some (1, .aload_n 0)) rfl ?_
          refine x_getF (by decide +kernel : am_at co_X11_later 47 = some (3, .getfield 69)) pq_11_69 (by decide) rfl ob_0 ?_
          refine x_top2 (show 0 + 88 = 88 from rfl) ?_
          refine x_iload_n (by decide +kernel : am_at co_X11_later 50 = some (1, .iload_n 3)) rfl ?_
          refine x_aload_n (by decide +kernel : am_at co_X11_later 51 = some (1, .aload_n 0)) rfl ?_
          refine x_getF (by decide +kernel : am_at co_X11_later 52 = some (3, .getfield 69)) pq_11_69 (by decide) rfl ob_0 ?_
          refine x_top2 (show 0 + 88 = 88 from rfl) ?_
          refine x_getf (by decide +kernel : am_at co_X11_later 55 = some (3, .getfield 222)) pq_11_222 rfl ob_88 ?_
          refine x_callS (n := 2) (by decide +kernel : am_at co_X11_later 58 = some (3, .invokestatic 223)) pq_11_223 rfl rfl rfl h (x_k0 fun x9 M9 h => ?_)
          refine x_iload_n (by decide +kernel : am_at co_X11_later 61 = some (1, .iload_n 2)) rfl ?_
          refine x_callV (n := 3) (by decide +kernel : am_at co_X11_later 62 = some (3, .invokevirtual 228)) pq_11_228 pm_X1_weightAt rfl rfl rfl ob_88 h (x_k0 fun x10 M10 h => ?_)
          exact x_iret (by decide +kernel : am_at co_X11_later 65 = some (1, .ireturn)) h
        · have c5 := (Int.not_le.mp c5)
          have h := h.2 c5
          refine x_iconst (by decide +kernel : am_at co_X11_later 27 = some (1, .iconst (-1))) ?_
          exact x_iret (by decide +kernel : am_at co_X11_later 28 = some (1, .ireturn)) h
set_option maxRecDepth 20000 in
theorem bk_X11_till_0 {d : Nat} {Q : am_Q} {M : am_M} {v1 : Int} (h : am_cal pg d 161 [(2, 0), (0, v1)] sh_T M (am_c0 sh_T fun x1 M1 => ((¬ x1 = 0 → (0 ≤ v1 ∧ v1 < 4) ∧ am_cal pg d 5 [(2, 88), (2, M1 0 4), (2, 37 + 1 + 2 * v1)] sh_T M1 (am_cv sh_T fun M4 => ((M4 88 3 = 0 → Q (some (0, (-1)), sh_T, M4)) ∧ (¬ M4 88 3 = 0 → Q (some (0, M4 88 2), sh_T, M4))))) ∧ (x1 = 0 → Q (some (0, (-1)), sh_T, M1))))) : am_g 11 0 co_X11_till d Q 0 [(2, 0), (0, v1)] [] sh_T M := by
  refine x_aload_n (by decide +kernel : am_at co_X11_till 0 = some (1, .aload_n 0)) rfl ?_
  refine x_iload_n (by decide +kernel : am_at co_X11_till 1 = some (1, .iload_n 1)) rfl ?_
  refine x_callV (n := 2) (by decide +kernel : am_at co_X11_till 2 = some (3, .invokevirtual 170)) pq_11_170 pm_X11_isDreamer rfl rfl rfl ob_0 h (x_k0 fun x1 M1 h => ?_)
  refine x_if (tgt := 10) (by decide +kernel : am_at co_X11_till 5 = some (3, .ifCond .ne 5)) rfl Iff.rfl (fun c1 => ?_) (fun c1 => ?_)
  · have h := h.1 c1
    refine x_aload_n (by decide +kernel : am_at co_X11_till 10 = some (1, .aload_n 0)) rfl ?_
    refine x_getF (by decide +kernel : am_at co_X11_till 11 = some (3, .getfield 69)) pq_11_69 (by decide) rfl ob_0 ?_
    refine x_top2 (show 0 + 88 = 88 from rfl) ?_
    refine x_aload_n (by decide +kernel : am_at co_X11_till 14 = some (1, .aload_n 0)) rfl ?_
    refine x_getf (by decide +kernel : am_at co_X11_till 15 = some (3, .getfield 44)) pq_11_44 rfl ob_0 ?_
    refine x_aload_n (by decide +kernel : am_at co_X11_till 18 = some (1, .aload_n 0)) rfl ?_
    refine x_getF (by decide +kernel : am_at co_X11_till 19 = some (3, .getfield 55)) pq_11_55 (by decide) rfl ob_0 ?_
    refine x_top2 (show 0 + 37 = 37 from rfl) ?_
    refine x_iload_n (by decide +kernel : am_at co_X11_till 22 = some (1, .iload_n 1)) rfl ?_
    obtain ⟨o2, h⟩ := h
    refine x_aald (by decide +kernel : am_at co_X11_till 23 = some (1, .aaload)) (ia_37 o2.1 o2.2) ?_
    refine x_callV (n := 3) (by decide +kernel : am_at co_X11_till 24 = some (3, .invokevirtual 215)) pq_11_215 pm_X1_go rfl rfl rfl ob_88 h (x_kv fun M4 h => ?_)
    refine x_aload_n (by decide +kernel : am_at co_X11_till 27 = some (1, .aload_n 0)) rfl ?_
    refine x_getF (by decide +kernel : am_at co_X11_till 28 = some (3, .getfield 69)) pq_11_69 (by decide) rfl ob_0 ?_
    refine x_top2 (show 0 + 88 = 88 from rfl) ?_
    refine x_getf (by decide +kernel : am_at co_X11_till 31 = some (3, .getfield 231)) pq_11_231 rfl ob_88 ?_
    refine x_if (tgt := 47) (by decide +kernel : am_at co_X11_till 34 = some (3, .ifCond .eq 13)) rfl Iff.rfl (fun c4 => ?_) (fun c4 => ?_)
    · have h := h.1 c4
      refine x_iconst (by decide +kernel : am_at co_X11_till 47 = some (1, .iconst (-1))) ?_
      exact x_iret (by decide +kernel : am_at co_X11_till 48 = some (1, .ireturn)) h
    · have c4 := c4
      have h := h.2 c4
      refine x_aload_n (by decide +kernel : am_at co_X11_till 37 = some (1, .aload_n 0)) rfl ?_
      refine x_getF (by decide +kernel : am_at co_X11_till 38 = some (3, .getfield 69)) pq_11_69 (by decide) rfl ob_0 ?_
      refine x_top2 (show 0 + 88 = 88 from rfl) ?_
      refine x_getf (by decide +kernel : am_at co_X11_till 41 = some (3, .getfield 222)) pq_11_222 rfl ob_88 ?_
      refine x_goto (tgt := 48) (by decide +kernel : am_at co_X11_till 44 = some (3, .goto 4)) rfl ?_
      exact x_iret (by decide +kernel : am_at co_X11_till 48 = some (1, .ireturn)) h
  · have c1 := (Classical.not_not.mp c1)
    have h := h.2 c1
    refine x_iconst (by decide +kernel : am_at co_X11_till 8 = some (1, .iconst (-1))) ?_
    exact x_iret (by decide +kernel : am_at co_X11_till 9 = some (1, .ireturn)) h
set_option maxRecDepth 20000 in
theorem bk_X11_again_0 {d : Nat} {Q : am_Q} {M : am_M} {v1 v2 : Int} (h : am_cal pg d 161 [(2, 0), (0, v1)] sh_T M (am_c0 sh_T fun x1 M1 => ((x1 = 0 → Q (some (0, (-1)), sh_T, M1)) ∧ (¬ x1 = 0 → ((v2 < 0 → Q (some (0, (-1)), sh_T, M1)) ∧ (0 ≤ v2 → ((v2 ≤ 1 → (0 ≤ v1 ∧ v1 < 4) ∧ am_cal pg d 5 [(2, 88), (2, M1 0 4), (2, 37 + 1 + 2 * v1)] sh_T M1 (am_cv sh_T fun M6 => am_g 11 0 co_X11_again d Q 38 [(2, 0), (3, 0), (0, v2), (0, 1), (3, 0)] [] sh_T M6)) ∧ (1 < v2 → Q (some (0, (-1)), sh_T, M1))))))))) : am_g 11 0 co_X11_again d Q 0 [(2, 0), (0, v1), (0, v2), (3, 0), (3, 0)] [] sh_T M := by
  refine x_aload_n (by decide +kernel : am_at co_X11_again 0 = some (1, .aload_n 0)) rfl ?_
  refine x_iload_n (by decide +kernel : am_at co_X11_again 1 = some (1, .iload_n 1)) rfl ?_
  refine x_callV (n := 2) (by decide +kernel : am_at co_X11_again 2 = some (3, .invokevirtual 170)) pq_11_170 pm_X11_isDreamer rfl rfl rfl ob_0 h (x_k0 fun x1 M1 h => ?_)
  refine x_if (tgt := 17) (by decide +kernel : am_at co_X11_again 5 = some (3, .ifCond .eq 12)) rfl Iff.rfl (fun c1 => ?_) (fun c1 => ?_)
  · have h := h.1 c1
    refine x_iconst (by decide +kernel : am_at co_X11_again 17 = some (1, .iconst (-1))) ?_
    exact x_iret (by decide +kernel : am_at co_X11_again 18 = some (1, .ireturn)) h
  · have c1 := c1
    have h := h.2 c1
    refine x_iload_n (by decide +kernel : am_at co_X11_again 8 = some (1, .iload_n 2)) rfl ?_
    refine x_if (tgt := 17) (by decide +kernel : am_at co_X11_again 9 = some (3, .ifCond .lt 8)) rfl Iff.rfl (fun c2 => ?_) (fun c2 => ?_)
    · have h := h.1 c2
      refine x_iconst (by decide +kernel : am_at co_X11_again 17 = some (1, .iconst (-1))) ?_
      exact x_iret (by decide +kernel : am_at co_X11_again 18 = some (1, .ireturn)) h
    · have c2 := (Int.not_lt.mp c2)
      have h := h.2 c2
      refine x_iload_n (by decide +kernel : am_at co_X11_again 12 = some (1, .iload_n 2)) rfl ?_
      refine x_iconst (by decide +kernel : am_at co_X11_again 13 = some (1, .iconst 1)) ?_
      refine x_icmp (tgt := 19) (by decide +kernel : am_at co_X11_again 14 = some (3, .if_icmp .le 5)) rfl Iff.rfl (fun c3 => ?_) (fun c3 => ?_)
      · have h := h.1 c3
        refine x_aload_n (by decide +kernel : am_at co_X11_again 19 = some (1, .aload_n 0)) rfl ?_
        refine x_getF (by decide +kernel : am_at co_X11_again 20 = some (3, .getfield 69)) pq_11_69 (by decide) rfl ob_0 ?_
        refine x_top2 (show 0 + 88 = 88 from rfl) ?_
        refine x_aload_n (by decide +kernel : am_at co_X11_again 23 = some (1, .aload_n 0)) rfl ?_
        refine x_getf (by decide +kernel : am_at co_X11_again 24 = some (3, .getfield 44)) pq_11_44 rfl ob_0 ?_
        refine x_aload_n (by decide +kernel : am_at co_X11_again 27 = some (1, .aload_n 0)) rfl ?_
        refine x_getF (by decide +kernel : am_at co_X11_again 28 = some (3, .getfield 55)) pq_11_55 (by decide) rfl ob_0 ?_
        refine x_top2 (show 0 + 37 = 37 from rfl) ?_
        refine x_iload_n (by decide +kernel : am_at co_X11_again 31 = some (1, .iload_n 1)) rfl ?_
        obtain ⟨o4, h⟩ := h
        refine x_aald (by decide +kernel : am_at co_X11_again 32 = some (1, .aaload)) (ia_37 o4.1 o4.2) ?_
        refine x_callV (n := 3) (by decide +kernel : am_at co_X11_again 33 = some (3, .invokevirtual 215)) pq_11_215 pm_X1_go rfl rfl rfl ob_88 h (x_kv fun M6 h => ?_)
        refine x_iconst (by decide +kernel : am_at co_X11_again 36 = some (1, .iconst 1)) ?_
        refine x_istore_n (L' := [(2, 0), (0, v1), (0, v2), (0, 1), (3, 0)]) (by decide +kernel : am_at co_X11_again 37 = some (1, .istore_n 3)) rfl ?_
        exact am_weak (lk (ld (lk (lk (lk ln))))) h
      · have c3 := (Int.not_le.mp c3)
        have h := h.2 c3
        refine x_iconst (by decide +kernel : am_at co_X11_again 17 = some (1, .iconst (-1))) ?_
        exact x_iret (by decide +kernel : am_at co_X11_again 18 = some (1, .ireturn)) h
set_option maxRecDepth 20000 in
theorem bk_X11_again_38 {d : Nat} {Q : am_Q} {M : am_M} {v2 v3 : Int} (h : ((M 88 2 ≤ v3 → Q (some (0, (-1)), sh_T, M)) ∧ (v3 < M 88 2 → am_cal pg d 8 [(2, 88), (0, v3)] sh_T M (am_c0 sh_T fun x2 M2 => am_r (v3 - x2) ∧ ((v3 - x2 ≤ 0 → am_r (v3 + 1) ∧ am_g 11 0 co_X11_again d Q 38 [(2, 0), (3, 0), (0, v2), (0, v3 + 1), (3, 0)] [] sh_T M2) ∧ (0 < v3 - x2 → ((¬ v2 = 0 → Q (some (0, v3 - x2), sh_T, M2)) ∧ (v2 = 0 → Q (some (0, v3), sh_T, M2))))))))) : am_g 11 0 co_X11_again d Q 38 [(2, 0), (3, 0), (0, v2), (0, v3), (3, 0)] [] sh_T M := by
  refine x_iload_n (by decide +kernel : am_at co_X11_again 38 = some (1, .iload_n 3)) rfl ?_
  refine x_aload_n (by decide +kernel : am_at co_X11_again 39 = some (1, .aload_n 0)) rfl ?_
  refine x_getF (by decide +kernel : am_at co_X11_again 40 = some (3, .getfield 69)) pq_11_69 (by decide) rfl ob_0 ?_
  refine x_top2 (show 0 + 88 = 88 from rfl) ?_
  refine x_getf (by decide +kernel : am_at co_X11_again 43 = some (3, .getfield 222)) pq_11_222 rfl ob_88 ?_
  refine x_icmp (tgt := 83) (by decide +kernel : am_at co_X11_again 46 = some (3, .if_icmp .ge 37)) rfl Iff.rfl (fun c0 => ?_) (fun c0 => ?_)
  · have h := h.1 c0
    refine x_iconst (by decide +kernel : am_at co_X11_again 83 = some (1, .iconst (-1))) ?_
    exact x_iret (by decide +kernel : am_at co_X11_again 84 = some (1, .ireturn)) h
  · have c0 := (Int.not_le.mp c0)
    have h := h.2 c0
    refine x_iload_n (by decide +kernel : am_at co_X11_again 49 = some (1, .iload_n 3)) rfl ?_
    refine x_aload_n (by decide +kernel : am_at co_X11_again 50 = some (1, .aload_n 0)) rfl ?_
    refine x_getF (by decide +kernel : am_at co_X11_again 51 = some (3, .getfield 69)) pq_11_69 (by decide) rfl ob_0 ?_
    refine x_top2 (show 0 + 88 = 88 from rfl) ?_
    refine x_iload_n (by decide +kernel : am_at co_X11_again 54 = some (1, .iload_n 3)) rfl ?_
    refine x_callV (n := 2) (by decide +kernel : am_at co_X11_again 55 = some (3, .invokevirtual 234)) pq_11_234 pm_X1_firstLike rfl rfl rfl ob_88 h (x_k0 fun x2 M2 h => ?_)
    obtain ⟨o2, h⟩ := h
    refine x_isub (by decide +kernel : am_at co_X11_again 58 = some (1, .isub)) o2 ?_
    refine x_istore (L' := [(2, 0), (3, 0), (0, v2), (0, v3), (0, v3 - x2)]) (by decide +kernel : am_at co_X11_again 59 = some (2, .istore 4)) rfl ?_
    refine x_iload (by decide +kernel : am_at co_X11_again 61 = some (2, .iload 4)) rfl ?_
    refine x_if (tgt := 77) (by decide +kernel : am_at co_X11_again 63 = some (3, .ifCond .le 14)) rfl Iff.rfl (fun c3 => ?_) (fun c3 => ?_)
    · have h := h.1 c3
      obtain ⟨o4, h⟩ := h
      refine x_iinc (L' := [(2, 0), (3, 0), (0, v2), (0, v3 + 1), (0, v3 - x2)]) (by decide +kernel : am_at co_X11_again 77 = some (3, .iinc 3 1)) rfl o4 rfl ?_
      refine x_goto (tgt := 38) (by decide +kernel : am_at co_X11_again 80 = some (3, .goto (-42))) rfl ?_
      exact am_weak (lk (lk (lk (lk (ld ln))))) h
    · have c3 := (Int.not_le.mp c3)
      have h := h.2 c3
      refine x_iload_n (by decide +kernel : am_at co_X11_again 66 = some (1, .iload_n 2)) rfl ?_
      refine x_if (tgt := 74) (by decide +kernel : am_at co_X11_again 67 = some (3, .ifCond .ne 7)) rfl Iff.rfl (fun c5 => ?_) (fun c5 => ?_)
      · have h := h.1 c5
        refine x_iload (by decide +kernel : am_at co_X11_again 74 = some (2, .iload 4)) rfl ?_
        exact x_iret (by decide +kernel : am_at co_X11_again 76 = some (1, .ireturn)) h
      · have c5 := (Classical.not_not.mp c5)
        have h := h.2 c5
        refine x_iload_n (by decide +kernel : am_at co_X11_again 70 = some (1, .iload_n 3)) rfl ?_
        refine x_goto (tgt := 76) (by decide +kernel : am_at co_X11_again 71 = some (3, .goto 5)) rfl ?_
        exact x_iret (by decide +kernel : am_at co_X11_again 76 = some (1, .ireturn)) h
set_option maxRecDepth 20000 in
theorem bk_X11_soonest_0 {d : Nat} {Q : am_Q} {M : am_M} {v1 v2 : Int} (h : am_cal pg d 161 [(2, 0), (0, v1)] sh_T M (am_c0 sh_T fun x1 M1 => ((¬ x1 = 0 → (0 ≤ v1 ∧ v1 < 4) ∧ am_cal pg d 113 [(2, 95), (2, M1 0 4), (2, 37 + 1 + 2 * v1), (0, 11)] sh_T M1 (am_c0 sh_T fun x4 M4 => ((¬ v2 = (-1) → am_cal pg d 115 [(2, 95), (0, v2), (0, x4)] sh_T M4 (am_c0 sh_T fun x6 M6 => Q (some (0, x6), sh_T, M6))) ∧ (v2 = (-1) → Q (some (0, x4), sh_T, M4))))) ∧ (x1 = 0 → Q (some (0, (-1)), sh_T, M1))))) : am_g 11 0 co_X11_soonest d Q 0 [(2, 0), (0, v1), (0, v2), (3, 0)] [] sh_T M := by
  refine x_aload_n (by decide +kernel : am_at co_X11_soonest 0 = some (1, .aload_n 0)) rfl ?_
  refine x_iload_n (by decide +kernel : am_at co_X11_soonest 1 = some (1, .iload_n 1)) rfl ?_
  refine x_callV (n := 2) (by decide +kernel : am_at co_X11_soonest 2 = some (3, .invokevirtual 170)) pq_11_170 pm_X11_isDreamer rfl rfl rfl ob_0 h (x_k0 fun x1 M1 h => ?_)
  refine x_if (tgt := 10) (by decide +kernel : am_at co_X11_soonest 5 = some (3, .ifCond .ne 5)) rfl Iff.rfl (fun c1 => ?_) (fun c1 => ?_)
  · have h := h.1 c1
    refine x_aload_n (by decide +kernel : am_at co_X11_soonest 10 = some (1, .aload_n 0)) rfl ?_
    refine x_getF (by decide +kernel : am_at co_X11_soonest 11 = some (3, .getfield 76)) pq_11_76 (by decide) rfl ob_0 ?_
    refine x_top2 (show 0 + 95 = 95 from rfl) ?_
    refine x_aload_n (by decide +kernel : am_at co_X11_soonest 14 = some (1, .aload_n 0)) rfl ?_
    refine x_getf (by decide +kernel : am_at co_X11_soonest 15 = some (3, .getfield 44)) pq_11_44 rfl ob_0 ?_
    refine x_aload_n (by decide +kernel : am_at co_X11_soonest 18 = some (1, .aload_n 0)) rfl ?_
    refine x_getF (by decide +kernel : am_at co_X11_soonest 19 = some (3, .getfield 55)) pq_11_55 (by decide) rfl ob_0 ?_
    refine x_top2 (show 0 + 37 = 37 from rfl) ?_
    refine x_iload_n (by decide +kernel : am_at co_X11_soonest 22 = some (1, .iload_n 1)) rfl ?_
    obtain ⟨o2, h⟩ := h
    refine x_aald (by decide +kernel : am_at co_X11_soonest 23 = some (1, .aaload)) (ia_37 o2.1 o2.2) ?_
    refine x_bipush (by decide +kernel : am_at co_X11_soonest 24 = some (2, .bipush 11)) ?_
    refine x_callV (n := 4) (by decide +kernel : am_at co_X11_soonest 26 = some (3, .invokevirtual 237)) pq_11_237 pm_X10_findSoonest rfl rfl rfl ob_95 h (x_k0 fun x4 M4 h => ?_)
    refine x_istore_n (L' := [(2, 0), (0, v1), (0, v2), (0, x4)]) (by decide +kernel : am_at co_X11_soonest 29 = some (1, .istore_n 3)) rfl ?_
    refine x_iload_n (by decide +kernel : am_at co_X11_soonest 30 = some (1, .iload_n 2)) rfl ?_
    refine x_iconst (by decide +kernel : am_at co_X11_soonest 31 = some (1, .iconst (-1))) ?_
    refine x_icmp (tgt := 39) (by decide +kernel : am_at co_X11_soonest 32 = some (3, .if_icmp .ne 7)) rfl Iff.rfl (fun c4 => ?_) (fun c4 => ?_)
    · have h := h.1 c4
      refine x_aload_n (by decide +kernel : am_at co_X11_soonest 39 = some (1, .aload_n 0)) rfl ?_
      refine x_getF (by decide +kernel : am_at co_X11_soonest 40 = some (3, .getfield 76)) pq_11_76 (by decide) rfl ob_0 ?_
      refine x_top2 (show 0 + 95 = 95 from rfl) ?_
      refine x_iload_n (by decide +kernel : am_at co_X11_soonest 43 = some (1, .iload_n 2)) rfl ?_
      refine x_iload_n (by decide +kernel : am_at co_X11_soonest 44 = some (1, .iload_n 3)) rfl ?_
      refine x_callV (n := 3) (by decide +kernel : am_at co_X11_soonest 45 = some (3, .invokevirtual 241)) pq_11_241 pm_X10_turn rfl rfl rfl ob_95 h (x_k0 fun x6 M6 h => ?_)
      exact x_iret (by decide +kernel : am_at co_X11_soonest 48 = some (1, .ireturn)) h
    · have c4 := (Classical.not_not.mp c4)
      have h := h.2 c4
      refine x_iload_n (by decide +kernel : am_at co_X11_soonest 35 = some (1, .iload_n 3)) rfl ?_
      refine x_goto (tgt := 48) (by decide +kernel : am_at co_X11_soonest 36 = some (3, .goto 12)) rfl ?_
      exact x_iret (by decide +kernel : am_at co_X11_soonest 48 = some (1, .ireturn)) h
  · have c1 := (Classical.not_not.mp c1)
    have h := h.2 c1
    refine x_iconst (by decide +kernel : am_at co_X11_soonest 8 = some (1, .iconst (-1))) ?_
    exact x_iret (by decide +kernel : am_at co_X11_soonest 9 = some (1, .ireturn)) h
set_option maxRecDepth 20000 in
theorem bk_X11_least_0 {d : Nat} {Q : am_Q} {M : am_M} {v1 v2 : Int} (h : am_cal pg d 161 [(2, 0), (0, v1)] sh_T M (am_c0 sh_T fun x1 M1 => ((¬ x1 = 0 → (0 ≤ v1 ∧ v1 < 4) ∧ am_cal pg d 114 [(2, 95), (2, M1 0 4), (2, 37 + 1 + 2 * v1)] sh_T M1 (am_c0 sh_T fun x4 M4 => ((¬ x4 = (-1) → ((¬ v2 = (-1) → ((¬ v2 = 20 → am_cal pg d 115 [(2, 95), (0, v2), (0, x4)] sh_T M4 (am_c0 sh_T fun x8 M8 => Q (some (0, x8), sh_T, M8))) ∧ (v2 = 20 → Q (some (0, x4), sh_T, M4)))) ∧ (v2 = (-1) → Q (some (0, M4 95 4), sh_T, M4)))) ∧ (x4 = (-1) → Q (some (0, (-1)), sh_T, M4))))) ∧ (x1 = 0 → Q (some (0, (-1)), sh_T, M1))))) : am_g 11 0 co_X11_least d Q 0 [(2, 0), (0, v1), (0, v2), (3, 0)] [] sh_T M := by
  refine x_aload_n (by decide +kernel : am_at co_X11_least 0 = some (1, .aload_n 0)) rfl ?_
  refine x_iload_n (by decide +kernel : am_at co_X11_least 1 = some (1, .iload_n 1)) rfl ?_
  refine x_callV (n := 2) (by decide +kernel : am_at co_X11_least 2 = some (3, .invokevirtual 170)) pq_11_170 pm_X11_isDreamer rfl rfl rfl ob_0 h (x_k0 fun x1 M1 h => ?_)
  refine x_if (tgt := 10) (by decide +kernel : am_at co_X11_least 5 = some (3, .ifCond .ne 5)) rfl Iff.rfl (fun c1 => ?_) (fun c1 => ?_)
  · have h := h.1 c1
    refine x_aload_n (by decide +kernel : am_at co_X11_least 10 = some (1, .aload_n 0)) rfl ?_
    refine x_getF (by decide +kernel : am_at co_X11_least 11 = some (3, .getfield 76)) pq_11_76 (by decide) rfl ob_0 ?_
    refine x_top2 (show 0 + 95 = 95 from rfl) ?_
    refine x_aload_n (by decide +kernel : am_at co_X11_least 14 = some (1, .aload_n 0)) rfl ?_
    refine x_getf (by decide +kernel : am_at co_X11_least 15 = some (3, .getfield 44)) pq_11_44 rfl ob_0 ?_
    refine x_aload_n (by decide +kernel : am_at co_X11_least 18 = some (1, .aload_n 0)) rfl ?_
    refine x_getF (by decide +kernel : am_at co_X11_least 19 = some (3, .getfield 55)) pq_11_55 (by decide) rfl ob_0 ?_
    refine x_top2 (show 0 + 37 = 37 from rfl) ?_
    refine x_iload_n (by decide +kernel : am_at co_X11_least 22 = some (1, .iload_n 1)) rfl ?_
    obtain ⟨o2, h⟩ := h
    refine x_aald (by decide +kernel : am_at co_X11_least 23 = some (1, .aaload)) (ia_37 o2.1 o2.2) ?_
    refine x_callV (n := 3) (by decide +kernel : am_at co_X11_least 24 = some (3, .invokevirtual 244)) pq_11_244 pm_X10_findLeast rfl rfl rfl ob_95 h (x_k0 fun x4 M4 h => ?_)
    refine x_istore_n (L' := [(2, 0), (0, v1), (0, v2), (0, x4)]) (by decide +kernel : am_at co_X11_least 27 = some (1, .istore_n 3)) rfl ?_
    refine x_iload_n (by decide +kernel : am_at co_X11_least 28 = some (1, .iload_n 3)) rfl ?_
    refine x_iconst (by decide +kernel : am_at co_X11_least 29 = some (1, .iconst (-1))) ?_
    refine x_icmp (tgt := 35) (by decide +kernel : am_at co_X11_least 30 = some (3, .if_icmp .ne 5)) rfl Iff.rfl (fun c4 => ?_) (fun c4 => ?_)
    · have h := h.1 c4
      refine x_iload_n (by decide +kernel : am_at co_X11_least 35 = some (1, .iload_n 2)) rfl ?_
      refine x_iconst (by decide +kernel : am_at co_X11_least 36 = some (1, .iconst (-1))) ?_
      refine x_icmp (tgt := 48) (by decide +kernel : am_at co_X11_least 37 = some (3, .if_icmp .ne 11)) rfl Iff.rfl (fun c5 => ?_) (fun c5 => ?_)
      · have h := h.1 c5
        refine x_iload_n (by decide +kernel : am_at co_X11_least 48 = some (1, .iload_n 2)) rfl ?_
        refine x_bipush (by decide +kernel : am_at co_X11_least 49 = some (2, .bipush 20)) ?_
        refine x_icmp (tgt := 58) (by decide +kernel : am_at co_X11_least 51 = some (3, .if_icmp .ne 7)) rfl Iff.rfl (fun c6 => ?_) (fun c6 => ?_)
        · have h := h.1 c6
          refine x_aload_n (by decide +kernel : am_at co_X11_least 58 = some (1, .aload_n 0)) rfl ?_
          refine x_getF (by decide +kernel : am_at co_X11_least 59 = some (3, .getfield 76)) pq_11_76 (by decide) rfl ob_0 ?_
          refine x_top2 (show 0 + 95 = 95 from rfl) ?_
          refine x_iload_n (by decide +kernel : am_at co_X11_least 62 = some (1, .iload_n 2)) rfl ?_
          refine x_iload_n (by decide +kernel : am_at co_X11_least 63 = some (1, .iload_n 3)) rfl ?_
          refine x_callV (n := 3) (by decide +kernel : am_at co_X11_least 64 = some (3, .invokevirtual 241)) pq_11_241 pm_X10_turn rfl rfl rfl ob_95 h (x_k0 fun x8 M8 h => ?_)
          exact x_iret (by decide +kernel : am_at co_X11_least 67 = some (1, .ireturn)) h
        · have c6 := (Classical.not_not.mp c6)
          have h := h.2 c6
          refine x_iload_n (by decide +kernel : am_at co_X11_least 54 = some (1, .iload_n 3)) rfl ?_
          refine x_goto (tgt := 67) (by decide +kernel : am_at co_X11_least 55 = some (3, .goto 12)) rfl ?_
          exact x_iret (by decide +kernel : am_at co_X11_least 67 = some (1, .ireturn)) h
      · have c5 := (Classical.not_not.mp c5)
        have h := h.2 c5
        refine x_aload_n (by decide +kernel : am_at co_X11_least 40 = some (1, .aload_n 0)) rfl ?_
        refine x_getF (by decide +kernel : am_at co_X11_least 41 = some (3, .getfield 76)) pq_11_76 (by decide) rfl ob_0 ?_
        refine x_top2 (show 0 + 95 = 95 from rfl) ?_
        refine x_getf (by decide +kernel : am_at co_X11_least 44 = some (3, .getfield 248)) pq_11_248 rfl ob_95 ?_
        exact x_iret (by decide +kernel : am_at co_X11_least 47 = some (1, .ireturn)) h
    · have c4 := (Classical.not_not.mp c4)
      have h := h.2 c4
      refine x_iconst (by decide +kernel : am_at co_X11_least 33 = some (1, .iconst (-1))) ?_
      exact x_iret (by decide +kernel : am_at co_X11_least 34 = some (1, .ireturn)) h
  · have c1 := (Classical.not_not.mp c1)
    have h := h.2 c1
    refine x_iconst (by decide +kernel : am_at co_X11_least 8 = some (1, .iconst (-1))) ?_
    exact x_iret (by decide +kernel : am_at co_X11_least 9 = some (1, .ireturn)) h
set_option maxRecDepth 20000 in
theorem bk_X11_along_0 {d : Nat} {Q : am_Q} {M : am_M} {v1 v2 : Int} (h : am_cal pg d 161 [(2, 0), (0, v1)] sh_T M (am_c0 sh_T fun x1 M1 => ((x1 = 0 → Q (some (0, (-1)), sh_T, M1)) ∧ (¬ x1 = 0 → ((v2 < 0 → Q (some (0, (-1)), sh_T, M1)) ∧ (0 ≤ v2 → ((v2 ≤ 1 → (0 ≤ v1 ∧ v1 < 4) ∧ am_cal pg d 119 [(2, 95), (2, M1 0 4), (2, 37 + 1 + 2 * v1)] sh_T M1 (am_c0 sh_T fun x6 M6 => ((v2 = 1 → Q (some (0, x6), sh_T, M6)) ∧ (¬ v2 = 1 → ((¬ x6 = (-1) → am_r ((M6 95 7) + 1) ∧ Q (some (0, (M6 95 7) + 1), sh_T, M6)) ∧ (x6 = (-1) → Q (some (0, x6), sh_T, M6))))))) ∧ (1 < v2 → Q (some (0, (-1)), sh_T, M1))))))))) : am_g 11 0 co_X11_along d Q 0 [(2, 0), (0, v1), (0, v2), (3, 0)] [] sh_T M := by
  refine x_aload_n (by decide +kernel : am_at co_X11_along 0 = some (1, .aload_n 0)) rfl ?_
  refine x_iload_n (by decide +kernel : am_at co_X11_along 1 = some (1, .iload_n 1)) rfl ?_
  refine x_callV (n := 2) (by decide +kernel : am_at co_X11_along 2 = some (3, .invokevirtual 170)) pq_11_170 pm_X11_isDreamer rfl rfl rfl ob_0 h (x_k0 fun x1 M1 h => ?_)
  refine x_if (tgt := 17) (by decide +kernel : am_at co_X11_along 5 = some (3, .ifCond .eq 12)) rfl Iff.rfl (fun c1 => ?_) (fun c1 => ?_)
  · have h := h.1 c1
    refine x_iconst (by decide +kernel : am_at co_X11_along 17 = some (1, .iconst (-1))) ?_
    exact x_iret (by decide +kernel : am_at co_X11_along 18 = some (1, .ireturn)) h
  · have c1 := c1
    have h := h.2 c1
    refine x_iload_n (by decide +kernel : am_at co_X11_along 8 = some (1, .iload_n 2)) rfl ?_
    refine x_if (tgt := 17) (by decide +kernel : am_at co_X11_along 9 = some (3, .ifCond .lt 8)) rfl Iff.rfl (fun c2 => ?_) (fun c2 => ?_)
    · have h := h.1 c2
      refine x_iconst (by decide +kernel : am_at co_X11_along 17 = some (1, .iconst (-1))) ?_
      exact x_iret (by decide +kernel : am_at co_X11_along 18 = some (1, .ireturn)) h
    · have c2 := (Int.not_lt.mp c2)
      have h := h.2 c2
      refine x_iload_n (by decide +kernel : am_at co_X11_along 12 = some (1, .iload_n 2)) rfl ?_
      refine x_iconst (by decide +kernel : am_at co_X11_along 13 = some (1, .iconst 1)) ?_
      refine x_icmp (tgt := 19) (by decide +kernel : am_at co_X11_along 14 = some (3, .if_icmp .le 5)) rfl Iff.rfl (fun c3 => ?_) (fun c3 => ?_)
      · have h := h.1 c3
        refine x_aload_n (by decide +kernel : am_at co_X11_along 19 = some (1, .aload_n 0)) rfl ?_
        refine x_getF (by decide +kernel : am_at co_X11_along 20 = some (3, .getfield 76)) pq_11_76 (by decide) rfl ob_0 ?_
        refine x_top2 (show 0 + 95 = 95 from rfl) ?_
        refine x_aload_n (by decide +kernel : am_at co_X11_along 23 = some (1, .aload_n 0)) rfl ?_
        refine x_getf (by decide +kernel : am_at co_X11_along 24 = some (3, .getfield 44)) pq_11_44 rfl ob_0 ?_
        refine x_aload_n (by decide +kernel : am_at co_X11_along 27 = some (1, .aload_n 0)) rfl ?_
        refine x_getF (by decide +kernel : am_at co_X11_along 28 = some (3, .getfield 55)) pq_11_55 (by decide) rfl ob_0 ?_
        refine x_top2 (show 0 + 37 = 37 from rfl) ?_
        refine x_iload_n (by decide +kernel : am_at co_X11_along 31 = some (1, .iload_n 1)) rfl ?_
        obtain ⟨o4, h⟩ := h
        refine x_aald (by decide +kernel : am_at co_X11_along 32 = some (1, .aaload)) (ia_37 o4.1 o4.2) ?_
        refine x_callV (n := 3) (by decide +kernel : am_at co_X11_along 33 = some (3, .invokevirtual 251)) pq_11_251 pm_X10_findGuide rfl rfl rfl ob_95 h (x_k0 fun x6 M6 h => ?_)
        refine x_istore_n (L' := [(2, 0), (0, v1), (0, v2), (0, x6)]) (by decide +kernel : am_at co_X11_along 36 = some (1, .istore_n 3)) rfl ?_
        refine x_iload_n (by decide +kernel : am_at co_X11_along 37 = some (1, .iload_n 2)) rfl ?_
        refine x_iconst (by decide +kernel : am_at co_X11_along 38 = some (1, .iconst 1)) ?_
        refine x_icmp (tgt := 47) (by decide +kernel : am_at co_X11_along 39 = some (3, .if_icmp .eq 8)) rfl Iff.rfl (fun c6 => ?_) (fun c6 => ?_)
        · have h := h.1 c6
          refine x_iload_n (by decide +kernel : am_at co_X11_along 47 = some (1, .iload_n 3)) rfl ?_
          refine x_goto (tgt := 60) (by decide +kernel : am_at co_X11_along 48 = some (3, .goto 12)) rfl ?_
          exact x_iret (by decide +kernel : am_at co_X11_along 60 = some (1, .ireturn)) h
        · have c6 := c6
          have h := h.2 c6
          refine x_iload_n (by decide +kernel : am_at co_X11_along 42 = some (1, .iload_n 3)) rfl ?_
          refine x_iconst (by decide +kernel : am_at co_X11_along 43 = some (1, .iconst (-1))) ?_
          refine x_icmp (tgt := 51) (by decide +kernel : am_at co_X11_along 44 = some (3, .if_icmp .ne 7)) rfl Iff.rfl (fun c7 => ?_) (fun c7 => ?_)
          · have h := h.1 c7
            refine x_aload_n (by decide +kernel : am_at co_X11_along 51 = some (1, .aload_n 0)) rfl ?_
            refine x_getF (by decide +kernel : am_at co_X11_along 52 = some (3, .getfield 76)) pq_11_76 (by decide) rfl ob_0 ?_
            refine x_top2 (show 0 + 95 = 95 from rfl) ?_
            refine x_getf (by decide +kernel : am_at co_X11_along 55 = some (3, .getfield 254)) pq_11_254 rfl ob_95 ?_
            refine x_iconst (by decide +kernel : am_at co_X11_along 58 = some (1, .iconst 1)) ?_
            obtain ⟨o8, h⟩ := h
            refine x_iadd (by decide +kernel : am_at co_X11_along 59 = some (1, .iadd)) o8 ?_
            exact x_iret (by decide +kernel : am_at co_X11_along 60 = some (1, .ireturn)) h
          · have c7 := (Classical.not_not.mp c7)
            have h := h.2 c7
            refine x_iload_n (by decide +kernel : am_at co_X11_along 47 = some (1, .iload_n 3)) rfl ?_
            refine x_goto (tgt := 60) (by decide +kernel : am_at co_X11_along 48 = some (3, .goto 12)) rfl ?_
            exact x_iret (by decide +kernel : am_at co_X11_along 60 = some (1, .ireturn)) h
      · have c3 := (Int.not_le.mp c3)
        have h := h.2 c3
        refine x_iconst (by decide +kernel : am_at co_X11_along 17 = some (1, .iconst (-1))) ?_
        exact x_iret (by decide +kernel : am_at co_X11_along 18 = some (1, .ireturn)) h
set_option maxRecDepth 20000 in
theorem bk_X11_days_0 {d : Nat} {Q : am_Q} {M : am_M} {v1 v2 v3 : Int} (h : am_cal pg d 161 [(2, 0), (0, v1)] sh_T M (am_c0 sh_T fun x1 M1 => ((x1 = 0 → Q (some (0, (-1)), sh_T, M1)) ∧ (¬ x1 = 0 → ((v2 < 0 → Q (some (0, (-1)), sh_T, M1)) ∧ (0 ≤ v2 → am_ob sh_T 2 (M1 0 4) ∧ am_cal pg d 14 [(2, M1 0 4), (0, 0)] sh_T M1 (am_c0 sh_T fun x5 M5 => ((am_shl 1 x5 ≤ v2 → Q (some (0, (-1)), sh_T, M5)) ∧ (v2 < am_shl 1 x5 → am_cal pg d 314 [(0, v2)] sh_T M5 (am_c0 sh_T fun x7 M7 => ((x7 ≤ 4 → (0 ≤ v1 ∧ v1 < 4) ∧ am_cal pg d 120 [(2, 95), (2, M7 0 4), (2, 37 + 1 + 2 * v1), (0, v2)] sh_T M7 (am_c0 sh_T fun x10 M10 => ((v3 = (-1) → Q (some (0, x10), sh_T, M10)) ∧ (¬ v3 = (-1) → ((¬ x10 = (-1) → ((v3 < 0 → Q (some (0, (-1)), sh_T, M10)) ∧ (0 ≤ v3 → am_cal pg d 314 [(0, v2)] sh_T M10 (am_c0 sh_T fun x14 M14 => ((x14 ≤ v3 → Q (some (0, (-1)), sh_T, M14)) ∧ (v3 < x14 → am_cal pg d 121 [(2, 95), (0, v3)] sh_T M14 (am_c0 sh_T fun x16 M16 => Q (some (0, x16), sh_T, M16)))))))) ∧ (x10 = (-1) → Q (some (0, x10), sh_T, M10))))))) ∧ (4 < x7 → Q (some (0, (-1)), sh_T, M7))))))))))))) : am_g 11 0 co_X11_days d Q 0 [(2, 0), (0, v1), (0, v2), (0, v3), (3, 0)] [] sh_T M := by
  refine x_aload_n (by decide +kernel : am_at co_X11_days 0 = some (1, .aload_n 0)) rfl ?_
  refine x_iload_n (by decide +kernel : am_at co_X11_days 1 = some (1, .iload_n 1)) rfl ?_
  refine x_callV (n := 2) (by decide +kernel : am_at co_X11_days 2 = some (3, .invokevirtual 170)) pq_11_170 pm_X11_isDreamer rfl rfl rfl ob_0 h (x_k0 fun x1 M1 h => ?_)
  refine x_if (tgt := 34) (by decide +kernel : am_at co_X11_days 5 = some (3, .ifCond .eq 29)) rfl Iff.rfl (fun c1 => ?_) (fun c1 => ?_)
  · have h := h.1 c1
    refine x_iconst (by decide +kernel : am_at co_X11_days 34 = some (1, .iconst (-1))) ?_
    exact x_iret (by decide +kernel : am_at co_X11_days 35 = some (1, .ireturn)) h
  · have c1 := c1
    have h := h.2 c1
    refine x_iload_n (by decide +kernel : am_at co_X11_days 8 = some (1, .iload_n 2)) rfl ?_
    refine x_if (tgt := 34) (by decide +kernel : am_at co_X11_days 9 = some (3, .ifCond .lt 25)) rfl Iff.rfl (fun c2 => ?_) (fun c2 => ?_)
    · have h := h.1 c2
      refine x_iconst (by decide +kernel : am_at co_X11_days 34 = some (1, .iconst (-1))) ?_
      exact x_iret (by decide +kernel : am_at co_X11_days 35 = some (1, .ireturn)) h
    · have c2 := (Int.not_lt.mp c2)
      have h := h.2 c2
      refine x_iload_n (by decide +kernel : am_at co_X11_days 12 = some (1, .iload_n 2)) rfl ?_
      refine x_iconst (by decide +kernel : am_at co_X11_days 13 = some (1, .iconst 1)) ?_
      refine x_aload_n (by decide +kernel : am_at co_X11_days 14 = some (1, .aload_n 0)) rfl ?_
      refine x_getf (by decide +kernel : am_at co_X11_days 15 = some (3, .getfield 44)) pq_11_44 rfl ob_0 ?_
      refine x_iconst (by decide +kernel : am_at co_X11_days 18 = some (1, .iconst 0)) ?_
      obtain ⟨o3, h⟩ := h
      refine x_callV (n := 2) (by decide +kernel : am_at co_X11_days 19 = some (3, .invokevirtual 141)) pq_11_141 pm_X2_count rfl rfl rfl o3 h (x_k0 fun x5 M5 h => ?_)
      refine x_ishl (by decide +kernel : am_at co_X11_days 22 = some (1, .ishl)) ?_
      refine x_icmp (tgt := 34) (by decide +kernel : am_at co_X11_days 23 = some (3, .if_icmp .ge 11)) rfl Iff.rfl (fun c5 => ?_) (fun c5 => ?_)
      · have h := h.1 c5
        refine x_iconst (by decide +kernel : am_at co_X11_days 34 = some (1, .iconst (-1))) ?_
        exact x_iret (by decide +kernel : am_at co_X11_days 35 = some (1, .ireturn)) h
      · have c5 := (Int.not_le.mp c5)
        have h := h.2 c5
        refine x_iload_n (by decide +kernel : am_at co_X11_days 26 = some (1, .iload_n 2)) rfl ?_
        refine x_callS (n := 1) (by decide +kernel : am_at co_X11_days 27 = some (3, .invokestatic 257)) pq_11_257 rfl rfl rfl h (x_k0 fun x7 M7 h => ?_)
        refine x_iconst (by decide +kernel : am_at co_X11_days 30 = some (1, .iconst 4)) ?_
        refine x_icmp (tgt := 36) (by decide +kernel : am_at co_X11_days 31 = some (3, .if_icmp .le 5)) rfl Iff.rfl (fun c7 => ?_) (fun c7 => ?_)
        · have h := h.1 c7
          refine x_aload_n (by decide +kernel : am_at co_X11_days 36 = some (1, .aload_n 0)) rfl ?_
          refine x_getF (by decide +kernel : am_at co_X11_days 37 = some (3, .getfield 76)) pq_11_76 (by decide) rfl ob_0 ?_
          refine x_top2 (show 0 + 95 = 95 from rfl) ?_
          refine x_aload_n (by decide +kernel : am_at co_X11_days 40 = some (1, .aload_n 0)) rfl ?_
          refine x_getf (by decide +kernel : am_at co_X11_days 41 = some (3, .getfield 44)) pq_11_44 rfl ob_0 ?_
          refine x_aload_n (by decide +kernel : am_at co_X11_days 44 = some (1, .aload_n 0)) rfl ?_
          refine x_getF (by decide +kernel : am_at co_X11_days 45 = some (3, .getfield 55)) pq_11_55 (by decide) rfl ob_0 ?_
          refine x_top2 (show 0 + 37 = 37 from rfl) ?_
          refine x_iload_n (by decide +kernel : am_at co_X11_days 48 = some (1, .iload_n 1)) rfl ?_
          obtain ⟨o8, h⟩ := h
          refine x_aald (by decide +kernel : am_at co_X11_days 49 = some (1, .aaload)) (ia_37 o8.1 o8.2) ?_
          refine x_iload_n (by decide +kernel : am_at co_X11_days 50 = some (1, .iload_n 2)) rfl ?_
          refine x_callV (n := 4) (by decide +kernel : am_at co_X11_days 51 = some (3, .invokevirtual 262)) pq_11_262 pm_X10_findDays rfl rfl rfl ob_95 h (x_k0 fun x10 M10 h => ?_)
          refine x_istore (L' := [(2, 0), (0, v1), (0, v2), (0, v3), (0, x10)]) (by decide +kernel : am_at co_X11_days 54 = some (2, .istore 4)) rfl ?_
          refine x_iload_n (by decide +kernel : am_at co_X11_days 56 = some (1, .iload_n 3)) rfl ?_
          refine x_iconst (by decide +kernel : am_at co_X11_days 57 = some (1, .iconst (-1))) ?_
          refine x_icmp (tgt := 67) (by decide +kernel : am_at co_X11_days 58 = some (3, .if_icmp .eq 9)) rfl Iff.rfl (fun c10 => ?_) (fun c10 => ?_)
          · have h := h.1 c10
            refine x_iload (by decide +kernel : am_at co_X11_days 67 = some (2, .iload 4)) rfl ?_
            exact x_iret (by decide +kernel : am_at co_X11_days 69 = some (1, .ireturn)) h
          · have c10 := c10
            have h := h.2 c10
            refine x_iload (by decide +kernel : am_at co_X11_days 61 = some (2, .iload 4)) rfl ?_
            refine x_iconst (by decide +kernel : am_at co_X11_days 63 = some (1, .iconst (-1))) ?_
            refine x_icmp (tgt := 70) (by decide +kernel : am_at co_X11_days 64 = some (3, .if_icmp .ne 6)) rfl Iff.rfl (fun c11 => ?_) (fun c11 => ?_)
            · have h := h.1 c11
              refine x_iload_n (by decide +kernel : am_at co_X11_days 70 = some (1, .iload_n 3)) rfl ?_
              refine x_if (tgt := 93) (by decide +kernel : am_at co_X11_days 71 = some (3, .ifCond .lt 22)) rfl Iff.rfl (fun c12 => ?_) (fun c12 => ?_)
              · have h := h.1 c12
                refine x_iconst (by decide +kernel : am_at co_X11_days 93 = some (1, .iconst (-1))) ?_
                exact x_iret (by decide +kernel : am_at co_X11_days 94 = some (1, .ireturn)) h
              · have c12 := (Int.not_lt.mp c12)
                have h := h.2 c12
                refine x_iload_n (by decide +kernel : am_at co_X11_days 74 = some (1, .iload_n 3)) rfl ?_
                refine x_iload_n (by decide +kernel : am_at co_X11_days 75 = some (1, .iload_n 2)) rfl ?_
                refine x_callS (n := 1) (by decide +kernel : am_at co_X11_days 76 = some (3, .invokestatic 257)) pq_11_257 rfl rfl rfl h (x_k0 fun x14 M14 h => ?_)
                refine x_icmp (tgt := 93) (by decide +kernel : am_at co_X11_days 79 = some (3, .if_icmp .ge 14)) rfl Iff.rfl (fun c14 => ?_) (fun c14 => ?_)
                · have h := h.1 c14
                  refine x_iconst (by decide +kernel : am_at co_X11_days 93 = some (1, .iconst (-1))) ?_
                  exact x_iret (by decide +kernel : am_at co_X11_days 94 = some (1, .ireturn)) h
                · have c14 := (Int.not_le.mp c14)
                  have h := h.2 c14
                  refine x_aload_n (by decide +kernel : am_at co_X11_days 82 = some (1, .aload_n 0)) rfl ?_
                  refine x_getF (by decide +kernel : am_at co_X11_days 83 = some (3, .getfield 76)) pq_11_76 (by decide) rfl ob_0 ?_
                  refine x_top2 (show 0 + 95 = 95 from rfl) ?_
                  refine x_iload_n (by decide +kernel : am_at co_X11_days 86 = some (1, .iload_n 3)) rfl ?_
                  refine x_callV (n := 2) (by decide +kernel : am_at co_X11_days 87 = some (3, .invokevirtual 265)) pq_11_265 pm_X10_metByDay rfl rfl rfl ob_95 h (x_k0 fun x16 M16 h => ?_)
                  refine x_goto (tgt := 94) (by decide +kernel : am_at co_X11_days 90 = some (3, .goto 4)) rfl ?_
                  exact x_iret (by decide +kernel : am_at co_X11_days 94 = some (1, .ireturn)) h
            · have c11 := (Classical.not_not.mp c11)
              have h := h.2 c11
              refine x_iload (by decide +kernel : am_at co_X11_days 67 = some (2, .iload 4)) rfl ?_
              exact x_iret (by decide +kernel : am_at co_X11_days 69 = some (1, .ireturn)) h
        · have c7 := (Int.not_le.mp c7)
          have h := h.2 c7
          refine x_iconst (by decide +kernel : am_at co_X11_days 34 = some (1, .iconst (-1))) ?_
          exact x_iret (by decide +kernel : am_at co_X11_days 35 = some (1, .ireturn)) h
