/-! blocks (printed) -/
set_option maxRecDepth 20000 in
theorem bk_X12_areAlike_0 {d : Nat} {Q : am_Q} {M : am_M} {v1 v2 : Int} (h : am_g 12 5 co_X12_areAlike d Q 2 [(2, 152), (0, v1), (0, v2), (0, 0)] [] sh_T M) : am_g 12 5 co_X12_areAlike d Q 0 [(2, 152), (0, v1), (0, v2), (3, 0)] [] sh_T M := by
  refine x_iconst (by decide +kernel : am_at co_X12_areAlike 0 = some (1, .iconst 0)) ?_
  refine x_istore_n (L' := [(2, 152), (0, v1), (0, v2), (0, 0)]) (by decide +kernel : am_at co_X12_areAlike 1 = some (1, .istore_n 3)) rfl ?_
  exact am_weak (lk (lk (lk (lk ln)))) h
set_option maxRecDepth 20000 in
theorem bk_X12_areAlike_2 {d : Nat} {Q : am_Q} {M : am_M} {v1 v2 v3 : Int} (h : am_cal pg d 211 [(2, 152)] sh_T M (am_c0 sh_T fun x1 M1 => ((x1 ≤ v3 → Q (some (0, 1), sh_T, M1)) ∧ (v3 < x1 → am_r (7 * v1) ∧ am_r ((7 * v1) + v3) ∧ (0 ≤ (7 * v1) + v3 ∧ (7 * v1) + v3 < 1500) ∧ am_r (7 * v2) ∧ am_r ((7 * v2) + v3) ∧ (0 ≤ (7 * v2) + v3 ∧ (7 * v2) + v3 < 1500) ∧ ((M1 187 ((7 * v1) + v3) = M1 187 ((7 * v2) + v3) → am_r (v3 + 1) ∧ am_g 12 5 co_X12_areAlike d Q 2 [(2, 152), (0, v1), (0, v2), (0, v3 + 1)] [] sh_T M1) ∧ (¬ M1 187 ((7 * v1) + v3) = M1 187 ((7 * v2) + v3) → Q (some (0, 0), sh_T, M1))))))) : am_g 12 5 co_X12_areAlike d Q 2 [(2, 152), (0, v1), (0, v2), (0, v3)] [] sh_T M := by
  refine x_iload_n (by decide +kernel : am_at co_X12_areAlike 2 = some (1, .iload_n 3)) rfl ?_
  refine x_aload_n (by decide +kernel : am_at co_X12_areAlike 3 = some (1, .aload_n 0)) rfl ?_
  refine x_callV (n := 1) (by decide +kernel : am_at co_X12_areAlike 4 = some (3, .invokevirtual 389)) pq_12_389 pm_X12_dreadMany rfl rfl rfl ob_152 h (x_k0 fun x1 M1 h => ?_)
  refine x_icmp (tgt := 43) (by decide +kernel : am_at co_X12_areAlike 7 = some (3, .if_icmp .ge 36)) rfl Iff.rfl (fun c1 => ?_) (fun c1 => ?_)
  · have h := h.1 c1
    refine x_iconst (by decide +kernel : am_at co_X12_areAlike 43 = some (1, .iconst 1)) ?_
    exact x_zret (by decide +kernel : am_at co_X12_areAlike 44 = some (1, .ireturn)) (by decide) h
  · have c1 := (Int.not_le.mp c1)
    have h := h.2 c1
    refine x_aload_n (by decide +kernel : am_at co_X12_areAlike 10 = some (1, .aload_n 0)) rfl ?_
    refine x_getF (by decide +kernel : am_at co_X12_areAlike 11 = some (3, .getfield 118)) pq_12_118 (by decide) rfl ob_152 ?_
    refine x_top2 (show 152 + 35 = 187 from rfl) ?_
    refine x_bipush (by decide +kernel : am_at co_X12_areAlike 14 = some (2, .bipush 7)) ?_
    refine x_iload_n (by decide +kernel : am_at co_X12_areAlike 16 = some (1, .iload_n 1)) rfl ?_
    obtain ⟨o2, h⟩ := h
    refine x_imul (by decide +kernel : am_at co_X12_areAlike 17 = some (1, .imul)) o2 ?_
    refine x_iload_n (by decide +kernel : am_at co_X12_areAlike 18 = some (1, .iload_n 3)) rfl ?_
    obtain ⟨o3, h⟩ := h
    refine x_iadd (by decide +kernel : am_at co_X12_areAlike 19 = some (1, .iadd)) o3 ?_
    obtain ⟨o4, h⟩ := h
    refine x_iald (by decide +kernel : am_at co_X12_areAlike 20 = some (1, .iaload)) (ia_187 o4.1 o4.2) ?_
    refine x_aload_n (by decide +kernel : am_at co_X12_areAlike 21 = some (1, .aload_n 0)) rfl ?_
    refine x_getF (by decide +kernel : am_at co_X12_areAlike 22 = some (3, .getfield 118)) pq_12_118 (by decide) rfl ob_152 ?_
    refine x_top2 (show 152 + 35 = 187 from rfl) ?_
    refine x_bipush (by decide +kernel : am_at co_X12_areAlike 25 = some (2, .bipush 7)) ?_
    refine x_iload_n (by decide +kernel : am_at co_X12_areAlike 27 = some (1, .iload_n 2)) rfl ?_
    obtain ⟨o5, h⟩ := h
    refine x_imul (by decide +kernel : am_at co_X12_areAlike 28 = some (1, .imul)) o5 ?_
    refine x_iload_n (by decide +kernel : am_at co_X12_areAlike 29 = some (1, .iload_n 3)) rfl ?_
    obtain ⟨o6, h⟩ := h
    refine x_iadd (by decide +kernel : am_at co_X12_areAlike 30 = some (1, .iadd)) o6 ?_
    obtain ⟨o7, h⟩ := h
    refine x_iald (by decide +kernel : am_at co_X12_areAlike 31 = some (1, .iaload)) (ia_187 o7.1 o7.2) ?_
    refine x_icmp (tgt := 37) (by decide +kernel : am_at co_X12_areAlike 32 = some (3, .if_icmp .eq 5)) rfl Iff.rfl (fun c8 => ?_) (fun c8 => ?_)
    · have h := h.1 c8
      obtain ⟨o9, h⟩ := h
      refine x_iinc (L' := [(2, 152), (0, v1), (0, v2), (0, v3 + 1)]) (by decide +kernel : am_at co_X12_areAlike 37 = some (3, .iinc 3 1)) rfl o9 rfl ?_
      refine x_goto (tgt := 2) (by decide +kernel : am_at co_X12_areAlike 40 = some (3, .goto (-38))) rfl ?_
      exact am_weak (lk (lk (lk (lk ln)))) h
    · have c8 := c8
      have h := h.2 c8
      refine x_iconst (by decide +kernel : am_at co_X12_areAlike 35 = some (1, .iconst 0)) ?_
      exact x_zret (by decide +kernel : am_at co_X12_areAlike 36 = some (1, .ireturn)) (by decide) h
set_option maxRecDepth 20000 in
theorem bk_X12_comesAgain_0 {d : Nat} {Q : am_Q} {M : am_M} {v1 : Int} (h : am_g 12 0 co_X12_comesAgain d Q 2 [(2, 152), (0, v1), (0, 1), (3, 0)] [] sh_T M) : am_g 12 0 co_X12_comesAgain d Q 0 [(2, 152), (0, v1), (3, 0), (3, 0)] [] sh_T M := by
  refine x_iconst (by decide +kernel : am_at co_X12_comesAgain 0 = some (1, .iconst 1)) ?_
  refine x_istore_n (L' := [(2, 152), (0, v1), (0, 1), (3, 0)]) (by decide +kernel : am_at co_X12_comesAgain 1 = some (1, .istore_n 2)) rfl ?_
  exact am_weak (lk (lk (lk (lk ln)))) h
set_option maxRecDepth 20000 in
theorem bk_X12_comesAgain_2 {d : Nat} {Q : am_Q} {M : am_M} {v1 v2 : Int} (h : ((M 152 50 ≤ v2 → Q (some (0, (-1)), sh_T, M)) ∧ (v2 < M 152 50 → am_g 12 0 co_X12_comesAgain d Q 12 [(2, 152), (0, v1), (0, v2), (0, 0)] [] sh_T M))) : am_g 12 0 co_X12_comesAgain d Q 2 [(2, 152), (0, v1), (0, v2), (3, 0)] [] sh_T M := by
  refine x_iload_n (by decide +kernel : am_at co_X12_comesAgain 2 = some (1, .iload_n 2)) rfl ?_
  refine x_aload_n (by decide +kernel : am_at co_X12_comesAgain 3 = some (1, .aload_n 0)) rfl ?_
  refine x_getf (by decide +kernel : am_at co_X12_comesAgain 4 = some (3, .getfield 457)) pq_12_457 rfl ob_152 ?_
  refine x_icmp (tgt := 50) (by decide +kernel : am_at co_X12_comesAgain 7 = some (3, .if_icmp .ge 43)) rfl Iff.rfl (fun c0 => ?_) (fun c0 => ?_)
  · have h := h.1 c0
    refine x_iconst (by decide +kernel : am_at co_X12_comesAgain 50 = some (1, .iconst (-1))) ?_
    exact x_iret (by decide +kernel : am_at co_X12_comesAgain 51 = some (1, .ireturn)) h
  · have c0 := (Int.not_le.mp c0)
    have h := h.2 c0
    refine x_iconst (by decide +kernel : am_at co_X12_comesAgain 10 = some (1, .iconst 0)) ?_
    refine x_istore_n (L' := [(2, 152), (0, v1), (0, v2), (0, 0)]) (by decide +kernel : am_at co_X12_comesAgain 11 = some (1, .istore_n 3)) rfl ?_
    exact am_weak (lk (lk (lk (lk ln)))) h
set_option maxRecDepth 20000 in
theorem bk_X12_comesAgain_12 {d : Nat} {Q : am_Q} {M : am_M} {v1 v2 v3 : Int} (h : ((v2 ≤ v3 → am_r (v2 + 1) ∧ am_g 12 0 co_X12_comesAgain d Q 2 [(2, 152), (0, v1), (0, v2 + 1), (3, 0)] [] sh_T M) ∧ (v3 < v2 → am_cal pg d 241 [(2, 152), (0, v3), (0, v2)] sh_T M (am_c0 sh_T fun x3 M3 => ((x3 = 0 → am_r (v3 + 1) ∧ am_g 12 0 co_X12_comesAgain d Q 12 [(2, 152), (0, v1), (0, v2), (0, v3 + 1)] [] sh_T M3) ∧ (¬ x3 = 0 → ((v1 = 0 → Q (some (0, v2), sh_T, M3)) ∧ (¬ v1 = 0 → am_r (v2 - v3) ∧ Q (some (0, v2 - v3), sh_T, M3))))))))) : am_g 12 0 co_X12_comesAgain d Q 12 [(2, 152), (0, v1), (0, v2), (0, v3)] [] sh_T M := by
  refine x_iload_n (by decide +kernel : am_at co_X12_comesAgain 12 = some (1, .iload_n 3)) rfl ?_
  refine x_iload_n (by decide +kernel : am_at co_X12_comesAgain 13 = some (1, .iload_n 2)) rfl ?_
  refine x_icmp (tgt := 44) (by decide +kernel : am_at co_X12_comesAgain 14 = some (3, .if_icmp .ge 30)) rfl Iff.rfl (fun c0 => ?_) (fun c0 => ?_)
  · have h := h.1 c0
    obtain ⟨o1, h⟩ := h
    refine x_iinc (L' := [(2, 152), (0, v1), (0, v2 + 1), (0, v3)]) (by decide +kernel : am_at co_X12_comesAgain 44 = some (3, .iinc 2 1)) rfl o1 rfl ?_
    refine x_goto (tgt := 2) (by decide +kernel : am_at co_X12_comesAgain 47 = some (3, .goto (-45))) rfl ?_
    exact am_weak (lk (lk (lk (ld ln)))) h
  · have c0 := (Int.not_le.mp c0)
    have h := h.2 c0
    refine x_aload_n (by decide +kernel : am_at co_X12_comesAgain 17 = some (1, .aload_n 0)) rfl ?_
    refine x_iload_n (by decide +kernel : am_at co_X12_comesAgain 18 = some (1, .iload_n 3)) rfl ?_
    refine x_iload_n (by decide +kernel : am_at co_X12_comesAgain 19 = some (1, .iload_n 2)) rfl ?_
    refine x_callV (n := 3) (by decide +kernel : am_at co_X12_comesAgain 20 = some (3, .invokevirtual 474)) pq_12_474 pm_X12_areAlike rfl rfl rfl ob_152 h (x_k0 fun x3 M3 h => ?_)
    refine x_if (tgt := 38) (by decide +kernel : am_at co_X12_comesAgain 23 = some (3, .ifCond .eq 15)) rfl Iff.rfl (fun c3 => ?_) (fun c3 => ?_)
    · have h := h.1 c3
      obtain ⟨o4, h⟩ := h
      refine x_iinc (L' := [(2, 152), (0, v1), (0, v2), (0, v3 + 1)]) (by decide +kernel : am_at co_X12_comesAgain 38 = some (3, .iinc 3 1)) rfl o4 rfl ?_
      refine x_goto (tgt := 12) (by decide +kernel : am_at co_X12_comesAgain 41 = some (3, .goto (-29))) rfl ?_
      exact am_weak (lk (lk (lk (lk ln)))) h
    · have c3 := c3
      have h := h.2 c3
      refine x_iload_n (by decide +kernel : am_at co_X12_comesAgain 26 = some (1, .iload_n 1)) rfl ?_
      refine x_if (tgt := 36) (by decide +kernel : am_at co_X12_comesAgain 27 = some (3, .ifCond .eq 9)) rfl Iff.rfl (fun c5 => ?_) (fun c5 => ?_)
      · have h := h.1 c5
        refine x_iload_n (by decide +kernel : am_at co_X12_comesAgain 36 = some (1, .iload_n 2)) rfl ?_
        exact x_iret (by decide +kernel : am_at co_X12_comesAgain 37 = some (1, .ireturn)) h
      · have c5 := c5
        have h := h.2 c5
        refine x_iload_n (by decide +kernel : am_at co_X12_comesAgain 30 = some (1, .iload_n 2)) rfl ?_
        refine x_iload_n (by decide +kernel : am_at co_X12_comesAgain 31 = some (1, .iload_n 3)) rfl ?_
        obtain ⟨o6, h⟩ := h
        refine x_isub (by decide +kernel : am_at co_X12_comesAgain 32 = some (1, .isub)) o6 ?_
        refine x_goto (tgt := 37) (by decide +kernel : am_at co_X12_comesAgain 33 = some (3, .goto 4)) rfl ?_
        exact x_iret (by decide +kernel : am_at co_X12_comesAgain 37 = some (1, .ireturn)) h
set_option maxRecDepth 20000 in
theorem bk_X12_again_0 {d : Nat} {Q : am_Q} {M : am_M} {v1 v2 : Int} (h : am_cal pg d 215 [(2, 152), (0, v1)] sh_T M (am_c0 sh_T fun x1 M1 => ((x1 = 0 → Q (some (0, (-1)), sh_T, M1)) ∧ (¬ x1 = 0 → am_cal pg d 169 [(1, v2), (1, 0), (1, 1)] sh_T M1 (am_c0 sh_T fun x3 M3 => ((¬ x3 = 0 → am_cal pg d 237 [(2, 152), (0, v1)] sh_T M3 (am_cv sh_T fun M5 => ((¬ v2 = 1 → am_cal pg d 242 [(2, 152), (0, 0)] sh_T M5 (am_c0 sh_T fun x7 M7 => Q (some (0, x7), sh_T, M7))) ∧ (v2 = 1 → am_cal pg d 242 [(2, 152), (0, 1)] sh_T M5 (am_c0 sh_T fun x8 M8 => Q (some (0, x8), sh_T, M8)))))) ∧ (x3 = 0 → Q (some (0, (-1)), sh_T, M3)))))))) : am_g 12 0 co_X12_again d Q 0 [(2, 152), (0, v1), (0, v2)] [] sh_T M := by
  refine x_aload_n (by decide +kernel : am_at co_X12_again 0 = some (1, .aload_n 0)) rfl ?_
  refine x_iload_n (by decide +kernel : am_at co_X12_again 1 = some (1, .iload_n 1)) rfl ?_
  refine x_callV (n := 2) (by decide +kernel : am_at co_X12_again 2 = some (3, .invokevirtual 446)) pq_12_446 pm_X12_isDreamer rfl rfl rfl ob_152 h (x_k0 fun x1 M1 h => ?_)
  refine x_if (tgt := 18) (by decide +kernel : am_at co_X12_again 5 = some (3, .ifCond .eq 13)) rfl Iff.rfl (fun c1 => ?_) (fun c1 => ?_)
  · have h := h.1 c1
    refine x_iconst (by decide +kernel : am_at co_X12_again 18 = some (1, .iconst (-1))) ?_
    exact x_iret (by decide +kernel : am_at co_X12_again 19 = some (1, .ireturn)) h
  · have c1 := c1
    have h := h.2 c1
    refine x_iload_n (by decide +kernel : am_at co_X12_again 8 = some (1, .iload_n 2)) rfl ?_
    refine x_i2l (by decide +kernel : am_at co_X12_again 9 = some (1, .i2l)) ?_
    refine x_lconst (by decide +kernel : am_at co_X12_again 10 = some (1, .lconst 0)) ?_
    refine x_lconst (by decide +kernel : am_at co_X12_again 11 = some (1, .lconst 1)) ?_
    refine x_callS (n := 3) (by decide +kernel : am_at co_X12_again 12 = some (3, .invokestatic 249)) pq_12_249 rfl rfl rfl h (x_k0 fun x3 M3 h => ?_)
    refine x_if (tgt := 20) (by decide +kernel : am_at co_X12_again 15 = some (3, .ifCond .ne 5)) rfl Iff.rfl (fun c3 => ?_) (fun c3 => ?_)
    · have h := h.1 c3
      refine x_aload_n (by decide +kernel : am_at co_X12_again 20 = some (1, .aload_n 0)) rfl ?_
      refine x_iload_n (by decide +kernel : am_at co_X12_again 21 = some (1, .iload_n 1)) rfl ?_
      refine x_callV (n := 2) (by decide +kernel : am_at co_X12_again 22 = some (3, .invokevirtual 469)) pq_12_469 pm_X12_goesAhead rfl rfl rfl ob_152 h (x_kv fun M5 h => ?_)
      refine x_aload_n (by decide +kernel : am_at co_X12_again 25 = some (1, .aload_n 0)) rfl ?_
      refine x_iload_n (by decide +kernel : am_at co_X12_again 26 = some (1, .iload_n 2)) rfl ?_
      refine x_iconst (by decide +kernel : am_at co_X12_again 27 = some (1, .iconst 1)) ?_
      refine x_icmp (tgt := 35) (by decide +kernel : am_at co_X12_again 28 = some (3, .if_icmp .ne 7)) rfl Iff.rfl (fun c5 => ?_) (fun c5 => ?_)
      · have h := h.1 c5
        refine x_iconst (by decide +kernel : am_at co_X12_again 35 = some (1, .iconst 0)) ?_
        refine x_callV (n := 2) (by decide +kernel : am_at co_X12_again 36 = some (3, .invokevirtual 478)) pq_12_478 pm_X12_comesAgain rfl rfl rfl ob_152 h (x_k0 fun x7 M7 h => ?_)
        exact x_iret (by decide +kernel : am_at co_X12_again 39 = some (1, .ireturn)) h
      · have c5 := (Classical.not_not.mp c5)
        have h := h.2 c5
        refine x_iconst (by decide +kernel : am_at co_X12_again 31 = some (1, .iconst 1)) ?_
        refine x_goto (tgt := 36) (by decide +kernel : am_at co_X12_again 32 = some (3, .goto 4)) rfl ?_
        refine x_callV (n := 2) (by decide +kernel : am_at co_X12_again 36 = some (3, .invokevirtual 478)) pq_12_478 pm_X12_comesAgain rfl rfl rfl ob_152 h (x_k0 fun x8 M8 h => ?_)
        exact x_iret (by decide +kernel : am_at co_X12_again 39 = some (1, .ireturn)) h
    · have c3 := (Classical.not_not.mp c3)
      have h := h.2 c3
      refine x_iconst (by decide +kernel : am_at co_X12_again 18 = some (1, .iconst (-1))) ?_
      exact x_iret (by decide +kernel : am_at co_X12_again 19 = some (1, .ireturn)) h
set_option maxRecDepth 20000 in
theorem bk_X12_isWay_0 {d : Nat} {Q : am_Q} {M : am_M} {v1 v2 v3 v4 : Int} (h : am_cal pg d 219 [(2, 152), (0, 7), (0, 0)] sh_T M (am_cv sh_T fun M1 => am_g 12 5 co_X12_isWay d Q 15 [(2, 152), (0, v1), (0, v2), (0, v3), (0, v4), (0, 0), (3, 0), (3, 0), (3, 0)] [] sh_T (am_up M1 152 52 0))) : am_g 12 5 co_X12_isWay d Q 0 [(2, 152), (0, v1), (0, v2), (0, v3), (0, v4), (3, 0), (3, 0), (3, 0), (3, 0)] [] sh_T M := by
  refine x_aload_n (by decide +kernel : am_at co_X12_isWay 0 = some (1, .aload_n 0)) rfl ?_
  refine x_bipush (by decide +kernel : am_at co_X12_isWay 1 = some (2, .bipush 7)) ?_
  refine x_iconst (by decide +kernel : am_at co_X12_isWay 3 = some (1, .iconst 0)) ?_
  refine x_callV (n := 3) (by decide +kernel : am_at co_X12_isWay 4 = some (3, .invokevirtual 460)) pq_12_460 pm_X12_laysRow rfl rfl rfl ob_152 h (x_kv fun M1 h => ?_)
  refine x_aload_n (by decide +kernel : am_at co_X12_isWay 7 = some (1, .aload_n 0)) rfl ?_
  refine x_iconst (by decide +kernel : am_at co_X12_isWay 8 = some (1, .iconst 0)) ?_
  refine x_putf0 (by decide +kernel : am_at co_X12_isWay 9 = some (3, .putfield 482)) pq_12_482 rfl ob_152 ?_
  refine x_iconst (by decide +kernel : am_at co_X12_isWay 12 = some (1, .iconst 0)) ?_
  refine x_istore (L' := [(2, 152), (0, v1), (0, v2), (0, v3), (0, v4), (0, 0), (3, 0), (3, 0), (3, 0)]) (by decide +kernel : am_at co_X12_isWay 13 = some (2, .istore 5)) rfl ?_
  exact am_weak (lk (lk (lk (lk (lk (lk (lk (lk (lk ln))))))))) h
set_option maxRecDepth 20000 in
theorem bk_X12_isWay_15 {d : Nat} {Q : am_Q} {M : am_M} {v1 v2 v3 v4 v5 : Int} (h : ((v2 ≤ v5 → am_cal pg d 224 [(2, 152), (0, 0)] sh_T M (am_c0 sh_T fun x2 M2 => (x2 = 0 ∨ x2 = 1) ∧ Q (some (0, x2), sh_T, M2))) ∧ (v5 < v2 → am_cal pg d 224 [(2, 152), (0, 0)] sh_T M (am_c0 sh_T fun x3 M3 => ((x3 = 0 → am_r (v2 - 1) ∧ am_r ((v2 - 1) - v5) ∧ ((¬ am_band (am_shr v1 ((v2 - 1) - v5)) 1 = 1 → am_g 12 5 co_X12_isWay d Q 67 [(2, 152), (0, v1), (0, v2), (0, v3), (0, v4), (0, v5), (0, 0), (3, 0), (3, 0)] [] sh_T M3) ∧ (am_band (am_shr v1 ((v2 - 1) - v5)) 1 = 1 → am_cal pg d 211 [(2, 152)] sh_T M3 (am_c0 sh_T fun x8 M8 => ((2 ≤ x8 → am_g 12 5 co_X12_isWay d Q 67 [(2, 152), (0, v1), (0, v2), (0, v3), (0, v4), (0, v5), (0, 1), (3, 0), (3, 0)] [] sh_T M8) ∧ (x8 < 2 → Q (some (0, 0), sh_T, M8))))))) ∧ (¬ x3 = 0 → Q (some (0, 0), sh_T, M3))))))) : am_g 12 5 co_X12_isWay d Q 15 [(2, 152), (0, v1), (0, v2), (0, v3), (0, v4), (0, v5), (3, 0), (3, 0), (3, 0)] [] sh_T M := by
  refine x_iload (by decide +kernel : am_at co_X12_isWay 15 = some (2, .iload 5)) rfl ?_
  refine x_iload_n (by decide +kernel : am_at co_X12_isWay 17 = some (1, .iload_n 2)) rfl ?_
  refine x_icmp (tgt := 136) (by decide +kernel : am_at co_X12_isWay 18 = some (3, .if_icmp .ge 118)) rfl Iff.rfl (fun c0 => ?_) (fun c0 => ?_)
  · have h := h.1 c0
    refine x_aload_n (by decide +kernel : am_at co_X12_isWay 136 = some (1, .aload_n 0)) rfl ?_
    refine x_iconst (by decide +kernel : am_at co_X12_isWay 137 = some (1, .iconst 0)) ?_
    refine x_callV (n := 2) (by decide +kernel : am_at co_X12_isWay 138 = some (3, .invokevirtual 433)) pq_12_433 pm_X12_isHomeAt rfl rfl rfl ob_152 h (x_k0 fun x2 M2 h => ?_)
    exact x_zret (by decide +kernel : am_at co_X12_isWay 141 = some (1, .ireturn)) h.1 h.2
  · have c0 := (Int.not_le.mp c0)
    have h := h.2 c0
    refine x_aload_n (by decide +kernel : am_at co_X12_isWay 21 = some (1, .aload_n 0)) rfl ?_
    refine x_iconst (by decide +kernel : am_at co_X12_isWay 22 = some (1, .iconst 0)) ?_
    refine x_callV (n := 2) (by decide +kernel : am_at co_X12_isWay 23 = some (3, .invokevirtual 433)) pq_12_433 pm_X12_isHomeAt rfl rfl rfl ob_152 h (x_k0 fun x3 M3 h => ?_)
    refine x_if (tgt := 31) (by decide +kernel : am_at co_X12_isWay 26 = some (3, .ifCond .eq 5)) rfl Iff.rfl (fun c3 => ?_) (fun c3 => ?_)
    · have h := h.1 c3
      refine x_iload_n (by decide +kernel : am_at co_X12_isWay 31 = some (1, .iload_n 1)) rfl ?_
      refine x_iload_n (by decide +kernel : am_at co_X12_isWay 32 = some (1, .iload_n 2)) rfl ?_
      refine x_iconst (by decide +kernel : am_at co_X12_isWay 33 = some (1, .iconst 1)) ?_
      obtain ⟨o4, h⟩ := h
      refine x_isub (by decide +kernel : am_at co_X12_isWay 34 = some (1, .isub)) o4 ?_
      refine x_iload (by decide +kernel : am_at co_X12_isWay 35 = some (2, .iload 5)) rfl ?_
      obtain ⟨o5, h⟩ := h
      refine x_isub (by decide +kernel : am_at co_X12_isWay 37 = some (1, .isub)) o5 ?_
      refine x_ishr (by decide +kernel : am_at co_X12_isWay 38 = some (1, .ishr)) ?_
      refine x_iconst (by decide +kernel : am_at co_X12_isWay 39 = some (1, .iconst 1)) ?_
      refine x_iand (by decide +kernel : am_at co_X12_isWay 40 = some (1, .iand)) ?_
      refine x_iconst (by decide +kernel : am_at co_X12_isWay 41 = some (1, .iconst 1)) ?_
      refine x_icmp (tgt := 49) (by decide +kernel : am_at co_X12_isWay 42 = some (3, .if_icmp .ne 7)) rfl Iff.rfl (fun c6 => ?_) (fun c6 => ?_)
      · have h := h.1 c6
        refine x_iconst (by decide +kernel : am_at co_X12_isWay 49 = some (1, .iconst 0)) ?_
        refine x_istore (L' := [(2, 152), (0, v1), (0, v2), (0, v3), (0, v4), (0, v5), (0, 0), (3, 0), (3, 0)]) (by decide +kernel : am_at co_X12_isWay 50 = some (2, .istore 6)) rfl ?_
        refine x_iload (by decide +kernel : am_at co_X12_isWay 52 = some (2, .iload 6)) rfl ?_
        refine x_if (tgt := 67) (by decide +kernel : am_at co_X12_isWay 54 = some (3, .ifCond .eq 13)) rfl Iff.rfl (fun q => ?_) (fun q => absurd (show (0 : Int) = 0 by decide) q)
        exact am_weak (lk (lk (lk (lk (lk (lk (lk (lk (lk ln))))))))) h
      · have c6 := (Classical.not_not.mp c6)
        have h := h.2 c6
        refine x_iconst (by decide +kernel : am_at co_X12_isWay 45 = some (1, .iconst 1)) ?_
        refine x_goto (tgt := 50) (by decide +kernel : am_at co_X12_isWay 46 = some (3, .goto 4)) rfl ?_
        refine x_istore (L' := [(2, 152), (0, v1), (0, v2), (0, v3), (0, v4), (0, v5), (0, 1), (3, 0), (3, 0)]) (by decide +kernel : am_at co_X12_isWay 50 = some (2, .istore 6)) rfl ?_
        refine x_iload (by decide +kernel : am_at co_X12_isWay 52 = some (2, .iload 6)) rfl ?_
        refine x_if (tgt := 67) (by decide +kernel : am_at co_X12_isWay 54 = some (3, .ifCond .eq 13)) rfl Iff.rfl (fun q => absurd q (show ¬ ((1 : Int) = 0) by decide)) (fun q => ?_)
        refine x_aload_n (by decide +kernel : am_at co_X12_isWay 57 = some (1, .aload_n 0)) rfl ?_
        refine x_callV (n := 1) (by decide +kernel : am_at co_X12_isWay 58 = some (3, .invokevirtual 389)) pq_12_389 pm_X12_dreadMany rfl rfl rfl ob_152 h (x_k0 fun x8 M8 h => ?_)
        refine x_iconst (by decide +kernel : am_at co_X12_isWay 61 = some (1, .iconst 2)) ?_
        refine x_icmp (tgt := 67) (by decide +kernel : am_at co_X12_isWay 62 = some (3, .if_icmp .ge 5)) rfl Iff.rfl (fun c8 => ?_) (fun c8 => ?_)
        · have h := h.1 c8
          exact am_weak (lk (lk (lk (lk (lk (lk (lk (lk (lk ln))))))))) h
        · have c8 := (Int.not_le.mp c8)
          have h := h.2 c8
          refine x_iconst (by decide +kernel : am_at co_X12_isWay 65 = some (1, .iconst 0)) ?_
          exact x_zret (by decide +kernel : am_at co_X12_isWay 66 = some (1, .ireturn)) (by decide) h
    · have c3 := c3
      have h := h.2 c3
      refine x_iconst (by decide +kernel : am_at co_X12_isWay 29 = some (1, .iconst 0)) ?_
      exact x_zret (by decide +kernel : am_at co_X12_isWay 30 = some (1, .ireturn)) (by decide) h
set_option maxRecDepth 20000 in
theorem bk_X12_isWay_67 {d : Nat} {Q : am_Q} {M : am_M} {v1 v2 v3 v4 v5 v6 : Int} (h : am_cal pg d 226 [(2, 152), (0, 0), (0, v4), (0, (-1))] sh_T M (am_c0 sh_T fun x1 M1 => ((v6 = 0 → (0 ≤ x1 ∧ x1 < 1500) ∧ am_r ((M1 152 52) + (M1 187 x1)) ∧ am_cal pg d 228 [(2, 152), (0, 0), (0, v3), (0, v4), (0, v6)] sh_T (am_up M1 152 52 ((M1 152 52) + (M1 187 x1))) (am_c0 sh_T fun x5 M5 => ((¬ x5 = (-1) → am_r (v5 + 1) ∧ am_g 12 5 co_X12_isWay d Q 15 [(2, 152), (0, v1), (0, v2), (0, v3), (0, v4), (0, v5 + 1), (3, 0), (3, 0), (3, 0)] [] sh_T M5) ∧ (x5 = (-1) → Q (some (0, 0), sh_T, M5))))) ∧ (¬ v6 = 0 → am_cal pg d 226 [(2, 152), (0, 0), (0, v4), (0, x1)] sh_T M1 (am_c0 sh_T fun x8 M8 => (0 ≤ x8 ∧ x8 < 1500) ∧ am_r ((M1 152 52) + (M8 187 x8)) ∧ am_cal pg d 228 [(2, 152), (0, 0), (0, v3), (0, v4), (0, v6)] sh_T (am_up M8 152 52 ((M1 152 52) + (M8 187 x8))) (am_c0 sh_T fun x11 M11 => ((¬ x11 = (-1) → am_r (v5 + 1) ∧ am_g 12 5 co_X12_isWay d Q 15 [(2, 152), (0, v1), (0, v2), (0, v3), (0, v4), (0, v5 + 1), (3, 0), (3, 0), (3, 0)] [] sh_T M11) ∧ (x11 = (-1) → Q (some (0, 0), sh_T, M11))))))))) : am_g 12 5 co_X12_isWay d Q 67 [(2, 152), (0, v1), (0, v2), (0, v3), (0, v4), (0, v5), (0, v6), (3, 0), (3, 0)] [] sh_T M := by
  refine x_aload_n (by decide +kernel : am_at co_X12_isWay 67 = some (1, .aload_n 0)) rfl ?_
  refine x_iconst (by decide +kernel : am_at co_X12_isWay 68 = some (1, .iconst 0)) ?_
  refine x_iload (by decide +kernel : am_at co_X12_isWay 69 = some (2, .iload 4)) rfl ?_
  refine x_iconst (by decide +kernel : am_at co_X12_isWay 71 = some (1, .iconst (-1))) ?_
  refine x_callV (n := 4) (by decide +kernel : am_at co_X12_isWay 72 = some (3, .invokevirtual 423)) pq_12_423 pm_X12_worstAt rfl rfl rfl ob_152 h (x_k0 fun x1 M1 h => ?_)
  refine x_istore (L' := [(2, 152), (0, v1), (0, v2), (0, v3), (0, v4), (0, v5), (0, v6), (0, x1), (3, 0)]) (by decide +kernel : am_at co_X12_isWay 75 = some (2, .istore 7)) rfl ?_
  refine x_aload_n (by decide +kernel : am_at co_X12_isWay 77 = some (1, .aload_n 0)) rfl ?_
  refine x_dup2' (by decide +kernel : am_at co_X12_isWay 78 = some (1, .dup)) ?_
  refine x_getf (by decide +kernel : am_at co_X12_isWay 79 = some (3, .getfield 482)) pq_12_482 rfl ob_152 ?_
  refine x_aload_n (by decide +kernel : am_at co_X12_isWay 82 = some (1, .aload_n 0)) rfl ?_
  refine x_getF (by decide +kernel : am_at co_X12_isWay 83 = some (3, .getfield 118)) pq_12_118 (by decide) rfl ob_152 ?_
  refine x_top2 (show 152 + 35 = 187 from rfl) ?_
  refine x_iload (by decide +kernel : am_at co_X12_isWay 86 = some (2, .iload 6)) rfl ?_
  refine x_if (tgt := 103) (by decide +kernel : am_at co_X12_isWay 88 = some (3, .ifCond .eq 15)) rfl Iff.rfl (fun c1 => ?_) (fun c1 => ?_)
  · have h := h.1 c1
    refine x_iload (by decide +kernel : am_at co_X12_isWay 103 = some (2, .iload 7)) rfl ?_
    obtain ⟨o2, h⟩ := h
    refine x_iald (by decide +kernel : am_at co_X12_isWay 105 = some (1, .iaload)) (ia_187 o2.1 o2.2) ?_
    obtain ⟨o3, h⟩ := h
    refine x_iadd (by decide +kernel : am_at co_X12_isWay 106 = some (1, .iadd)) o3 ?_
    refine x_putf0 (by decide +kernel : am_at co_X12_isWay 107 = some (3, .putfield 482)) pq_12_482 rfl ob_152 ?_
    refine x_aload_n (by decide +kernel : am_at co_X12_isWay 110 = some (1, .aload_n 0)) rfl ?_
    refine x_iconst (by decide +kernel : am_at co_X12_isWay 111 = some (1, .iconst 0)) ?_
    refine x_iload_n (by decide +kernel : am_at co_X12_isWay 112 = some (1, .iload_n 3)) rfl ?_
    refine x_iload (by decide +kernel : am_at co_X12_isWay 113 = some (2, .iload 4)) rfl ?_
    refine x_iload (by decide +kernel : am_at co_X12_isWay 115 = some (2, .iload 6)) rfl ?_
    refine x_callV (n := 5) (by decide +kernel : am_at co_X12_isWay 117 = some (3, .invokevirtual 463)) pq_12_463 pm_X12_roomGoes rfl rfl rfl ob_152 h (x_k0 fun x5 M5 h => ?_)
    refine x_istore (L' := [(2, 152), (0, v1), (0, v2), (0, v3), (0, v4), (0, v5), (0, v6), (0, x1), (0, x5)]) (by decide +kernel : am_at co_X12_isWay 120 = some (2, .istore 8)) rfl ?_
    refine x_iload (by decide +kernel : am_at co_X12_isWay 122 = some (2, .iload 8)) rfl ?_
    refine x_iconst (by decide +kernel : am_at co_X12_isWay 124 = some (1, .iconst (-1))) ?_
    refine x_icmp (tgt := 130) (by decide +kernel : am_at co_X12_isWay 125 = some (3, .if_icmp .ne 5)) rfl Iff.rfl (fun c5 => ?_) (fun c5 => ?_)
    · have h := h.1 c5
      obtain ⟨o6, h⟩ := h
      refine x_iinc (L' := [(2, 152), (0, v1), (0, v2), (0, v3), (0, v4), (0, v5 + 1), (0, v6), (0, x1), (0, x5)]) (by decide +kernel : am_at co_X12_isWay 130 = some (3, .iinc 5 1)) rfl o6 rfl ?_
      refine x_goto (tgt := 15) (by decide +kernel : am_at co_X12_isWay 133 = some (3, .goto (-118))) rfl ?_
      exact am_weak (lk (lk (lk (lk (lk (lk (ld (ld (ld ln))))))))) h
    · have c5 := (Classical.not_not.mp c5)
      have h := h.2 c5
      refine x_iconst (by decide +kernel : am_at co_X12_isWay 128 = some (1, .iconst 0)) ?_
      exact x_zret (by decide +kernel : am_at co_X12_isWay 129 = some (1, .ireturn)) (by decide) h
  · have c1 := c1
    have h := h.2 c1
    refine x_aload_n (by decide +kernel : am_at co_X12_isWay 91 = some (1, .aload_n 0)) rfl ?_
    refine x_iconst (by decide +kernel : am_at co_X12_isWay 92 = some (1, .iconst 0)) ?_
    refine x_iload (by decide +kernel : am_at co_X12_isWay 93 = some (2, .iload 4)) rfl ?_
    refine x_iload (by decide +kernel : am_at co_X12_isWay 95 = some (2, .iload 7)) rfl ?_
    refine x_callV (n := 4) (by decide +kernel : am_at co_X12_isWay 97 = some (3, .invokevirtual 423)) pq_12_423 pm_X12_worstAt rfl rfl rfl ob_152 h (x_k0 fun x8 M8 h => ?_)
    refine x_goto (tgt := 105) (by decide +kernel : am_at co_X12_isWay 100 = some (3, .goto 5)) rfl ?_
    obtain ⟨o8, h⟩ := h
    refine x_iald (by decide +kernel : am_at co_X12_isWay 105 = some (1, .iaload)) (ia_187 o8.1 o8.2) ?_
    obtain ⟨o9, h⟩ := h
    refine x_iadd (by decide +kernel : am_at co_X12_isWay 106 = some (1, .iadd)) o9 ?_
    refine x_putf0 (by decide +kernel : am_at co_X12_isWay 107 = some (3, .putfield 482)) pq_12_482 rfl ob_152 ?_
    refine x_aload_n (by decide +kernel : am_at co_X12_isWay 110 = some (1, .aload_n 0)) rfl ?_
    refine x_iconst (by decide +kernel : am_at co_X12_isWay 111 = some (1, .iconst 0)) ?_
    refine x_iload_n (by decide +kernel : am_at co_X12_isWay 112 = some (1, .iload_n 3)) rfl ?_
    refine x_iload (by decide +kernel : am_at co_X12_isWay 113 = some (2, .iload 4)) rfl ?_
    refine x_iload (by decide +kernel : am_at co_X12_isWay 115 = some (2, .iload 6)) rfl ?_
    refine x_callV (n := 5) (by decide +kernel : am_at co_X12_isWay 117 = some (3, .invokevirtual 463)) pq_12_463 pm_X12_roomGoes rfl rfl rfl ob_152 h (x_k0 fun x11 M11 h => ?_)
    refine x_istore (L' := [(2, 152), (0, v1), (0, v2), (0, v3), (0, v4), (0, v5), (0, v6), (0, x1), (0, x11)]) (by decide +kernel : am_at co_X12_isWay 120 = some (2, .istore 8)) rfl ?_
    refine x_iload (by decide +kernel : am_at co_X12_isWay 122 = some (2, .iload 8)) rfl ?_
    refine x_iconst (by decide +kernel : am_at co_X12_isWay 124 = some (1, .iconst (-1))) ?_
    refine x_icmp (tgt := 130) (by decide +kernel : am_at co_X12_isWay 125 = some (3, .if_icmp .ne 5)) rfl Iff.rfl (fun c11 => ?_) (fun c11 => ?_)
    · have h := h.1 c11
      obtain ⟨o12, h⟩ := h
      refine x_iinc (L' := [(2, 152), (0, v1), (0, v2), (0, v3), (0, v4), (0, v5 + 1), (0, v6), (0, x1), (0, x11)]) (by decide +kernel : am_at co_X12_isWay 130 = some (3, .iinc 5 1)) rfl o12 rfl ?_
      refine x_goto (tgt := 15) (by decide +kernel : am_at co_X12_isWay 133 = some (3, .goto (-118))) rfl ?_
      exact am_weak (lk (lk (lk (lk (lk (lk (ld (ld (ld ln))))))))) h
    · have c11 := (Classical.not_not.mp c11)
      have h := h.2 c11
      refine x_iconst (by decide +kernel : am_at co_X12_isWay 128 = some (1, .iconst 0)) ?_
      exact x_zret (by decide +kernel : am_at co_X12_isWay 129 = some (1, .ireturn)) (by decide) h
set_option maxRecDepth 20000 in
theorem bk_X12_seeksSoonest_0 {d : Nat} {Q : am_Q} {M : am_M} {v1 v2 : Int} (h : am_g 12 9 co_X12_seeksSoonest d Q 7 [(2, 152), (0, v1), (0, v2), (0, 0), (3, 0)] [] sh_T (am_up M 152 54 (-1))) : am_g 12 9 co_X12_seeksSoonest d Q 0 [(2, 152), (0, v1), (0, v2), (3, 0), (3, 0)] [] sh_T M := by
  refine x_aload_n (by decide +kernel : am_at co_X12_seeksSoonest 0 = some (1, .aload_n 0)) rfl ?_
  refine x_iconst (by decide +kernel : am_at co_X12_seeksSoonest 1 = some (1, .iconst (-1))) ?_
  refine x_putf0 (by decide +kernel : am_at co_X12_seeksSoonest 2 = some (3, .putfield 485)) pq_12_485 rfl ob_152 ?_
  refine x_iconst (by decide +kernel : am_at co_X12_seeksSoonest 5 = some (1, .iconst 0)) ?_
  refine x_istore_n (L' := [(2, 152), (0, v1), (0, v2), (0, 0), (3, 0)]) (by decide +kernel : am_at co_X12_seeksSoonest 6 = some (1, .istore_n 3)) rfl ?_
  exact am_weak (lk (lk (lk (lk (lk ln))))) h
set_option maxRecDepth 20000 in
theorem bk_X12_seeksSoonest_7 {d : Nat} {Q : am_Q} {M : am_M} {v1 v2 v3 : Int} (h : ((10 < v3 → Q (none, sh_T, M)) ∧ (v3 ≤ 10 → ((¬ M 152 54 = (-1) → Q (none, sh_T, M)) ∧ (M 152 54 = (-1) → am_g 12 9 co_X12_seeksSoonest d Q 24 [(2, 152), (0, v1), (0, v2), (0, v3), (0, 0)] [] sh_T M))))) : am_g 12 9 co_X12_seeksSoonest d Q 7 [(2, 152), (0, v1), (0, v2), (0, v3), (3, 0)] [] sh_T M := by
  refine x_iload_n (by decide +kernel : am_at co_X12_seeksSoonest 7 = some (1, .iload_n 3)) rfl ?_
  refine x_bipush (by decide +kernel : am_at co_X12_seeksSoonest 8 = some (2, .bipush 10)) ?_
  refine x_icmp (tgt := 78) (by decide +kernel : am_at co_X12_seeksSoonest 10 = some (3, .if_icmp .gt 68)) rfl Iff.rfl (fun c0 => ?_) (fun c0 => ?_)
  · have h := h.1 c0
    exact x_vret (by decide +kernel : am_at co_X12_seeksSoonest 78 = some (1, .return_)) h
  · have c0 := (Int.not_lt.mp c0)
    have h := h.2 c0
    refine x_aload_n (by decide +kernel : am_at co_X12_seeksSoonest 13 = some (1, .aload_n 0)) rfl ?_
    refine x_getf (by decide +kernel : am_at co_X12_seeksSoonest 14 = some (3, .getfield 485)) pq_12_485 rfl ob_152 ?_
    refine x_iconst (by decide +kernel : am_at co_X12_seeksSoonest 17 = some (1, .iconst (-1))) ?_
    refine x_icmp (tgt := 78) (by decide +kernel : am_at co_X12_seeksSoonest 18 = some (3, .if_icmp .ne 60)) rfl Iff.rfl (fun c1 => ?_) (fun c1 => ?_)
    · have h := h.1 c1
      exact x_vret (by decide +kernel : am_at co_X12_seeksSoonest 78 = some (1, .return_)) h
    · have c1 := (Classical.not_not.mp c1)
      have h := h.2 c1
      refine x_iconst (by decide +kernel : am_at co_X12_seeksSoonest 21 = some (1, .iconst 0)) ?_
      refine x_istore (L' := [(2, 152), (0, v1), (0, v2), (0, v3), (0, 0)]) (by decide +kernel : am_at co_X12_seeksSoonest 22 = some (2, .istore 4)) rfl ?_
      exact am_weak (lk (lk (lk (lk (lk ln))))) h
set_option maxRecDepth 20000 in
theorem bk_X12_seeksSoonest_24 {d : Nat} {Q : am_Q} {M : am_M} {v1 v2 v3 v4 : Int} (h : ((am_shl 1 v3 ≤ v4 → am_r (v3 + 1) ∧ am_g 12 9 co_X12_seeksSoonest d Q 7 [(2, 152), (0, v1), (0, v2), (0, v3 + 1), (3, 0)] [] sh_T M) ∧ (v4 < am_shl 1 v3 → ((¬ M 152 54 = (-1) → am_r (v3 + 1) ∧ am_g 12 9 co_X12_seeksSoonest d Q 7 [(2, 152), (0, v1), (0, v2), (0, v3 + 1), (3, 0)] [] sh_T M) ∧ (M 152 54 = (-1) → am_cal pg d 244 [(2, 152), (0, v4), (0, v3), (0, v1), (0, v2)] sh_T M (am_c0 sh_T fun x5 M5 => ((¬ x5 = 0 → am_r (v4 + 1) ∧ am_g 12 9 co_X12_seeksSoonest d Q 24 [(2, 152), (0, v1), (0, v2), (0, v3), (0, v4 + 1)] [] sh_T (am_up (am_up M5 152 54 v3) 152 53 v4)) ∧ (x5 = 0 → am_r (v4 + 1) ∧ am_g 12 9 co_X12_seeksSoonest d Q 24 [(2, 152), (0, v1), (0, v2), (0, v3), (0, v4 + 1)] [] sh_T M5)))))))) : am_g 12 9 co_X12_seeksSoonest d Q 24 [(2, 152), (0, v1), (0, v2), (0, v3), (0, v4)] [] sh_T M := by
  refine x_iload (by decide +kernel : am_at co_X12_seeksSoonest 24 = some (2, .iload 4)) rfl ?_
  refine x_iconst (by decide +kernel : am_at co_X12_seeksSoonest 26 = some (1, .iconst 1)) ?_
  refine x_iload_n (by decide +kernel : am_at co_X12_seeksSoonest 27 = some (1, .iload_n 3)) rfl ?_
  refine x_ishl (by decide +kernel : am_at co_X12_seeksSoonest 28 = some (1, .ishl)) ?_
  refine x_icmp (tgt := 72) (by decide +kernel : am_at co_X12_seeksSoonest 29 = some (3, .if_icmp .ge 43)) rfl Iff.rfl (fun c0 => ?_) (fun c0 => ?_)
  · have h := h.1 c0
    obtain ⟨o1, h⟩ := h
    refine x_iinc (L' := [(2, 152), (0, v1), (0, v2), (0, v3 + 1), (0, v4)]) (by decide +kernel : am_at co_X12_seeksSoonest 72 = some (3, .iinc 3 1)) rfl o1 rfl ?_
    refine x_goto (tgt := 7) (by decide +kernel : am_at co_X12_seeksSoonest 75 = some (3, .goto (-68))) rfl ?_
    exact am_weak (lk (lk (lk (lk (ld ln))))) h
  · have c0 := (Int.not_le.mp c0)
    have h := h.2 c0
    refine x_aload_n (by decide +kernel : am_at co_X12_seeksSoonest 32 = some (1, .aload_n 0)) rfl ?_
    refine x_getf (by decide +kernel : am_at co_X12_seeksSoonest 33 = some (3, .getfield 485)) pq_12_485 rfl ob_152 ?_
    refine x_iconst (by decide +kernel : am_at co_X12_seeksSoonest 36 = some (1, .iconst (-1))) ?_
    refine x_icmp (tgt := 72) (by decide +kernel : am_at co_X12_seeksSoonest 37 = some (3, .if_icmp .ne 35)) rfl Iff.rfl (fun c2 => ?_) (fun c2 => ?_)
    · have h := h.1 c2
      obtain ⟨o3, h⟩ := h
      refine x_iinc (L' := [(2, 152), (0, v1), (0, v2), (0, v3 + 1), (0, v4)]) (by decide +kernel : am_at co_X12_seeksSoonest 72 = some (3, .iinc 3 1)) rfl o3 rfl ?_
      refine x_goto (tgt := 7) (by decide +kernel : am_at co_X12_seeksSoonest 75 = some (3, .goto (-68))) rfl ?_
      exact am_weak (lk (lk (lk (lk (ld ln))))) h
    · have c2 := (Classical.not_not.mp c2)
      have h := h.2 c2
      refine x_aload_n (by decide +kernel : am_at co_X12_seeksSoonest 40 = some (1, .aload_n 0)) rfl ?_
      refine x_iload (by decide +kernel : am_at co_X12_seeksSoonest 41 = some (2, .iload 4)) rfl ?_
      refine x_iload_n (by decide +kernel : am_at co_X12_seeksSoonest 43 = some (1, .iload_n 3)) rfl ?_
      refine x_iload_n (by decide +kernel : am_at co_X12_seeksSoonest 44 = some (1, .iload_n 1)) rfl ?_
      refine x_iload_n (by decide +kernel : am_at co_X12_seeksSoonest 45 = some (1, .iload_n 2)) rfl ?_
      refine x_callV (n := 5) (by decide +kernel : am_at co_X12_seeksSoonest 46 = some (3, .invokevirtual 488)) pq_12_488 pm_X12_isWay rfl rfl rfl ob_152 h (x_k0 fun x5 M5 h => ?_)
      refine x_if (tgt := 55) (by decide +kernel : am_at co_X12_seeksSoonest 49 = some (3, .ifCond .ne 6)) rfl Iff.rfl (fun c5 => ?_) (fun c5 => ?_)
      · have h := h.1 c5
        refine x_aload_n (by decide +kernel : am_at co_X12_seeksSoonest 55 = some (1, .aload_n 0)) rfl ?_
        refine x_iload_n (by decide +kernel : am_at co_X12_seeksSoonest 56 = some (1, .iload_n 3)) rfl ?_
        refine x_putf0 (by decide +kernel : am_at co_X12_seeksSoonest 57 = some (3, .putfield 485)) pq_12_485 rfl ob_152 ?_
        refine x_aload_n (by decide +kernel : am_at co_X12_seeksSoonest 60 = some (1, .aload_n 0)) rfl ?_
        refine x_iload (by decide +kernel : am_at co_X12_seeksSoonest 61 = some (2, .iload 4)) rfl ?_
        refine x_putf0 (by decide +kernel : am_at co_X12_seeksSoonest 63 = some (3, .putfield 492)) pq_12_492 rfl ob_152 ?_
        obtain ⟨o6, h⟩ := h
        refine x_iinc (L' := [(2, 152), (0, v1), (0, v2), (0, v3), (0, v4 + 1)]) (by decide +kernel : am_at co_X12_seeksSoonest 66 = some (3, .iinc 4 1)) rfl o6 rfl ?_
        refine x_goto (tgt := 24) (by decide +kernel : am_at co_X12_seeksSoonest 69 = some (3, .goto (-45))) rfl ?_
        exact am_weak (lk (lk (lk (lk (lk ln))))) h
      · have c5 := (Classical.not_not.mp c5)
        have h := h.2 c5
        refine x_goto (tgt := 66) (by decide +kernel : am_at co_X12_seeksSoonest 52 = some (3, .goto 14)) rfl ?_
        obtain ⟨o7, h⟩ := h
        refine x_iinc (L' := [(2, 152), (0, v1), (0, v2), (0, v3), (0, v4 + 1)]) (by decide +kernel : am_at co_X12_seeksSoonest 66 = some (3, .iinc 4 1)) rfl o7 rfl ?_
        refine x_goto (tgt := 24) (by decide +kernel : am_at co_X12_seeksSoonest 69 = some (3, .goto (-45))) rfl ?_
        exact am_weak (lk (lk (lk (lk (lk ln))))) h
set_option maxRecDepth 20000 in
theorem bk_X12_wayTold_0 {d : Nat} {Q : am_Q} {M : am_M} {v1 : Int} (h : am_r ((M 152 54) - 1) ∧ am_cal pg d 169 [(1, v1), (1, 0), (1, (M 152 54) - 1)] sh_T M (am_c0 sh_T fun x2 M2 => ((x2 = 0 → Q (some (0, (-1)), sh_T, M2)) ∧ (¬ x2 = 0 → am_r ((M2 152 54) - 1) ∧ am_r (((M2 152 54) - 1) - v1) ∧ Q (some (0, am_band (am_shr (M2 152 53) (((M2 152 54) - 1) - v1)) 1), sh_T, M2))))) : am_g 12 0 co_X12_wayTold d Q 0 [(2, 152), (0, v1)] [] sh_T M := by
  refine x_iload_n (by decide +kernel : am_at co_X12_wayTold 0 = some (1, .iload_n 1)) rfl ?_
  refine x_i2l (by decide +kernel : am_at co_X12_wayTold 1 = some (1, .i2l)) ?_
  refine x_lconst (by decide +kernel : am_at co_X12_wayTold 2 = some (1, .lconst 0)) ?_
  refine x_aload_n (by decide +kernel : am_at co_X12_wayTold 3 = some (1, .aload_n 0)) rfl ?_
  refine x_getf (by decide +kernel : am_at co_X12_wayTold 4 = some (3, .getfield 485)) pq_12_485 rfl ob_152 ?_
  refine x_iconst (by decide +kernel : am_at co_X12_wayTold 7 = some (1, .iconst 1)) ?_
  obtain ⟨o0, h⟩ := h
  refine x_isub (by decide +kernel : am_at co_X12_wayTold 8 = some (1, .isub)) o0 ?_
  refine x_i2l (by decide +kernel : am_at co_X12_wayTold 9 = some (1, .i2l)) ?_
  refine x_callS (n := 3) (by decide +kernel : am_at co_X12_wayTold 10 = some (3, .invokestatic 249)) pq_12_249 rfl rfl rfl h (x_k0 fun x2 M2 h => ?_)
  refine x_if (tgt := 34) (by decide +kernel : am_at co_X12_wayTold 13 = some (3, .ifCond .eq 21)) rfl Iff.rfl (fun c2 => ?_) (fun c2 => ?_)
  · have h := h.1 c2
    refine x_iconst (by decide +kernel : am_at co_X12_wayTold 34 = some (1, .iconst (-1))) ?_
    exact x_iret (by decide +kernel : am_at co_X12_wayTold 35 = some (1, .ireturn)) h
  · have c2 := c2
    have h := h.2 c2
    refine x_aload_n (by decide +kernel : am_at co_X12_wayTold 16 = some (1, .aload_n 0)) rfl ?_
    refine x_getf (by decide +kernel : am_at co_X12_wayTold 17 = some (3, .getfield 492)) pq_12_492 rfl ob_152 ?_
    refine x_aload_n (by decide +kernel : am_at co_X12_wayTold 20 = some (1, .aload_n 0)) rfl ?_
    refine x_getf (by decide +kernel : am_at co_X12_wayTold 21 = some (3, .getfield 485)) pq_12_485 rfl ob_152 ?_
    refine x_iconst (by decide +kernel : am_at co_X12_wayTold 24 = some (1, .iconst 1)) ?_
    obtain ⟨o3, h⟩ := h
    refine x_isub (by decide +kernel : am_at co_X12_wayTold 25 = some (1, .isub)) o3 ?_
    refine x_iload_n (by decide +kernel : am_at co_X12_wayTold 26 = some (1, .iload_n 1)) rfl ?_
    obtain ⟨o4, h⟩ := h
    refine x_isub (by decide +kernel : am_at co_X12_wayTold 27 = some (1, .isub)) o4 ?_
    refine x_ishr (by decide +kernel : am_at co_X12_wayTold 28 = some (1, .ishr)) ?_
    refine x_iconst (by decide +kernel : am_at co_X12_wayTold 29 = some (1, .iconst 1)) ?_
    refine x_iand (by decide +kernel : am_at co_X12_wayTold 30 = some (1, .iand)) ?_
    refine x_goto (tgt := 35) (by decide +kernel : am_at co_X12_wayTold 31 = some (3, .goto 4)) rfl ?_
    exact x_iret (by decide +kernel : am_at co_X12_wayTold 35 = some (1, .ireturn)) h
set_option maxRecDepth 20000 in
theorem bk_X12_soonest_0 {d : Nat} {Q : am_Q} {M : am_M} {v1 v2 : Int} (h : am_cal pg d 215 [(2, 152), (0, v1)] sh_T M (am_c0 sh_T fun x1 M1 => ((¬ x1 = 0 → am_cal pg d 218 [(2, 152), (0, v1), (0, 7)] sh_T M1 (am_cv sh_T fun M3 => am_cal pg d 230 [(2, 152), (0, v1)] sh_T M3 (am_c0 sh_T fun x4 M4 => am_cal pg d 245 [(2, 152), (0, v1), (0, x4)] sh_T M4 (am_cv sh_T fun M5 => ((¬ v2 = (-1) → am_cal pg d 246 [(2, 152), (0, v2)] sh_T M5 (am_c0 sh_T fun x7 M7 => Q (some (0, x7), sh_T, M7))) ∧ (v2 = (-1) → Q (some (0, M5 152 54), sh_T, M5))))))) ∧ (x1 = 0 → Q (some (0, (-1)), sh_T, M1))))) : am_g 12 0 co_X12_soonest d Q 0 [(2, 152), (0, v1), (0, v2)] [] sh_T M := by
  refine x_aload_n (by decide +kernel : am_at co_X12_soonest 0 = some (1, .aload_n 0)) rfl ?_
  refine x_iload_n (by decide +kernel : am_at co_X12_soonest 1 = some (1, .iload_n 1)) rfl ?_
  refine x_callV (n := 2) (by decide +kernel : am_at co_X12_soonest 2 = some (3, .invokevirtual 446)) pq_12_446 pm_X12_isDreamer rfl rfl rfl ob_152 h (x_k0 fun x1 M1 h => ?_)
  refine x_if (tgt := 10) (by decide +kernel : am_at co_X12_soonest 5 = some (3, .ifCond .ne 5)) rfl Iff.rfl (fun c1 => ?_) (fun c1 => ?_)
  · have h := h.1 c1
    refine x_aload_n (by decide +kernel : am_at co_X12_soonest 10 = some (1, .aload_n 0)) rfl ?_
    refine x_iload_n (by decide +kernel : am_at co_X12_soonest 11 = some (1, .iload_n 1)) rfl ?_
    refine x_bipush (by decide +kernel : am_at co_X12_soonest 12 = some (2, .bipush 7)) ?_
    refine x_callV (n := 3) (by decide +kernel : am_at co_X12_soonest 14 = some (3, .invokevirtual 430)) pq_12_430 pm_X12_laysNow rfl rfl rfl ob_152 h (x_kv fun M3 h => ?_)
    refine x_aload_n (by decide +kernel : am_at co_X12_soonest 17 = some (1, .aload_n 0)) rfl ?_
    refine x_iload_n (by decide +kernel : am_at co_X12_soonest 18 = some (1, .iload_n 1)) rfl ?_
    refine x_aload_n (by decide +kernel : am_at co_X12_soonest 19 = some (1, .aload_n 0)) rfl ?_
    refine x_iload_n (by decide +kernel : am_at co_X12_soonest 20 = some (1, .iload_n 1)) rfl ?_
    refine x_callV (n := 2) (by decide +kernel : am_at co_X12_soonest 21 = some (3, .invokevirtual 449)) pq_12_449 pm_X12_guideOf rfl rfl rfl ob_152 h (x_k0 fun x4 M4 h => ?_)
    refine x_callV (n := 3) (by decide +kernel : am_at co_X12_soonest 24 = some (3, .invokevirtual 495)) pq_12_495 pm_X12_seeksSoonest rfl rfl rfl ob_152 h (x_kv fun M5 h => ?_)
    refine x_iload_n (by decide +kernel : am_at co_X12_soonest 27 = some (1, .iload_n 2)) rfl ?_
    refine x_iconst (by decide +kernel : am_at co_X12_soonest 28 = some (1, .iconst (-1))) ?_
    refine x_icmp (tgt := 39) (by decide +kernel : am_at co_X12_soonest 29 = some (3, .if_icmp .ne 10)) rfl Iff.rfl (fun c5 => ?_) (fun c5 => ?_)
    · have h := h.1 c5
      refine x_aload_n (by decide +kernel : am_at co_X12_soonest 39 = some (1, .aload_n 0)) rfl ?_
      refine x_iload_n (by decide +kernel : am_at co_X12_soonest 40 = some (1, .iload_n 2)) rfl ?_
      refine x_callV (n := 2) (by decide +kernel : am_at co_X12_soonest 41 = some (3, .invokevirtual 498)) pq_12_498 pm_X12_wayTold rfl rfl rfl ob_152 h (x_k0 fun x7 M7 h => ?_)
      exact x_iret (by decide +kernel : am_at co_X12_soonest 44 = some (1, .ireturn)) h
    · have c5 := (Classical.not_not.mp c5)
      have h := h.2 c5
      refine x_aload_n (by decide +kernel : am_at co_X12_soonest 32 = some (1, .aload_n 0)) rfl ?_
      refine x_getf (by decide +kernel : am_at co_X12_soonest 33 = some (3, .getfield 485)) pq_12_485 rfl ob_152 ?_
      refine x_goto (tgt := 44) (by decide +kernel : am_at co_X12_soonest 36 = some (3, .goto 8)) rfl ?_
      exact x_iret (by decide +kernel : am_at co_X12_soonest 44 = some (1, .ireturn)) h
  · have c1 := (Classical.not_not.mp c1)
    have h := h.2 c1
    refine x_iconst (by decide +kernel : am_at co_X12_soonest 8 = some (1, .iconst (-1))) ?_
    exact x_iret (by decide +kernel : am_at co_X12_soonest 9 = some (1, .ireturn)) h
set_option maxRecDepth 20000 in
theorem bk_X12_least_0 {d : Nat} {Q : am_Q} {M : am_M} {v1 v2 : Int} (h : am_cal pg d 215 [(2, 152), (0, v1)] sh_T M (am_c0 sh_T fun x1 M1 => ((¬ x1 = 0 → am_cal pg d 218 [(2, 152), (0, v1), (0, 7)] sh_T M1 (am_cv sh_T fun M3 => am_g 12 0 co_X12_least d Q 27 [(2, 152), (0, v1), (0, v2), (0, (-1)), (0, 0), (3, 0)] [] sh_T (am_up M3 152 54 (-1)))) ∧ (x1 = 0 → Q (some (0, (-1)), sh_T, M1))))) : am_g 12 0 co_X12_least d Q 0 [(2, 152), (0, v1), (0, v2), (3, 0), (3, 0), (3, 0)] [] sh_T M := by
  refine x_aload_n (by decide +kernel : am_at co_X12_least 0 = some (1, .aload_n 0)) rfl ?_
  refine x_iload_n (by decide +kernel : am_at co_X12_least 1 = some (1, .iload_n 1)) rfl ?_
  refine x_callV (n := 2) (by decide +kernel : am_at co_X12_least 2 = some (3, .invokevirtual 446)) pq_12_446 pm_X12_isDreamer rfl rfl rfl ob_152 h (x_k0 fun x1 M1 h => ?_)
  refine x_if (tgt := 10) (by decide +kernel : am_at co_X12_least 5 = some (3, .ifCond .ne 5)) rfl Iff.rfl (fun c1 => ?_) (fun c1 => ?_)
  · have h := h.1 c1
    refine x_aload_n (by decide +kernel : am_at co_X12_least 10 = some (1, .aload_n 0)) rfl ?_
    refine x_iload_n (by decide +kernel : am_at co_X12_least 11 = some (1, .iload_n 1)) rfl ?_
    refine x_bipush (by decide +kernel : am_at co_X12_least 12 = some (2, .bipush 7)) ?_
    refine x_callV (n := 3) (by decide +kernel : am_at co_X12_least 14 = some (3, .invokevirtual 430)) pq_12_430 pm_X12_laysNow rfl rfl rfl ob_152 h (x_kv fun M3 h => ?_)
    refine x_iconst (by decide +kernel : am_at co_X12_least 17 = some (1, .iconst (-1))) ?_
    refine x_istore_n (L' := [(2, 152), (0, v1), (0, v2), (0, (-1)), (3, 0), (3, 0)]) (by decide +kernel : am_at co_X12_least 18 = some (1, .istore_n 3)) rfl ?_
    refine x_aload_n (by decide +kernel : am_at co_X12_least 19 = some (1, .aload_n 0)) rfl ?_
    refine x_iconst (by decide +kernel : am_at co_X12_least 20 = some (1, .iconst (-1))) ?_
    refine x_putf0 (by decide +kernel : am_at co_X12_least 21 = some (3, .putfield 485)) pq_12_485 rfl ob_152 ?_
    refine x_iconst (by decide +kernel : am_at co_X12_least 24 = some (1, .iconst 0)) ?_
    refine x_istore (L' := [(2, 152), (0, v1), (0, v2), (0, (-1)), (0, 0), (3, 0)]) (by decide +kernel : am_at co_X12_least 25 = some (2, .istore 4)) rfl ?_
    exact am_weak (lk (lk (lk (lk (lk (lk ln)))))) h
  · have c1 := (Classical.not_not.mp c1)
    have h := h.2 c1
    refine x_iconst (by decide +kernel : am_at co_X12_least 8 = some (1, .iconst (-1))) ?_
    exact x_iret (by decide +kernel : am_at co_X12_least 9 = some (1, .ireturn)) h
set_option maxRecDepth 20000 in
theorem bk_X12_least_27 {d : Nat} {Q : am_Q} {M : am_M} {v1 v2 v3 v4 : Int} (h : ((10 < v4 → ((¬ v2 = (-1) → ((¬ v2 = 20 → am_cal pg d 246 [(2, 152), (0, v2)] sh_T M (am_c0 sh_T fun x4 M4 => Q (some (0, x4), sh_T, M4))) ∧ (v2 = 20 → Q (some (0, M 152 54), sh_T, M)))) ∧ (v2 = (-1) → Q (some (0, v3), sh_T, M)))) ∧ (v4 ≤ 10 → am_g 12 0 co_X12_least d Q 37 [(2, 152), (0, v1), (0, v2), (0, v3), (0, v4), (0, 0)] [] sh_T M))) : am_g 12 0 co_X12_least d Q 27 [(2, 152), (0, v1), (0, v2), (0, v3), (0, v4), (3, 0)] [] sh_T M := by
  refine x_iload (by decide +kernel : am_at co_X12_least 27 = some (2, .iload 4)) rfl ?_
  refine x_bipush (by decide +kernel : am_at co_X12_least 29 = some (2, .bipush 10)) ?_
  refine x_icmp (tgt := 108) (by decide +kernel : am_at co_X12_least 31 = some (3, .if_icmp .gt 77)) rfl Iff.rfl (fun c0 => ?_) (fun c0 => ?_)
  · have h := h.1 c0
    refine x_iload_n (by decide +kernel : am_at co_X12_least 108 = some (1, .iload_n 2)) rfl ?_
    refine x_iconst (by decide +kernel : am_at co_X12_least 109 = some (1, .iconst (-1))) ?_
    refine x_icmp (tgt := 117) (by decide +kernel : am_at co_X12_least 110 = some (3, .if_icmp .ne 7)) rfl Iff.rfl (fun c1 => ?_) (fun c1 => ?_)
    · have h := h.1 c1
      refine x_iload_n (by decide +kernel : am_at co_X12_least 117 = some (1, .iload_n 2)) rfl ?_
      refine x_bipush (by decide +kernel : am_at co_X12_least 118 = some (2, .bipush 20)) ?_
      refine x_icmp (tgt := 130) (by decide +kernel : am_at co_X12_least 120 = some (3, .if_icmp .ne 10)) rfl Iff.rfl (fun c2 => ?_) (fun c2 => ?_)
      · have h := h.1 c2
        refine x_aload_n (by decide +kernel : am_at co_X12_least 130 = some (1, .aload_n 0)) rfl ?_
        refine x_iload_n (by decide +kernel : am_at co_X12_least 131 = some (1, .iload_n 2)) rfl ?_
        refine x_callV (n := 2) (by decide +kernel : am_at co_X12_least 132 = some (3, .invokevirtual 498)) pq_12_498 pm_X12_wayTold rfl rfl rfl ob_152 h (x_k0 fun x4 M4 h => ?_)
        exact x_iret (by decide +kernel : am_at co_X12_least 135 = some (1, .ireturn)) h
      · have c2 := (Classical.not_not.mp c2)
        have h := h.2 c2
        refine x_aload_n (by decide +kernel : am_at co_X12_least 123 = some (1, .aload_n 0)) rfl ?_
        refine x_getf (by decide +kernel : am_at co_X12_least 124 = some (3, .getfield 485)) pq_12_485 rfl ob_152 ?_
        refine x_goto (tgt := 135) (by decide +kernel : am_at co_X12_least 127 = some (3, .goto 8)) rfl ?_
        exact x_iret (by decide +kernel : am_at co_X12_least 135 = some (1, .ireturn)) h
    · have c1 := (Classical.not_not.mp c1)
      have h := h.2 c1
      refine x_iload_n (by decide +kernel : am_at co_X12_least 113 = some (1, .iload_n 3)) rfl ?_
      refine x_goto (tgt := 135) (by decide +kernel : am_at co_X12_least 114 = some (3, .goto 21)) rfl ?_
      exact x_iret (by decide +kernel : am_at co_X12_least 135 = some (1, .ireturn)) h
  · have c0 := (Int.not_lt.mp c0)
    have h := h.2 c0
    refine x_iconst (by decide +kernel : am_at co_X12_least 34 = some (1, .iconst 0)) ?_
    refine x_istore (L' := [(2, 152), (0, v1), (0, v2), (0, v3), (0, v4), (0, 0)]) (by decide +kernel : am_at co_X12_least 35 = some (2, .istore 5)) rfl ?_
    exact am_weak (lk (lk (lk (lk (lk (lk ln)))))) h
set_option maxRecDepth 20000 in
theorem bk_X12_least_37 {d : Nat} {Q : am_Q} {M : am_M} {v1 v2 v3 v4 v5 : Int} (h : ((am_shl 1 v4 ≤ v5 → am_r (v4 + 1) ∧ am_g 12 0 co_X12_least d Q 27 [(2, 152), (0, v1), (0, v2), (0, v3), (0, v4 + 1), (3, 0)] [] sh_T M) ∧ (v5 < am_shl 1 v4 → am_cal pg d 230 [(2, 152), (0, v1)] sh_T M (am_c0 sh_T fun x3 M3 => am_cal pg d 244 [(2, 152), (0, v5), (0, v4), (0, v1), (0, x3)] sh_T M3 (am_c0 sh_T fun x4 M4 => ((x4 = 0 → am_r (v5 + 1) ∧ am_g 12 0 co_X12_least d Q 37 [(2, 152), (0, v1), (0, v2), (0, v3), (0, v4), (0, v5 + 1)] [] sh_T M4) ∧ (¬ x4 = 0 → ((v3 = (-1) → am_r (v5 + 1) ∧ am_g 12 0 co_X12_least d Q 37 [(2, 152), (0, v1), (0, v2), (0, M4 152 52), (0, v4), (0, v5 + 1)] [] sh_T (am_up (am_up M4 152 54 v4) 152 53 v5)) ∧ (¬ v3 = (-1) → ((M4 152 52 < v3 → am_r (v5 + 1) ∧ am_g 12 0 co_X12_least d Q 37 [(2, 152), (0, v1), (0, v2), (0, M4 152 52), (0, v4), (0, v5 + 1)] [] sh_T (am_up (am_up M4 152 54 v4) 152 53 v5)) ∧ (v3 ≤ M4 152 52 → am_r (v5 + 1) ∧ am_g 12 0 co_X12_least d Q 37 [(2, 152), (0, v1), (0, v2), (0, v3), (0, v4), (0, v5 + 1)] [] sh_T M4))))))))))) : am_g 12 0 co_X12_least d Q 37 [(2, 152), (0, v1), (0, v2), (0, v3), (0, v4), (0, v5)] [] sh_T M := by
  refine x_iload (by decide +kernel : am_at co_X12_least 37 = some (2, .iload 5)) rfl ?_
  refine x_iconst (by decide +kernel : am_at co_X12_least 39 = some (1, .iconst 1)) ?_
  refine x_iload (by decide +kernel : am_at co_X12_least 40 = some (2, .iload 4)) rfl ?_
  refine x_ishl (by decide +kernel : am_at co_X12_least 42 = some (1, .ishl)) ?_
  refine x_icmp (tgt := 102) (by decide +kernel : am_at co_X12_least 43 = some (3, .if_icmp .ge 59)) rfl Iff.rfl (fun c0 => ?_) (fun c0 => ?_)
  · have h := h.1 c0
    obtain ⟨o1, h⟩ := h
    refine x_iinc (L' := [(2, 152), (0, v1), (0, v2), (0, v3), (0, v4 + 1), (0, v5)]) (by decide +kernel : am_at co_X12_least 102 = some (3, .iinc 4 1)) rfl o1 rfl ?_
    refine x_goto (tgt := 27) (by decide +kernel : am_at co_X12_least 105 = some (3, .goto (-78))) rfl ?_
    exact am_weak (lk (lk (lk (lk (lk (ld ln)))))) h
  · have c0 := (Int.not_le.mp c0)
    have h := h.2 c0
    refine x_aload_n (by decide +kernel : am_at co_X12_least 46 = some (1, .aload_n 0)) rfl ?_
    refine x_iload (by decide +kernel : am_at co_X12_least 47 = some (2, .iload 5)) rfl ?_
    refine x_iload (by decide +kernel : am_at co_X12_least 49 = some (2, .iload 4)) rfl ?_
    refine x_iload_n (by decide +kernel : am_at co_X12_least 51 = some (1, .iload_n 1)) rfl ?_
    refine x_aload_n (by decide +kernel : am_at co_X12_least 52 = some (1, .aload_n 0)) rfl ?_
    refine x_iload_n (by decide +kernel : am_at co_X12_least 53 = some (1, .iload_n 1)) rfl ?_
    refine x_callV (n := 2) (by decide +kernel : am_at co_X12_least 54 = some (3, .invokevirtual 449)) pq_12_449 pm_X12_guideOf rfl rfl rfl ob_152 h (x_k0 fun x3 M3 h => ?_)
    refine x_callV (n := 5) (by decide +kernel : am_at co_X12_least 57 = some (3, .invokevirtual 488)) pq_12_488 pm_X12_isWay rfl rfl rfl ob_152 h (x_k0 fun x4 M4 h => ?_)
    refine x_if (tgt := 96) (by decide +kernel : am_at co_X12_least 60 = some (3, .ifCond .eq 36)) rfl Iff.rfl (fun c4 => ?_) (fun c4 => ?_)
    · have h := h.1 c4
      obtain ⟨o5, h⟩ := h
      refine x_iinc (L' := [(2, 152), (0, v1), (0, v2), (0, v3), (0, v4), (0, v5 + 1)]) (by decide +kernel : am_at co_X12_least 96 = some (3, .iinc 5 1)) rfl o5 rfl ?_
      refine x_goto (tgt := 37) (by decide +kernel : am_at co_X12_least 99 = some (3, .goto (-62))) rfl ?_
      exact am_weak (lk (lk (lk (lk (lk (lk ln)))))) h
    · have c4 := c4
      have h := h.2 c4
      refine x_iload_n (by decide +kernel : am_at co_X12_least 63 = some (1, .iload_n 3)) rfl ?_
      refine x_iconst (by decide +kernel : am_at co_X12_least 64 = some (1, .iconst (-1))) ?_
      refine x_icmp (tgt := 79) (by decide +kernel : am_at co_X12_least 65 = some (3, .if_icmp .eq 14)) rfl Iff.rfl (fun c6 => ?_) (fun c6 => ?_)
      · have h := h.1 c6
        refine x_aload_n (by decide +kernel : am_at co_X12_least 79 = some (1, .aload_n 0)) rfl ?_
        refine x_getf (by decide +kernel : am_at co_X12_least 80 = some (3, .getfield 482)) pq_12_482 rfl ob_152 ?_
        refine x_istore_n (L' := [(2, 152), (0, v1), (0, v2), (0, M4 152 52), (0, v4), (0, v5)]) (by decide +kernel : am_at co_X12_least 83 = some (1, .istore_n 3)) rfl ?_
        refine x_aload_n (by decide +kernel : am_at co_X12_least 84 = some (1, .aload_n 0)) rfl ?_
        refine x_iload (by decide +kernel : am_at co_X12_least 85 = some (2, .iload 4)) rfl ?_
        refine x_putf0 (by decide +kernel : am_at co_X12_least 87 = some (3, .putfield 485)) pq_12_485 rfl ob_152 ?_
        refine x_aload_n (by decide +kernel : am_at co_X12_least 90 = some (1, .aload_n 0)) rfl ?_
        refine x_iload (by decide +kernel : am_at co_X12_least 91 = some (2, .iload 5)) rfl ?_
        refine x_putf0 (by decide +kernel : am_at co_X12_least 93 = some (3, .putfield 492)) pq_12_492 rfl ob_152 ?_
        obtain ⟨o7, h⟩ := h
        refine x_iinc (L' := [(2, 152), (0, v1), (0, v2), (0, M4 152 52), (0, v4), (0, v5 + 1)]) (by decide +kernel : am_at co_X12_least 96 = some (3, .iinc 5 1)) rfl o7 rfl ?_
        refine x_goto (tgt := 37) (by decide +kernel : am_at co_X12_least 99 = some (3, .goto (-62))) rfl ?_
        exact am_weak (lk (lk (lk (lk (lk (lk ln)))))) h
      · have c6 := c6
        have h := h.2 c6
        refine x_aload_n (by decide +kernel : am_at co_X12_least 68 = some (1, .aload_n 0)) rfl ?_
        refine x_getf (by decide +kernel : am_at co_X12_least 69 = some (3, .getfield 482)) pq_12_482 rfl ob_152 ?_
        refine x_iload_n (by decide +kernel : am_at co_X12_least 72 = some (1, .iload_n 3)) rfl ?_
        refine x_icmp (tgt := 79) (by decide +kernel : am_at co_X12_least 73 = some (3, .if_icmp .lt 6)) rfl Iff.rfl (fun c8 => ?_) (fun c8 => ?_)
        · have h := h.1 c8
          refine x_aload_n (by decide +kernel : am_at co_X12_least 79 = some (1, .aload_n 0)) rfl ?_
          refine x_getf (by decide +kernel : am_at co_X12_least 80 = some (3, .getfield 482)) pq_12_482 rfl ob_152 ?_
          refine x_istore_n (L' := [(2, 152), (0, v1), (0, v2), (0, M4 152 52), (0, v4), (0, v5)]) (by decide +kernel : am_at co_X12_least 83 = some (1, .istore_n 3)) rfl ?_
          refine x_aload_n (by decide +kernel : am_at co_X12_least 84 = some (1, .aload_n 0)) rfl ?_
          refine x_iload (by decide +kernel : am_at co_X12_least 85 = some (2, .iload 4)) rfl ?_
          refine x_putf0 (by decide +kernel : am_at co_X12_least 87 = some (3, .putfield 485)) pq_12_485 rfl ob_152 ?_
          refine x_aload_n (by decide +kernel : am_at co_X12_least 90 = some (1, .aload_n 0)) rfl ?_
          refine x_iload (by decide +kernel : am_at co_X12_least 91 = some (2, .iload 5)) rfl ?_
          refine x_putf0 (by decide +kernel : am_at co_X12_least 93 = some (3, .putfield 492)) pq_12_492 rfl ob_152 ?_
          obtain ⟨o9, h⟩ := h
          refine x_iinc (L' := [(2, 152), (0, v1), (0, v2), (0, M4 152 52), (0, v4), (0, v5 + 1)]) (by decide +kernel : am_at co_X12_least 96 = some (3, .iinc 5 1)) rfl o9 rfl ?_
          refine x_goto (tgt := 37) (by decide +kernel : am_at co_X12_least 99 = some (3, .goto (-62))) rfl ?_
          exact am_weak (lk (lk (lk (lk (lk (lk ln)))))) h
        · have c8 := (Int.not_lt.mp c8)
          have h := h.2 c8
          refine x_goto (tgt := 96) (by decide +kernel : am_at co_X12_least 76 = some (3, .goto 20)) rfl ?_
          obtain ⟨o10, h⟩ := h
          refine x_iinc (L' := [(2, 152), (0, v1), (0, v2), (0, v3), (0, v4), (0, v5 + 1)]) (by decide +kernel : am_at co_X12_least 96 = some (3, .iinc 5 1)) rfl o10 rfl ?_
          refine x_goto (tgt := 37) (by decide +kernel : am_at co_X12_least 99 = some (3, .goto (-62))) rfl ?_
          exact am_weak (lk (lk (lk (lk (lk (lk ln)))))) h
set_option maxRecDepth 20000 in
theorem bk_X12_along_0 {d : Nat} {Q : am_Q} {M : am_M} {v1 v2 : Int} (h : am_cal pg d 215 [(2, 152), (0, v1)] sh_T M (am_c0 sh_T fun x1 M1 => ((x1 = 0 → Q (some (0, (-1)), sh_T, M1)) ∧ (¬ x1 = 0 → am_cal pg d 169 [(1, v2), (1, 0), (1, 1)] sh_T M1 (am_c0 sh_T fun x3 M3 => ((¬ x3 = 0 → am_cal pg d 218 [(2, 152), (0, v1), (0, 7)] sh_T M3 (am_cv sh_T fun M5 => am_g 12 0 co_X12_along d Q 35 [(2, 152), (0, v1), (0, v2), (0, (-1)), (0, (-1)), (0, (-1))] [] sh_T M5)) ∧ (x3 = 0 → Q (some (0, (-1)), sh_T, M3)))))))) : am_g 12 0 co_X12_along d Q 0 [(2, 152), (0, v1), (0, v2), (3, 0), (3, 0), (3, 0)] [] sh_T M := by
  refine x_aload_n (by decide +kernel : am_at co_X12_along 0 = some (1, .aload_n 0)) rfl ?_
  refine x_iload_n (by decide +kernel : am_at co_X12_along 1 = some (1, .iload_n 1)) rfl ?_
  refine x_callV (n := 2) (by decide +kernel : am_at co_X12_along 2 = some (3, .invokevirtual 446)) pq_12_446 pm_X12_isDreamer rfl rfl rfl ob_152 h (x_k0 fun x1 M1 h => ?_)
  refine x_if (tgt := 18) (by decide +kernel : am_at co_X12_along 5 = some (3, .ifCond .eq 13)) rfl Iff.rfl (fun c1 => ?_) (fun c1 => ?_)
  · have h := h.1 c1
    refine x_iconst (by decide +kernel : am_at co_X12_along 18 = some (1, .iconst (-1))) ?_
    exact x_iret (by decide +kernel : am_at co_X12_along 19 = some (1, .ireturn)) h
  · have c1 := c1
    have h := h.2 c1
    refine x_iload_n (by decide +kernel : am_at co_X12_along 8 = some (1, .iload_n 2)) rfl ?_
    refine x_i2l (by decide +kernel : am_at co_X12_along 9 = some (1, .i2l)) ?_
    refine x_lconst (by decide +kernel : am_at co_X12_along 10 = some (1, .lconst 0)) ?_
    refine x_lconst (by decide +kernel : am_at co_X12_along 11 = some (1, .lconst 1)) ?_
    refine x_callS (n := 3) (by decide +kernel : am_at co_X12_along 12 = some (3, .invokestatic 249)) pq_12_249 rfl rfl rfl h (x_k0 fun x3 M3 h => ?_)
    refine x_if (tgt := 20) (by decide +kernel : am_at co_X12_along 15 = some (3, .ifCond .ne 5)) rfl Iff.rfl (fun c3 => ?_) (fun c3 => ?_)
    · have h := h.1 c3
      refine x_aload_n (by decide +kernel : am_at co_X12_along 20 = some (1, .aload_n 0)) rfl ?_
      refine x_iload_n (by decide +kernel : am_at co_X12_along 21 = some (1, .iload_n 1)) rfl ?_
      refine x_bipush (by decide +kernel : am_at co_X12_along 22 = some (2, .bipush 7)) ?_
      refine x_callV (n := 3) (by decide +kernel : am_at co_X12_along 24 = some (3, .invokevirtual 430)) pq_12_430 pm_X12_laysNow rfl rfl rfl ob_152 h (x_kv fun M5 h => ?_)
      refine x_iconst (by decide +kernel : am_at co_X12_along 27 = some (1, .iconst (-1))) ?_
      refine x_istore_n (L' := [(2, 152), (0, v1), (0, v2), (0, (-1)), (3, 0), (3, 0)]) (by decide +kernel : am_at co_X12_along 28 = some (1, .istore_n 3)) rfl ?_
      refine x_iconst (by decide +kernel : am_at co_X12_along 29 = some (1, .iconst (-1))) ?_
      refine x_istore (L' := [(2, 152), (0, v1), (0, v2), (0, (-1)), (0, (-1)), (3, 0)]) (by decide +kernel : am_at co_X12_along 30 = some (2, .istore 4)) rfl ?_
      refine x_iconst (by decide +kernel : am_at co_X12_along 32 = some (1, .iconst (-1))) ?_
      refine x_istore (L' := [(2, 152), (0, v1), (0, v2), (0, (-1)), (0, (-1)), (0, (-1))]) (by decide +kernel : am_at co_X12_along 33 = some (2, .istore 5)) rfl ?_
      exact am_weak (lk (lk (lk (lk (lk (lk ln)))))) h
    · have c3 := (Classical.not_not.mp c3)
      have h := h.2 c3
      refine x_iconst (by decide +kernel : am_at co_X12_along 18 = some (1, .iconst (-1))) ?_
      exact x_iret (by decide +kernel : am_at co_X12_along 19 = some (1, .ireturn)) h
set_option maxRecDepth 20000 in
theorem bk_X12_along_35 {d : Nat} {Q : am_Q} {M : am_M} {v1 v2 v3 v4 v5 : Int} (h : am_cal pg d 213 [(2, 152)] sh_T M (am_c0 sh_T fun x1 M1 => ((x1 ≤ v5 → ((¬ v2 = 0 → Q (some (0, v4), sh_T, M1)) ∧ (v2 = 0 → Q (some (0, v3), sh_T, M1)))) ∧ (v5 < x1 → am_cal pg d 245 [(2, 152), (0, v1), (0, v5)] sh_T M1 (am_cv sh_T fun M4 => ((M4 152 54 = (-1) → am_r (v5 + 1) ∧ am_g 12 0 co_X12_along d Q 35 [(2, 152), (0, v1), (0, v2), (0, v3), (0, v4), (0, v5 + 1)] [] sh_T M4) ∧ (¬ M4 152 54 = (-1) → ((v4 = (-1) → am_r (v5 + 1) ∧ am_r (v5 + 1) ∧ am_g 12 0 co_X12_along d Q 35 [(2, 152), (0, v1), (0, v2), (0, v5 + 1), (0, M4 152 54), (0, v5 + 1)] [] sh_T M4) ∧ (¬ v4 = (-1) → ((M4 152 54 < v4 → am_r (v5 + 1) ∧ am_r (v5 + 1) ∧ am_g 12 0 co_X12_along d Q 35 [(2, 152), (0, v1), (0, v2), (0, v5 + 1), (0, M4 152 54), (0, v5 + 1)] [] sh_T M4) ∧ (v4 ≤ M4 152 54 → am_r (v5 + 1) ∧ am_g 12 0 co_X12_along d Q 35 [(2, 152), (0, v1), (0, v2), (0, v3), (0, v4), (0, v5 + 1)] [] sh_T M4))))))))))) : am_g 12 0 co_X12_along d Q 35 [(2, 152), (0, v1), (0, v2), (0, v3), (0, v4), (0, v5)] [] sh_T M := by
  refine x_iload (by decide +kernel : am_at co_X12_along 35 = some (2, .iload 5)) rfl ?_
  refine x_aload_n (by decide +kernel : am_at co_X12_along 37 = some (1, .aload_n 0)) rfl ?_
  refine x_callV (n := 1) (by decide +kernel : am_at co_X12_along 38 = some (3, .invokevirtual 436)) pq_12_436 pm_X12_guideMany rfl rfl rfl ob_152 h (x_k0 fun x1 M1 h => ?_)
  refine x_icmp (tgt := 94) (by decide +kernel : am_at co_X12_along 41 = some (3, .if_icmp .ge 53)) rfl Iff.rfl (fun c1 => ?_) (fun c1 => ?_)
  · have h := h.1 c1
    refine x_iload_n (by decide +kernel : am_at co_X12_along 94 = some (1, .iload_n 2)) rfl ?_
    refine x_if (tgt := 102) (by decide +kernel : am_at co_X12_along 95 = some (3, .ifCond .ne 7)) rfl Iff.rfl (fun c2 => ?_) (fun c2 => ?_)
    · have h := h.1 c2
      refine x_iload (by decide +kernel : am_at co_X12_along 102 = some (2, .iload 4)) rfl ?_
      exact x_iret (by decide +kernel : am_at co_X12_along 104 = some (1, .ireturn)) h
    · have c2 := (Classical.not_not.mp c2)
      have h := h.2 c2
      refine x_iload_n (by decide +kernel : am_at co_X12_along 98 = some (1, .iload_n 3)) rfl ?_
      refine x_goto (tgt := 104) (by decide +kernel : am_at co_X12_along 99 = some (3, .goto 5)) rfl ?_
      exact x_iret (by decide +kernel : am_at co_X12_along 104 = some (1, .ireturn)) h
  · have c1 := (Int.not_le.mp c1)
    have h := h.2 c1
    refine x_aload_n (by decide +kernel : am_at co_X12_along 44 = some (1, .aload_n 0)) rfl ?_
    refine x_iload_n (by decide +kernel : am_at co_X12_along 45 = some (1, .iload_n 1)) rfl ?_
    refine x_iload (by decide +kernel : am_at co_X12_along 46 = some (2, .iload 5)) rfl ?_
    refine x_callV (n := 3) (by decide +kernel : am_at co_X12_along 48 = some (3, .invokevirtual 495)) pq_12_495 pm_X12_seeksSoonest rfl rfl rfl ob_152 h (x_kv fun M4 h => ?_)
    refine x_aload_n (by decide +kernel : am_at co_X12_along 51 = some (1, .aload_n 0)) rfl ?_
    refine x_getf (by decide +kernel : am_at co_X12_along 52 = some (3, .getfield 485)) pq_12_485 rfl ob_152 ?_
    refine x_iconst (by decide +kernel : am_at co_X12_along 55 = some (1, .iconst (-1))) ?_
    refine x_icmp (tgt := 88) (by decide +kernel : am_at co_X12_along 56 = some (3, .if_icmp .eq 32)) rfl Iff.rfl (fun c4 => ?_) (fun c4 => ?_)
    · have h := h.1 c4
      obtain ⟨o5, h⟩ := h
      refine x_iinc (L' := [(2, 152), (0, v1), (0, v2), (0, v3), (0, v4), (0, v5 + 1)]) (by decide +kernel : am_at co_X12_along 88 = some (3, .iinc 5 1)) rfl o5 rfl ?_
      refine x_goto (tgt := 35) (by decide +kernel : am_at co_X12_along 91 = some (3, .goto (-56))) rfl ?_
      exact am_weak (lk (lk (lk (lk (lk (lk ln)))))) h
    · have c4 := c4
      have h := h.2 c4
      refine x_iload (by decide +kernel : am_at co_X12_along 59 = some (2, .iload 4)) rfl ?_
      refine x_iconst (by decide +kernel : am_at co_X12_along 61 = some (1, .iconst (-1))) ?_
      refine x_icmp (tgt := 77) (by decide +kernel : am_at co_X12_along 62 = some (3, .if_icmp .eq 15)) rfl Iff.rfl (fun c6 => ?_) (fun c6 => ?_)
      · have h := h.1 c6
        refine x_aload_n (by decide +kernel : am_at co_X12_along 77 = some (1, .aload_n 0)) rfl ?_
        refine x_getf (by decide +kernel : am_at co_X12_along 78 = some (3, .getfield 485)) pq_12_485 rfl ob_152 ?_
        refine x_istore (L' := [(2, 152), (0, v1), (0, v2), (0, v3), (0, M4 152 54), (0, v5)]) (by decide +kernel : am_at co_X12_along 81 = some (2, .istore 4)) rfl ?_
        refine x_iload (by decide +kernel : am_at co_X12_along 83 = some (2, .iload 5)) rfl ?_
        refine x_iconst (by decide +kernel : am_at co_X12_along 85 = some (1, .iconst 1)) ?_
        obtain ⟨o7, h⟩ := h
        refine x_iadd (by decide +kernel : am_at co_X12_along 86 = some (1, .iadd)) o7 ?_
        refine x_istore_n (L' := [(2, 152), (0, v1), (0, v2), (0, v5 + 1), (0, M4 152 54), (0, v5)]) (by decide +kernel : am_at co_X12_along 87 = some (1, .istore_n 3)) rfl ?_
        obtain ⟨o8, h⟩ := h
        refine x_iinc (L' := [(2, 152), (0, v1), (0, v2), (0, v5 + 1), (0, M4 152 54), (0, v5 + 1)]) (by decide +kernel : am_at co_X12_along 88 = some (3, .iinc 5 1)) rfl o8 rfl ?_
        refine x_goto (tgt := 35) (by decide +kernel : am_at co_X12_along 91 = some (3, .goto (-56))) rfl ?_
        exact am_weak (lk (lk (lk (lk (lk (lk ln)))))) h
      · have c6 := c6
        have h := h.2 c6
        refine x_aload_n (by decide +kernel : am_at co_X12_along 65 = some (1, .aload_n 0)) rfl ?_
        refine x_getf (by decide +kernel : am_at co_X12_along 66 = some (3, .getfield 485)) pq_12_485 rfl ob_152 ?_
        refine x_iload (by decide +kernel : am_at co_X12_along 69 = some (2, .iload 4)) rfl ?_
        refine x_icmp (tgt := 77) (by decide +kernel : am_at co_X12_along 71 = some (3, .if_icmp .lt 6)) rfl Iff.rfl (fun c9 => ?_) (fun c9 => ?_)
        · have h := h.1 c9
          refine x_aload_n (by decide +kernel : am_at co_X12_along 77 = some (1, .aload_n 0)) rfl ?_
          refine x_getf (by decide +kernel : am_at co_X12_along 78 = some (3, .getfield 485)) pq_12_485 rfl ob_152 ?_
          refine x_istore (L' := [(2, 152), (0, v1), (0, v2), (0, v3), (0, M4 152 54), (0, v5)]) (by decide +kernel : am_at co_X12_along 81 = some (2, .istore 4)) rfl ?_
          refine x_iload (by decide +kernel : am_at co_X12_along 83 = some (2, .iload 5)) rfl ?_
          refine x_iconst (by decide +kernel : am_at co_X12_along 85 = some (1, .iconst 1)) ?_
          obtain ⟨o10, h⟩ := h
          refine x_iadd (by decide +kernel : am_at co_X12_along 86 = some (1, .iadd)) o10 ?_
          refine x_istore_n (L' := [(2, 152), (0, v1), (0, v2), (0, v5 + 1), (0, M4 152 54), (0, v5)]) (by decide +kernel : am_at co_X12_along 87 = some (1, .istore_n 3)) rfl ?_
          obtain ⟨o11, h⟩ := h
          refine x_iinc (L' := [(2, 152), (0, v1), (0, v2), (0, v5 + 1), (0, M4 152 54), (0, v5 + 1)]) (by decide +kernel : am_at co_X12_along 88 = some (3, .iinc 5 1)) rfl o11 rfl ?_
          refine x_goto (tgt := 35) (by decide +kernel : am_at co_X12_along 91 = some (3, .goto (-56))) rfl ?_
          exact am_weak (lk (lk (lk (lk (lk (lk ln)))))) h
        · have c9 := (Int.not_lt.mp c9)
          have h := h.2 c9
          refine x_goto (tgt := 88) (by decide +kernel : am_at co_X12_along 74 = some (3, .goto 14)) rfl ?_
          obtain ⟨o12, h⟩ := h
          refine x_iinc (L' := [(2, 152), (0, v1), (0, v2), (0, v3), (0, v4), (0, v5 + 1)]) (by decide +kernel : am_at co_X12_along 88 = some (3, .iinc 5 1)) rfl o12 rfl ?_
          refine x_goto (tgt := 35) (by decide +kernel : am_at co_X12_along 91 = some (3, .goto (-56))) rfl ?_
          exact am_weak (lk (lk (lk (lk (lk (lk ln)))))) h
set_option maxRecDepth 20000 in
theorem bk_X12_bits_0 {d : Nat} {Q : am_Q} {M : am_M} {v0 : Int} (h : am_g 12 0 co_X12_bits d Q 4 [(3, 0), (0, 0), (0, v0)] [] sh_T M) : am_g 12 0 co_X12_bits d Q 0 [(0, v0), (3, 0), (3, 0)] [] sh_T M := by
  refine x_iconst (by decide +kernel : am_at co_X12_bits 0 = some (1, .iconst 0)) ?_
  refine x_istore_n (L' := [(0, v0), (0, 0), (3, 0)]) (by decide +kernel : am_at co_X12_bits 1 = some (1, .istore_n 1)) rfl ?_
  refine x_iload_n (by decide +kernel : am_at co_X12_bits 2 = some (1, .iload_n 0)) rfl ?_
  refine x_istore_n (L' := [(0, v0), (0, 0), (0, v0)]) (by decide +kernel : am_at co_X12_bits 3 = some (1, .istore_n 2)) rfl ?_
  exact am_weak (ld (lk (lk ln))) h
set_option maxRecDepth 20000 in
theorem bk_X12_bits_4 {d : Nat} {Q : am_Q} {M : am_M} {v1 v2 : Int} (h : ((v2 = 0 → Q (some (0, v1), sh_T, M)) ∧ (¬ v2 = 0 → am_r (v1 + 1) ∧ am_r (v2 - 1) ∧ am_g 12 0 co_X12_bits d Q 4 [(3, 0), (0, v1 + 1), (0, am_band v2 (v2 - 1))] [] sh_T M))) : am_g 12 0 co_X12_bits d Q 4 [(3, 0), (0, v1), (0, v2)] [] sh_T M := by
  refine x_iload_n (by decide +kernel : am_at co_X12_bits 4 = some (1, .iload_n 2)) rfl ?_
  refine x_if (tgt := 20) (by decide +kernel : am_at co_X12_bits 5 = some (3, .ifCond .eq 15)) rfl Iff.rfl (fun c0 => ?_) (fun c0 => ?_)
  · have h := h.1 c0
    refine x_iload_n (by decide +kernel : am_at co_X12_bits 20 = some (1, .iload_n 1)) rfl ?_
    exact x_iret (by decide +kernel : am_at co_X12_bits 21 = some (1, .ireturn)) h
  · have c0 := c0
    have h := h.2 c0
    obtain ⟨o1, h⟩ := h
    refine x_iinc (L' := [(3, 0), (0, v1 + 1), (0, v2)]) (by decide +kernel : am_at co_X12_bits 8 = some (3, .iinc 1 1)) rfl o1 rfl ?_
    refine x_iload_n (by decide +kernel : am_at co_X12_bits 11 = some (1, .iload_n 2)) rfl ?_
    refine x_iload_n (by decide +kernel : am_at co_X12_bits 12 = some (1, .iload_n 2)) rfl ?_
    refine x_iconst (by decide +kernel : am_at co_X12_bits 13 = some (1, .iconst 1)) ?_
    obtain ⟨o2, h⟩ := h
    refine x_isub (by decide +kernel : am_at co_X12_bits 14 = some (1, .isub)) o2 ?_
    refine x_iand (by decide +kernel : am_at co_X12_bits 15 = some (1, .iand)) ?_
    refine x_istore_n (L' := [(3, 0), (0, v1 + 1), (0, am_band v2 (v2 - 1))]) (by decide +kernel : am_at co_X12_bits 16 = some (1, .istore_n 2)) rfl ?_
    refine x_goto (tgt := 4) (by decide +kernel : am_at co_X12_bits 17 = some (3, .goto (-13))) rfl ?_
    exact am_weak (lk (lk (lk ln))) h
set_option maxRecDepth 20000 in
theorem bk_X12_isOrder_0 {d : Nat} {Q : am_Q} {M : am_M} {v1 v2 : Int} (h : am_cal pg d 250 [(0, v2)] sh_T M (am_c0 sh_T fun x1 M1 => am_r (x1 - 1) ∧ am_g 12 5 co_X12_isOrder d Q 13 [(2, 152), (3, 0), (0, v2), (0, v1), (0, 0), (0, x1 - 1)] [] sh_T M1)) : am_g 12 5 co_X12_isOrder d Q 0 [(2, 152), (0, v1), (0, v2), (3, 0), (3, 0), (3, 0)] [] sh_T M := by
  refine x_iload_n (by decide +kernel : am_at co_X12_isOrder 0 = some (1, .iload_n 1)) rfl ?_
  refine x_istore_n (L' := [(2, 152), (0, v1), (0, v2), (0, v1), (3, 0), (3, 0)]) (by decide +kernel : am_at co_X12_isOrder 1 = some (1, .istore_n 3)) rfl ?_
  refine x_iconst (by decide +kernel : am_at co_X12_isOrder 2 = some (1, .iconst 0)) ?_
  refine x_istore (L' := [(2, 152), (0, v1), (0, v2), (0, v1), (0, 0), (3, 0)]) (by decide +kernel : am_at co_X12_isOrder 3 = some (2, .istore 4)) rfl ?_
  refine x_iload_n (by decide +kernel : am_at co_X12_isOrder 5 = some (1, .iload_n 2)) rfl ?_
  refine x_callS (n := 1) (by decide +kernel : am_at co_X12_isOrder 6 = some (3, .invokestatic 501)) pq_12_501 rfl rfl rfl h (x_k0 fun x1 M1 h => ?_)
  refine x_iconst (by decide +kernel : am_at co_X12_isOrder 9 = some (1, .iconst 1)) ?_
  obtain ⟨o1, h⟩ := h
  refine x_isub (by decide +kernel : am_at co_X12_isOrder 10 = some (1, .isub)) o1 ?_
  refine x_istore (L' := [(2, 152), (0, v1), (0, v2), (0, v1), (0, 0), (0, x1 - 1)]) (by decide +kernel : am_at co_X12_isOrder 11 = some (2, .istore 5)) rfl ?_
  exact am_weak (lk (ld (lk (lk (lk (lk ln)))))) h
set_option maxRecDepth 20000 in
theorem bk_X12_isOrder_13 {d : Nat} {Q : am_Q} {M : am_M} {v2 v3 v4 v5 : Int} (h : ((v5 < 0 → ((¬ v4 = v2 → Q (some (0, 0), sh_T, M)) ∧ (v4 = v2 → Q (some (0, 1), sh_T, M)))) ∧ (0 ≤ v5 → am_cal pg d 211 [(2, 152)] sh_T M (am_c0 sh_T fun x3 M3 => ¬ x3 = 0 ∧ (0 ≤ v5 ∧ v5 < 4) ∧ am_cal pg d 211 [(2, 152)] sh_T (am_up M3 189 v5 (v3.tmod x3)) (am_c0 sh_T fun x6 M6 => ¬ x6 = 0 ∧ am_r (v3.tdiv x6) ∧ am_r (v5 + (-1)) ∧ am_g 12 5 co_X12_isOrder d Q 13 [(2, 152), (3, 0), (0, v2), (0, v3.tdiv x6), (0, am_bor v4 (am_shl 1 (M6 189 v5))), (0, v5 + (-1))] [] sh_T M6))))) : am_g 12 5 co_X12_isOrder d Q 13 [(2, 152), (3, 0), (0, v2), (0, v3), (0, v4), (0, v5)] [] sh_T M := by
  refine x_iload (by decide +kernel : am_at co_X12_isOrder 13 = some (2, .iload 5)) rfl ?_
  refine x_if (tgt := 58) (by decide +kernel : am_at co_X12_isOrder 15 = some (3, .ifCond .lt 43)) rfl Iff.rfl (fun c0 => ?_) (fun c0 => ?_)
  · have h := h.1 c0
    refine x_iload (by decide +kernel : am_at co_X12_isOrder 58 = some (2, .iload 4)) rfl ?_
    refine x_iload_n (by decide +kernel : am_at co_X12_isOrder 60 = some (1, .iload_n 2)) rfl ?_
    refine x_icmp (tgt := 68) (by decide +kernel : am_at co_X12_isOrder 61 = some (3, .if_icmp .ne 7)) rfl Iff.rfl (fun c1 => ?_) (fun c1 => ?_)
    · have h := h.1 c1
      refine x_iconst (by decide +kernel : am_at co_X12_isOrder 68 = some (1, .iconst 0)) ?_
      exact x_zret (by decide +kernel : am_at co_X12_isOrder 69 = some (1, .ireturn)) (by decide) h
    · have c1 := (Classical.not_not.mp c1)
      have h := h.2 c1
      refine x_iconst (by decide +kernel : am_at co_X12_isOrder 64 = some (1, .iconst 1)) ?_
      refine x_goto (tgt := 69) (by decide +kernel : am_at co_X12_isOrder 65 = some (3, .goto 4)) rfl ?_
      exact x_zret (by decide +kernel : am_at co_X12_isOrder 69 = some (1, .ireturn)) (by decide) h
  · have c0 := (Int.not_lt.mp c0)
    have h := h.2 c0
    refine x_aload_n (by decide +kernel : am_at co_X12_isOrder 18 = some (1, .aload_n 0)) rfl ?_
    refine x_getF (by decide +kernel : am_at co_X12_isOrder 19 = some (3, .getfield 124)) pq_12_124 (by decide) rfl ob_152 ?_
    refine x_top2 (show 152 + 37 = 189 from rfl) ?_
    refine x_iload (by decide +kernel : am_at co_X12_isOrder 22 = some (2, .iload 5)) rfl ?_
    refine x_iload_n (by decide +kernel : am_at co_X12_isOrder 24 = some (1, .iload_n 3)) rfl ?_
    refine x_aload_n (by decide +kernel : am_at co_X12_isOrder 25 = some (1, .aload_n 0)) rfl ?_
    refine x_callV (n := 1) (by decide +kernel : am_at co_X12_isOrder 26 = some (3, .invokevirtual 389)) pq_12_389 pm_X12_dreadMany rfl rfl rfl ob_152 h (x_k0 fun x3 M3 h => ?_)
    obtain ⟨o3, h⟩ := h
    refine x_irem (by decide +kernel : am_at co_X12_isOrder 29 = some (1, .irem)) o3 ?_
    obtain ⟨o4, h⟩ := h
    refine x_iast (by decide +kernel : am_at co_X12_isOrder 30 = some (1, .iastore)) (ow_189 o4.1 o4.2) ?_
    refine x_iload_n (by decide +kernel : am_at co_X12_isOrder 31 = some (1, .iload_n 3)) rfl ?_
    refine x_aload_n (by decide +kernel : am_at co_X12_isOrder 32 = some (1, .aload_n 0)) rfl ?_
    refine x_callV (n := 1) (by decide +kernel : am_at co_X12_isOrder 33 = some (3, .invokevirtual 389)) pq_12_389 pm_X12_dreadMany rfl rfl rfl ob_152 h (x_k0 fun x6 M6 h => ?_)
    obtain ⟨o6, h⟩ := h
    obtain ⟨o7, h⟩ := h
    refine x_idiv (by decide +kernel : am_at co_X12_isOrder 36 = some (1, .idiv)) o6 o7 ?_
    refine x_istore_n (L' := [(2, 152), (3, 0), (0, v2), (0, v3.tdiv x6), (0, v4), (0, v5)]) (by decide +kernel : am_at co_X12_isOrder 37 = some (1, .istore_n 3)) rfl ?_
    refine x_iload (by decide +kernel : am_at co_X12_isOrder 38 = some (2, .iload 4)) rfl ?_
    refine x_iconst (by decide +kernel : am_at co_X12_isOrder 40 = some (1, .iconst 1)) ?_
    refine x_aload_n (by decide +kernel : am_at co_X12_isOrder 41 = some (1, .aload_n 0)) rfl ?_
    refine x_getF (by decide +kernel : am_at co_X12_isOrder 42 = some (3, .getfield 124)) pq_12_124 (by decide) rfl ob_152 ?_
    refine x_top2 (show 152 + 37 = 189 from rfl) ?_
    refine x_iload (by decide +kernel : am_at co_X12_isOrder 45 = some (2, .iload 5)) rfl ?_
    refine x_iald (by decide +kernel : am_at co_X12_isOrder 47 = some (1, .iaload)) (ia_189 o4.1 o4.2) ?_
    refine x_ishl (by decide +kernel : am_at co_X12_isOrder 48 = some (1, .ishl)) ?_
    refine x_ior (by decide +kernel : am_at co_X12_isOrder 49 = some (1, .ior)) ?_
    refine x_istore (L' := [(2, 152), (3, 0), (0, v2), (0, v3.tdiv x6), (0, am_bor v4 (am_shl 1 (M6 189 v5))), (0, v5)]) (by decide +kernel : am_at co_X12_isOrder 50 = some (2, .istore 4)) rfl ?_
    obtain ⟨o8, h⟩ := h
    refine x_iinc (L' := [(2, 152), (3, 0), (0, v2), (0, v3.tdiv x6), (0, am_bor v4 (am_shl 1 (M6 189 v5))), (0, v5 + (-1))]) (by decide +kernel : am_at co_X12_isOrder 52 = some (3, .iinc 5 (-1))) rfl o8 rfl ?_
    refine x_goto (tgt := 13) (by decide +kernel : am_at co_X12_isOrder 55 = some (3, .goto (-42))) rfl ?_
    exact am_weak (lk (lk (lk (lk (lk (lk ln)))))) h
set_option maxRecDepth 20000 in
theorem bk_X12_days_0 {d : Nat} {Q : am_Q} {M : am_M} {v1 v2 v3 : Int} (h : am_cal pg d 215 [(2, 152), (0, v1)] sh_T M (am_c0 sh_T fun x1 M1 => ((x1 = 0 → am_g 12 0 co_X12_days d Q 55 [(3, 0), (3, 0), (3, 0), (3, 0), (3, 0), (3, 0), (3, 0), (3, 0)] [] sh_T M1) ∧ (¬ x1 = 0 → am_cal pg d 211 [(2, 152)] sh_T M1 (am_c0 sh_T fun x3 M3 => am_r ((am_shl 1 x3) - 1) ∧ am_cal pg d 169 [(1, v2), (1, 0), (1, (am_shl 1 x3) - 1)] sh_T M3 (am_c0 sh_T fun x5 M5 => ((x5 = 0 → am_g 12 0 co_X12_days d Q 55 [(3, 0), (3, 0), (3, 0), (3, 0), (3, 0), (3, 0), (3, 0), (3, 0)] [] sh_T M5) ∧ (¬ x5 = 0 → am_cal pg d 250 [(0, v2)] sh_T M5 (am_c0 sh_T fun x7 M7 => ((4 < x7 → am_g 12 0 co_X12_days d Q 55 [(3, 0), (3, 0), (3, 0), (3, 0), (3, 0), (3, 0), (3, 0), (3, 0)] [] sh_T M7) ∧ (x7 ≤ 4 → ((v3 = (-1) → am_g 12 0 co_X12_days d Q 57 [(2, 152), (0, v1), (0, v2), (0, v3), (3, 0), (3, 0), (3, 0), (3, 0)] [] sh_T M7) ∧ (¬ v3 = (-1) → am_cal pg d 250 [(0, v2)] sh_T M7 (am_c0 sh_T fun x10 M10 => am_r (x10 - 1) ∧ am_cal pg d 169 [(1, v3), (1, 0), (1, x10 - 1)] sh_T M10 (am_c0 sh_T fun x12 M12 => ((¬ x12 = 0 → am_g 12 0 co_X12_days d Q 57 [(2, 152), (0, v1), (0, v2), (0, v3), (3, 0), (3, 0), (3, 0), (3, 0)] [] sh_T M12) ∧ (x12 = 0 → am_g 12 0 co_X12_days d Q 55 [(3, 0), (3, 0), (3, 0), (3, 0), (3, 0), (3, 0), (3, 0), (3, 0)] [] sh_T M12))))))))))))))))) : am_g 12 0 co_X12_days d Q 0 [(2, 152), (0, v1), (0, v2), (0, v3), (3, 0), (3, 0), (3, 0), (3, 0)] [] sh_T M := by
  refine x_aload_n (by decide +kernel : am_at co_X12_days 0 = some (1, .aload_n 0)) rfl ?_
  refine x_iload_n (by decide +kernel : am_at co_X12_days 1 = some (1, .iload_n 1)) rfl ?_
  refine x_callV (n := 2) (by decide +kernel : am_at co_X12_days 2 = some (3, .invokevirtual 446)) pq_12_446 pm_X12_isDreamer rfl rfl rfl ob_152 h (x_k0 fun x1 M1 h => ?_)
  refine x_if (tgt := 55) (by decide +kernel : am_at co_X12_days 5 = some (3, .ifCond .eq 50)) rfl Iff.rfl (fun c1 => ?_) (fun c1 => ?_)
  · have h := h.1 c1
    exact am_weak (ld (ld (ld (ld (lk (lk (lk (lk ln)))))))) h
  · have c1 := c1
    have h := h.2 c1
    refine x_iload_n (by decide +kernel : am_at co_X12_days 8 = some (1, .iload_n 2)) rfl ?_
    refine x_i2l (by decide +kernel : am_at co_X12_days 9 = some (1, .i2l)) ?_
    refine x_lconst (by decide +kernel : am_at co_X12_days 10 = some (1, .lconst 0)) ?_
    refine x_iconst (by decide +kernel : am_at co_X12_days 11 = some (1, .iconst 1)) ?_
    refine x_aload_n (by decide +kernel : am_at co_X12_days 12 = some (1, .aload_n 0)) rfl ?_
    refine x_callV (n := 1) (by decide +kernel : am_at co_X12_days 13 = some (3, .invokevirtual 389)) pq_12_389 pm_X12_dreadMany rfl rfl rfl ob_152 h (x_k0 fun x3 M3 h => ?_)
    refine x_ishl (by decide +kernel : am_at co_X12_days 16 = some (1, .ishl)) ?_
    refine x_iconst (by decide +kernel : am_at co_X12_days 17 = some (1, .iconst 1)) ?_
    obtain ⟨o3, h⟩ := h
    refine x_isub (by decide +kernel : am_at co_X12_days 18 = some (1, .isub)) o3 ?_
    refine x_i2l (by decide +kernel : am_at co_X12_days 19 = some (1, .i2l)) ?_
    refine x_callS (n := 3) (by decide +kernel : am_at co_X12_days 20 = some (3, .invokestatic 249)) pq_12_249 rfl rfl rfl h (x_k0 fun x5 M5 h => ?_)
    refine x_if (tgt := 55) (by decide +kernel : am_at co_X12_days 23 = some (3, .ifCond .eq 32)) rfl Iff.rfl (fun c5 => ?_) (fun c5 => ?_)
    · have h := h.1 c5
      exact am_weak (ld (ld (ld (ld (lk (lk (lk (lk ln)))))))) h
    · have c5 := c5
      have h := h.2 c5
      refine x_iload_n (by decide +kernel : am_at co_X12_days 26 = some (1, .iload_n 2)) rfl ?_
      refine x_callS (n := 1) (by decide +kernel : am_at co_X12_days 27 = some (3, .invokestatic 501)) pq_12_501 rfl rfl rfl h (x_k0 fun x7 M7 h => ?_)
      refine x_iconst (by decide +kernel : am_at co_X12_days 30 = some (1, .iconst 4)) ?_
      refine x_icmp (tgt := 55) (by decide +kernel : am_at co_X12_days 31 = some (3, .if_icmp .gt 24)) rfl Iff.rfl (fun c7 => ?_) (fun c7 => ?_)
      · have h := h.1 c7
        exact am_weak (ld (ld (ld (ld (lk (lk (lk (lk ln)))))))) h
      · have c7 := (Int.not_lt.mp c7)
        have h := h.2 c7
        refine x_iload_n (by decide +kernel : am_at co_X12_days 34 = some (1, .iload_n 3)) rfl ?_
        refine x_iconst (by decide +kernel : am_at co_X12_days 35 = some (1, .iconst (-1))) ?_
        refine x_icmp (tgt := 57) (by decide +kernel : am_at co_X12_days 36 = some (3, .if_icmp .eq 21)) rfl Iff.rfl (fun c8 => ?_) (fun c8 => ?_)
        · have h := h.1 c8
          exact am_weak (lk (lk (lk (lk (lk (lk (lk (lk ln)))))))) h
        · have c8 := c8
          have h := h.2 c8
          refine x_iload_n (by decide +kernel : am_at co_X12_days 39 = some (1, .iload_n 3)) rfl ?_
          refine x_i2l (by decide +kernel : am_at co_X12_days 40 = some (1, .i2l)) ?_
          refine x_lconst (by decide +kernel : am_at co_X12_days 41 = some (1, .lconst 0)) ?_
          refine x_iload_n (by decide +kernel : am_at co_X12_days 42 = some (1, .iload_n 2)) rfl ?_
          refine x_callS (n := 1) (by decide +kernel : am_at co_X12_days 43 = some (3, .invokestatic 501)) pq_12_501 rfl rfl rfl h (x_k0 fun x10 M10 h => ?_)
          refine x_iconst (by decide +kernel : am_at co_X12_days 46 = some (1, .iconst 1)) ?_
          obtain ⟨o10, h⟩ := h
          refine x_isub (by decide +kernel : am_at co_X12_days 47 = some (1, .isub)) o10 ?_
          refine x_i2l (by decide +kernel : am_at co_X12_days 48 = some (1, .i2l)) ?_
          refine x_callS (n := 3) (by decide +kernel : am_at co_X12_days 49 = some (3, .invokestatic 249)) pq_12_249 rfl rfl rfl h (x_k0 fun x12 M12 h => ?_)
          refine x_if (tgt := 57) (by decide +kernel : am_at co_X12_days 52 = some (3, .ifCond .ne 5)) rfl Iff.rfl (fun c12 => ?_) (fun c12 => ?_)
          · have h := h.1 c12
            exact am_weak (lk (lk (lk (lk (lk (lk (lk (lk ln)))))))) h
          · have c12 := (Classical.not_not.mp c12)
            have h := h.2 c12
            exact am_weak (ld (ld (ld (ld (lk (lk (lk (lk ln)))))))) h
set_option maxRecDepth 20000 in
theorem bk_X12_days_55 {d : Nat} {Q : am_Q} {M : am_M} (h : Q (some (0, (-1)), sh_T, M)) : am_g 12 0 co_X12_days d Q 55 [(3, 0), (3, 0), (3, 0), (3, 0), (3, 0), (3, 0), (3, 0), (3, 0)] [] sh_T M := by
  refine x_iconst (by decide +kernel : am_at co_X12_days 55 = some (1, .iconst (-1))) ?_
  exact x_iret (by decide +kernel : am_at co_X12_days 56 = some (1, .ireturn)) h
set_option maxRecDepth 20000 in
theorem bk_X12_days_57 {d : Nat} {Q : am_Q} {M : am_M} {v1 v2 v3 : Int} (h : am_g 12 0 co_X12_days d Q 63 [(2, 152), (0, v1), (0, v2), (0, v3), (0, 1), (0, 0), (3, 0), (3, 0)] [] sh_T M) : am_g 12 0 co_X12_days d Q 57 [(2, 152), (0, v1), (0, v2), (0, v3), (3, 0), (3, 0), (3, 0), (3, 0)] [] sh_T M := by
  refine x_iconst (by decide +kernel : am_at co_X12_days 57 = some (1, .iconst 1)) ?_
  refine x_istore (L' := [(2, 152), (0, v1), (0, v2), (0, v3), (0, 1), (3, 0), (3, 0), (3, 0)]) (by decide +kernel : am_at co_X12_days 58 = some (2, .istore 4)) rfl ?_
  refine x_iconst (by decide +kernel : am_at co_X12_days 60 = some (1, .iconst 0)) ?_
  refine x_istore (L' := [(2, 152), (0, v1), (0, v2), (0, v3), (0, 1), (0, 0), (3, 0), (3, 0)]) (by decide +kernel : am_at co_X12_days 61 = some (2, .istore 5)) rfl ?_
  exact am_weak (lk (lk (lk (lk (lk (lk (lk (lk ln)))))))) h
set_option maxRecDepth 20000 in
theorem bk_X12_days_63 {d : Nat} {Q : am_Q} {M : am_M} {v1 v2 v3 v4 v5 : Int} (h : am_cal pg d 250 [(0, v2)] sh_T M (am_c0 sh_T fun x1 M1 => ((x1 ≤ v5 → am_g 12 0 co_X12_days d Q 93 [(2, 152), (0, v1), (0, v2), (0, v3), (0, v4), (0, (-1)), (0, 0), (3, 0)] [] sh_T M1) ∧ (v5 < x1 → am_cal pg d 211 [(2, 152)] sh_T M1 (am_c0 sh_T fun x3 M3 => am_r (v4 * x3) ∧ am_r (v5 + 1) ∧ am_g 12 0 co_X12_days d Q 63 [(2, 152), (0, v1), (0, v2), (0, v3), (0, v4 * x3), (0, v5 + 1), (3, 0), (3, 0)] [] sh_T M3))))) : am_g 12 0 co_X12_days d Q 63 [(2, 152), (0, v1), (0, v2), (0, v3), (0, v4), (0, v5), (3, 0), (3, 0)] [] sh_T M := by
  refine x_iload (by decide +kernel : am_at co_X12_days 63 = some (2, .iload 5)) rfl ?_
  refine x_iload_n (by decide +kernel : am_at co_X12_days 65 = some (1, .iload_n 2)) rfl ?_
  refine x_callS (n := 1) (by decide +kernel : am_at co_X12_days 66 = some (3, .invokestatic 501)) pq_12_501 rfl rfl rfl h (x_k0 fun x1 M1 h => ?_)
  refine x_icmp (tgt := 87) (by decide +kernel : am_at co_X12_days 69 = some (3, .if_icmp .ge 18)) rfl Iff.rfl (fun c1 => ?_) (fun c1 => ?_)
  · have h := h.1 c1
    refine x_iconst (by decide +kernel : am_at co_X12_days 87 = some (1, .iconst (-1))) ?_
    refine x_istore (L' := [(2, 152), (0, v1), (0, v2), (0, v3), (0, v4), (0, (-1)), (3, 0), (3, 0)]) (by decide +kernel : am_at co_X12_days 88 = some (2, .istore 5)) rfl ?_
    refine x_iconst (by decide +kernel : am_at co_X12_days 90 = some (1, .iconst 0)) ?_
    refine x_istore (L' := [(2, 152), (0, v1), (0, v2), (0, v3), (0, v4), (0, (-1)), (0, 0), (3, 0)]) (by decide +kernel : am_at co_X12_days 91 = some (2, .istore 6)) rfl ?_
    exact am_weak (lk (lk (lk (lk (lk (lk (lk (lk ln)))))))) h
  · have c1 := (Int.not_le.mp c1)
    have h := h.2 c1
    refine x_iload (by decide +kernel : am_at co_X12_days 72 = some (2, .iload 4)) rfl ?_
    refine x_aload_n (by decide +kernel : am_at co_X12_days 74 = some (1, .aload_n 0)) rfl ?_
    refine x_callV (n := 1) (by decide +kernel : am_at co_X12_days 75 = some (3, .invokevirtual 389)) pq_12_389 pm_X12_dreadMany rfl rfl rfl ob_152 h (x_k0 fun x3 M3 h => ?_)
    obtain ⟨o3, h⟩ := h
    refine x_imul (by decide +kernel : am_at co_X12_days 78 = some (1, .imul)) o3 ?_
    refine x_istore (L' := [(2, 152), (0, v1), (0, v2), (0, v3), (0, v4 * x3), (0, v5), (3, 0), (3, 0)]) (by decide +kernel : am_at co_X12_days 79 = some (2, .istore 4)) rfl ?_
    obtain ⟨o4, h⟩ := h
    refine x_iinc (L' := [(2, 152), (0, v1), (0, v2), (0, v3), (0, v4 * x3), (0, v5 + 1), (3, 0), (3, 0)]) (by decide +kernel : am_at co_X12_days 81 = some (3, .iinc 5 1)) rfl o4 rfl ?_
    refine x_goto (tgt := 63) (by decide +kernel : am_at co_X12_days 84 = some (3, .goto (-21))) rfl ?_
    exact am_weak (lk (lk (lk (lk (lk (lk (lk (lk ln)))))))) h
set_option maxRecDepth 20000 in
theorem bk_X12_days_93 {d : Nat} {Q : am_Q} {M : am_M} {v1 v2 v3 v4 v5 v6 : Int} (h : ((v4 ≤ v6 → ((v5 = (-1) → am_g 12 0 co_X12_days d Q 259 [(3, 0), (3, 0), (3, 0), (3, 0), (3, 0), (0, v5), (3, 0), (3, 0)] [] sh_T M) ∧ (¬ v5 = (-1) → ((¬ v3 = (-1) → (0 ≤ v3 ∧ v3 < 4) ∧ Q (some (0, M 190 v3), sh_T, M)) ∧ (v3 = (-1) → am_g 12 0 co_X12_days d Q 259 [(3, 0), (3, 0), (3, 0), (3, 0), (3, 0), (0, v5), (3, 0), (3, 0)] [] sh_T M))))) ∧ (v6 < v4 → am_cal pg d 251 [(2, 152), (0, v6), (0, v2)] sh_T M (am_c0 sh_T fun x5 M5 => ((¬ x5 = 0 → am_cal pg d 218 [(2, 152), (0, v1), (0, 7)] sh_T M5 (am_cv sh_T fun M7 => am_g 12 0 co_X12_days d Q 123 [(2, 152), (0, v1), (0, v2), (0, v3), (0, v4), (0, v5), (0, v6), (0, 0)] [] sh_T M7)) ∧ (x5 = 0 → am_g 12 0 co_X12_days d Q 242 [(2, 152), (0, v1), (0, v2), (0, v3), (0, v4), (0, v5), (0, v6), (3, 0)] [] sh_T M5)))))) : am_g 12 0 co_X12_days d Q 93 [(2, 152), (0, v1), (0, v2), (0, v3), (0, v4), (0, v5), (0, v6), (3, 0)] [] sh_T M := by
  refine x_iload (by decide +kernel : am_at co_X12_days 93 = some (2, .iload 6)) rfl ?_
  refine x_iload (by decide +kernel : am_at co_X12_days 95 = some (2, .iload 4)) rfl ?_
  refine x_icmp (tgt := 248) (by decide +kernel : am_at co_X12_days 97 = some (3, .if_icmp .ge 151)) rfl Iff.rfl (fun c0 => ?_) (fun c0 => ?_)
  · have h := h.1 c0
    refine x_iload (by decide +kernel : am_at co_X12_days 248 = some (2, .iload 5)) rfl ?_
    refine x_iconst (by decide +kernel : am_at co_X12_days 250 = some (1, .iconst (-1))) ?_
    refine x_icmp (tgt := 259) (by decide +kernel : am_at co_X12_days 251 = some (3, .if_icmp .eq 8)) rfl Iff.rfl (fun c1 => ?_) (fun c1 => ?_)
    · have h := h.1 c1
      exact am_weak (ld (ld (ld (ld (ld (lk (ld (lk ln)))))))) h
    · have c1 := c1
      have h := h.2 c1
      refine x_iload_n (by decide +kernel : am_at co_X12_days 254 = some (1, .iload_n 3)) rfl ?_
      refine x_iconst (by decide +kernel : am_at co_X12_days 255 = some (1, .iconst (-1))) ?_
      refine x_icmp (tgt := 264) (by decide +kernel : am_at co_X12_days 256 = some (3, .if_icmp .ne 8)) rfl Iff.rfl (fun c2 => ?_) (fun c2 => ?_)
      · have h := h.1 c2
        refine x_aload_n (by decide +kernel : am_at co_X12_days 264 = some (1, .aload_n 0)) rfl ?_
        refine x_getF (by decide +kernel : am_at co_X12_days 265 = some (3, .getfield 127)) pq_12_127 (by decide) rfl ob_152 ?_
        refine x_top2 (show 152 + 38 = 190 from rfl) ?_
        refine x_iload_n (by decide +kernel : am_at co_X12_days 268 = some (1, .iload_n 3)) rfl ?_
        obtain ⟨o3, h⟩ := h
        refine x_iald (by decide +kernel : am_at co_X12_days 269 = some (1, .iaload)) (ia_190 o3.1 o3.2) ?_
        exact x_iret (by decide +kernel : am_at co_X12_days 270 = some (1, .ireturn)) h
      · have c2 := (Classical.not_not.mp c2)
        have h := h.2 c2
        exact am_weak (ld (ld (ld (ld (ld (lk (ld (lk ln)))))))) h
  · have c0 := (Int.not_le.mp c0)
    have h := h.2 c0
    refine x_aload_n (by decide +kernel : am_at co_X12_days 100 = some (1, .aload_n 0)) rfl ?_
    refine x_iload (by decide +kernel : am_at co_X12_days 101 = some (2, .iload 6)) rfl ?_
    refine x_iload_n (by decide +kernel : am_at co_X12_days 103 = some (1, .iload_n 2)) rfl ?_
    refine x_callV (n := 3) (by decide +kernel : am_at co_X12_days 104 = some (3, .invokevirtual 504)) pq_12_504 pm_X12_isOrder rfl rfl rfl ob_152 h (x_k0 fun x5 M5 h => ?_)
    refine x_if (tgt := 113) (by decide +kernel : am_at co_X12_days 107 = some (3, .ifCond .ne 6)) rfl Iff.rfl (fun c5 => ?_) (fun c5 => ?_)
    · have h := h.1 c5
      refine x_aload_n (by decide +kernel : am_at co_X12_days 113 = some (1, .aload_n 0)) rfl ?_
      refine x_iload_n (by decide +kernel : am_at co_X12_days 114 = some (1, .iload_n 1)) rfl ?_
      refine x_bipush (by decide +kernel : am_at co_X12_days 115 = some (2, .bipush 7)) ?_
      refine x_callV (n := 3) (by decide +kernel : am_at co_X12_days 117 = some (3, .invokevirtual 430)) pq_12_430 pm_X12_laysNow rfl rfl rfl ob_152 h (x_kv fun M7 h => ?_)
      refine x_iconst (by decide +kernel : am_at co_X12_days 120 = some (1, .iconst 0)) ?_
      refine x_istore (L' := [(2, 152), (0, v1), (0, v2), (0, v3), (0, v4), (0, v5), (0, v6), (0, 0)]) (by decide +kernel : am_at co_X12_days 121 = some (2, .istore 7)) rfl ?_
      exact am_weak (lk (lk (lk (lk (lk (lk (lk (lk ln)))))))) h
    · have c5 := (Classical.not_not.mp c5)
      have h := h.2 c5
      refine x_goto (tgt := 242) (by decide +kernel : am_at co_X12_days 110 = some (3, .goto 132)) rfl ?_
      exact am_weak (lk (lk (lk (lk (lk (lk (lk (lk ln)))))))) h
set_option maxRecDepth 20000 in
theorem bk_X12_days_123 {d : Nat} {Q : am_Q} {M : am_M} {v1 v2 v3 v4 v5 v6 v7 : Int} (h : am_cal pg d 250 [(0, v2)] sh_T M (am_c0 sh_T fun x1 M1 => ((x1 ≤ v7 → am_cal pg d 230 [(2, 152), (0, v1)] sh_T M1 (am_c0 sh_T fun x3 M3 => am_cal pg d 245 [(2, 152), (0, v1), (0, x3)] sh_T M3 (am_cv sh_T fun M4 => ((M4 152 54 = (-1) → am_g 12 0 co_X12_days d Q 242 [(2, 152), (0, v1), (0, v2), (0, v3), (0, v4), (0, v5), (0, v6), (3, 0)] [] sh_T M4) ∧ (¬ M4 152 54 = (-1) → ((v5 = (-1) → am_g 12 0 co_X12_days d Q 204 [(2, 152), (0, v1), (0, v2), (0, v3), (0, v4), (3, 0), (0, v6), (3, 0)] [] sh_T M4) ∧ (¬ v5 = (-1) → ((M4 152 54 < v5 → am_g 12 0 co_X12_days d Q 204 [(2, 152), (0, v1), (0, v2), (0, v3), (0, v4), (3, 0), (0, v6), (3, 0)] [] sh_T M4) ∧ (v5 ≤ M4 152 54 → am_g 12 0 co_X12_days d Q 242 [(2, 152), (0, v1), (0, v2), (0, v3), (0, v4), (0, v5), (0, v6), (3, 0)] [] sh_T M4))))))))) ∧ (v7 < x1 → (0 ≤ v7 ∧ v7 < 4) ∧ am_r (7 + (M1 189 v7)) ∧ am_cal pg d 227 [(2, 152), (0, 2), (0, 7), (0, M1 189 v7), (0, v1)] sh_T M1 (am_c0 sh_T fun x10 M10 => (0 ≤ 7 + (M1 189 v7) ∧ 7 + (M1 189 v7) < 1500) ∧ am_r (v7 + 1) ∧ am_g 12 0 co_X12_days d Q 123 [(2, 152), (0, v1), (0, v2), (0, v3), (0, v4), (0, v5), (0, v6), (0, v7 + 1)] [] sh_T (am_up M10 187 (7 + (M1 189 v7)) x10)))))) : am_g 12 0 co_X12_days d Q 123 [(2, 152), (0, v1), (0, v2), (0, v3), (0, v4), (0, v5), (0, v6), (0, v7)] [] sh_T M := by
  refine x_iload (by decide +kernel : am_at co_X12_days 123 = some (2, .iload 7)) rfl ?_
  refine x_iload_n (by decide +kernel : am_at co_X12_days 125 = some (1, .iload_n 2)) rfl ?_
  refine x_callS (n := 1) (by decide +kernel : am_at co_X12_days 126 = some (3, .invokestatic 501)) pq_12_501 rfl rfl rfl h (x_k0 fun x1 M1 h => ?_)
  refine x_icmp (tgt := 168) (by decide +kernel : am_at co_X12_days 129 = some (3, .if_icmp .ge 39)) rfl Iff.rfl (fun c1 => ?_) (fun c1 => ?_)
  · have h := h.1 c1
    refine x_aload_n (by decide +kernel : am_at co_X12_days 168 = some (1, .aload_n 0)) rfl ?_
    refine x_iload_n (by decide +kernel : am_at co_X12_days 169 = some (1, .iload_n 1)) rfl ?_
    refine x_aload_n (by decide +kernel : am_at co_X12_days 170 = some (1, .aload_n 0)) rfl ?_
    refine x_iload_n (by decide +kernel : am_at co_X12_days 171 = some (1, .iload_n 1)) rfl ?_
    refine x_callV (n := 2) (by decide +kernel : am_at co_X12_days 172 = some (3, .invokevirtual 449)) pq_12_449 pm_X12_guideOf rfl rfl rfl ob_152 h (x_k0 fun x3 M3 h => ?_)
    refine x_callV (n := 3) (by decide +kernel : am_at co_X12_days 175 = some (3, .invokevirtual 495)) pq_12_495 pm_X12_seeksSoonest rfl rfl rfl ob_152 h (x_kv fun M4 h => ?_)
    refine x_aload_n (by decide +kernel : am_at co_X12_days 178 = some (1, .aload_n 0)) rfl ?_
    refine x_getf (by decide +kernel : am_at co_X12_days 179 = some (3, .getfield 485)) pq_12_485 rfl ob_152 ?_
    refine x_iconst (by decide +kernel : am_at co_X12_days 182 = some (1, .iconst (-1))) ?_
    refine x_icmp (tgt := 242) (by decide +kernel : am_at co_X12_days 183 = some (3, .if_icmp .eq 59)) rfl Iff.rfl (fun c4 => ?_) (fun c4 => ?_)
    · have h := h.1 c4
      exact am_weak (lk (lk (lk (lk (lk (lk (lk (ld ln)))))))) h
    · have c4 := c4
      have h := h.2 c4
      refine x_iload (by decide +kernel : am_at co_X12_days 186 = some (2, .iload 5)) rfl ?_
      refine x_iconst (by decide +kernel : am_at co_X12_days 188 = some (1, .iconst (-1))) ?_
      refine x_icmp (tgt := 204) (by decide +kernel : am_at co_X12_days 189 = some (3, .if_icmp .eq 15)) rfl Iff.rfl (fun c5 => ?_) (fun c5 => ?_)
      · have h := h.1 c5
        exact am_weak (lk (lk (lk (lk (lk (ld (lk (ld ln)))))))) h
      · have c5 := c5
        have h := h.2 c5
        refine x_aload_n (by decide +kernel : am_at co_X12_days 192 = some (1, .aload_n 0)) rfl ?_
        refine x_getf (by decide +kernel : am_at co_X12_days 193 = some (3, .getfield 485)) pq_12_485 rfl ob_152 ?_
        refine x_iload (by decide +kernel : am_at co_X12_days 196 = some (2, .iload 5)) rfl ?_
        refine x_icmp (tgt := 204) (by decide +kernel : am_at co_X12_days 198 = some (3, .if_icmp .lt 6)) rfl Iff.rfl (fun c6 => ?_) (fun c6 => ?_)
        · have h := h.1 c6
          exact am_weak (lk (lk (lk (lk (lk (ld (lk (ld ln)))))))) h
        · have c6 := (Int.not_lt.mp c6)
          have h := h.2 c6
          refine x_goto (tgt := 242) (by decide +kernel : am_at co_X12_days 201 = some (3, .goto 41)) rfl ?_
          exact am_weak (lk (lk (lk (lk (lk (lk (lk (ld ln)))))))) h
  · have c1 := (Int.not_le.mp c1)
    have h := h.2 c1
    refine x_aload_n (by decide +kernel : am_at co_X12_days 132 = some (1, .aload_n 0)) rfl ?_
    refine x_getF (by decide +kernel : am_at co_X12_days 133 = some (3, .getfield 118)) pq_12_118 (by decide) rfl ob_152 ?_
    refine x_top2 (show 152 + 35 = 187 from rfl) ?_
    refine x_bipush (by decide +kernel : am_at co_X12_days 136 = some (2, .bipush 7)) ?_
    refine x_aload_n (by decide +kernel : am_at co_X12_days 138 = some (1, .aload_n 0)) rfl ?_
    refine x_getF (by decide +kernel : am_at co_X12_days 139 = some (3, .getfield 124)) pq_12_124 (by decide) rfl ob_152 ?_
    refine x_top2 (show 152 + 37 = 189 from rfl) ?_
    refine x_iload (by decide +kernel : am_at co_X12_days 142 = some (2, .iload 7)) rfl ?_
    obtain ⟨o7, h⟩ := h
    refine x_iald (by decide +kernel : am_at co_X12_days 144 = some (1, .iaload)) (ia_189 o7.1 o7.2) ?_
    obtain ⟨o8, h⟩ := h
    refine x_iadd (by decide +kernel : am_at co_X12_days 145 = some (1, .iadd)) o8 ?_
    refine x_aload_n (by decide +kernel : am_at co_X12_days 146 = some (1, .aload_n 0)) rfl ?_
    refine x_iconst (by decide +kernel : am_at co_X12_days 147 = some (1, .iconst 2)) ?_
    refine x_bipush (by decide +kernel : am_at co_X12_days 148 = some (2, .bipush 7)) ?_
    refine x_aload_n (by decide +kernel : am_at co_X12_days 150 = some (1, .aload_n 0)) rfl ?_
    refine x_getF (by decide +kernel : am_at co_X12_days 151 = some (3, .getfield 124)) pq_12_124 (by decide) rfl ob_152 ?_
    refine x_top2 (show 152 + 37 = 189 from rfl) ?_
    refine x_iload (by decide +kernel : am_at co_X12_days 154 = some (2, .iload 7)) rfl ?_
    refine x_iald (by decide +kernel : am_at co_X12_days 156 = some (1, .iaload)) (ia_189 o7.1 o7.2) ?_
    refine x_iload_n (by decide +kernel : am_at co_X12_days 157 = some (1, .iload_n 1)) rfl ?_
    refine x_callV (n := 5) (by decide +kernel : am_at co_X12_days 158 = some (3, .invokevirtual 426)) pq_12_426 pm_X12_made rfl rfl rfl ob_152 h (x_k0 fun x10 M10 h => ?_)
    obtain ⟨o10, h⟩ := h
    refine x_iast (by decide +kernel : am_at co_X12_days 161 = some (1, .iastore)) (ow_187 o10.1 o10.2) ?_
    obtain ⟨o11, h⟩ := h
    refine x_iinc (L' := [(2, 152), (0, v1), (0, v2), (0, v3), (0, v4), (0, v5), (0, v6), (0, v7 + 1)]) (by decide +kernel : am_at co_X12_days 162 = some (3, .iinc 7 1)) rfl o11 rfl ?_
    refine x_goto (tgt := 123) (by decide +kernel : am_at co_X12_days 165 = some (3, .goto (-42))) rfl ?_
    exact am_weak (lk (lk (lk (lk (lk (lk (lk (lk ln)))))))) h
set_option maxRecDepth 20000 in
theorem bk_X12_days_204 {d : Nat} {Q : am_Q} {M : am_M} {v1 v2 v3 v4 v6 : Int} (h : am_g 12 0 co_X12_days d Q 213 [(2, 152), (0, v1), (0, v2), (0, v3), (0, v4), (0, M 152 54), (0, v6), (0, 0)] [] sh_T M) : am_g 12 0 co_X12_days d Q 204 [(2, 152), (0, v1), (0, v2), (0, v3), (0, v4), (3, 0), (0, v6), (3, 0)] [] sh_T M := by
  refine x_aload_n (by decide +kernel : am_at co_X12_days 204 = some (1, .aload_n 0)) rfl ?_
  refine x_getf (by decide +kernel : am_at co_X12_days 205 = some (3, .getfield 485)) pq_12_485 rfl ob_152 ?_
  refine x_istore (L' := [(2, 152), (0, v1), (0, v2), (0, v3), (0, v4), (0, M 152 54), (0, v6), (3, 0)]) (by decide +kernel : am_at co_X12_days 208 = some (2, .istore 5)) rfl ?_
  refine x_iconst (by decide +kernel : am_at co_X12_days 210 = some (1, .iconst 0)) ?_
  refine x_istore (L' := [(2, 152), (0, v1), (0, v2), (0, v3), (0, v4), (0, M 152 54), (0, v6), (0, 0)]) (by decide +kernel : am_at co_X12_days 211 = some (2, .istore 7)) rfl ?_
  exact am_weak (lk (lk (lk (lk (lk (lk (lk (lk ln)))))))) h
set_option maxRecDepth 20000 in
theorem bk_X12_days_213 {d : Nat} {Q : am_Q} {M : am_M} {v1 v2 v3 v4 v5 v6 v7 : Int} (h : am_cal pg d 250 [(0, v2)] sh_T M (am_c0 sh_T fun x1 M1 => ((x1 ≤ v7 → am_g 12 0 co_X12_days d Q 242 [(2, 152), (0, v1), (0, v2), (0, v3), (0, v4), (0, v5), (0, v6), (3, 0)] [] sh_T M1) ∧ (v7 < x1 → (0 ≤ v7 ∧ v7 < 4) ∧ (0 ≤ v7 ∧ v7 < 4) ∧ am_r (v7 + 1) ∧ am_g 12 0 co_X12_days d Q 213 [(2, 152), (0, v1), (0, v2), (0, v3), (0, v4), (0, v5), (0, v6), (0, v7 + 1)] [] sh_T (am_up M1 190 v7 (M1 189 v7)))))) : am_g 12 0 co_X12_days d Q 213 [(2, 152), (0, v1), (0, v2), (0, v3), (0, v4), (0, v5), (0, v6), (0, v7)] [] sh_T M := by
  refine x_iload (by decide +kernel : am_at co_X12_days 213 = some (2, .iload 7)) rfl ?_
  refine x_iload_n (by decide +kernel : am_at co_X12_days 215 = some (1, .iload_n 2)) rfl ?_
  refine x_callS (n := 1) (by decide +kernel : am_at co_X12_days 216 = some (3, .invokestatic 501)) pq_12_501 rfl rfl rfl h (x_k0 fun x1 M1 h => ?_)
  refine x_icmp (tgt := 242) (by decide +kernel : am_at co_X12_days 219 = some (3, .if_icmp .ge 23)) rfl Iff.rfl (fun c1 => ?_) (fun c1 => ?_)
  · have h := h.1 c1
    exact am_weak (lk (lk (lk (lk (lk (lk (lk (ld ln)))))))) h
  · have c1 := (Int.not_le.mp c1)
    have h := h.2 c1
    refine x_aload_n (by decide +kernel : am_at co_X12_days 222 = some (1, .aload_n 0)) rfl ?_
    refine x_getF (by decide +kernel : am_at co_X12_days 223 = some (3, .getfield 127)) pq_12_127 (by decide) rfl ob_152 ?_
    refine x_top2 (show 152 + 38 = 190 from rfl) ?_
    refine x_iload (by decide +kernel : am_at co_X12_days 226 = some (2, .iload 7)) rfl ?_
    refine x_aload_n (by decide +kernel : am_at co_X12_days 228 = some (1, .aload_n 0)) rfl ?_
    refine x_getF (by decide +kernel : am_at co_X12_days 229 = some (3, .getfield 124)) pq_12_124 (by decide) rfl ob_152 ?_
    refine x_top2 (show 152 + 37 = 189 from rfl) ?_
    refine x_iload (by decide +kernel : am_at co_X12_days 232 = some (2, .iload 7)) rfl ?_
    obtain ⟨o2, h⟩ := h
    refine x_iald (by decide +kernel : am_at co_X12_days 234 = some (1, .iaload)) (ia_189 o2.1 o2.2) ?_
    obtain ⟨o3, h⟩ := h
    refine x_iast (by decide +kernel : am_at co_X12_days 235 = some (1, .iastore)) (ow_190 o3.1 o3.2) ?_
    obtain ⟨o4, h⟩ := h
    refine x_iinc (L' := [(2, 152), (0, v1), (0, v2), (0, v3), (0, v4), (0, v5), (0, v6), (0, v7 + 1)]) (by decide +kernel : am_at co_X12_days 236 = some (3, .iinc 7 1)) rfl o4 rfl ?_
    refine x_goto (tgt := 213) (by decide +kernel : am_at co_X12_days 239 = some (3, .goto (-26))) rfl ?_
    exact am_weak (lk (lk (lk (lk (lk (lk (lk (lk ln)))))))) h
set_option maxRecDepth 20000 in
theorem bk_X12_days_242 {d : Nat} {Q : am_Q} {M : am_M} {v1 v2 v3 v4 v5 v6 : Int} (h : am_r (v6 + 1) ∧ am_g 12 0 co_X12_days d Q 93 [(2, 152), (0, v1), (0, v2), (0, v3), (0, v4), (0, v5), (0, v6 + 1), (3, 0)] [] sh_T M) : am_g 12 0 co_X12_days d Q 242 [(2, 152), (0, v1), (0, v2), (0, v3), (0, v4), (0, v5), (0, v6), (3, 0)] [] sh_T M := by
  obtain ⟨o0, h⟩ := h
  refine x_iinc (L' := [(2, 152), (0, v1), (0, v2), (0, v3), (0, v4), (0, v5), (0, v6 + 1), (3, 0)]) (by decide +kernel : am_at co_X12_days 242 = some (3, .iinc 6 1)) rfl o0 rfl ?_
  refine x_goto (tgt := 93) (by decide +kernel : am_at co_X12_days 245 = some (3, .goto (-152))) rfl ?_
  exact am_weak (lk (lk (lk (lk (lk (lk (lk (lk ln)))))))) h
set_option maxRecDepth 20000 in
theorem bk_X12_days_259 {d : Nat} {Q : am_Q} {M : am_M} {v5 : Int} (h : Q (some (0, v5), sh_T, M)) : am_g 12 0 co_X12_days d Q 259 [(3, 0), (3, 0), (3, 0), (3, 0), (3, 0), (0, v5), (3, 0), (3, 0)] [] sh_T M := by
  refine x_iload (by decide +kernel : am_at co_X12_days 259 = some (2, .iload 5)) rfl ?_
  refine x_goto (tgt := 270) (by decide +kernel : am_at co_X12_days 261 = some (3, .goto 9)) rfl ?_
  exact x_iret (by decide +kernel : am_at co_X12_days 270 = some (1, .ireturn)) h
set_option maxRecDepth 20000 in
theorem bk_X12_worstOfTwo_0 {d : Nat} {Q : am_Q} {M : am_M} (h : am_g 12 0 co_X12_worstOfTwo d Q 4 [(2, 152), (0, (-1)), (0, 0)] [] sh_T M) : am_g 12 0 co_X12_worstOfTwo d Q 0 [(2, 152), (3, 0), (3, 0)] [] sh_T M := by
  refine x_iconst (by decide +kernel : am_at co_X12_worstOfTwo 0 = some (1, .iconst (-1))) ?_
  refine x_istore_n (L' := [(2, 152), (0, (-1)), (3, 0)]) (by decide +kernel : am_at co_X12_worstOfTwo 1 = some (1, .istore_n 1)) rfl ?_
  refine x_iconst (by decide +kernel : am_at co_X12_worstOfTwo 2 = some (1, .iconst 0)) ?_
  refine x_istore_n (L' := [(2, 152), (0, (-1)), (0, 0)]) (by decide +kernel : am_at co_X12_worstOfTwo 3 = some (1, .istore_n 2)) rfl ?_
  exact am_weak (lk (lk (lk ln))) h
set_option maxRecDepth 20000 in
theorem bk_X12_worstOfTwo_4 {d : Nat} {Q : am_Q} {M : am_M} {v1 v2 : Int} (h : am_cal pg d 211 [(2, 152)] sh_T M (am_c0 sh_T fun x1 M1 => ((x1 ≤ v2 → Q (some (0, v1), sh_T, M1)) ∧ (v2 < x1 → ((v1 = (-1) → am_r (v2 + 1) ∧ am_g 12 0 co_X12_worstOfTwo d Q 4 [(2, 152), (0, v2), (0, v2 + 1)] [] sh_T M1) ∧ (¬ v1 = (-1) → (0 ≤ v2 ∧ v2 < 1500) ∧ am_r (7 + v2) ∧ (0 ≤ 7 + v2 ∧ 7 + v2 < 1500) ∧ am_r ((M1 187 v2) + (M1 187 (7 + v2))) ∧ (0 ≤ v1 ∧ v1 < 1500) ∧ am_r (7 + v1) ∧ (0 ≤ 7 + v1 ∧ 7 + v1 < 1500) ∧ am_r ((M1 187 v1) + (M1 187 (7 + v1))) ∧ (((M1 187 v2) + (M1 187 (7 + v2)) ≤ (M1 187 v1) + (M1 187 (7 + v1)) → am_r (v2 + 1) ∧ am_g 12 0 co_X12_worstOfTwo d Q 4 [(2, 152), (0, v1), (0, v2 + 1)] [] sh_T M1) ∧ ((M1 187 v1) + (M1 187 (7 + v1)) < (M1 187 v2) + (M1 187 (7 + v2)) → am_r (v2 + 1) ∧ am_g 12 0 co_X12_worstOfTwo d Q 4 [(2, 152), (0, v2), (0, v2 + 1)] [] sh_T M1)))))))) : am_g 12 0 co_X12_worstOfTwo d Q 4 [(2, 152), (0, v1), (0, v2)] [] sh_T M := by
  refine x_iload_n (by decide +kernel : am_at co_X12_worstOfTwo 4 = some (1, .iload_n 2)) rfl ?_
  refine x_aload_n (by decide +kernel : am_at co_X12_worstOfTwo 5 = some (1, .aload_n 0)) rfl ?_
  refine x_callV (n := 1) (by decide +kernel : am_at co_X12_worstOfTwo 6 = some (3, .invokevirtual 389)) pq_12_389 pm_X12_dreadMany rfl rfl rfl ob_152 h (x_k0 fun x1 M1 h => ?_)
  refine x_icmp (tgt := 60) (by decide +kernel : am_at co_X12_worstOfTwo 9 = some (3, .if_icmp .ge 51)) rfl Iff.rfl (fun c1 => ?_) (fun c1 => ?_)
  · have h := h.1 c1
    refine x_iload_n (by decide +kernel : am_at co_X12_worstOfTwo 60 = some (1, .iload_n 1)) rfl ?_
    exact x_iret (by decide +kernel : am_at co_X12_worstOfTwo 61 = some (1, .ireturn)) h
  · have c1 := (Int.not_le.mp c1)
    have h := h.2 c1
    refine x_iload_n (by decide +kernel : am_at co_X12_worstOfTwo 12 = some (1, .iload_n 1)) rfl ?_
    refine x_iconst (by decide +kernel : am_at co_X12_worstOfTwo 13 = some (1, .iconst (-1))) ?_
    refine x_icmp (tgt := 52) (by decide +kernel : am_at co_X12_worstOfTwo 14 = some (3, .if_icmp .eq 38)) rfl Iff.rfl (fun c2 => ?_) (fun c2 => ?_)
    · have h := h.1 c2
      refine x_iload_n (by decide +kernel : am_at co_X12_worstOfTwo 52 = some (1, .iload_n 2)) rfl ?_
      refine x_istore_n (L' := [(2, 152), (0, v2), (0, v2)]) (by decide +kernel : am_at co_X12_worstOfTwo 53 = some (1, .istore_n 1)) rfl ?_
      obtain ⟨o3, h⟩ := h
      refine x_iinc (L' := [(2, 152), (0, v2), (0, v2 + 1)]) (by decide +kernel : am_at co_X12_worstOfTwo 54 = some (3, .iinc 2 1)) rfl o3 rfl ?_
      refine x_goto (tgt := 4) (by decide +kernel : am_at co_X12_worstOfTwo 57 = some (3, .goto (-53))) rfl ?_
      exact am_weak (lk (lk (lk ln))) h
    · have c2 := c2
      have h := h.2 c2
      refine x_aload_n (by decide +kernel : am_at co_X12_worstOfTwo 17 = some (1, .aload_n 0)) rfl ?_
      refine x_getF (by decide +kernel : am_at co_X12_worstOfTwo 18 = some (3, .getfield 118)) pq_12_118 (by decide) rfl ob_152 ?_
      refine x_top2 (show 152 + 35 = 187 from rfl) ?_
      refine x_iload_n (by decide +kernel : am_at co_X12_worstOfTwo 21 = some (1, .iload_n 2)) rfl ?_
      obtain ⟨o4, h⟩ := h
      refine x_iald (by decide +kernel : am_at co_X12_worstOfTwo 22 = some (1, .iaload)) (ia_187 o4.1 o4.2) ?_
      refine x_aload_n (by decide +kernel : am_at co_X12_worstOfTwo 23 = some (1, .aload_n 0)) rfl ?_
      refine x_getF (by decide +kernel : am_at co_X12_worstOfTwo 24 = some (3, .getfield 118)) pq_12_118 (by decide) rfl ob_152 ?_
      refine x_top2 (show 152 + 35 = 187 from rfl) ?_
      refine x_bipush (by decide +kernel : am_at co_X12_worstOfTwo 27 = some (2, .bipush 7)) ?_
      refine x_iload_n (by decide +kernel : am_at co_X12_worstOfTwo 29 = some (1, .iload_n 2)) rfl ?_
      obtain ⟨o5, h⟩ := h
      refine x_iadd (by decide +kernel : am_at co_X12_worstOfTwo 30 = some (1, .iadd)) o5 ?_
      obtain ⟨o6, h⟩ := h
      refine x_iald (by decide +kernel : am_at co_X12_worstOfTwo 31 = some (1, .iaload)) (ia_187 o6.1 o6.2) ?_
      obtain ⟨o7, h⟩ := h
      refine x_iadd (by decide +kernel : am_at co_X12_worstOfTwo 32 = some (1, .iadd)) o7 ?_
      refine x_aload_n (by decide +kernel : am_at co_X12_worstOfTwo 33 = some (1, .aload_n 0)) rfl ?_
      refine x_getF (by decide +kernel : am_at co_X12_worstOfTwo 34 = some (3, .getfield 118)) pq_12_118 (by decide) rfl ob_152 ?_
      refine x_top2 (show 152 + 35 = 187 from rfl) ?_
      refine x_iload_n (by decide +kernel : am_at co_X12_worstOfTwo 37 = some (1, .iload_n 1)) rfl ?_
      obtain ⟨o8, h⟩ := h
      refine x_iald (by decide +kernel : am_at co_X12_worstOfTwo 38 = some (1, .iaload)) (ia_187 o8.1 o8.2) ?_
      refine x_aload_n (by decide +kernel : am_at co_X12_worstOfTwo 39 = some (1, .aload_n 0)) rfl ?_
      refine x_getF (by decide +kernel : am_at co_X12_worstOfTwo 40 = some (3, .getfield 118)) pq_12_118 (by decide) rfl ob_152 ?_
      refine x_top2 (show 152 + 35 = 187 from rfl) ?_
      refine x_bipush (by decide +kernel : am_at co_X12_worstOfTwo 43 = some (2, .bipush 7)) ?_
      refine x_iload_n (by decide +kernel : am_at co_X12_worstOfTwo 45 = some (1, .iload_n 1)) rfl ?_
      obtain ⟨o9, h⟩ := h
      refine x_iadd (by decide +kernel : am_at co_X12_worstOfTwo 46 = some (1, .iadd)) o9 ?_
      obtain ⟨o10, h⟩ := h
      refine x_iald (by decide +kernel : am_at co_X12_worstOfTwo 47 = some (1, .iaload)) (ia_187 o10.1 o10.2) ?_
      obtain ⟨o11, h⟩ := h
      refine x_iadd (by decide +kernel : am_at co_X12_worstOfTwo 48 = some (1, .iadd)) o11 ?_
      refine x_icmp (tgt := 54) (by decide +kernel : am_at co_X12_worstOfTwo 49 = some (3, .if_icmp .le 5)) rfl Iff.rfl (fun c12 => ?_) (fun c12 => ?_)
      · have h := h.1 c12
        obtain ⟨o13, h⟩ := h
        refine x_iinc (L' := [(2, 152), (0, v1), (0, v2 + 1)]) (by decide +kernel : am_at co_X12_worstOfTwo 54 = some (3, .iinc 2 1)) rfl o13 rfl ?_
        refine x_goto (tgt := 4) (by decide +kernel : am_at co_X12_worstOfTwo 57 = some (3, .goto (-53))) rfl ?_
        exact am_weak (lk (lk (lk ln))) h
      · have c12 := (Int.not_le.mp c12)
        have h := h.2 c12
        refine x_iload_n (by decide +kernel : am_at co_X12_worstOfTwo 52 = some (1, .iload_n 2)) rfl ?_
        refine x_istore_n (L' := [(2, 152), (0, v2), (0, v2)]) (by decide +kernel : am_at co_X12_worstOfTwo 53 = some (1, .istore_n 1)) rfl ?_
        obtain ⟨o14, h⟩ := h
        refine x_iinc (L' := [(2, 152), (0, v2), (0, v2 + 1)]) (by decide +kernel : am_at co_X12_worstOfTwo 54 = some (3, .iinc 2 1)) rfl o14 rfl ?_
        refine x_goto (tgt := 4) (by decide +kernel : am_at co_X12_worstOfTwo 57 = some (3, .goto (-53))) rfl ?_
        exact am_weak (lk (lk (lk ln))) h
set_option maxRecDepth 20000 in
theorem bk_X12_hand_0 {d : Nat} {Q : am_Q} {M : am_M} {v1 v2 v3 : Int} (h : am_cal pg d 215 [(2, 152), (0, v1)] sh_T M (am_c0 sh_T fun x1 M1 => ((x1 = 0 → am_g 12 0 co_X12_hand d Q 38 [(3, 0), (3, 0), (3, 0), (3, 0), (3, 0), (3, 0), (3, 0)] [] sh_T M1) ∧ (¬ x1 = 0 → am_cal pg d 215 [(2, 152), (0, v2)] sh_T M1 (am_c0 sh_T fun x3 M3 => ((x3 = 0 → am_g 12 0 co_X12_hand d Q 38 [(3, 0), (3, 0), (3, 0), (3, 0), (3, 0), (3, 0), (3, 0)] [] sh_T M3) ∧ (¬ x3 = 0 → ((v1 = v2 → am_g 12 0 co_X12_hand d Q 38 [(3, 0), (3, 0), (3, 0), (3, 0), (3, 0), (3, 0), (3, 0)] [] sh_T M3) ∧ (¬ v1 = v2 → ((v3 = (-1) → am_g 12 0 co_X12_hand d Q 40 [(2, 152), (0, v1), (0, v2), (0, v3), (3, 0), (3, 0), (3, 0)] [] sh_T M3) ∧ (¬ v3 = (-1) → am_cal pg d 169 [(1, v3), (1, 0), (1, 199)] sh_T M3 (am_c0 sh_T fun x7 M7 => ((¬ x7 = 0 → am_g 12 0 co_X12_hand d Q 40 [(2, 152), (0, v1), (0, v2), (0, v3), (3, 0), (3, 0), (3, 0)] [] sh_T M7) ∧ (x7 = 0 → am_g 12 0 co_X12_hand d Q 38 [(3, 0), (3, 0), (3, 0), (3, 0), (3, 0), (3, 0), (3, 0)] [] sh_T M7)))))))))))))) : am_g 12 0 co_X12_hand d Q 0 [(2, 152), (0, v1), (0, v2), (0, v3), (3, 0), (3, 0), (3, 0)] [] sh_T M := by
  refine x_aload_n (by decide +kernel : am_at co_X12_hand 0 = some (1, .aload_n 0)) rfl ?_
  refine x_iload_n (by decide +kernel : am_at co_X12_hand 1 = some (1, .iload_n 1)) rfl ?_
  refine x_callV (n := 2) (by decide +kernel : am_at co_X12_hand 2 = some (3, .invokevirtual 446)) pq_12_446 pm_X12_isDreamer rfl rfl rfl ob_152 h (x_k0 fun x1 M1 h => ?_)
  refine x_if (tgt := 38) (by decide +kernel : am_at co_X12_hand 5 = some (3, .ifCond .eq 33)) rfl Iff.rfl (fun c1 => ?_) (fun c1 => ?_)
  · have h := h.1 c1
    exact am_weak (ld (ld (ld (ld (lk (lk (lk ln))))))) h
  · have c1 := c1
    have h := h.2 c1
    refine x_aload_n (by decide +kernel : am_at co_X12_hand 8 = some (1, .aload_n 0)) rfl ?_
    refine x_iload_n (by decide +kernel : am_at co_X12_hand 9 = some (1, .iload_n 2)) rfl ?_
    refine x_callV (n := 2) (by decide +kernel : am_at co_X12_hand 10 = some (3, .invokevirtual 446)) pq_12_446 pm_X12_isDreamer rfl rfl rfl ob_152 h (x_k0 fun x3 M3 h => ?_)
    refine x_if (tgt := 38) (by decide +kernel : am_at co_X12_hand 13 = some (3, .ifCond .eq 25)) rfl Iff.rfl (fun c3 => ?_) (fun c3 => ?_)
    · have h := h.1 c3
      exact am_weak (ld (ld (ld (ld (lk (lk (lk ln))))))) h
    · have c3 := c3
      have h := h.2 c3
      refine x_iload_n (by decide +kernel : am_at co_X12_hand 16 = some (1, .iload_n 1)) rfl ?_
      refine x_iload_n (by decide +kernel : am_at co_X12_hand 17 = some (1, .iload_n 2)) rfl ?_
      refine x_icmp (tgt := 38) (by decide +kernel : am_at co_X12_hand 18 = some (3, .if_icmp .eq 20)) rfl Iff.rfl (fun c4 => ?_) (fun c4 => ?_)
      · have h := h.1 c4
        exact am_weak (ld (ld (ld (ld (lk (lk (lk ln))))))) h
      · have c4 := c4
        have h := h.2 c4
        refine x_iload_n (by decide +kernel : am_at co_X12_hand 21 = some (1, .iload_n 3)) rfl ?_
        refine x_iconst (by decide +kernel : am_at co_X12_hand 22 = some (1, .iconst (-1))) ?_
        refine x_icmp (tgt := 40) (by decide +kernel : am_at co_X12_hand 23 = some (3, .if_icmp .eq 17)) rfl Iff.rfl (fun c5 => ?_) (fun c5 => ?_)
        · have h := h.1 c5
          exact am_weak (lk (lk (lk (lk (lk (lk (lk ln))))))) h
        · have c5 := c5
          have h := h.2 c5
          refine x_iload_n (by decide +kernel : am_at co_X12_hand 26 = some (1, .iload_n 3)) rfl ?_
          refine x_i2l (by decide +kernel : am_at co_X12_hand 27 = some (1, .i2l)) ?_
          refine x_lconst (by decide +kernel : am_at co_X12_hand 28 = some (1, .lconst 0)) ?_
          refine x_ldc2 (by decide +kernel : am_at co_X12_hand 29 = some (3, .ldc2_w 467)) pq_12_467 ?_
          refine x_callS (n := 3) (by decide +kernel : am_at co_X12_hand 32 = some (3, .invokestatic 249)) pq_12_249 rfl rfl rfl h (x_k0 fun x7 M7 h => ?_)
          refine x_if (tgt := 40) (by decide +kernel : am_at co_X12_hand 35 = some (3, .ifCond .ne 5)) rfl Iff.rfl (fun c7 => ?_) (fun c7 => ?_)
          · have h := h.1 c7
            exact am_weak (lk (lk (lk (lk (lk (lk (lk ln))))))) h
          · have c7 := (Classical.not_not.mp c7)
            have h := h.2 c7
            exact am_weak (ld (ld (ld (ld (lk (lk (lk ln))))))) h
set_option maxRecDepth 20000 in
theorem bk_X12_hand_38 {d : Nat} {Q : am_Q} {M : am_M} (h : Q (some (0, (-1)), sh_T, M)) : am_g 12 0 co_X12_hand d Q 38 [(3, 0), (3, 0), (3, 0), (3, 0), (3, 0), (3, 0), (3, 0)] [] sh_T M := by
  refine x_iconst (by decide +kernel : am_at co_X12_hand 38 = some (1, .iconst (-1))) ?_
  exact x_iret (by decide +kernel : am_at co_X12_hand 39 = some (1, .ireturn)) h
set_option maxRecDepth 20000 in
theorem bk_X12_hand_40 {d : Nat} {Q : am_Q} {M : am_M} {v1 v2 v3 : Int} (h : am_cal pg d 218 [(2, 152), (0, v1), (0, 0)] sh_T M (am_cv sh_T fun M1 => am_cal pg d 218 [(2, 152), (0, v2), (0, 7)] sh_T M1 (am_cv sh_T fun M2 => am_g 12 0 co_X12_hand d Q 59 [(2, 152), (0, v1), (0, v2), (0, v3), (0, 0), (0, (-1)), (3, 0)] [] sh_T M2))) : am_g 12 0 co_X12_hand d Q 40 [(2, 152), (0, v1), (0, v2), (0, v3), (3, 0), (3, 0), (3, 0)] [] sh_T M := by
  refine x_aload_n (by decide +kernel : am_at co_X12_hand 40 = some (1, .aload_n 0)) rfl ?_
  refine x_iload_n (by decide +kernel : am_at co_X12_hand 41 = some (1, .iload_n 1)) rfl ?_
  refine x_iconst (by decide +kernel : am_at co_X12_hand 42 = some (1, .iconst 0)) ?_
  refine x_callV (n := 3) (by decide +kernel : am_at co_X12_hand 43 = some (3, .invokevirtual 430)) pq_12_430 pm_X12_laysNow rfl rfl rfl ob_152 h (x_kv fun M1 h => ?_)
  refine x_aload_n (by decide +kernel : am_at co_X12_hand 46 = some (1, .aload_n 0)) rfl ?_
  refine x_iload_n (by decide +kernel : am_at co_X12_hand 47 = some (1, .iload_n 2)) rfl ?_
  refine x_bipush (by decide +kernel : am_at co_X12_hand 48 = some (2, .bipush 7)) ?_
  refine x_callV (n := 3) (by decide +kernel : am_at co_X12_hand 50 = some (3, .invokevirtual 430)) pq_12_430 pm_X12_laysNow rfl rfl rfl ob_152 h (x_kv fun M2 h => ?_)
  refine x_iconst (by decide +kernel : am_at co_X12_hand 53 = some (1, .iconst 0)) ?_
  refine x_istore (L' := [(2, 152), (0, v1), (0, v2), (0, v3), (0, 0), (3, 0), (3, 0)]) (by decide +kernel : am_at co_X12_hand 54 = some (2, .istore 4)) rfl ?_
  refine x_iconst (by decide +kernel : am_at co_X12_hand 56 = some (1, .iconst (-1))) ?_
  refine x_istore (L' := [(2, 152), (0, v1), (0, v2), (0, v3), (0, 0), (0, (-1)), (3, 0)]) (by decide +kernel : am_at co_X12_hand 57 = some (2, .istore 5)) rfl ?_
  exact am_weak (lk (lk (lk (lk (lk (lk (lk ln))))))) h
set_option maxRecDepth 20000 in
theorem bk_X12_hand_59 {d : Nat} {Q : am_Q} {M : am_M} {v1 v2 v3 v4 v5 : Int} (h : ((200 ≤ v4 → am_g 12 0 co_X12_hand d Q 142 [(2, 152), (3, 0), (3, 0), (0, v3), (0, v4), (0, v5), (3, 0)] [] sh_T M) ∧ (v4 < 200 → am_cal pg d 224 [(2, 152), (0, 0)] sh_T M (am_c0 sh_T fun x2 M2 => ((x2 = 0 → am_g 12 0 co_X12_hand d Q 84 [(2, 152), (0, v1), (0, v2), (0, v3), (0, v4), (0, v5), (3, 0)] [] sh_T M2) ∧ (¬ x2 = 0 → am_cal pg d 224 [(2, 152), (0, 7)] sh_T M2 (am_c0 sh_T fun x4 M4 => ((¬ x4 = 0 → am_g 12 0 co_X12_hand d Q 142 [(2, 152), (3, 0), (3, 0), (0, v3), (0, v4), (0, v5), (3, 0)] [] sh_T M4) ∧ (x4 = 0 → am_g 12 0 co_X12_hand d Q 84 [(2, 152), (0, v1), (0, v2), (0, v3), (0, v4), (0, v5), (3, 0)] [] sh_T M4))))))))) : am_g 12 0 co_X12_hand d Q 59 [(2, 152), (0, v1), (0, v2), (0, v3), (0, v4), (0, v5), (3, 0)] [] sh_T M := by
  refine x_iload (by decide +kernel : am_at co_X12_hand 59 = some (2, .iload 4)) rfl ?_
  refine x_sipush (by decide +kernel : am_at co_X12_hand 61 = some (3, .sipush 200)) ?_
  refine x_icmp (tgt := 142) (by decide +kernel : am_at co_X12_hand 64 = some (3, .if_icmp .ge 78)) rfl Iff.rfl (fun c0 => ?_) (fun c0 => ?_)
  · have h := h.1 c0
    exact am_weak (lk (ld (ld (lk (lk (lk (lk ln))))))) h
  · have c0 := (Int.not_le.mp c0)
    have h := h.2 c0
    refine x_aload_n (by decide +kernel : am_at co_X12_hand 67 = some (1, .aload_n 0)) rfl ?_
    refine x_iconst (by decide +kernel : am_at co_X12_hand 68 = some (1, .iconst 0)) ?_
    refine x_callV (n := 2) (by decide +kernel : am_at co_X12_hand 69 = some (3, .invokevirtual 433)) pq_12_433 pm_X12_isHomeAt rfl rfl rfl ob_152 h (x_k0 fun x2 M2 h => ?_)
    refine x_if (tgt := 84) (by decide +kernel : am_at co_X12_hand 72 = some (3, .ifCond .eq 12)) rfl Iff.rfl (fun c2 => ?_) (fun c2 => ?_)
    · have h := h.1 c2
      exact am_weak (lk (lk (lk (lk (lk (lk (lk ln))))))) h
    · have c2 := c2
      have h := h.2 c2
      refine x_aload_n (by decide +kernel : am_at co_X12_hand 75 = some (1, .aload_n 0)) rfl ?_
      refine x_bipush (by decide +kernel : am_at co_X12_hand 76 = some (2, .bipush 7)) ?_
      refine x_callV (n := 2) (by decide +kernel : am_at co_X12_hand 78 = some (3, .invokevirtual 433)) pq_12_433 pm_X12_isHomeAt rfl rfl rfl ob_152 h (x_k0 fun x4 M4 h => ?_)
      refine x_if (tgt := 142) (by decide +kernel : am_at co_X12_hand 81 = some (3, .ifCond .ne 61)) rfl Iff.rfl (fun c4 => ?_) (fun c4 => ?_)
      · have h := h.1 c4
        exact am_weak (lk (ld (ld (lk (lk (lk (lk ln))))))) h
      · have c4 := (Classical.not_not.mp c4)
        have h := h.2 c4
        exact am_weak (lk (lk (lk (lk (lk (lk (lk ln))))))) h
set_option maxRecDepth 20000 in
theorem bk_X12_hand_84 {d : Nat} {Q : am_Q} {M : am_M} {v1 v2 v3 v4 v5 : Int} (h : am_cal pg d 253 [(2, 152)] sh_T M (am_c0 sh_T fun x1 M1 => ((¬ v4 = v3 → am_g 12 0 co_X12_hand d Q 100 [(2, 152), (0, v1), (0, v2), (0, v3), (0, v4), (0, v5), (0, x1)] [] sh_T M1) ∧ (v4 = v3 → am_g 12 0 co_X12_hand d Q 100 [(2, 152), (0, v1), (0, v2), (0, v3), (0, v4), (0, x1), (0, x1)] [] sh_T M1)))) : am_g 12 0 co_X12_hand d Q 84 [(2, 152), (0, v1), (0, v2), (0, v3), (0, v4), (0, v5), (3, 0)] [] sh_T M := by
  refine x_aload_n (by decide +kernel : am_at co_X12_hand 84 = some (1, .aload_n 0)) rfl ?_
  refine x_callV (n := 1) (by decide +kernel : am_at co_X12_hand 85 = some (3, .invokevirtual 507)) pq_12_507 pm_X12_worstOfTwo rfl rfl rfl ob_152 h (x_k0 fun x1 M1 h => ?_)
  refine x_istore (L' := [(2, 152), (0, v1), (0, v2), (0, v3), (0, v4), (0, v5), (0, x1)]) (by decide +kernel : am_at co_X12_hand 88 = some (2, .istore 6)) rfl ?_
  refine x_iload (by decide +kernel : am_at co_X12_hand 90 = some (2, .iload 4)) rfl ?_
  refine x_iload_n (by decide +kernel : am_at co_X12_hand 92 = some (1, .iload_n 3)) rfl ?_
  refine x_icmp (tgt := 100) (by decide +kernel : am_at co_X12_hand 93 = some (3, .if_icmp .ne 7)) rfl Iff.rfl (fun c1 => ?_) (fun c1 => ?_)
  · have h := h.1 c1
    exact am_weak (lk (lk (lk (lk (lk (lk (lk ln))))))) h
  · have c1 := (Classical.not_not.mp c1)
    have h := h.2 c1
    refine x_iload (by decide +kernel : am_at co_X12_hand 96 = some (2, .iload 6)) rfl ?_
    refine x_istore (L' := [(2, 152), (0, v1), (0, v2), (0, v3), (0, v4), (0, x1), (0, x1)]) (by decide +kernel : am_at co_X12_hand 98 = some (2, .istore 5)) rfl ?_
    exact am_weak (lk (lk (lk (lk (lk (lk (lk ln))))))) h
set_option maxRecDepth 20000 in
theorem bk_X12_hand_100 {d : Nat} {Q : am_Q} {M : am_M} {v1 v2 v3 v4 v5 v6 : Int} (h : am_cal pg d 227 [(2, 152), (0, 0), (0, 0), (0, v6), (0, v1)] sh_T M (am_c0 sh_T fun x1 M1 => (0 ≤ v6 ∧ v6 < 1500) ∧ am_r (7 + v6) ∧ am_cal pg d 227 [(2, 152), (0, 0), (0, 7), (0, v6), (0, v2)] sh_T (am_up M1 187 v6 x1) (am_c0 sh_T fun x4 M4 => (0 ≤ 7 + v6 ∧ 7 + v6 < 1500) ∧ am_r (v4 + 1) ∧ am_g 12 0 co_X12_hand d Q 59 [(2, 152), (0, v1), (0, v2), (0, v3), (0, v4 + 1), (0, v5), (3, 0)] [] sh_T (am_up M4 187 (7 + v6) x4)))) : am_g 12 0 co_X12_hand d Q 100 [(2, 152), (0, v1), (0, v2), (0, v3), (0, v4), (0, v5), (0, v6)] [] sh_T M := by
  refine x_aload_n (by decide +kernel : am_at co_X12_hand 100 = some (1, .aload_n 0)) rfl ?_
  refine x_getF (by decide +kernel : am_at co_X12_hand 101 = some (3, .getfield 118)) pq_12_118 (by decide) rfl ob_152 ?_
  refine x_top2 (show 152 + 35 = 187 from rfl) ?_
  refine x_iload (by decide +kernel : am_at co_X12_hand 104 = some (2, .iload 6)) rfl ?_
  refine x_aload_n (by decide +kernel : am_at co_X12_hand 106 = some (1, .aload_n 0)) rfl ?_
  refine x_iconst (by decide +kernel : am_at co_X12_hand 107 = some (1, .iconst 0)) ?_
  refine x_iconst (by decide +kernel : am_at co_X12_hand 108 = some (1, .iconst 0)) ?_
  refine x_iload (by decide +kernel : am_at co_X12_hand 109 = some (2, .iload 6)) rfl ?_
  refine x_iload_n (by decide +kernel : am_at co_X12_hand 111 = some (1, .iload_n 1)) rfl ?_
  refine x_callV (n := 5) (by decide +kernel : am_at co_X12_hand 112 = some (3, .invokevirtual 426)) pq_12_426 pm_X12_made rfl rfl rfl ob_152 h (x_k0 fun x1 M1 h => ?_)
  obtain ⟨o1, h⟩ := h
  refine x_iast (by decide +kernel : am_at co_X12_hand 115 = some (1, .iastore)) (ow_187 o1.1 o1.2) ?_
  refine x_aload_n (by decide +kernel : am_at co_X12_hand 116 = some (1, .aload_n 0)) rfl ?_
  refine x_getF (by decide +kernel : am_at co_X12_hand 117 = some (3, .getfield 118)) pq_12_118 (by decide) rfl ob_152 ?_
  refine x_top2 (show 152 + 35 = 187 from rfl) ?_
  refine x_bipush (by decide +kernel : am_at co_X12_hand 120 = some (2, .bipush 7)) ?_
  refine x_iload (by decide +kernel : am_at co_X12_hand 122 = some (2, .iload 6)) rfl ?_
  obtain ⟨o2, h⟩ := h
  refine x_iadd (by decide +kernel : am_at co_X12_hand 124 = some (1, .iadd)) o2 ?_
  refine x_aload_n (by decide +kernel : am_at co_X12_hand 125 = some (1, .aload_n 0)) rfl ?_
  refine x_iconst (by decide +kernel : am_at co_X12_hand 126 = some (1, .iconst 0)) ?_
  refine x_bipush (by decide +kernel : am_at co_X12_hand 127 = some (2, .bipush 7)) ?_
  refine x_iload (by decide +kernel : am_at co_X12_hand 129 = some (2, .iload 6)) rfl ?_
  refine x_iload_n (by decide +kernel : am_at co_X12_hand 131 = some (1, .iload_n 2)) rfl ?_
  refine x_callV (n := 5) (by decide +kernel : am_at co_X12_hand 132 = some (3, .invokevirtual 426)) pq_12_426 pm_X12_made rfl rfl rfl ob_152 h (x_k0 fun x4 M4 h => ?_)
  obtain ⟨o4, h⟩ := h
  refine x_iast (by decide +kernel : am_at co_X12_hand 135 = some (1, .iastore)) (ow_187 o4.1 o4.2) ?_
  obtain ⟨o5, h⟩ := h
  refine x_iinc (L' := [(2, 152), (0, v1), (0, v2), (0, v3), (0, v4 + 1), (0, v5), (0, v6)]) (by decide +kernel : am_at co_X12_hand 136 = some (3, .iinc 4 1)) rfl o5 rfl ?_
  refine x_goto (tgt := 59) (by decide +kernel : am_at co_X12_hand 139 = some (3, .goto (-80))) rfl ?_
  exact am_weak (lk (lk (lk (lk (lk (lk (ld ln))))))) h
set_option maxRecDepth 20000 in
theorem bk_X12_hand_142 {d : Nat} {Q : am_Q} {M : am_M} {v3 v4 v5 : Int} (h : am_cal pg d 224 [(2, 152), (0, 0)] sh_T M (am_c0 sh_T fun x1 M1 => ((x1 = 0 → am_g 12 0 co_X12_hand d Q 159 [(3, 0), (3, 0), (3, 0), (3, 0), (3, 0), (3, 0), (3, 0)] [] sh_T M1) ∧ (¬ x1 = 0 → am_cal pg d 224 [(2, 152), (0, 7)] sh_T M1 (am_c0 sh_T fun x3 M3 => ((¬ x3 = 0 → ((¬ v3 = (-1) → Q (some (0, v5), sh_T, M3)) ∧ (v3 = (-1) → Q (some (0, v4), sh_T, M3)))) ∧ (x3 = 0 → am_g 12 0 co_X12_hand d Q 159 [(3, 0), (3, 0), (3, 0), (3, 0), (3, 0), (3, 0), (3, 0)] [] sh_T M3))))))) : am_g 12 0 co_X12_hand d Q 142 [(2, 152), (3, 0), (3, 0), (0, v3), (0, v4), (0, v5), (3, 0)] [] sh_T M := by
  refine x_aload_n (by decide +kernel : am_at co_X12_hand 142 = some (1, .aload_n 0)) rfl ?_
  refine x_iconst (by decide +kernel : am_at co_X12_hand 143 = some (1, .iconst 0)) ?_
  refine x_callV (n := 2) (by decide +kernel : am_at co_X12_hand 144 = some (3, .invokevirtual 433)) pq_12_433 pm_X12_isHomeAt rfl rfl rfl ob_152 h (x_k0 fun x1 M1 h => ?_)
  refine x_if (tgt := 159) (by decide +kernel : am_at co_X12_hand 147 = some (3, .ifCond .eq 12)) rfl Iff.rfl (fun c1 => ?_) (fun c1 => ?_)
  · have h := h.1 c1
    exact am_weak (ld (lk (lk (ld (ld (ld (lk ln))))))) h
  · have c1 := c1
    have h := h.2 c1
    refine x_aload_n (by decide +kernel : am_at co_X12_hand 150 = some (1, .aload_n 0)) rfl ?_
    refine x_bipush (by decide +kernel : am_at co_X12_hand 151 = some (2, .bipush 7)) ?_
    refine x_callV (n := 2) (by decide +kernel : am_at co_X12_hand 153 = some (3, .invokevirtual 433)) pq_12_433 pm_X12_isHomeAt rfl rfl rfl ob_152 h (x_k0 fun x3 M3 h => ?_)
    refine x_if (tgt := 161) (by decide +kernel : am_at co_X12_hand 156 = some (3, .ifCond .ne 5)) rfl Iff.rfl (fun c3 => ?_) (fun c3 => ?_)
    · have h := h.1 c3
      refine x_iload_n (by decide +kernel : am_at co_X12_hand 161 = some (1, .iload_n 3)) rfl ?_
      refine x_iconst (by decide +kernel : am_at co_X12_hand 162 = some (1, .iconst (-1))) ?_
      refine x_icmp (tgt := 171) (by decide +kernel : am_at co_X12_hand 163 = some (3, .if_icmp .ne 8)) rfl Iff.rfl (fun c4 => ?_) (fun c4 => ?_)
      · have h := h.1 c4
        refine x_iload (by decide +kernel : am_at co_X12_hand 171 = some (2, .iload 5)) rfl ?_
        exact x_iret (by decide +kernel : am_at co_X12_hand 173 = some (1, .ireturn)) h
      · have c4 := (Classical.not_not.mp c4)
        have h := h.2 c4
        refine x_iload (by decide +kernel : am_at co_X12_hand 166 = some (2, .iload 4)) rfl ?_
        refine x_goto (tgt := 173) (by decide +kernel : am_at co_X12_hand 168 = some (3, .goto 5)) rfl ?_
        exact x_iret (by decide +kernel : am_at co_X12_hand 173 = some (1, .ireturn)) h
    · have c3 := (Classical.not_not.mp c3)
      have h := h.2 c3
      exact am_weak (ld (lk (lk (ld (ld (ld (lk ln))))))) h
set_option maxRecDepth 20000 in
theorem bk_X12_hand_159 {d : Nat} {Q : am_Q} {M : am_M} (h : Q (some (0, (-1)), sh_T, M)) : am_g 12 0 co_X12_hand d Q 159 [(3, 0), (3, 0), (3, 0), (3, 0), (3, 0), (3, 0), (3, 0)] [] sh_T M := by
  refine x_iconst (by decide +kernel : am_at co_X12_hand 159 = some (1, .iconst (-1))) ?_
  exact x_iret (by decide +kernel : am_at co_X12_hand 160 = some (1, .ireturn)) h
