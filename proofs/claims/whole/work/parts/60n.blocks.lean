/-! blocks (printed) -/
set_option maxRecDepth 20000 in
theorem bk_X9_start_0 {d : Nat} {Q : am_Q} {M : am_M} (h : Q (none, sh_T, (am_up (am_up (am_up (am_up M 1 2 0) 1 3 0) 1 4 (-1)) 1 5 (-1)))) : am_g 9 9 co_X9_start d Q 0 [(2, 1)] [] sh_T M := by
  refine x_aload_n (by decide +kernel : am_at co_X9_start 0 = some (1, .aload_n 0)) rfl ?_
  refine x_iconst (by decide +kernel : am_at co_X9_start 1 = some (1, .iconst 0)) ?_
  refine x_putf0 (by decide +kernel : am_at co_X9_start 2 = some (3, .putfield 19)) pq_9_19 rfl ob_1 ?_
  refine x_aload_n (by decide +kernel : am_at co_X9_start 5 = some (1, .aload_n 0)) rfl ?_
  refine x_iconst (by decide +kernel : am_at co_X9_start 6 = some (1, .iconst 0)) ?_
  refine x_putf0 (by decide +kernel : am_at co_X9_start 7 = some (3, .putfield 22)) pq_9_22 rfl ob_1 ?_
  refine x_aload_n (by decide +kernel : am_at co_X9_start 10 = some (1, .aload_n 0)) rfl ?_
  refine x_iconst (by decide +kernel : am_at co_X9_start 11 = some (1, .iconst (-1))) ?_
  refine x_putf0 (by decide +kernel : am_at co_X9_start 12 = some (3, .putfield 25)) pq_9_25 rfl ob_1 ?_
  refine x_aload_n (by decide +kernel : am_at co_X9_start 15 = some (1, .aload_n 0)) rfl ?_
  refine x_iconst (by decide +kernel : am_at co_X9_start 16 = some (1, .iconst (-1))) ?_
  refine x_putf0 (by decide +kernel : am_at co_X9_start 17 = some (3, .putfield 28)) pq_9_28 rfl ob_1 ?_
  exact x_vret (by decide +kernel : am_at co_X9_start 20 = some (1, .return_)) h
set_option maxRecDepth 20000 in
theorem bk_X9_failed_0 {d : Nat} {Q : am_Q} {M : am_M} (h : ((M 1 3 = 0 → Q (some (0, 0), sh_T, M)) ∧ (¬ M 1 3 = 0 → Q (some (0, 1), sh_T, M)))) : am_g 9 5 co_X9_failed d Q 0 [(2, 1)] [] sh_T M := by
  refine x_aload_n (by decide +kernel : am_at co_X9_failed 0 = some (1, .aload_n 0)) rfl ?_
  refine x_getf (by decide +kernel : am_at co_X9_failed 1 = some (3, .getfield 22)) pq_9_22 rfl ob_1 ?_
  refine x_if (tgt := 11) (by decide +kernel : am_at co_X9_failed 4 = some (3, .ifCond .eq 7)) rfl Iff.rfl (fun c0 => ?_) (fun c0 => ?_)
  · have h := h.1 c0
    refine x_iconst (by decide +kernel : am_at co_X9_failed 11 = some (1, .iconst 0)) ?_
    exact x_zret (by decide +kernel : am_at co_X9_failed 12 = some (1, .ireturn)) (by decide) h
  · have c0 := c0
    have h := h.2 c0
    refine x_iconst (by decide +kernel : am_at co_X9_failed 7 = some (1, .iconst 1)) ?_
    refine x_goto (tgt := 12) (by decide +kernel : am_at co_X9_failed 8 = some (3, .goto 4)) rfl ?_
    exact x_zret (by decide +kernel : am_at co_X9_failed 12 = some (1, .ireturn)) (by decide) h
set_option maxRecDepth 20000 in
theorem bk_X9_blame_0 {d : Nat} {Q : am_Q} {M : am_M} {v1 v2 : Int} (h : ((¬ M 1 3 = 0 → Q (none, sh_T, M)) ∧ (M 1 3 = 0 → Q (none, sh_T, (am_up (am_up M 1 3 v1) 1 4 v2))))) : am_g 9 9 co_X9_blame d Q 0 [(2, 1), (0, v1), (0, v2)] [] sh_T M := by
  refine x_aload_n (by decide +kernel : am_at co_X9_blame 0 = some (1, .aload_n 0)) rfl ?_
  refine x_getf (by decide +kernel : am_at co_X9_blame 1 = some (3, .getfield 22)) pq_9_22 rfl ob_1 ?_
  refine x_if (tgt := 17) (by decide +kernel : am_at co_X9_blame 4 = some (3, .ifCond .ne 13)) rfl Iff.rfl (fun c0 => ?_) (fun c0 => ?_)
  · have h := h.1 c0
    exact x_vret (by decide +kernel : am_at co_X9_blame 17 = some (1, .return_)) h
  · have c0 := (Classical.not_not.mp c0)
    have h := h.2 c0
    refine x_aload_n (by decide +kernel : am_at co_X9_blame 7 = some (1, .aload_n 0)) rfl ?_
    refine x_iload_n (by decide +kernel : am_at co_X9_blame 8 = some (1, .iload_n 1)) rfl ?_
    refine x_putf0 (by decide +kernel : am_at co_X9_blame 9 = some (3, .putfield 22)) pq_9_22 rfl ob_1 ?_
    refine x_aload_n (by decide +kernel : am_at co_X9_blame 12 = some (1, .aload_n 0)) rfl ?_
    refine x_iload_n (by decide +kernel : am_at co_X9_blame 13 = some (1, .iload_n 2)) rfl ?_
    refine x_putf0 (by decide +kernel : am_at co_X9_blame 14 = some (3, .putfield 25)) pq_9_25 rfl ob_1 ?_
    exact x_vret (by decide +kernel : am_at co_X9_blame 17 = some (1, .return_)) h
set_option maxRecDepth 20000 in
theorem bk_X9_blameHere_0 {d : Nat} {Q : am_Q} {M : am_M} {v1 : Int} (h : am_cal pg d 98 [(2, 1)] sh_T M (am_c0 sh_T fun x1 M1 => am_cal pg d 96 [(2, 1), (0, v1), (0, M1 1 2)] sh_T M1 (am_cv sh_T fun M2 => Q (none, sh_T, M2)))) : am_g 9 9 co_X9_blameHere d Q 0 [(2, 1), (0, v1)] [] sh_T M := by
  refine x_aload_n (by decide +kernel : am_at co_X9_blameHere 0 = some (1, .aload_n 0)) rfl ?_
  refine x_callV (n := 1) (by decide +kernel : am_at co_X9_blameHere 1 = some (3, .invokevirtual 41)) pq_9_41 pm_X9_look rfl rfl rfl ob_1 h (x_k0 fun x1 M1 h => ?_)
  refine x_pop0 (by decide +kernel : am_at co_X9_blameHere 4 = some (1, .pop)) ?_
  refine x_aload_n (by decide +kernel : am_at co_X9_blameHere 5 = some (1, .aload_n 0)) rfl ?_
  refine x_iload_n (by decide +kernel : am_at co_X9_blameHere 6 = some (1, .iload_n 1)) rfl ?_
  refine x_aload_n (by decide +kernel : am_at co_X9_blameHere 7 = some (1, .aload_n 0)) rfl ?_
  refine x_getf (by decide +kernel : am_at co_X9_blameHere 8 = some (3, .getfield 19)) pq_9_19 rfl ob_1 ?_
  refine x_callV (n := 3) (by decide +kernel : am_at co_X9_blameHere 11 = some (3, .invokevirtual 45)) pq_9_45 pm_X9_blame rfl rfl rfl ob_1 h (x_kv fun M2 h => ?_)
  exact x_vret (by decide +kernel : am_at co_X9_blameHere 14 = some (1, .return_)) h
set_option maxRecDepth 20000 in
theorem bk_X9_look_0 {d : Nat} {Q : am_Q} {M : am_M} (h : ((M 1 1 ≤ M 1 2 → Q (some (0, (-1)), sh_T, M)) ∧ (M 1 2 < M 1 1 → ((1600 ≤ M 1 2 → Q (some (0, (-1)), sh_T, M)) ∧ (M 1 2 < 1600 → (0 ≤ M 1 2 ∧ M 1 2 < 1600) ∧ ((M 2 (M 1 2) = 10 → am_r ((M 1 2) + 1) ∧ am_g 9 0 co_X9_look d Q 0 [(2, 1)] [] sh_T (am_up M 1 2 ((M 1 2) + 1))) ∧ (¬ M 2 (M 1 2) = 10 → ((¬ M 2 (M 1 2) = 32 → Q (some (0, M 2 (M 1 2)), sh_T, M)) ∧ (M 2 (M 1 2) = 32 → am_r ((M 1 2) + 1) ∧ am_g 9 0 co_X9_look d Q 0 [(2, 1)] [] sh_T (am_up M 1 2 ((M 1 2) + 1))))))))))) : am_g 9 0 co_X9_look d Q 0 [(2, 1)] [] sh_T M := by
  refine x_aload_n (by decide +kernel : am_at co_X9_look 0 = some (1, .aload_n 0)) rfl ?_
  refine x_getf (by decide +kernel : am_at co_X9_look 1 = some (3, .getfield 19)) pq_9_19 rfl ob_1 ?_
  refine x_aload_n (by decide +kernel : am_at co_X9_look 4 = some (1, .aload_n 0)) rfl ?_
  refine x_getf (by decide +kernel : am_at co_X9_look 5 = some (3, .getfield 15)) pq_9_15 rfl ob_1 ?_
  refine x_icmp (tgt := 64) (by decide +kernel : am_at co_X9_look 8 = some (3, .if_icmp .ge 56)) rfl Iff.rfl (fun c0 => ?_) (fun c0 => ?_)
  · have h := h.1 c0
    refine x_aload_n (by decide +kernel : am_at co_X9_look 64 = some (1, .aload_n 0)) rfl ?_
    refine x_getf (by decide +kernel : am_at co_X9_look 65 = some (3, .getfield 19)) pq_9_19 rfl ob_1 ?_
    refine x_aload_n (by decide +kernel : am_at co_X9_look 68 = some (1, .aload_n 0)) rfl ?_
    refine x_getf (by decide +kernel : am_at co_X9_look 69 = some (3, .getfield 15)) pq_9_15 rfl ob_1 ?_
    refine x_icmp (tgt := 99) (by decide +kernel : am_at co_X9_look 72 = some (3, .if_icmp .ge 27)) rfl Iff.rfl (fun _ => ?_) (fun c1 => absurd c0 c1)
    refine x_iconst (by decide +kernel : am_at co_X9_look 99 = some (1, .iconst (-1))) ?_
    exact x_iret (by decide +kernel : am_at co_X9_look 100 = some (1, .ireturn)) h
  · have c0 := (Int.not_le.mp c0)
    have h := h.2 c0
    refine x_aload_n (by decide +kernel : am_at co_X9_look 11 = some (1, .aload_n 0)) rfl ?_
    refine x_getf (by decide +kernel : am_at co_X9_look 12 = some (3, .getfield 19)) pq_9_19 rfl ob_1 ?_
    refine x_aload_n (by decide +kernel : am_at co_X9_look 15 = some (1, .aload_n 0)) rfl ?_
    refine x_getF (by decide +kernel : am_at co_X9_look 16 = some (3, .getfield 9)) pq_9_9 (by decide) rfl ob_1 ?_
    refine x_top2 (show 1 + 1 = 2 from rfl) ?_
    refine x_alen (by decide +kernel : am_at co_X9_look 19 = some (1, .arraylength)) (n := 1600) rfl ?_
    refine x_top0 (show ((1600 : Nat) : Int) = 1600 from rfl) ?_
    refine x_icmp (tgt := 64) (by decide +kernel : am_at co_X9_look 20 = some (3, .if_icmp .ge 44)) rfl Iff.rfl (fun c2 => ?_) (fun c2 => ?_)
    · have h := h.1 c2
      refine x_aload_n (by decide +kernel : am_at co_X9_look 64 = some (1, .aload_n 0)) rfl ?_
      refine x_getf (by decide +kernel : am_at co_X9_look 65 = some (3, .getfield 19)) pq_9_19 rfl ob_1 ?_
      refine x_aload_n (by decide +kernel : am_at co_X9_look 68 = some (1, .aload_n 0)) rfl ?_
      refine x_getf (by decide +kernel : am_at co_X9_look 69 = some (3, .getfield 15)) pq_9_15 rfl ob_1 ?_
      refine x_icmp (tgt := 99) (by decide +kernel : am_at co_X9_look 72 = some (3, .if_icmp .ge 27)) rfl Iff.rfl (fun c3 => absurd c3 (Int.not_le.mpr c0)) (fun _ => ?_)
      refine x_aload_n (by decide +kernel : am_at co_X9_look 75 = some (1, .aload_n 0)) rfl ?_
      refine x_getf (by decide +kernel : am_at co_X9_look 76 = some (3, .getfield 19)) pq_9_19 rfl ob_1 ?_
      refine x_aload_n (by decide +kernel : am_at co_X9_look 79 = some (1, .aload_n 0)) rfl ?_
      refine x_getF (by decide +kernel : am_at co_X9_look 80 = some (3, .getfield 9)) pq_9_9 (by decide) rfl ob_1 ?_
      refine x_top2 (show 1 + 1 = 2 from rfl) ?_
      refine x_alen (by decide +kernel : am_at co_X9_look 83 = some (1, .arraylength)) (n := 1600) rfl ?_
      refine x_top0 (show ((1600 : Nat) : Int) = 1600 from rfl) ?_
      refine x_icmp (tgt := 99) (by decide +kernel : am_at co_X9_look 84 = some (3, .if_icmp .ge 15)) rfl Iff.rfl (fun _ => ?_) (fun c4 => absurd c2 c4)
      refine x_iconst (by decide +kernel : am_at co_X9_look 99 = some (1, .iconst (-1))) ?_
      exact x_iret (by decide +kernel : am_at co_X9_look 100 = some (1, .ireturn)) h
    · have c2 := (Int.not_le.mp c2)
      have h := h.2 c2
      refine x_aload_n (by decide +kernel : am_at co_X9_look 23 = some (1, .aload_n 0)) rfl ?_
      refine x_getF (by decide +kernel : am_at co_X9_look 24 = some (3, .getfield 9)) pq_9_9 (by decide) rfl ob_1 ?_
      refine x_top2 (show 1 + 1 = 2 from rfl) ?_
      refine x_aload_n (by decide +kernel : am_at co_X9_look 27 = some (1, .aload_n 0)) rfl ?_
      refine x_getf (by decide +kernel : am_at co_X9_look 28 = some (3, .getfield 19)) pq_9_19 rfl ob_1 ?_
      obtain ⟨o5, h⟩ := h
      refine x_iald (by decide +kernel : am_at co_X9_look 31 = some (1, .iaload)) (ia_2 o5.1 o5.2) ?_
      refine x_bipush (by decide +kernel : am_at co_X9_look 32 = some (2, .bipush 10)) ?_
      refine x_icmp (tgt := 51) (by decide +kernel : am_at co_X9_look 34 = some (3, .if_icmp .eq 17)) rfl Iff.rfl (fun c6 => ?_) (fun c6 => ?_)
      · have h := h.1 c6
        refine x_aload_n (by decide +kernel : am_at co_X9_look 51 = some (1, .aload_n 0)) rfl ?_
        refine x_dup2' (by decide +kernel : am_at co_X9_look 52 = some (1, .dup)) ?_
        refine x_getf (by decide +kernel : am_at co_X9_look 53 = some (3, .getfield 19)) pq_9_19 rfl ob_1 ?_
        refine x_iconst (by decide +kernel : am_at co_X9_look 56 = some (1, .iconst 1)) ?_
        obtain ⟨o7, h⟩ := h
        refine x_iadd (by decide +kernel : am_at co_X9_look 57 = some (1, .iadd)) o7 ?_
        refine x_putf0 (by decide +kernel : am_at co_X9_look 58 = some (3, .putfield 19)) pq_9_19 rfl ob_1 ?_
        refine x_goto (tgt := 0) (by decide +kernel : am_at co_X9_look 61 = some (3, .goto (-61))) rfl ?_
        exact am_weak (lk ln) h
      · have c6 := c6
        have h := h.2 c6
        refine x_aload_n (by decide +kernel : am_at co_X9_look 37 = some (1, .aload_n 0)) rfl ?_
        refine x_getF (by decide +kernel : am_at co_X9_look 38 = some (3, .getfield 9)) pq_9_9 (by decide) rfl ob_1 ?_
        refine x_top2 (show 1 + 1 = 2 from rfl) ?_
        refine x_aload_n (by decide +kernel : am_at co_X9_look 41 = some (1, .aload_n 0)) rfl ?_
        refine x_getf (by decide +kernel : am_at co_X9_look 42 = some (3, .getfield 19)) pq_9_19 rfl ob_1 ?_
        refine x_iald (by decide +kernel : am_at co_X9_look 45 = some (1, .iaload)) (ia_2 o5.1 o5.2) ?_
        refine x_bipush (by decide +kernel : am_at co_X9_look 46 = some (2, .bipush 32)) ?_
        refine x_icmp (tgt := 64) (by decide +kernel : am_at co_X9_look 48 = some (3, .if_icmp .ne 16)) rfl Iff.rfl (fun c8 => ?_) (fun c8 => ?_)
        · have h := h.1 c8
          refine x_aload_n (by decide +kernel : am_at co_X9_look 64 = some (1, .aload_n 0)) rfl ?_
          refine x_getf (by decide +kernel : am_at co_X9_look 65 = some (3, .getfield 19)) pq_9_19 rfl ob_1 ?_
          refine x_aload_n (by decide +kernel : am_at co_X9_look 68 = some (1, .aload_n 0)) rfl ?_
          refine x_getf (by decide +kernel : am_at co_X9_look 69 = some (3, .getfield 15)) pq_9_15 rfl ob_1 ?_
          refine x_icmp (tgt := 99) (by decide +kernel : am_at co_X9_look 72 = some (3, .if_icmp .ge 27)) rfl Iff.rfl (fun c9 => absurd c9 (Int.not_le.mpr c0)) (fun _ => ?_)
          refine x_aload_n (by decide +kernel : am_at co_X9_look 75 = some (1, .aload_n 0)) rfl ?_
          refine x_getf (by decide +kernel : am_at co_X9_look 76 = some (3, .getfield 19)) pq_9_19 rfl ob_1 ?_
          refine x_aload_n (by decide +kernel : am_at co_X9_look 79 = some (1, .aload_n 0)) rfl ?_
          refine x_getF (by decide +kernel : am_at co_X9_look 80 = some (3, .getfield 9)) pq_9_9 (by decide) rfl ob_1 ?_
          refine x_top2 (show 1 + 1 = 2 from rfl) ?_
          refine x_alen (by decide +kernel : am_at co_X9_look 83 = some (1, .arraylength)) (n := 1600) rfl ?_
          refine x_top0 (show ((1600 : Nat) : Int) = 1600 from rfl) ?_
          refine x_icmp (tgt := 99) (by decide +kernel : am_at co_X9_look 84 = some (3, .if_icmp .ge 15)) rfl Iff.rfl (fun c10 => absurd c10 (Int.not_le.mpr c2)) (fun _ => ?_)
          refine x_aload_n (by decide +kernel : am_at co_X9_look 87 = some (1, .aload_n 0)) rfl ?_
          refine x_getF (by decide +kernel : am_at co_X9_look 88 = some (3, .getfield 9)) pq_9_9 (by decide) rfl ob_1 ?_
          refine x_top2 (show 1 + 1 = 2 from rfl) ?_
          refine x_aload_n (by decide +kernel : am_at co_X9_look 91 = some (1, .aload_n 0)) rfl ?_
          refine x_getf (by decide +kernel : am_at co_X9_look 92 = some (3, .getfield 19)) pq_9_19 rfl ob_1 ?_
          refine x_iald (by decide +kernel : am_at co_X9_look 95 = some (1, .iaload)) (ia_2 o5.1 o5.2) ?_
          refine x_goto (tgt := 100) (by decide +kernel : am_at co_X9_look 96 = some (3, .goto 4)) rfl ?_
          exact x_iret (by decide +kernel : am_at co_X9_look 100 = some (1, .ireturn)) h
        · have c8 := (Classical.not_not.mp c8)
          have h := h.2 c8
          refine x_aload_n (by decide +kernel : am_at co_X9_look 51 = some (1, .aload_n 0)) rfl ?_
          refine x_dup2' (by decide +kernel : am_at co_X9_look 52 = some (1, .dup)) ?_
          refine x_getf (by decide +kernel : am_at co_X9_look 53 = some (3, .getfield 19)) pq_9_19 rfl ob_1 ?_
          refine x_iconst (by decide +kernel : am_at co_X9_look 56 = some (1, .iconst 1)) ?_
          obtain ⟨o11, h⟩ := h
          refine x_iadd (by decide +kernel : am_at co_X9_look 57 = some (1, .iadd)) o11 ?_
          refine x_putf0 (by decide +kernel : am_at co_X9_look 58 = some (3, .putfield 19)) pq_9_19 rfl ob_1 ?_
          refine x_goto (tgt := 0) (by decide +kernel : am_at co_X9_look 61 = some (3, .goto (-61))) rfl ?_
          exact am_weak (lk ln) h
set_option maxRecDepth 20000 in
theorem bk_X9_sees_0 {d : Nat} {Q : am_Q} {M : am_M} {v1 : Int} (h : am_cal pg d 98 [(2, 1)] sh_T M (am_c0 sh_T fun x1 M1 => ((¬ x1 = v1 → Q (some (0, 0), sh_T, M1)) ∧ (x1 = v1 → Q (some (0, 1), sh_T, M1))))) : am_g 9 5 co_X9_sees d Q 0 [(2, 1), (0, v1)] [] sh_T M := by
  refine x_aload_n (by decide +kernel : am_at co_X9_sees 0 = some (1, .aload_n 0)) rfl ?_
  refine x_callV (n := 1) (by decide +kernel : am_at co_X9_sees 1 = some (3, .invokevirtual 41)) pq_9_41 pm_X9_look rfl rfl rfl ob_1 h (x_k0 fun x1 M1 h => ?_)
  refine x_iload_n (by decide +kernel : am_at co_X9_sees 4 = some (1, .iload_n 1)) rfl ?_
  refine x_icmp (tgt := 12) (by decide +kernel : am_at co_X9_sees 5 = some (3, .if_icmp .ne 7)) rfl Iff.rfl (fun c1 => ?_) (fun c1 => ?_)
  · have h := h.1 c1
    refine x_iconst (by decide +kernel : am_at co_X9_sees 12 = some (1, .iconst 0)) ?_
    exact x_zret (by decide +kernel : am_at co_X9_sees 13 = some (1, .ireturn)) (by decide) h
  · have c1 := (Classical.not_not.mp c1)
    have h := h.2 c1
    refine x_iconst (by decide +kernel : am_at co_X9_sees 8 = some (1, .iconst 1)) ?_
    refine x_goto (tgt := 13) (by decide +kernel : am_at co_X9_sees 9 = some (3, .goto 4)) rfl ?_
    exact x_zret (by decide +kernel : am_at co_X9_sees 13 = some (1, .ireturn)) (by decide) h
set_option maxRecDepth 20000 in
theorem bk_X9_step_0 {d : Nat} {Q : am_Q} {M : am_M} (h : am_r ((M 1 2) + 1) ∧ Q (none, sh_T, (am_up M 1 2 ((M 1 2) + 1)))) : am_g 9 9 co_X9_step d Q 0 [(2, 1)] [] sh_T M := by
  refine x_aload_n (by decide +kernel : am_at co_X9_step 0 = some (1, .aload_n 0)) rfl ?_
  refine x_dup2' (by decide +kernel : am_at co_X9_step 1 = some (1, .dup)) ?_
  refine x_getf (by decide +kernel : am_at co_X9_step 2 = some (3, .getfield 19)) pq_9_19 rfl ob_1 ?_
  refine x_iconst (by decide +kernel : am_at co_X9_step 5 = some (1, .iconst 1)) ?_
  obtain ⟨o0, h⟩ := h
  refine x_iadd (by decide +kernel : am_at co_X9_step 6 = some (1, .iadd)) o0 ?_
  refine x_putf0 (by decide +kernel : am_at co_X9_step 7 = some (3, .putfield 19)) pq_9_19 rfl ob_1 ?_
  exact x_vret (by decide +kernel : am_at co_X9_step 10 = some (1, .return_)) h
set_option maxRecDepth 20000 in
theorem bk_X9_demand_0 {d : Nat} {Q : am_Q} {M : am_M} {v1 : Int} (h : am_cal pg d 99 [(2, 1), (0, v1)] sh_T M (am_c0 sh_T fun x1 M1 => ((x1 = 0 → am_cal pg d 97 [(2, 1), (0, 1)] sh_T M1 (am_cv sh_T fun M3 => Q (none, sh_T, M3))) ∧ (¬ x1 = 0 → am_cal pg d 100 [(2, 1)] sh_T M1 (am_cv sh_T fun M4 => Q (none, sh_T, M4)))))) : am_g 9 9 co_X9_demand d Q 0 [(2, 1), (0, v1)] [] sh_T M := by
  refine x_aload_n (by decide +kernel : am_at co_X9_demand 0 = some (1, .aload_n 0)) rfl ?_
  refine x_iload_n (by decide +kernel : am_at co_X9_demand 1 = some (1, .iload_n 1)) rfl ?_
  refine x_callV (n := 2) (by decide +kernel : am_at co_X9_demand 2 = some (3, .invokevirtual 49)) pq_9_49 pm_X9_sees rfl rfl rfl ob_1 h (x_k0 fun x1 M1 h => ?_)
  refine x_if (tgt := 15) (by decide +kernel : am_at co_X9_demand 5 = some (3, .ifCond .eq 10)) rfl Iff.rfl (fun c1 => ?_) (fun c1 => ?_)
  · have h := h.1 c1
    refine x_aload_n (by decide +kernel : am_at co_X9_demand 15 = some (1, .aload_n 0)) rfl ?_
    refine x_iconst (by decide +kernel : am_at co_X9_demand 16 = some (1, .iconst 1)) ?_
    refine x_callV (n := 2) (by decide +kernel : am_at co_X9_demand 17 = some (3, .invokevirtual 56)) pq_9_56 pm_X9_blameHere rfl rfl rfl ob_1 h (x_kv fun M3 h => ?_)
    exact x_vret (by decide +kernel : am_at co_X9_demand 20 = some (1, .return_)) h
  · have c1 := c1
    have h := h.2 c1
    refine x_aload_n (by decide +kernel : am_at co_X9_demand 8 = some (1, .aload_n 0)) rfl ?_
    refine x_callV (n := 1) (by decide +kernel : am_at co_X9_demand 9 = some (3, .invokevirtual 53)) pq_9_53 pm_X9_step rfl rfl rfl ob_1 h (x_kv fun M4 h => ?_)
    refine x_goto (tgt := 20) (by decide +kernel : am_at co_X9_demand 12 = some (3, .goto 8)) rfl ?_
    exact x_vret (by decide +kernel : am_at co_X9_demand 20 = some (1, .return_)) h
set_option maxRecDepth 20000 in
theorem bk_X9_demandEnd_0 {d : Nat} {Q : am_Q} {M : am_M} (h : am_cal pg d 98 [(2, 1)] sh_T M (am_c0 sh_T fun x1 M1 => ((x1 = (-1) → Q (none, sh_T, M1)) ∧ (¬ x1 = (-1) → am_cal pg d 97 [(2, 1), (0, 1)] sh_T M1 (am_cv sh_T fun M3 => Q (none, sh_T, M3)))))) : am_g 9 9 co_X9_demandEnd d Q 0 [(2, 1)] [] sh_T M := by
  refine x_aload_n (by decide +kernel : am_at co_X9_demandEnd 0 = some (1, .aload_n 0)) rfl ?_
  refine x_callV (n := 1) (by decide +kernel : am_at co_X9_demandEnd 1 = some (3, .invokevirtual 41)) pq_9_41 pm_X9_look rfl rfl rfl ob_1 h (x_k0 fun x1 M1 h => ?_)
  refine x_iconst (by decide +kernel : am_at co_X9_demandEnd 4 = some (1, .iconst (-1))) ?_
  refine x_icmp (tgt := 13) (by decide +kernel : am_at co_X9_demandEnd 5 = some (3, .if_icmp .eq 8)) rfl Iff.rfl (fun c1 => ?_) (fun c1 => ?_)
  · have h := h.1 c1
    exact x_vret (by decide +kernel : am_at co_X9_demandEnd 13 = some (1, .return_)) h
  · have c1 := c1
    have h := h.2 c1
    refine x_aload_n (by decide +kernel : am_at co_X9_demandEnd 8 = some (1, .aload_n 0)) rfl ?_
    refine x_iconst (by decide +kernel : am_at co_X9_demandEnd 9 = some (1, .iconst 1)) ?_
    refine x_callV (n := 2) (by decide +kernel : am_at co_X9_demandEnd 10 = some (3, .invokevirtual 56)) pq_9_56 pm_X9_blameHere rfl rfl rfl ob_1 h (x_kv fun M3 h => ?_)
    exact x_vret (by decide +kernel : am_at co_X9_demandEnd 13 = some (1, .return_)) h
set_option maxRecDepth 20000 in
theorem bk_X9_isDigit_0 {d : Nat} {Q : am_Q} {M : am_M} {v0 : Int} (h : ((v0 < 48 → Q (some (0, 0), sh_T, M)) ∧ (48 ≤ v0 → ((57 < v0 → Q (some (0, 0), sh_T, M)) ∧ (v0 ≤ 57 → Q (some (0, 1), sh_T, M)))))) : am_g 9 5 co_X9_isDigit d Q 0 [(0, v0)] [] sh_T M := by
  refine x_iload_n (by decide +kernel : am_at co_X9_isDigit 0 = some (1, .iload_n 0)) rfl ?_
  refine x_bipush (by decide +kernel : am_at co_X9_isDigit 1 = some (2, .bipush 48)) ?_
  refine x_icmp (tgt := 16) (by decide +kernel : am_at co_X9_isDigit 3 = some (3, .if_icmp .lt 13)) rfl Iff.rfl (fun c0 => ?_) (fun c0 => ?_)
  · have h := h.1 c0
    refine x_iconst (by decide +kernel : am_at co_X9_isDigit 16 = some (1, .iconst 0)) ?_
    exact x_zret (by decide +kernel : am_at co_X9_isDigit 17 = some (1, .ireturn)) (by decide) h
  · have c0 := (Int.not_lt.mp c0)
    have h := h.2 c0
    refine x_iload_n (by decide +kernel : am_at co_X9_isDigit 6 = some (1, .iload_n 0)) rfl ?_
    refine x_bipush (by decide +kernel : am_at co_X9_isDigit 7 = some (2, .bipush 57)) ?_
    refine x_icmp (tgt := 16) (by decide +kernel : am_at co_X9_isDigit 9 = some (3, .if_icmp .gt 7)) rfl Iff.rfl (fun c1 => ?_) (fun c1 => ?_)
    · have h := h.1 c1
      refine x_iconst (by decide +kernel : am_at co_X9_isDigit 16 = some (1, .iconst 0)) ?_
      exact x_zret (by decide +kernel : am_at co_X9_isDigit 17 = some (1, .ireturn)) (by decide) h
    · have c1 := (Int.not_lt.mp c1)
      have h := h.2 c1
      refine x_iconst (by decide +kernel : am_at co_X9_isDigit 12 = some (1, .iconst 1)) ?_
      refine x_goto (tgt := 17) (by decide +kernel : am_at co_X9_isDigit 13 = some (3, .goto 4)) rfl ?_
      exact x_zret (by decide +kernel : am_at co_X9_isDigit 17 = some (1, .ireturn)) (by decide) h
set_option maxRecDepth 20000 in
theorem bk_X9_seesDigit_0 {d : Nat} {Q : am_Q} {M : am_M} (h : am_cal pg d 98 [(2, 1)] sh_T M (am_c0 sh_T fun x1 M1 => am_cal pg d 103 [(0, x1)] sh_T M1 (am_c0 sh_T fun x2 M2 => (x2 = 0 ∨ x2 = 1) ∧ Q (some (0, x2), sh_T, M2)))) : am_g 9 5 co_X9_seesDigit d Q 0 [(2, 1)] [] sh_T M := by
  refine x_aload_n (by decide +kernel : am_at co_X9_seesDigit 0 = some (1, .aload_n 0)) rfl ?_
  refine x_callV (n := 1) (by decide +kernel : am_at co_X9_seesDigit 1 = some (3, .invokevirtual 41)) pq_9_41 pm_X9_look rfl rfl rfl ob_1 h (x_k0 fun x1 M1 h => ?_)
  refine x_callS (n := 1) (by decide +kernel : am_at co_X9_seesDigit 4 = some (3, .invokestatic 60)) pq_9_60 rfl rfl rfl h (x_k0 fun x2 M2 h => ?_)
  exact x_zret (by decide +kernel : am_at co_X9_seesDigit 7 = some (1, .ireturn)) h.1 h.2
set_option maxRecDepth 20000 in
theorem bk_X9_wordSize_0 {d : Nat} {Q : am_Q} {M : am_M} (h : am_g 9 0 co_X9_wordSize d Q 5 [(2, 1), (0, M 1 2)] [] sh_T M) : am_g 9 0 co_X9_wordSize d Q 0 [(2, 1), (3, 0)] [] sh_T M := by
  refine x_aload_n (by decide +kernel : am_at co_X9_wordSize 0 = some (1, .aload_n 0)) rfl ?_
  refine x_getf (by decide +kernel : am_at co_X9_wordSize 1 = some (3, .getfield 19)) pq_9_19 rfl ob_1 ?_
  refine x_istore_n (L' := [(2, 1), (0, M 1 2)]) (by decide +kernel : am_at co_X9_wordSize 4 = some (1, .istore_n 1)) rfl ?_
  exact am_weak (lk (lk ln)) h
set_option maxRecDepth 20000 in
theorem bk_X9_wordSize_5 {d : Nat} {Q : am_Q} {M : am_M} {v1 : Int} (h : ((M 1 2 = M 1 5 → am_r (v1 - (M 1 2)) ∧ Q (some (0, v1 - (M 1 2)), sh_T, M)) ∧ (¬ M 1 2 = M 1 5 → ((M 1 1 ≤ v1 → am_r (v1 - (M 1 2)) ∧ Q (some (0, v1 - (M 1 2)), sh_T, M)) ∧ (v1 < M 1 1 → ((1600 ≤ v1 → am_r (v1 - (M 1 2)) ∧ Q (some (0, v1 - (M 1 2)), sh_T, M)) ∧ (v1 < 1600 → (0 ≤ v1 ∧ v1 < 1600) ∧ ((M 2 v1 < 97 → am_r (v1 - (M 1 2)) ∧ Q (some (0, v1 - (M 1 2)), sh_T, M)) ∧ (97 ≤ M 2 v1 → ((122 < M 2 v1 → am_r (v1 - (M 1 2)) ∧ Q (some (0, v1 - (M 1 2)), sh_T, M)) ∧ (M 2 v1 ≤ 122 → am_r (v1 + 1) ∧ am_g 9 0 co_X9_wordSize d Q 5 [(2, 1), (0, v1 + 1)] [] sh_T M))))))))))) : am_g 9 0 co_X9_wordSize d Q 5 [(2, 1), (0, v1)] [] sh_T M := by
  refine x_aload_n (by decide +kernel : am_at co_X9_wordSize 5 = some (1, .aload_n 0)) rfl ?_
  refine x_getf (by decide +kernel : am_at co_X9_wordSize 6 = some (3, .getfield 19)) pq_9_19 rfl ob_1 ?_
  refine x_aload_n (by decide +kernel : am_at co_X9_wordSize 9 = some (1, .aload_n 0)) rfl ?_
  refine x_getf (by decide +kernel : am_at co_X9_wordSize 10 = some (3, .getfield 28)) pq_9_28 rfl ob_1 ?_
  refine x_icmp (tgt := 61) (by decide +kernel : am_at co_X9_wordSize 13 = some (3, .if_icmp .eq 48)) rfl Iff.rfl (fun c0 => ?_) (fun c0 => ?_)
  · have h := h.1 c0
    refine x_iload_n (by decide +kernel : am_at co_X9_wordSize 61 = some (1, .iload_n 1)) rfl ?_
    refine x_aload_n (by decide +kernel : am_at co_X9_wordSize 62 = some (1, .aload_n 0)) rfl ?_
    refine x_getf (by decide +kernel : am_at co_X9_wordSize 63 = some (3, .getfield 19)) pq_9_19 rfl ob_1 ?_
    obtain ⟨o1, h⟩ := h
    refine x_isub (by decide +kernel : am_at co_X9_wordSize 66 = some (1, .isub)) o1 ?_
    exact x_iret (by decide +kernel : am_at co_X9_wordSize 67 = some (1, .ireturn)) h
  · have c0 := c0
    have h := h.2 c0
    refine x_iload_n (by decide +kernel : am_at co_X9_wordSize 16 = some (1, .iload_n 1)) rfl ?_
    refine x_aload_n (by decide +kernel : am_at co_X9_wordSize 17 = some (1, .aload_n 0)) rfl ?_
    refine x_getf (by decide +kernel : am_at co_X9_wordSize 18 = some (3, .getfield 15)) pq_9_15 rfl ob_1 ?_
    refine x_icmp (tgt := 61) (by decide +kernel : am_at co_X9_wordSize 21 = some (3, .if_icmp .ge 40)) rfl Iff.rfl (fun c2 => ?_) (fun c2 => ?_)
    · have h := h.1 c2
      refine x_iload_n (by decide +kernel : am_at co_X9_wordSize 61 = some (1, .iload_n 1)) rfl ?_
      refine x_aload_n (by decide +kernel : am_at co_X9_wordSize 62 = some (1, .aload_n 0)) rfl ?_
      refine x_getf (by decide +kernel : am_at co_X9_wordSize 63 = some (3, .getfield 19)) pq_9_19 rfl ob_1 ?_
      obtain ⟨o3, h⟩ := h
      refine x_isub (by decide +kernel : am_at co_X9_wordSize 66 = some (1, .isub)) o3 ?_
      exact x_iret (by decide +kernel : am_at co_X9_wordSize 67 = some (1, .ireturn)) h
    · have c2 := (Int.not_le.mp c2)
      have h := h.2 c2
      refine x_iload_n (by decide +kernel : am_at co_X9_wordSize 24 = some (1, .iload_n 1)) rfl ?_
      refine x_aload_n (by decide +kernel : am_at co_X9_wordSize 25 = some (1, .aload_n 0)) rfl ?_
      refine x_getF (by decide +kernel : am_at co_X9_wordSize 26 = some (3, .getfield 9)) pq_9_9 (by decide) rfl ob_1 ?_
      refine x_top2 (show 1 + 1 = 2 from rfl) ?_
      refine x_alen (by decide +kernel : am_at co_X9_wordSize 29 = some (1, .arraylength)) (n := 1600) rfl ?_
      refine x_top0 (show ((1600 : Nat) : Int) = 1600 from rfl) ?_
      refine x_icmp (tgt := 61) (by decide +kernel : am_at co_X9_wordSize 30 = some (3, .if_icmp .ge 31)) rfl Iff.rfl (fun c4 => ?_) (fun c4 => ?_)
      · have h := h.1 c4
        refine x_iload_n (by decide +kernel : am_at co_X9_wordSize 61 = some (1, .iload_n 1)) rfl ?_
        refine x_aload_n (by decide +kernel : am_at co_X9_wordSize 62 = some (1, .aload_n 0)) rfl ?_
        refine x_getf (by decide +kernel : am_at co_X9_wordSize 63 = some (3, .getfield 19)) pq_9_19 rfl ob_1 ?_
        obtain ⟨o5, h⟩ := h
        refine x_isub (by decide +kernel : am_at co_X9_wordSize 66 = some (1, .isub)) o5 ?_
        exact x_iret (by decide +kernel : am_at co_X9_wordSize 67 = some (1, .ireturn)) h
      · have c4 := (Int.not_le.mp c4)
        have h := h.2 c4
        refine x_aload_n (by decide +kernel : am_at co_X9_wordSize 33 = some (1, .aload_n 0)) rfl ?_
        refine x_getF (by decide +kernel : am_at co_X9_wordSize 34 = some (3, .getfield 9)) pq_9_9 (by decide) rfl ob_1 ?_
        refine x_top2 (show 1 + 1 = 2 from rfl) ?_
        refine x_iload_n (by decide +kernel : am_at co_X9_wordSize 37 = some (1, .iload_n 1)) rfl ?_
        obtain ⟨o6, h⟩ := h
        refine x_iald (by decide +kernel : am_at co_X9_wordSize 38 = some (1, .iaload)) (ia_2 o6.1 o6.2) ?_
        refine x_bipush (by decide +kernel : am_at co_X9_wordSize 39 = some (2, .bipush 97)) ?_
        refine x_icmp (tgt := 61) (by decide +kernel : am_at co_X9_wordSize 41 = some (3, .if_icmp .lt 20)) rfl Iff.rfl (fun c7 => ?_) (fun c7 => ?_)
        · have h := h.1 c7
          refine x_iload_n (by decide +kernel : am_at co_X9_wordSize 61 = some (1, .iload_n 1)) rfl ?_
          refine x_aload_n (by decide +kernel : am_at co_X9_wordSize 62 = some (1, .aload_n 0)) rfl ?_
          refine x_getf (by decide +kernel : am_at co_X9_wordSize 63 = some (3, .getfield 19)) pq_9_19 rfl ob_1 ?_
          obtain ⟨o8, h⟩ := h
          refine x_isub (by decide +kernel : am_at co_X9_wordSize 66 = some (1, .isub)) o8 ?_
          exact x_iret (by decide +kernel : am_at co_X9_wordSize 67 = some (1, .ireturn)) h
        · have c7 := (Int.not_lt.mp c7)
          have h := h.2 c7
          refine x_aload_n (by decide +kernel : am_at co_X9_wordSize 44 = some (1, .aload_n 0)) rfl ?_
          refine x_getF (by decide +kernel : am_at co_X9_wordSize 45 = some (3, .getfield 9)) pq_9_9 (by decide) rfl ob_1 ?_
          refine x_top2 (show 1 + 1 = 2 from rfl) ?_
          refine x_iload_n (by decide +kernel : am_at co_X9_wordSize 48 = some (1, .iload_n 1)) rfl ?_
          refine x_iald (by decide +kernel : am_at co_X9_wordSize 49 = some (1, .iaload)) (ia_2 o6.1 o6.2) ?_
          refine x_bipush (by decide +kernel : am_at co_X9_wordSize 50 = some (2, .bipush 122)) ?_
          refine x_icmp (tgt := 61) (by decide +kernel : am_at co_X9_wordSize 52 = some (3, .if_icmp .gt 9)) rfl Iff.rfl (fun c9 => ?_) (fun c9 => ?_)
          · have h := h.1 c9
            refine x_iload_n (by decide +kernel : am_at co_X9_wordSize 61 = some (1, .iload_n 1)) rfl ?_
            refine x_aload_n (by decide +kernel : am_at co_X9_wordSize 62 = some (1, .aload_n 0)) rfl ?_
            refine x_getf (by decide +kernel : am_at co_X9_wordSize 63 = some (3, .getfield 19)) pq_9_19 rfl ob_1 ?_
            obtain ⟨o10, h⟩ := h
            refine x_isub (by decide +kernel : am_at co_X9_wordSize 66 = some (1, .isub)) o10 ?_
            exact x_iret (by decide +kernel : am_at co_X9_wordSize 67 = some (1, .ireturn)) h
          · have c9 := (Int.not_lt.mp c9)
            have h := h.2 c9
            obtain ⟨o11, h⟩ := h
            refine x_iinc (L' := [(2, 1), (0, v1 + 1)]) (by decide +kernel : am_at co_X9_wordSize 55 = some (3, .iinc 1 1)) rfl o11 rfl ?_
            refine x_goto (tgt := 5) (by decide +kernel : am_at co_X9_wordSize 58 = some (3, .goto (-53))) rfl ?_
            exact am_weak (lk (lk ln)) h
set_option maxRecDepth 20000 in
theorem bk_X9_wordIn_0 {d : Nat} {Q : am_Q} {M : am_M} {v1 : Int} (h : am_cal pg d 98 [(2, 1)] sh_T M (am_c0 sh_T fun x1 M1 => am_cal pg d 105 [(2, 1)] sh_T M1 (am_c0 sh_T fun x2 M2 => ((¬ x2 = 0 → am_g 9 0 co_X9_wordIn d Q 27 [(2, 1), (2, v1), (0, x2), (0, 0), (0, 0), (0, 1), (0, 0), (3, 0)] [] sh_T M2) ∧ (x2 = 0 → Q (some (0, (-1)), sh_T, M2)))))) : am_g 9 0 co_X9_wordIn d Q 0 [(2, 1), (2, v1), (3, 0), (3, 0), (3, 0), (3, 0), (3, 0), (3, 0)] [] sh_T M := by
  refine x_aload_n (by decide +kernel : am_at co_X9_wordIn 0 = some (1, .aload_n 0)) rfl ?_
  refine x_callV (n := 1) (by decide +kernel : am_at co_X9_wordIn 1 = some (3, .invokevirtual 41)) pq_9_41 pm_X9_look rfl rfl rfl ob_1 h (x_k0 fun x1 M1 h => ?_)
  refine x_pop0 (by decide +kernel : am_at co_X9_wordIn 4 = some (1, .pop)) ?_
  refine x_aload_n (by decide +kernel : am_at co_X9_wordIn 5 = some (1, .aload_n 0)) rfl ?_
  refine x_callV (n := 1) (by decide +kernel : am_at co_X9_wordIn 6 = some (3, .invokevirtual 64)) pq_9_64 pm_X9_wordSize rfl rfl rfl ob_1 h (x_k0 fun x2 M2 h => ?_)
  refine x_istore_n (L' := [(2, 1), (2, v1), (0, x2), (3, 0), (3, 0), (3, 0), (3, 0), (3, 0)]) (by decide +kernel : am_at co_X9_wordIn 9 = some (1, .istore_n 2)) rfl ?_
  refine x_iload_n (by decide +kernel : am_at co_X9_wordIn 10 = some (1, .iload_n 2)) rfl ?_
  refine x_if (tgt := 16) (by decide +kernel : am_at co_X9_wordIn 11 = some (3, .ifCond .ne 5)) rfl Iff.rfl (fun c2 => ?_) (fun c2 => ?_)
  · have h := h.1 c2
    refine x_iconst (by decide +kernel : am_at co_X9_wordIn 16 = some (1, .iconst 0)) ?_
    refine x_istore_n (L' := [(2, 1), (2, v1), (0, x2), (0, 0), (3, 0), (3, 0), (3, 0), (3, 0)]) (by decide +kernel : am_at co_X9_wordIn 17 = some (1, .istore_n 3)) rfl ?_
    refine x_iconst (by decide +kernel : am_at co_X9_wordIn 18 = some (1, .iconst 0)) ?_
    refine x_istore (L' := [(2, 1), (2, v1), (0, x2), (0, 0), (0, 0), (3, 0), (3, 0), (3, 0)]) (by decide +kernel : am_at co_X9_wordIn 19 = some (2, .istore 4)) rfl ?_
    refine x_iconst (by decide +kernel : am_at co_X9_wordIn 21 = some (1, .iconst 1)) ?_
    refine x_istore (L' := [(2, 1), (2, v1), (0, x2), (0, 0), (0, 0), (0, 1), (3, 0), (3, 0)]) (by decide +kernel : am_at co_X9_wordIn 22 = some (2, .istore 5)) rfl ?_
    refine x_iconst (by decide +kernel : am_at co_X9_wordIn 24 = some (1, .iconst 0)) ?_
    refine x_istore (L' := [(2, 1), (2, v1), (0, x2), (0, 0), (0, 0), (0, 1), (0, 0), (3, 0)]) (by decide +kernel : am_at co_X9_wordIn 25 = some (2, .istore 6)) rfl ?_
    exact am_weak (lk (lk (lk (lk (lk (lk (lk (lk ln)))))))) h
  · have c2 := (Classical.not_not.mp c2)
    have h := h.2 c2
    refine x_iconst (by decide +kernel : am_at co_X9_wordIn 14 = some (1, .iconst (-1))) ?_
    exact x_iret (by decide +kernel : am_at co_X9_wordIn 15 = some (1, .ireturn)) h
set_option maxRecDepth 20000 in
theorem bk_X9_wordIn_27 {d : Nat} {Q : am_Q} {M : am_M} {v1 v2 v3 v4 v5 v6 : Int} (h : pg_str v1 ≠ [] ∧ ((((pg_str v1).length : Int) ≤ v6 → ((v5 = 0 → am_g 9 0 co_X9_wordIn d Q 134 [(3, 0), (3, 0), (3, 0), (3, 0), (3, 0), (3, 0), (3, 0), (3, 0)] [] sh_T M) ∧ (¬ v5 = 0 → ((¬ v4 = v2 → am_g 9 0 co_X9_wordIn d Q 134 [(3, 0), (3, 0), (3, 0), (3, 0), (3, 0), (3, 0), (3, 0), (3, 0)] [] sh_T M) ∧ (v4 = v2 → Q (some (0, v3), sh_T, M)))))) ∧ (v6 < ((pg_str v1).length : Int) → (0 ≤ v6 ∧ v6 < ((pg_str v1).length : Int)) ∧ (((pg_str v1).getD (v6).toNat 0 = 32 → ((v5 = 0 → am_g 9 0 co_X9_wordIn d Q 104 [(2, 1), (2, v1), (0, v2), (0, v3), (3, 0), (3, 0), (0, v6), (3, 0)] [] sh_T M) ∧ (¬ v5 = 0 → ((¬ v4 = v2 → am_g 9 0 co_X9_wordIn d Q 104 [(2, 1), (2, v1), (0, v2), (0, v3), (3, 0), (3, 0), (0, v6), (3, 0)] [] sh_T M) ∧ (v4 = v2 → Q (some (0, v3), sh_T, M)))))) ∧ (¬ (pg_str v1).getD (v6).toNat 0 = 32 → ((v5 = 0 → am_g 9 0 co_X9_wordIn d Q 82 [(2, 1), (2, v1), (0, v2), (0, v3), (0, v4), (3, 0), (0, v6), (3, 0)] [] sh_T M) ∧ (¬ v5 = 0 → ((v2 ≤ v4 → am_g 9 0 co_X9_wordIn d Q 82 [(2, 1), (2, v1), (0, v2), (0, v3), (0, v4), (3, 0), (0, v6), (3, 0)] [] sh_T M) ∧ (v4 < v2 → am_r ((M 1 2) + v4) ∧ am_cal pg d 92 [(2, 1), (0, (M 1 2) + v4)] sh_T M (am_c0 sh_T fun x12 M12 => ((¬ x12 = (pg_str v1).getD (v6).toNat 0 → am_g 9 0 co_X9_wordIn d Q 82 [(2, 1), (2, v1), (0, v2), (0, v3), (0, v4), (3, 0), (0, v6), (3, 0)] [] sh_T M12) ∧ (x12 = (pg_str v1).getD (v6).toNat 0 → am_r (v4 + 1) ∧ am_g 9 0 co_X9_wordIn d Q 113 [(2, 1), (2, v1), (0, v2), (0, v3), (0, v4 + 1), (0, 1), (0, v6), (3, 0)] [] sh_T M12)))))))))))) : am_g 9 0 co_X9_wordIn d Q 27 [(2, 1), (2, v1), (0, v2), (0, v3), (0, v4), (0, v5), (0, v6), (3, 0)] [] sh_T M := by
  refine x_iload (by decide +kernel : am_at co_X9_wordIn 27 = some (2, .iload 6)) rfl ?_
  refine x_aload_n (by decide +kernel : am_at co_X9_wordIn 29 = some (1, .aload_n 1)) rfl ?_
  obtain ⟨o0, h⟩ := h
  refine x_ext _ (Or.inr rfl) (by decide +kernel : am_at co_X9_wordIn 30 = some (3, .invokevirtual 67)) pq_9_67 (by decide) (show am_ext pg 21 _ sh_T _ _ from ⟨⟨o0, Nat.le_of_ble_eq_true rfl⟩, ?_⟩)
  refine x_top0 (show _ = ((pg_str v1).length : Int) from rfl) ?_
  refine x_icmp (tgt := 119) (by decide +kernel : am_at co_X9_wordIn 33 = some (3, .if_icmp .ge 86)) rfl Iff.rfl (fun c1 => ?_) (fun c1 => ?_)
  · have h := h.1 c1
    refine x_iload (by decide +kernel : am_at co_X9_wordIn 119 = some (2, .iload 5)) rfl ?_
    refine x_if (tgt := 134) (by decide +kernel : am_at co_X9_wordIn 121 = some (3, .ifCond .eq 13)) rfl Iff.rfl (fun c2 => ?_) (fun c2 => ?_)
    · have h := h.1 c2
      exact am_weak (ld (ld (ld (ld (ld (ld (ld (lk ln)))))))) h
    · have c2 := c2
      have h := h.2 c2
      refine x_iload (by decide +kernel : am_at co_X9_wordIn 124 = some (2, .iload 4)) rfl ?_
      refine x_iload_n (by decide +kernel : am_at co_X9_wordIn 126 = some (1, .iload_n 2)) rfl ?_
      refine x_icmp (tgt := 134) (by decide +kernel : am_at co_X9_wordIn 127 = some (3, .if_icmp .ne 7)) rfl Iff.rfl (fun c3 => ?_) (fun c3 => ?_)
      · have h := h.1 c3
        exact am_weak (ld (ld (ld (ld (ld (ld (ld (lk ln)))))))) h
      · have c3 := (Classical.not_not.mp c3)
        have h := h.2 c3
        refine x_iload_n (by decide +kernel : am_at co_X9_wordIn 130 = some (1, .iload_n 3)) rfl ?_
        refine x_goto (tgt := 135) (by decide +kernel : am_at co_X9_wordIn 131 = some (3, .goto 4)) rfl ?_
        exact x_iret (by decide +kernel : am_at co_X9_wordIn 135 = some (1, .ireturn)) h
  · have c1 := (Int.not_le.mp c1)
    have h := h.2 c1
    refine x_aload_n (by decide +kernel : am_at co_X9_wordIn 36 = some (1, .aload_n 1)) rfl ?_
    refine x_iload (by decide +kernel : am_at co_X9_wordIn 37 = some (2, .iload 6)) rfl ?_
    obtain ⟨o4, h⟩ := h
    refine x_ext _ (Or.inr rfl) (by decide +kernel : am_at co_X9_wordIn 39 = some (3, .invokevirtual 72)) pq_9_72 (by decide) (show am_ext pg 22 _ sh_T _ _ from ⟨⟨o4, Nat.le_of_ble_eq_true rfl⟩, ?_⟩)
    refine x_top0 (show _ = (pg_str v1).getD (v6).toNat 0 from rfl) ?_
    refine x_istore (L' := [(2, 1), (2, v1), (0, v2), (0, v3), (0, v4), (0, v5), (0, v6), (0, (pg_str v1).getD (v6).toNat 0)]) (by decide +kernel : am_at co_X9_wordIn 42 = some (2, .istore 7)) rfl ?_
    refine x_iload (by decide +kernel : am_at co_X9_wordIn 44 = some (2, .iload 7)) rfl ?_
    refine x_bipush (by decide +kernel : am_at co_X9_wordIn 46 = some (2, .bipush 32)) ?_
    refine x_icmp (tgt := 91) (by decide +kernel : am_at co_X9_wordIn 48 = some (3, .if_icmp .eq 43)) rfl Iff.rfl (fun c5 => ?_) (fun c5 => ?_)
    · have h := h.1 c5
      refine x_iload (by decide +kernel : am_at co_X9_wordIn 91 = some (2, .iload 5)) rfl ?_
      refine x_if (tgt := 104) (by decide +kernel : am_at co_X9_wordIn 93 = some (3, .ifCond .eq 11)) rfl Iff.rfl (fun c6 => ?_) (fun c6 => ?_)
      · have h := h.1 c6
        exact am_weak (lk (lk (lk (lk (ld (ld (lk (ld ln)))))))) h
      · have c6 := c6
        have h := h.2 c6
        refine x_iload (by decide +kernel : am_at co_X9_wordIn 96 = some (2, .iload 4)) rfl ?_
        refine x_iload_n (by decide +kernel : am_at co_X9_wordIn 98 = some (1, .iload_n 2)) rfl ?_
        refine x_icmp (tgt := 104) (by decide +kernel : am_at co_X9_wordIn 99 = some (3, .if_icmp .ne 5)) rfl Iff.rfl (fun c7 => ?_) (fun c7 => ?_)
        · have h := h.1 c7
          exact am_weak (lk (lk (lk (lk (ld (ld (lk (ld ln)))))))) h
        · have c7 := (Classical.not_not.mp c7)
          have h := h.2 c7
          refine x_iload_n (by decide +kernel : am_at co_X9_wordIn 102 = some (1, .iload_n 3)) rfl ?_
          exact x_iret (by decide +kernel : am_at co_X9_wordIn 103 = some (1, .ireturn)) h
    · have c5 := c5
      have h := h.2 c5
      refine x_iload (by decide +kernel : am_at co_X9_wordIn 51 = some (2, .iload 5)) rfl ?_
      refine x_if (tgt := 82) (by decide +kernel : am_at co_X9_wordIn 53 = some (3, .ifCond .eq 29)) rfl Iff.rfl (fun c8 => ?_) (fun c8 => ?_)
      · have h := h.1 c8
        exact am_weak (lk (lk (lk (lk (lk (ld (lk (ld ln)))))))) h
      · have c8 := c8
        have h := h.2 c8
        refine x_iload (by decide +kernel : am_at co_X9_wordIn 56 = some (2, .iload 4)) rfl ?_
        refine x_iload_n (by decide +kernel : am_at co_X9_wordIn 58 = some (1, .iload_n 2)) rfl ?_
        refine x_icmp (tgt := 82) (by decide +kernel : am_at co_X9_wordIn 59 = some (3, .if_icmp .ge 23)) rfl Iff.rfl (fun c9 => ?_) (fun c9 => ?_)
        · have h := h.1 c9
          exact am_weak (lk (lk (lk (lk (lk (ld (lk (ld ln)))))))) h
        · have c9 := (Int.not_le.mp c9)
          have h := h.2 c9
          refine x_aload_n (by decide +kernel : am_at co_X9_wordIn 62 = some (1, .aload_n 0)) rfl ?_
          refine x_aload_n (by decide +kernel : am_at co_X9_wordIn 63 = some (1, .aload_n 0)) rfl ?_
          refine x_getf (by decide +kernel : am_at co_X9_wordIn 64 = some (3, .getfield 19)) pq_9_19 rfl ob_1 ?_
          refine x_iload (by decide +kernel : am_at co_X9_wordIn 67 = some (2, .iload 4)) rfl ?_
          obtain ⟨o10, h⟩ := h
          refine x_iadd (by decide +kernel : am_at co_X9_wordIn 69 = some (1, .iadd)) o10 ?_
          refine x_callV (n := 2) (by decide +kernel : am_at co_X9_wordIn 70 = some (3, .invokevirtual 37)) pq_9_37 pm_X9_byteAt rfl rfl rfl ob_1 h (x_k0 fun x12 M12 h => ?_)
          refine x_iload (by decide +kernel : am_at co_X9_wordIn 73 = some (2, .iload 7)) rfl ?_
          refine x_icmp (tgt := 82) (by decide +kernel : am_at co_X9_wordIn 75 = some (3, .if_icmp .ne 7)) rfl Iff.rfl (fun c12 => ?_) (fun c12 => ?_)
          · have h := h.1 c12
            exact am_weak (lk (lk (lk (lk (lk (ld (lk (ld ln)))))))) h
          · have c12 := (Classical.not_not.mp c12)
            have h := h.2 c12
            refine x_iconst (by decide +kernel : am_at co_X9_wordIn 78 = some (1, .iconst 1)) ?_
            refine x_goto (tgt := 83) (by decide +kernel : am_at co_X9_wordIn 79 = some (3, .goto 4)) rfl ?_
            refine x_istore (L' := [(2, 1), (2, v1), (0, v2), (0, v3), (0, v4), (0, 1), (0, v6), (0, (pg_str v1).getD (v6).toNat 0)]) (by decide +kernel : am_at co_X9_wordIn 83 = some (2, .istore 5)) rfl ?_
            obtain ⟨o13, h⟩ := h
            refine x_iinc (L' := [(2, 1), (2, v1), (0, v2), (0, v3), (0, v4 + 1), (0, 1), (0, v6), (0, (pg_str v1).getD (v6).toNat 0)]) (by decide +kernel : am_at co_X9_wordIn 85 = some (3, .iinc 4 1)) rfl o13 rfl ?_
            refine x_goto (tgt := 113) (by decide +kernel : am_at co_X9_wordIn 88 = some (3, .goto 25)) rfl ?_
            exact am_weak (lk (lk (lk (lk (lk (lk (lk (ld ln)))))))) h
set_option maxRecDepth 20000 in
theorem bk_X9_wordIn_82 {d : Nat} {Q : am_Q} {M : am_M} {v1 v2 v3 v4 v6 : Int} (h : am_r (v4 + 1) ∧ am_g 9 0 co_X9_wordIn d Q 113 [(2, 1), (2, v1), (0, v2), (0, v3), (0, v4 + 1), (0, 0), (0, v6), (3, 0)] [] sh_T M) : am_g 9 0 co_X9_wordIn d Q 82 [(2, 1), (2, v1), (0, v2), (0, v3), (0, v4), (3, 0), (0, v6), (3, 0)] [] sh_T M := by
  refine x_iconst (by decide +kernel : am_at co_X9_wordIn 82 = some (1, .iconst 0)) ?_
  refine x_istore (L' := [(2, 1), (2, v1), (0, v2), (0, v3), (0, v4), (0, 0), (0, v6), (3, 0)]) (by decide +kernel : am_at co_X9_wordIn 83 = some (2, .istore 5)) rfl ?_
  obtain ⟨o0, h⟩ := h
  refine x_iinc (L' := [(2, 1), (2, v1), (0, v2), (0, v3), (0, v4 + 1), (0, 0), (0, v6), (3, 0)]) (by decide +kernel : am_at co_X9_wordIn 85 = some (3, .iinc 4 1)) rfl o0 rfl ?_
  refine x_goto (tgt := 113) (by decide +kernel : am_at co_X9_wordIn 88 = some (3, .goto 25)) rfl ?_
  exact am_weak (lk (lk (lk (lk (lk (lk (lk (lk ln)))))))) h
set_option maxRecDepth 20000 in
theorem bk_X9_wordIn_104 {d : Nat} {Q : am_Q} {M : am_M} {v1 v2 v3 v6 : Int} (h : am_r (v3 + 1) ∧ am_g 9 0 co_X9_wordIn d Q 113 [(2, 1), (2, v1), (0, v2), (0, v3 + 1), (0, 0), (0, 1), (0, v6), (3, 0)] [] sh_T M) : am_g 9 0 co_X9_wordIn d Q 104 [(2, 1), (2, v1), (0, v2), (0, v3), (3, 0), (3, 0), (0, v6), (3, 0)] [] sh_T M := by
  obtain ⟨o0, h⟩ := h
  refine x_iinc (L' := [(2, 1), (2, v1), (0, v2), (0, v3 + 1), (3, 0), (3, 0), (0, v6), (3, 0)]) (by decide +kernel : am_at co_X9_wordIn 104 = some (3, .iinc 3 1)) rfl o0 rfl ?_
  refine x_iconst (by decide +kernel : am_at co_X9_wordIn 107 = some (1, .iconst 0)) ?_
  refine x_istore (L' := [(2, 1), (2, v1), (0, v2), (0, v3 + 1), (0, 0), (3, 0), (0, v6), (3, 0)]) (by decide +kernel : am_at co_X9_wordIn 108 = some (2, .istore 4)) rfl ?_
  refine x_iconst (by decide +kernel : am_at co_X9_wordIn 110 = some (1, .iconst 1)) ?_
  refine x_istore (L' := [(2, 1), (2, v1), (0, v2), (0, v3 + 1), (0, 0), (0, 1), (0, v6), (3, 0)]) (by decide +kernel : am_at co_X9_wordIn 111 = some (2, .istore 5)) rfl ?_
  exact am_weak (lk (lk (lk (lk (lk (lk (lk (lk ln)))))))) h
set_option maxRecDepth 20000 in
theorem bk_X9_wordIn_113 {d : Nat} {Q : am_Q} {M : am_M} {v1 v2 v3 v4 v5 v6 : Int} (h : am_r (v6 + 1) ∧ am_g 9 0 co_X9_wordIn d Q 27 [(2, 1), (2, v1), (0, v2), (0, v3), (0, v4), (0, v5), (0, v6 + 1), (3, 0)] [] sh_T M) : am_g 9 0 co_X9_wordIn d Q 113 [(2, 1), (2, v1), (0, v2), (0, v3), (0, v4), (0, v5), (0, v6), (3, 0)] [] sh_T M := by
  obtain ⟨o0, h⟩ := h
  refine x_iinc (L' := [(2, 1), (2, v1), (0, v2), (0, v3), (0, v4), (0, v5), (0, v6 + 1), (3, 0)]) (by decide +kernel : am_at co_X9_wordIn 113 = some (3, .iinc 6 1)) rfl o0 rfl ?_
  refine x_goto (tgt := 27) (by decide +kernel : am_at co_X9_wordIn 116 = some (3, .goto (-89))) rfl ?_
  exact am_weak (lk (lk (lk (lk (lk (lk (lk (lk ln)))))))) h
set_option maxRecDepth 20000 in
theorem bk_X9_wordIn_134 {d : Nat} {Q : am_Q} {M : am_M} (h : Q (some (0, (-1)), sh_T, M)) : am_g 9 0 co_X9_wordIn d Q 134 [(3, 0), (3, 0), (3, 0), (3, 0), (3, 0), (3, 0), (3, 0), (3, 0)] [] sh_T M := by
  refine x_iconst (by decide +kernel : am_at co_X9_wordIn 134 = some (1, .iconst (-1))) ?_
  exact x_iret (by decide +kernel : am_at co_X9_wordIn 135 = some (1, .ireturn)) h
set_option maxRecDepth 20000 in
theorem bk_X9_skipWord_0 {d : Nat} {Q : am_Q} {M : am_M} (h : am_cal pg d 98 [(2, 1)] sh_T M (am_c0 sh_T fun x1 M1 => am_cal pg d 105 [(2, 1)] sh_T M1 (am_c0 sh_T fun x2 M2 => am_r ((M1 1 2) + x2) ∧ Q (none, sh_T, (am_up (am_up M2 1 2 ((M1 1 2) + x2)) 1 5 ((M1 1 2) + x2)))))) : am_g 9 9 co_X9_skipWord d Q 0 [(2, 1)] [] sh_T M := by
  refine x_aload_n (by decide +kernel : am_at co_X9_skipWord 0 = some (1, .aload_n 0)) rfl ?_
  refine x_callV (n := 1) (by decide +kernel : am_at co_X9_skipWord 1 = some (3, .invokevirtual 41)) pq_9_41 pm_X9_look rfl rfl rfl ob_1 h (x_k0 fun x1 M1 h => ?_)
  refine x_pop0 (by decide +kernel : am_at co_X9_skipWord 4 = some (1, .pop)) ?_
  refine x_aload_n (by decide +kernel : am_at co_X9_skipWord 5 = some (1, .aload_n 0)) rfl ?_
  refine x_dup2' (by decide +kernel : am_at co_X9_skipWord 6 = some (1, .dup)) ?_
  refine x_getf (by decide +kernel : am_at co_X9_skipWord 7 = some (3, .getfield 19)) pq_9_19 rfl ob_1 ?_
  refine x_aload_n (by decide +kernel : am_at co_X9_skipWord 10 = some (1, .aload_n 0)) rfl ?_
  refine x_callV (n := 1) (by decide +kernel : am_at co_X9_skipWord 11 = some (3, .invokevirtual 64)) pq_9_64 pm_X9_wordSize rfl rfl rfl ob_1 h (x_k0 fun x2 M2 h => ?_)
  obtain ⟨o2, h⟩ := h
  refine x_iadd (by decide +kernel : am_at co_X9_skipWord 14 = some (1, .iadd)) o2 ?_
  refine x_putf0 (by decide +kernel : am_at co_X9_skipWord 15 = some (3, .putfield 19)) pq_9_19 rfl ob_1 ?_
  refine x_aload_n (by decide +kernel : am_at co_X9_skipWord 18 = some (1, .aload_n 0)) rfl ?_
  refine x_aload_n (by decide +kernel : am_at co_X9_skipWord 19 = some (1, .aload_n 0)) rfl ?_
  refine x_getf (by decide +kernel : am_at co_X9_skipWord 20 = some (3, .getfield 19)) pq_9_19 rfl ob_1 ?_
  refine x_top0 (show (am_up M2 1 2 ((M1 1 2) + x2)) 1 2 = (M1 1 2) + x2 from by first | rfl | simp [am_up]) ?_
  refine x_putf0 (by decide +kernel : am_at co_X9_skipWord 23 = some (3, .putfield 28)) pq_9_28 rfl ob_1 ?_
  exact x_vret (by decide +kernel : am_at co_X9_skipWord 26 = some (1, .return_)) h
set_option maxRecDepth 20000 in
theorem bk_X9_takeWord_0 {d : Nat} {Q : am_Q} {M : am_M} {v1 : Int} (h : am_cal pg d 106 [(2, 1), (2, v1)] sh_T M (am_c0 sh_T fun x1 M1 => ((¬ x1 = (-1) → am_cal pg d 107 [(2, 1)] sh_T M1 (am_cv sh_T fun M3 => Q (some (0, 1), sh_T, M3))) ∧ (x1 = (-1) → Q (some (0, 0), sh_T, M1))))) : am_g 9 5 co_X9_takeWord d Q 0 [(2, 1), (2, v1)] [] sh_T M := by
  refine x_aload_n (by decide +kernel : am_at co_X9_takeWord 0 = some (1, .aload_n 0)) rfl ?_
  refine x_aload_n (by decide +kernel : am_at co_X9_takeWord 1 = some (1, .aload_n 1)) rfl ?_
  refine x_callV (n := 2) (by decide +kernel : am_at co_X9_takeWord 2 = some (3, .invokevirtual 76)) pq_9_76 pm_X9_wordIn rfl rfl rfl ob_1 h (x_k0 fun x1 M1 h => ?_)
  refine x_iconst (by decide +kernel : am_at co_X9_takeWord 5 = some (1, .iconst (-1))) ?_
  refine x_icmp (tgt := 11) (by decide +kernel : am_at co_X9_takeWord 6 = some (3, .if_icmp .ne 5)) rfl Iff.rfl (fun c1 => ?_) (fun c1 => ?_)
  · have h := h.1 c1
    refine x_aload_n (by decide +kernel : am_at co_X9_takeWord 11 = some (1, .aload_n 0)) rfl ?_
    refine x_callV (n := 1) (by decide +kernel : am_at co_X9_takeWord 12 = some (3, .invokevirtual 80)) pq_9_80 pm_X9_skipWord rfl rfl rfl ob_1 h (x_kv fun M3 h => ?_)
    refine x_iconst (by decide +kernel : am_at co_X9_takeWord 15 = some (1, .iconst 1)) ?_
    exact x_zret (by decide +kernel : am_at co_X9_takeWord 16 = some (1, .ireturn)) (by decide) h
  · have c1 := (Classical.not_not.mp c1)
    have h := h.2 c1
    refine x_iconst (by decide +kernel : am_at co_X9_takeWord 9 = some (1, .iconst 0)) ?_
    exact x_zret (by decide +kernel : am_at co_X9_takeWord 10 = some (1, .ireturn)) (by decide) h
set_option maxRecDepth 20000 in
theorem bk_X9_demandWord_0 {d : Nat} {Q : am_Q} {M : am_M} {v1 : Int} (h : am_cal pg d 108 [(2, 1), (2, v1)] sh_T M (am_c0 sh_T fun x1 M1 => ((¬ x1 = 0 → Q (none, sh_T, M1)) ∧ (x1 = 0 → am_cal pg d 97 [(2, 1), (0, 1)] sh_T M1 (am_cv sh_T fun M3 => Q (none, sh_T, M3)))))) : am_g 9 9 co_X9_demandWord d Q 0 [(2, 1), (2, v1)] [] sh_T M := by
  refine x_aload_n (by decide +kernel : am_at co_X9_demandWord 0 = some (1, .aload_n 0)) rfl ?_
  refine x_aload_n (by decide +kernel : am_at co_X9_demandWord 1 = some (1, .aload_n 1)) rfl ?_
  refine x_callV (n := 2) (by decide +kernel : am_at co_X9_demandWord 2 = some (3, .invokevirtual 83)) pq_9_83 pm_X9_takeWord rfl rfl rfl ob_1 h (x_k0 fun x1 M1 h => ?_)
  refine x_if (tgt := 13) (by decide +kernel : am_at co_X9_demandWord 5 = some (3, .ifCond .ne 8)) rfl Iff.rfl (fun c1 => ?_) (fun c1 => ?_)
  · have h := h.1 c1
    exact x_vret (by decide +kernel : am_at co_X9_demandWord 13 = some (1, .return_)) h
  · have c1 := (Classical.not_not.mp c1)
    have h := h.2 c1
    refine x_aload_n (by decide +kernel : am_at co_X9_demandWord 8 = some (1, .aload_n 0)) rfl ?_
    refine x_iconst (by decide +kernel : am_at co_X9_demandWord 9 = some (1, .iconst 1)) ?_
    refine x_callV (n := 2) (by decide +kernel : am_at co_X9_demandWord 10 = some (3, .invokevirtual 56)) pq_9_56 pm_X9_blameHere rfl rfl rfl ob_1 h (x_kv fun M3 h => ?_)
    exact x_vret (by decide +kernel : am_at co_X9_demandWord 13 = some (1, .return_)) h
set_option maxRecDepth 20000 in
theorem bk_X9_takeName_0 {d : Nat} {Q : am_Q} {M : am_M} (h : am_cal pg d 98 [(2, 1)] sh_T M (am_c0 sh_T fun x1 M1 => am_cal pg d 105 [(2, 1)] sh_T M1 (am_c0 sh_T fun x2 M2 => ((x2 = 0 → am_g 9 5 co_X9_takeName d Q 24 [(2, 1), (0, x2)] [] sh_T M2) ∧ (¬ x2 = 0 → am_cal pg d 106 [(2, 1), (2, 1000010)] sh_T M2 (am_c0 sh_T fun x4 M4 => ((x4 = (-1) → ((x2 ≤ 6 → am_g 9 5 co_X9_takeName d Q 50 [(2, 1), (0, x2)] [] sh_T M4) ∧ (6 < x2 → am_r ((M4 1 2) + 6) ∧ am_cal pg d 96 [(2, 1), (0, 1), (0, (M4 1 2) + 6)] sh_T M4 (am_cv sh_T fun M8 => am_g 9 5 co_X9_takeName d Q 50 [(2, 1), (0, x2)] [] sh_T M8)))) ∧ (¬ x4 = (-1) → am_g 9 5 co_X9_takeName d Q 24 [(2, 1), (0, x2)] [] sh_T M4)))))))) : am_g 9 5 co_X9_takeName d Q 0 [(2, 1), (3, 0)] [] sh_T M := by
  refine x_aload_n (by decide +kernel : am_at co_X9_takeName 0 = some (1, .aload_n 0)) rfl ?_
  refine x_callV (n := 1) (by decide +kernel : am_at co_X9_takeName 1 = some (3, .invokevirtual 41)) pq_9_41 pm_X9_look rfl rfl rfl ob_1 h (x_k0 fun x1 M1 h => ?_)
  refine x_pop0 (by decide +kernel : am_at co_X9_takeName 4 = some (1, .pop)) ?_
  refine x_aload_n (by decide +kernel : am_at co_X9_takeName 5 = some (1, .aload_n 0)) rfl ?_
  refine x_callV (n := 1) (by decide +kernel : am_at co_X9_takeName 6 = some (3, .invokevirtual 64)) pq_9_64 pm_X9_wordSize rfl rfl rfl ob_1 h (x_k0 fun x2 M2 h => ?_)
  refine x_istore_n (L' := [(2, 1), (0, x2)]) (by decide +kernel : am_at co_X9_takeName 9 = some (1, .istore_n 1)) rfl ?_
  refine x_iload_n (by decide +kernel : am_at co_X9_takeName 10 = some (1, .iload_n 1)) rfl ?_
  refine x_if (tgt := 24) (by decide +kernel : am_at co_X9_takeName 11 = some (3, .ifCond .eq 13)) rfl Iff.rfl (fun c2 => ?_) (fun c2 => ?_)
  · have h := h.1 c2
    exact am_weak (lk (lk ln)) h
  · have c2 := c2
    have h := h.2 c2
    refine x_aload_n (by decide +kernel : am_at co_X9_takeName 14 = some (1, .aload_n 0)) rfl ?_
    refine x_ldcS (by decide +kernel : am_at co_X9_takeName 15 = some (2, .ldc 87)) pq_9_87 ?_
    refine x_callV (n := 2) (by decide +kernel : am_at co_X9_takeName 17 = some (3, .invokevirtual 76)) pq_9_76 pm_X9_wordIn rfl rfl rfl ob_1 h (x_k0 fun x4 M4 h => ?_)
    refine x_iconst (by decide +kernel : am_at co_X9_takeName 20 = some (1, .iconst (-1))) ?_
    refine x_icmp (tgt := 32) (by decide +kernel : am_at co_X9_takeName 21 = some (3, .if_icmp .eq 11)) rfl Iff.rfl (fun c4 => ?_) (fun c4 => ?_)
    · have h := h.1 c4
      refine x_iload_n (by decide +kernel : am_at co_X9_takeName 32 = some (1, .iload_n 1)) rfl ?_
      refine x_bipush (by decide +kernel : am_at co_X9_takeName 33 = some (2, .bipush 6)) ?_
      refine x_icmp (tgt := 50) (by decide +kernel : am_at co_X9_takeName 35 = some (3, .if_icmp .le 15)) rfl Iff.rfl (fun c5 => ?_) (fun c5 => ?_)
      · have h := h.1 c5
        exact am_weak (lk (lk ln)) h
      · have c5 := (Int.not_le.mp c5)
        have h := h.2 c5
        refine x_aload_n (by decide +kernel : am_at co_X9_takeName 38 = some (1, .aload_n 0)) rfl ?_
        refine x_iconst (by decide +kernel : am_at co_X9_takeName 39 = some (1, .iconst 1)) ?_
        refine x_aload_n (by decide +kernel : am_at co_X9_takeName 40 = some (1, .aload_n 0)) rfl ?_
        refine x_getf (by decide +kernel : am_at co_X9_takeName 41 = some (3, .getfield 19)) pq_9_19 rfl ob_1 ?_
        refine x_bipush (by decide +kernel : am_at co_X9_takeName 44 = some (2, .bipush 6)) ?_
        obtain ⟨o6, h⟩ := h
        refine x_iadd (by decide +kernel : am_at co_X9_takeName 46 = some (1, .iadd)) o6 ?_
        refine x_callV (n := 3) (by decide +kernel : am_at co_X9_takeName 47 = some (3, .invokevirtual 45)) pq_9_45 pm_X9_blame rfl rfl rfl ob_1 h (x_kv fun M8 h => ?_)
        exact am_weak (lk (lk ln)) h
    · have c4 := c4
      have h := h.2 c4
      exact am_weak (lk (lk ln)) h
set_option maxRecDepth 20000 in
theorem bk_X9_takeName_24 {d : Nat} {Q : am_Q} {M : am_M} {v1 : Int} (h : am_cal pg d 97 [(2, 1), (0, 1)] sh_T M (am_cv sh_T fun M1 => am_g 9 5 co_X9_takeName d Q 50 [(2, 1), (0, v1)] [] sh_T M1)) : am_g 9 5 co_X9_takeName d Q 24 [(2, 1), (0, v1)] [] sh_T M := by
  refine x_aload_n (by decide +kernel : am_at co_X9_takeName 24 = some (1, .aload_n 0)) rfl ?_
  refine x_iconst (by decide +kernel : am_at co_X9_takeName 25 = some (1, .iconst 1)) ?_
  refine x_callV (n := 2) (by decide +kernel : am_at co_X9_takeName 26 = some (3, .invokevirtual 56)) pq_9_56 pm_X9_blameHere rfl rfl rfl ob_1 h (x_kv fun M1 h => ?_)
  refine x_goto (tgt := 50) (by decide +kernel : am_at co_X9_takeName 29 = some (3, .goto 21)) rfl ?_
  exact am_weak (lk (lk ln)) h
set_option maxRecDepth 20000 in
theorem bk_X9_takeName_50 {d : Nat} {Q : am_Q} {M : am_M} {v1 : Int} (h : am_cal pg d 95 [(2, 1)] sh_T M (am_c0 sh_T fun x1 M1 => ((x1 = 0 → am_r ((M1 1 2) + v1) ∧ Q (some (0, 1), sh_T, (am_up (am_up (am_up (am_up M1 1 6 (M1 1 2)) 1 7 v1) 1 2 ((M1 1 2) + v1)) 1 5 ((M1 1 2) + v1)))) ∧ (¬ x1 = 0 → Q (some (0, 0), sh_T, M1))))) : am_g 9 5 co_X9_takeName d Q 50 [(2, 1), (0, v1)] [] sh_T M := by
  refine x_aload_n (by decide +kernel : am_at co_X9_takeName 50 = some (1, .aload_n 0)) rfl ?_
  refine x_callV (n := 1) (by decide +kernel : am_at co_X9_takeName 51 = some (3, .invokevirtual 89)) pq_9_89 pm_X9_failed rfl rfl rfl ob_1 h (x_k0 fun x1 M1 h => ?_)
  refine x_if (tgt := 59) (by decide +kernel : am_at co_X9_takeName 54 = some (3, .ifCond .eq 5)) rfl Iff.rfl (fun c1 => ?_) (fun c1 => ?_)
  · have h := h.1 c1
    refine x_aload_n (by decide +kernel : am_at co_X9_takeName 59 = some (1, .aload_n 0)) rfl ?_
    refine x_aload_n (by decide +kernel : am_at co_X9_takeName 60 = some (1, .aload_n 0)) rfl ?_
    refine x_getf (by decide +kernel : am_at co_X9_takeName 61 = some (3, .getfield 19)) pq_9_19 rfl ob_1 ?_
    refine x_putf0 (by decide +kernel : am_at co_X9_takeName 64 = some (3, .putfield 31)) pq_9_31 rfl ob_1 ?_
    refine x_aload_n (by decide +kernel : am_at co_X9_takeName 67 = some (1, .aload_n 0)) rfl ?_
    refine x_iload_n (by decide +kernel : am_at co_X9_takeName 68 = some (1, .iload_n 1)) rfl ?_
    refine x_putf0 (by decide +kernel : am_at co_X9_takeName 69 = some (3, .putfield 34)) pq_9_34 rfl ob_1 ?_
    refine x_aload_n (by decide +kernel : am_at co_X9_takeName 72 = some (1, .aload_n 0)) rfl ?_
    refine x_dup2' (by decide +kernel : am_at co_X9_takeName 73 = some (1, .dup)) ?_
    refine x_getf (by decide +kernel : am_at co_X9_takeName 74 = some (3, .getfield 19)) pq_9_19 rfl ob_1 ?_
    refine x_top0 (show (am_up (am_up M1 1 6 (M1 1 2)) 1 7 v1) 1 2 = M1 1 2 from by first | rfl | simp [am_up]) ?_
    refine x_iload_n (by decide +kernel : am_at co_X9_takeName 77 = some (1, .iload_n 1)) rfl ?_
    obtain ⟨o2, h⟩ := h
    refine x_iadd (by decide +kernel : am_at co_X9_takeName 78 = some (1, .iadd)) o2 ?_
    refine x_putf0 (by decide +kernel : am_at co_X9_takeName 79 = some (3, .putfield 19)) pq_9_19 rfl ob_1 ?_
    refine x_aload_n (by decide +kernel : am_at co_X9_takeName 82 = some (1, .aload_n 0)) rfl ?_
    refine x_aload_n (by decide +kernel : am_at co_X9_takeName 83 = some (1, .aload_n 0)) rfl ?_
    refine x_getf (by decide +kernel : am_at co_X9_takeName 84 = some (3, .getfield 19)) pq_9_19 rfl ob_1 ?_
    refine x_top0 (show (am_up (am_up (am_up M1 1 6 (M1 1 2)) 1 7 v1) 1 2 ((M1 1 2) + v1)) 1 2 = (M1 1 2) + v1 from by first | rfl | simp [am_up]) ?_
    refine x_putf0 (by decide +kernel : am_at co_X9_takeName 87 = some (3, .putfield 28)) pq_9_28 rfl ob_1 ?_
    refine x_iconst (by decide +kernel : am_at co_X9_takeName 90 = some (1, .iconst 1)) ?_
    exact x_zret (by decide +kernel : am_at co_X9_takeName 91 = some (1, .ireturn)) (by decide) h
  · have c1 := c1
    have h := h.2 c1
    refine x_iconst (by decide +kernel : am_at co_X9_takeName 57 = some (1, .iconst 0)) ?_
    exact x_zret (by decide +kernel : am_at co_X9_takeName 58 = some (1, .ireturn)) (by decide) h
set_option maxRecDepth 20000 in
theorem bk_X9_takeNumber_0 {d : Nat} {Q : am_Q} {M : am_M} {v1 : Int} (h : am_cal pg d 104 [(2, 1)] sh_T M (am_c0 sh_T fun x1 M1 => ((x1 = 0 → am_g 9 0 co_X9_takeNumber d Q 18 [(2, 1), (3, 0), (3, 0), (3, 0), (3, 0)] [] sh_T M1) ∧ (¬ x1 = 0 → ((¬ M1 1 2 = M1 1 5 → am_g 9 0 co_X9_takeNumber d Q 35 [(2, 1), (0, v1), (0, M1 1 2), (0, 0), (0, 0)] [] sh_T M1) ∧ (M1 1 2 = M1 1 5 → am_g 9 0 co_X9_takeNumber d Q 18 [(2, 1), (3, 0), (3, 0), (3, 0), (3, 0)] [] sh_T M1)))))) : am_g 9 0 co_X9_takeNumber d Q 0 [(2, 1), (0, v1), (3, 0), (3, 0), (3, 0)] [] sh_T M := by
  refine x_aload_n (by decide +kernel : am_at co_X9_takeNumber 0 = some (1, .aload_n 0)) rfl ?_
  refine x_callV (n := 1) (by decide +kernel : am_at co_X9_takeNumber 1 = some (3, .invokevirtual 93)) pq_9_93 pm_X9_seesDigit rfl rfl rfl ob_1 h (x_k0 fun x1 M1 h => ?_)
  refine x_if (tgt := 18) (by decide +kernel : am_at co_X9_takeNumber 4 = some (3, .ifCond .eq 14)) rfl Iff.rfl (fun c1 => ?_) (fun c1 => ?_)
  · have h := h.1 c1
    exact am_weak (lk (ld (lk (lk (lk ln))))) h
  · have c1 := c1
    have h := h.2 c1
    refine x_aload_n (by decide +kernel : am_at co_X9_takeNumber 7 = some (1, .aload_n 0)) rfl ?_
    refine x_getf (by decide +kernel : am_at co_X9_takeNumber 8 = some (3, .getfield 19)) pq_9_19 rfl ob_1 ?_
    refine x_aload_n (by decide +kernel : am_at co_X9_takeNumber 11 = some (1, .aload_n 0)) rfl ?_
    refine x_getf (by decide +kernel : am_at co_X9_takeNumber 12 = some (3, .getfield 28)) pq_9_28 rfl ob_1 ?_
    refine x_icmp (tgt := 25) (by decide +kernel : am_at co_X9_takeNumber 15 = some (3, .if_icmp .ne 10)) rfl Iff.rfl (fun c2 => ?_) (fun c2 => ?_)
    · have h := h.1 c2
      refine x_aload_n (by decide +kernel : am_at co_X9_takeNumber 25 = some (1, .aload_n 0)) rfl ?_
      refine x_getf (by decide +kernel : am_at co_X9_takeNumber 26 = some (3, .getfield 19)) pq_9_19 rfl ob_1 ?_
      refine x_istore_n (L' := [(2, 1), (0, v1), (0, M1 1 2), (3, 0), (3, 0)]) (by decide +kernel : am_at co_X9_takeNumber 29 = some (1, .istore_n 2)) rfl ?_
      refine x_iconst (by decide +kernel : am_at co_X9_takeNumber 30 = some (1, .iconst 0)) ?_
      refine x_istore_n (L' := [(2, 1), (0, v1), (0, M1 1 2), (0, 0), (3, 0)]) (by decide +kernel : am_at co_X9_takeNumber 31 = some (1, .istore_n 3)) rfl ?_
      refine x_iconst (by decide +kernel : am_at co_X9_takeNumber 32 = some (1, .iconst 0)) ?_
      refine x_istore (L' := [(2, 1), (0, v1), (0, M1 1 2), (0, 0), (0, 0)]) (by decide +kernel : am_at co_X9_takeNumber 33 = some (2, .istore 4)) rfl ?_
      exact am_weak (lk (lk (lk (lk (lk ln))))) h
    · have c2 := (Classical.not_not.mp c2)
      have h := h.2 c2
      exact am_weak (lk (ld (lk (lk (lk ln))))) h
set_option maxRecDepth 20000 in
theorem bk_X9_takeNumber_18 {d : Nat} {Q : am_Q} {M : am_M} (h : am_cal pg d 97 [(2, 1), (0, 1)] sh_T M (am_cv sh_T fun M1 => Q (some (0, 0), sh_T, M1))) : am_g 9 0 co_X9_takeNumber d Q 18 [(2, 1), (3, 0), (3, 0), (3, 0), (3, 0)] [] sh_T M := by
  refine x_aload_n (by decide +kernel : am_at co_X9_takeNumber 18 = some (1, .aload_n 0)) rfl ?_
  refine x_iconst (by decide +kernel : am_at co_X9_takeNumber 19 = some (1, .iconst 1)) ?_
  refine x_callV (n := 2) (by decide +kernel : am_at co_X9_takeNumber 20 = some (3, .invokevirtual 56)) pq_9_56 pm_X9_blameHere rfl rfl rfl ob_1 h (x_kv fun M1 h => ?_)
  refine x_iconst (by decide +kernel : am_at co_X9_takeNumber 23 = some (1, .iconst 0)) ?_
  exact x_iret (by decide +kernel : am_at co_X9_takeNumber 24 = some (1, .ireturn)) h
set_option maxRecDepth 20000 in
theorem bk_X9_takeNumber_35 {d : Nat} {Q : am_Q} {M : am_M} {v1 v2 v3 v4 : Int} (h : ((4 ≤ v4 → am_g 9 0 co_X9_takeNumber d Q 88 [(2, 1), (0, v1), (0, v2), (0, v3), (3, 0)] [] sh_T M) ∧ (v4 < 4 → am_cal pg d 92 [(2, 1), (0, M 1 2)] sh_T M (am_c0 sh_T fun x2 M2 => am_cal pg d 103 [(0, x2)] sh_T M2 (am_c0 sh_T fun x3 M3 => ((x3 = 0 → am_g 9 0 co_X9_takeNumber d Q 88 [(2, 1), (0, v1), (0, v2), (0, v3), (3, 0)] [] sh_T M3) ∧ (¬ x3 = 0 → am_r (10 * v3) ∧ am_cal pg d 92 [(2, 1), (0, M3 1 2)] sh_T M3 (am_c0 sh_T fun x6 M6 => am_r ((10 * v3) + x6) ∧ am_r (((10 * v3) + x6) - 48) ∧ am_r ((M6 1 2) + 1) ∧ am_r (v4 + 1) ∧ am_g 9 0 co_X9_takeNumber d Q 35 [(2, 1), (0, v1), (0, v2), (0, ((10 * v3) + x6) - 48), (0, v4 + 1)] [] sh_T (am_up M6 1 2 ((M6 1 2) + 1)))))))))) : am_g 9 0 co_X9_takeNumber d Q 35 [(2, 1), (0, v1), (0, v2), (0, v3), (0, v4)] [] sh_T M := by
  refine x_iload (by decide +kernel : am_at co_X9_takeNumber 35 = some (2, .iload 4)) rfl ?_
  refine x_iconst (by decide +kernel : am_at co_X9_takeNumber 37 = some (1, .iconst 4)) ?_
  refine x_icmp (tgt := 88) (by decide +kernel : am_at co_X9_takeNumber 38 = some (3, .if_icmp .ge 50)) rfl Iff.rfl (fun c0 => ?_) (fun c0 => ?_)
  · have h := h.1 c0
    exact am_weak (lk (lk (lk (lk (ld ln))))) h
  · have c0 := (Int.not_le.mp c0)
    have h := h.2 c0
    refine x_aload_n (by decide +kernel : am_at co_X9_takeNumber 41 = some (1, .aload_n 0)) rfl ?_
    refine x_aload_n (by decide +kernel : am_at co_X9_takeNumber 42 = some (1, .aload_n 0)) rfl ?_
    refine x_getf (by decide +kernel : am_at co_X9_takeNumber 43 = some (3, .getfield 19)) pq_9_19 rfl ob_1 ?_
    refine x_callV (n := 2) (by decide +kernel : am_at co_X9_takeNumber 46 = some (3, .invokevirtual 37)) pq_9_37 pm_X9_byteAt rfl rfl rfl ob_1 h (x_k0 fun x2 M2 h => ?_)
    refine x_callS (n := 1) (by decide +kernel : am_at co_X9_takeNumber 49 = some (3, .invokestatic 60)) pq_9_60 rfl rfl rfl h (x_k0 fun x3 M3 h => ?_)
    refine x_if (tgt := 88) (by decide +kernel : am_at co_X9_takeNumber 52 = some (3, .ifCond .eq 36)) rfl Iff.rfl (fun c3 => ?_) (fun c3 => ?_)
    · have h := h.1 c3
      exact am_weak (lk (lk (lk (lk (ld ln))))) h
    · have c3 := c3
      have h := h.2 c3
      refine x_bipush (by decide +kernel : am_at co_X9_takeNumber 55 = some (2, .bipush 10)) ?_
      refine x_iload_n (by decide +kernel : am_at co_X9_takeNumber 57 = some (1, .iload_n 3)) rfl ?_
      obtain ⟨o4, h⟩ := h
      refine x_imul (by decide +kernel : am_at co_X9_takeNumber 58 = some (1, .imul)) o4 ?_
      refine x_aload_n (by decide +kernel : am_at co_X9_takeNumber 59 = some (1, .aload_n 0)) rfl ?_
      refine x_aload_n (by decide +kernel : am_at co_X9_takeNumber 60 = some (1, .aload_n 0)) rfl ?_
      refine x_getf (by decide +kernel : am_at co_X9_takeNumber 61 = some (3, .getfield 19)) pq_9_19 rfl ob_1 ?_
      refine x_callV (n := 2) (by decide +kernel : am_at co_X9_takeNumber 64 = some (3, .invokevirtual 37)) pq_9_37 pm_X9_byteAt rfl rfl rfl ob_1 h (x_k0 fun x6 M6 h => ?_)
      obtain ⟨o6, h⟩ := h
      refine x_iadd (by decide +kernel : am_at co_X9_takeNumber 67 = some (1, .iadd)) o6 ?_
      refine x_bipush (by decide +kernel : am_at co_X9_takeNumber 68 = some (2, .bipush 48)) ?_
      obtain ⟨o7, h⟩ := h
      refine x_isub (by decide +kernel : am_at co_X9_takeNumber 70 = some (1, .isub)) o7 ?_
      refine x_istore_n (L' := [(2, 1), (0, v1), (0, v2), (0, ((10 * v3) + x6) - 48), (0, v4)]) (by decide +kernel : am_at co_X9_takeNumber 71 = some (1, .istore_n 3)) rfl ?_
      refine x_aload_n (by decide +kernel : am_at co_X9_takeNumber 72 = some (1, .aload_n 0)) rfl ?_
      refine x_dup2' (by decide +kernel : am_at co_X9_takeNumber 73 = some (1, .dup)) ?_
      refine x_getf (by decide +kernel : am_at co_X9_takeNumber 74 = some (3, .getfield 19)) pq_9_19 rfl ob_1 ?_
      refine x_iconst (by decide +kernel : am_at co_X9_takeNumber 77 = some (1, .iconst 1)) ?_
      obtain ⟨o8, h⟩ := h
      refine x_iadd (by decide +kernel : am_at co_X9_takeNumber 78 = some (1, .iadd)) o8 ?_
      refine x_putf0 (by decide +kernel : am_at co_X9_takeNumber 79 = some (3, .putfield 19)) pq_9_19 rfl ob_1 ?_
      obtain ⟨o9, h⟩ := h
      refine x_iinc (L' := [(2, 1), (0, v1), (0, v2), (0, ((10 * v3) + x6) - 48), (0, v4 + 1)]) (by decide +kernel : am_at co_X9_takeNumber 82 = some (3, .iinc 4 1)) rfl o9 rfl ?_
      refine x_goto (tgt := 35) (by decide +kernel : am_at co_X9_takeNumber 85 = some (3, .goto (-50))) rfl ?_
      exact am_weak (lk (lk (lk (lk (lk ln))))) h
set_option maxRecDepth 20000 in
theorem bk_X9_takeNumber_88 {d : Nat} {Q : am_Q} {M : am_M} {v1 v2 v3 : Int} (h : am_cal pg d 92 [(2, 1), (0, M 1 2)] sh_T M (am_c0 sh_T fun x1 M1 => am_cal pg d 103 [(0, x1)] sh_T M1 (am_c0 sh_T fun x2 M2 => ((x2 = 0 → ((v3 ≤ v1 → am_g 9 0 co_X9_takeNumber d Q 125 [(2, 1), (3, 0), (3, 0), (0, v3), (3, 0)] [] sh_T M2) ∧ (v1 < v3 → am_cal pg d 96 [(2, 1), (0, 2), (0, v2)] sh_T M2 (am_cv sh_T fun M5 => am_g 9 0 co_X9_takeNumber d Q 125 [(2, 1), (3, 0), (3, 0), (0, v3), (3, 0)] [] sh_T M5)))) ∧ (¬ x2 = 0 → am_cal pg d 96 [(2, 1), (0, 1), (0, M2 1 2)] sh_T M2 (am_cv sh_T fun M6 => am_g 9 0 co_X9_takeNumber d Q 125 [(2, 1), (3, 0), (3, 0), (0, v3), (3, 0)] [] sh_T M6)))))) : am_g 9 0 co_X9_takeNumber d Q 88 [(2, 1), (0, v1), (0, v2), (0, v3), (3, 0)] [] sh_T M := by
  refine x_aload_n (by decide +kernel : am_at co_X9_takeNumber 88 = some (1, .aload_n 0)) rfl ?_
  refine x_aload_n (by decide +kernel : am_at co_X9_takeNumber 89 = some (1, .aload_n 0)) rfl ?_
  refine x_getf (by decide +kernel : am_at co_X9_takeNumber 90 = some (3, .getfield 19)) pq_9_19 rfl ob_1 ?_
  refine x_callV (n := 2) (by decide +kernel : am_at co_X9_takeNumber 93 = some (3, .invokevirtual 37)) pq_9_37 pm_X9_byteAt rfl rfl rfl ob_1 h (x_k0 fun x1 M1 h => ?_)
  refine x_callS (n := 1) (by decide +kernel : am_at co_X9_takeNumber 96 = some (3, .invokestatic 60)) pq_9_60 rfl rfl rfl h (x_k0 fun x2 M2 h => ?_)
  refine x_if (tgt := 114) (by decide +kernel : am_at co_X9_takeNumber 99 = some (3, .ifCond .eq 15)) rfl Iff.rfl (fun c2 => ?_) (fun c2 => ?_)
  · have h := h.1 c2
    refine x_iload_n (by decide +kernel : am_at co_X9_takeNumber 114 = some (1, .iload_n 3)) rfl ?_
    refine x_iload_n (by decide +kernel : am_at co_X9_takeNumber 115 = some (1, .iload_n 1)) rfl ?_
    refine x_icmp (tgt := 125) (by decide +kernel : am_at co_X9_takeNumber 116 = some (3, .if_icmp .le 9)) rfl Iff.rfl (fun c3 => ?_) (fun c3 => ?_)
    · have h := h.1 c3
      exact am_weak (lk (ld (ld (lk (lk ln))))) h
    · have c3 := (Int.not_le.mp c3)
      have h := h.2 c3
      refine x_aload_n (by decide +kernel : am_at co_X9_takeNumber 119 = some (1, .aload_n 0)) rfl ?_
      refine x_iconst (by decide +kernel : am_at co_X9_takeNumber 120 = some (1, .iconst 2)) ?_
      refine x_iload_n (by decide +kernel : am_at co_X9_takeNumber 121 = some (1, .iload_n 2)) rfl ?_
      refine x_callV (n := 3) (by decide +kernel : am_at co_X9_takeNumber 122 = some (3, .invokevirtual 45)) pq_9_45 pm_X9_blame rfl rfl rfl ob_1 h (x_kv fun M5 h => ?_)
      exact am_weak (lk (ld (ld (lk (lk ln))))) h
  · have c2 := c2
    have h := h.2 c2
    refine x_aload_n (by decide +kernel : am_at co_X9_takeNumber 102 = some (1, .aload_n 0)) rfl ?_
    refine x_iconst (by decide +kernel : am_at co_X9_takeNumber 103 = some (1, .iconst 1)) ?_
    refine x_aload_n (by decide +kernel : am_at co_X9_takeNumber 104 = some (1, .aload_n 0)) rfl ?_
    refine x_getf (by decide +kernel : am_at co_X9_takeNumber 105 = some (3, .getfield 19)) pq_9_19 rfl ob_1 ?_
    refine x_callV (n := 3) (by decide +kernel : am_at co_X9_takeNumber 108 = some (3, .invokevirtual 45)) pq_9_45 pm_X9_blame rfl rfl rfl ob_1 h (x_kv fun M6 h => ?_)
    refine x_goto (tgt := 125) (by decide +kernel : am_at co_X9_takeNumber 111 = some (3, .goto 14)) rfl ?_
    exact am_weak (lk (ld (ld (lk (lk ln))))) h
set_option maxRecDepth 20000 in
theorem bk_X9_takeNumber_125 {d : Nat} {Q : am_Q} {M : am_M} {v3 : Int} (h : Q (some (0, v3), sh_T, (am_up M 1 5 (M 1 2)))) : am_g 9 0 co_X9_takeNumber d Q 125 [(2, 1), (3, 0), (3, 0), (0, v3), (3, 0)] [] sh_T M := by
  refine x_aload_n (by decide +kernel : am_at co_X9_takeNumber 125 = some (1, .aload_n 0)) rfl ?_
  refine x_aload_n (by decide +kernel : am_at co_X9_takeNumber 126 = some (1, .aload_n 0)) rfl ?_
  refine x_getf (by decide +kernel : am_at co_X9_takeNumber 127 = some (3, .getfield 19)) pq_9_19 rfl ob_1 ?_
  refine x_putf0 (by decide +kernel : am_at co_X9_takeNumber 130 = some (3, .putfield 28)) pq_9_28 rfl ob_1 ?_
  refine x_iload_n (by decide +kernel : am_at co_X9_takeNumber 133 = some (1, .iload_n 3)) rfl ?_
  exact x_iret (by decide +kernel : am_at co_X9_takeNumber 134 = some (1, .ireturn)) h
set_option maxRecDepth 20000 in
theorem bk_X10_findSoonest_0 {d : Nat} {Q : am_Q} {M : am_M} {v1 v2 v3 : Int} (h : am_cal pg d 71 [(2, 97), (2, v2)] sh_T M (am_cv sh_T fun M1 => am_cal pg d 117 [(2, 95), (2, v1), (0, 0), (0, 0)] sh_T (am_up (am_up (am_up M1 95 5 0) 95 4 0) 95 3 v3) (am_cv sh_T fun M2 => ((v3 ≤ M2 95 3 → Q (some (0, (-1)), sh_T, M2)) ∧ (M2 95 3 < v3 → Q (some (0, M2 95 3), sh_T, M2)))))) : am_g 10 0 co_X10_findSoonest d Q 0 [(2, 95), (2, v1), (2, v2), (0, v3)] [] sh_T M := by
  refine x_aload_n (by decide +kernel : am_at co_X10_findSoonest 0 = some (1, .aload_n 0)) rfl ?_
  refine x_getF (by decide +kernel : am_at co_X10_findSoonest 1 = some (3, .getfield 13)) pq_10_13 (by decide) rfl ob_95 ?_
  refine x_top2 (show 95 + 1 = 96 from rfl) ?_
  refine x_iconst (by decide +kernel : am_at co_X10_findSoonest 4 = some (1, .iconst 0)) ?_
  refine x_aald (by decide +kernel : am_at co_X10_findSoonest 5 = some (1, .aaload)) (ia_96 (by decide) (by decide)) ?_
  refine x_top2 (show 96 + 1 + 2 * 0 = 97 from rfl) ?_
  refine x_aload_n (by decide +kernel : am_at co_X10_findSoonest 6 = some (1, .aload_n 2)) rfl ?_
  refine x_callV (n := 2) (by decide +kernel : am_at co_X10_findSoonest 7 = some (3, .invokevirtual 62)) pq_10_62 pm_X7_copy rfl rfl rfl ob_97 h (x_kv fun M1 h => ?_)
  refine x_aload_n (by decide +kernel : am_at co_X10_findSoonest 10 = some (1, .aload_n 0)) rfl ?_
  refine x_iconst (by decide +kernel : am_at co_X10_findSoonest 11 = some (1, .iconst 0)) ?_
  refine x_putf5 (by decide +kernel : am_at co_X10_findSoonest 12 = some (3, .putfield 33)) pq_10_33 rfl ob_95 (by decide) ?_
  refine x_aload_n (by decide +kernel : am_at co_X10_findSoonest 15 = some (1, .aload_n 0)) rfl ?_
  refine x_iconst (by decide +kernel : am_at co_X10_findSoonest 16 = some (1, .iconst 0)) ?_
  refine x_putf0 (by decide +kernel : am_at co_X10_findSoonest 17 = some (3, .putfield 30)) pq_10_30 rfl ob_95 ?_
  refine x_aload_n (by decide +kernel : am_at co_X10_findSoonest 20 = some (1, .aload_n 0)) rfl ?_
  refine x_iload_n (by decide +kernel : am_at co_X10_findSoonest 21 = some (1, .iload_n 3)) rfl ?_
  refine x_putf0 (by decide +kernel : am_at co_X10_findSoonest 22 = some (3, .putfield 26)) pq_10_26 rfl ob_95 ?_
  refine x_aload_n (by decide +kernel : am_at co_X10_findSoonest 25 = some (1, .aload_n 0)) rfl ?_
  refine x_aload_n (by decide +kernel : am_at co_X10_findSoonest 26 = some (1, .aload_n 1)) rfl ?_
  refine x_iconst (by decide +kernel : am_at co_X10_findSoonest 27 = some (1, .iconst 0)) ?_
  refine x_iconst (by decide +kernel : am_at co_X10_findSoonest 28 = some (1, .iconst 0)) ?_
  refine x_callV (n := 4) (by decide +kernel : am_at co_X10_findSoonest 29 = some (3, .invokevirtual 66)) pq_10_66 pm_X10_seek rfl rfl rfl ob_95 h (x_kv fun M2 h => ?_)
  refine x_aload_n (by decide +kernel : am_at co_X10_findSoonest 32 = some (1, .aload_n 0)) rfl ?_
  refine x_getf (by decide +kernel : am_at co_X10_findSoonest 33 = some (3, .getfield 26)) pq_10_26 rfl ob_95 ?_
  refine x_iload_n (by decide +kernel : am_at co_X10_findSoonest 36 = some (1, .iload_n 3)) rfl ?_
  refine x_icmp (tgt := 47) (by decide +kernel : am_at co_X10_findSoonest 37 = some (3, .if_icmp .ge 10)) rfl Iff.rfl (fun c2 => ?_) (fun c2 => ?_)
  · have h := h.1 c2
    refine x_iconst (by decide +kernel : am_at co_X10_findSoonest 47 = some (1, .iconst (-1))) ?_
    exact x_iret (by decide +kernel : am_at co_X10_findSoonest 48 = some (1, .ireturn)) h
  · have c2 := (Int.not_le.mp c2)
    have h := h.2 c2
    refine x_aload_n (by decide +kernel : am_at co_X10_findSoonest 40 = some (1, .aload_n 0)) rfl ?_
    refine x_getf (by decide +kernel : am_at co_X10_findSoonest 41 = some (3, .getfield 26)) pq_10_26 rfl ob_95 ?_
    refine x_goto (tgt := 48) (by decide +kernel : am_at co_X10_findSoonest 44 = some (3, .goto 4)) rfl ?_
    exact x_iret (by decide +kernel : am_at co_X10_findSoonest 48 = some (1, .ireturn)) h
set_option maxRecDepth 20000 in
theorem bk_X10_findLeast_0 {d : Nat} {Q : am_Q} {M : am_M} {v1 v2 : Int} (h : am_cal pg d 71 [(2, 97), (2, v2)] sh_T M (am_cv sh_T fun M1 => am_cal pg d 117 [(2, 95), (2, v1), (0, 0), (0, 0)] sh_T (am_up (am_up (am_up M1 95 5 1) 95 4 1000000) 95 3 11) (am_cv sh_T fun M2 => ((10 < M2 95 3 → Q (some (0, (-1)), sh_T, M2)) ∧ (M2 95 3 ≤ 10 → Q (some (0, M2 95 3), sh_T, M2)))))) : am_g 10 0 co_X10_findLeast d Q 0 [(2, 95), (2, v1), (2, v2)] [] sh_T M := by
  refine x_aload_n (by decide +kernel : am_at co_X10_findLeast 0 = some (1, .aload_n 0)) rfl ?_
  refine x_getF (by decide +kernel : am_at co_X10_findLeast 1 = some (3, .getfield 13)) pq_10_13 (by decide) rfl ob_95 ?_
  refine x_top2 (show 95 + 1 = 96 from rfl) ?_
  refine x_iconst (by decide +kernel : am_at co_X10_findLeast 4 = some (1, .iconst 0)) ?_
  refine x_aald (by decide +kernel : am_at co_X10_findLeast 5 = some (1, .aaload)) (ia_96 (by decide) (by decide)) ?_
  refine x_top2 (show 96 + 1 + 2 * 0 = 97 from rfl) ?_
  refine x_aload_n (by decide +kernel : am_at co_X10_findLeast 6 = some (1, .aload_n 2)) rfl ?_
  refine x_callV (n := 2) (by decide +kernel : am_at co_X10_findLeast 7 = some (3, .invokevirtual 62)) pq_10_62 pm_X7_copy rfl rfl rfl ob_97 h (x_kv fun M1 h => ?_)
  refine x_aload_n (by decide +kernel : am_at co_X10_findLeast 10 = some (1, .aload_n 0)) rfl ?_
  refine x_iconst (by decide +kernel : am_at co_X10_findLeast 11 = some (1, .iconst 1)) ?_
  refine x_putf5 (by decide +kernel : am_at co_X10_findLeast 12 = some (3, .putfield 33)) pq_10_33 rfl ob_95 (by decide) ?_
  refine x_aload_n (by decide +kernel : am_at co_X10_findLeast 15 = some (1, .aload_n 0)) rfl ?_
  refine x_ldc (by decide +kernel : am_at co_X10_findLeast 16 = some (2, .ldc 70)) pq_10_70 ?_
  refine x_putf0 (by decide +kernel : am_at co_X10_findLeast 18 = some (3, .putfield 30)) pq_10_30 rfl ob_95 ?_
  refine x_aload_n (by decide +kernel : am_at co_X10_findLeast 21 = some (1, .aload_n 0)) rfl ?_
  refine x_bipush (by decide +kernel : am_at co_X10_findLeast 22 = some (2, .bipush 11)) ?_
  refine x_putf0 (by decide +kernel : am_at co_X10_findLeast 24 = some (3, .putfield 26)) pq_10_26 rfl ob_95 ?_
  refine x_aload_n (by decide +kernel : am_at co_X10_findLeast 27 = some (1, .aload_n 0)) rfl ?_
  refine x_aload_n (by decide +kernel : am_at co_X10_findLeast 28 = some (1, .aload_n 1)) rfl ?_
  refine x_iconst (by decide +kernel : am_at co_X10_findLeast 29 = some (1, .iconst 0)) ?_
  refine x_iconst (by decide +kernel : am_at co_X10_findLeast 30 = some (1, .iconst 0)) ?_
  refine x_callV (n := 4) (by decide +kernel : am_at co_X10_findLeast 31 = some (3, .invokevirtual 66)) pq_10_66 pm_X10_seek rfl rfl rfl ob_95 h (x_kv fun M2 h => ?_)
  refine x_aload_n (by decide +kernel : am_at co_X10_findLeast 34 = some (1, .aload_n 0)) rfl ?_
  refine x_getf (by decide +kernel : am_at co_X10_findLeast 35 = some (3, .getfield 26)) pq_10_26 rfl ob_95 ?_
  refine x_bipush (by decide +kernel : am_at co_X10_findLeast 38 = some (2, .bipush 10)) ?_
  refine x_icmp (tgt := 50) (by decide +kernel : am_at co_X10_findLeast 40 = some (3, .if_icmp .gt 10)) rfl Iff.rfl (fun c2 => ?_) (fun c2 => ?_)
  · have h := h.1 c2
    refine x_iconst (by decide +kernel : am_at co_X10_findLeast 50 = some (1, .iconst (-1))) ?_
    exact x_iret (by decide +kernel : am_at co_X10_findLeast 51 = some (1, .ireturn)) h
  · have c2 := (Int.not_lt.mp c2)
    have h := h.2 c2
    refine x_aload_n (by decide +kernel : am_at co_X10_findLeast 43 = some (1, .aload_n 0)) rfl ?_
    refine x_getf (by decide +kernel : am_at co_X10_findLeast 44 = some (3, .getfield 26)) pq_10_26 rfl ob_95 ?_
    refine x_goto (tgt := 51) (by decide +kernel : am_at co_X10_findLeast 47 = some (3, .goto 4)) rfl ?_
    exact x_iret (by decide +kernel : am_at co_X10_findLeast 51 = some (1, .ireturn)) h
set_option maxRecDepth 20000 in
theorem bk_X10_turn_0 {d : Nat} {Q : am_Q} {M : am_M} {v1 v2 : Int} (h : ((v1 < 0 → Q (some (0, (-1)), sh_T, M)) ∧ (0 ≤ v1 → ((v2 ≤ v1 → Q (some (0, (-1)), sh_T, M)) ∧ (v1 < v2 → ((10 ≤ v1 → Q (some (0, (-1)), sh_T, M)) ∧ (v1 < 10 → (0 ≤ v1 ∧ v1 < 10) ∧ Q (some (0, M 120 v1), sh_T, M)))))))) : am_g 10 0 co_X10_turn d Q 0 [(2, 95), (0, v1), (0, v2)] [] sh_T M := by
  refine x_iload_n (by decide +kernel : am_at co_X10_turn 0 = some (1, .iload_n 1)) rfl ?_
  refine x_if (tgt := 27) (by decide +kernel : am_at co_X10_turn 1 = some (3, .ifCond .lt 26)) rfl Iff.rfl (fun c0 => ?_) (fun c0 => ?_)
  · have h := h.1 c0
    refine x_iconst (by decide +kernel : am_at co_X10_turn 27 = some (1, .iconst (-1))) ?_
    exact x_iret (by decide +kernel : am_at co_X10_turn 28 = some (1, .ireturn)) h
  · have c0 := (Int.not_lt.mp c0)
    have h := h.2 c0
    refine x_iload_n (by decide +kernel : am_at co_X10_turn 4 = some (1, .iload_n 1)) rfl ?_
    refine x_iload_n (by decide +kernel : am_at co_X10_turn 5 = some (1, .iload_n 2)) rfl ?_
    refine x_icmp (tgt := 27) (by decide +kernel : am_at co_X10_turn 6 = some (3, .if_icmp .ge 21)) rfl Iff.rfl (fun c1 => ?_) (fun c1 => ?_)
    · have h := h.1 c1
      refine x_iconst (by decide +kernel : am_at co_X10_turn 27 = some (1, .iconst (-1))) ?_
      exact x_iret (by decide +kernel : am_at co_X10_turn 28 = some (1, .ireturn)) h
    · have c1 := (Int.not_le.mp c1)
      have h := h.2 c1
      refine x_iload_n (by decide +kernel : am_at co_X10_turn 9 = some (1, .iload_n 1)) rfl ?_
      refine x_aload_n (by decide +kernel : am_at co_X10_turn 10 = some (1, .aload_n 0)) rfl ?_
      refine x_getF (by decide +kernel : am_at co_X10_turn 11 = some (3, .getfield 23)) pq_10_23 (by decide) rfl ob_95 ?_
      refine x_top2 (show 95 + 25 = 120 from rfl) ?_
      refine x_alen (by decide +kernel : am_at co_X10_turn 14 = some (1, .arraylength)) (n := 10) rfl ?_
      refine x_top0 (show ((10 : Nat) : Int) = 10 from rfl) ?_
      refine x_icmp (tgt := 27) (by decide +kernel : am_at co_X10_turn 15 = some (3, .if_icmp .ge 12)) rfl Iff.rfl (fun c2 => ?_) (fun c2 => ?_)
      · have h := h.1 c2
        refine x_iconst (by decide +kernel : am_at co_X10_turn 27 = some (1, .iconst (-1))) ?_
        exact x_iret (by decide +kernel : am_at co_X10_turn 28 = some (1, .ireturn)) h
      · have c2 := (Int.not_le.mp c2)
        have h := h.2 c2
        refine x_aload_n (by decide +kernel : am_at co_X10_turn 18 = some (1, .aload_n 0)) rfl ?_
        refine x_getF (by decide +kernel : am_at co_X10_turn 19 = some (3, .getfield 23)) pq_10_23 (by decide) rfl ob_95 ?_
        refine x_top2 (show 95 + 25 = 120 from rfl) ?_
        refine x_iload_n (by decide +kernel : am_at co_X10_turn 22 = some (1, .iload_n 1)) rfl ?_
        obtain ⟨o3, h⟩ := h
        refine x_iald (by decide +kernel : am_at co_X10_turn 23 = some (1, .iaload)) (ia_120 o3.1 o3.2) ?_
        refine x_goto (tgt := 28) (by decide +kernel : am_at co_X10_turn 24 = some (3, .goto 4)) rfl ?_
        exact x_iret (by decide +kernel : am_at co_X10_turn 28 = some (1, .ireturn)) h
set_option maxRecDepth 20000 in
theorem bk_X10_isBetter_0 {d : Nat} {Q : am_Q} {M : am_M} {v1 v2 : Int} (h : ((v2 < M 95 4 → Q (some (0, 1), sh_T, M)) ∧ (M 95 4 ≤ v2 → ((¬ v2 = M 95 4 → Q (some (0, 0), sh_T, M)) ∧ (v2 = M 95 4 → ((M 95 3 ≤ v1 → Q (some (0, 0), sh_T, M)) ∧ (v1 < M 95 3 → Q (some (0, 1), sh_T, M)))))))) : am_g 10 5 co_X10_isBetter d Q 0 [(2, 95), (0, v1), (0, v2)] [] sh_T M := by
  refine x_iload_n (by decide +kernel : am_at co_X10_isBetter 0 = some (1, .iload_n 2)) rfl ?_
  refine x_aload_n (by decide +kernel : am_at co_X10_isBetter 1 = some (1, .aload_n 0)) rfl ?_
  refine x_getf (by decide +kernel : am_at co_X10_isBetter 2 = some (3, .getfield 30)) pq_10_30 rfl ob_95 ?_
  refine x_icmp (tgt := 24) (by decide +kernel : am_at co_X10_isBetter 5 = some (3, .if_icmp .lt 19)) rfl Iff.rfl (fun c0 => ?_) (fun c0 => ?_)
  · have h := h.1 c0
    refine x_iconst (by decide +kernel : am_at co_X10_isBetter 24 = some (1, .iconst 1)) ?_
    refine x_goto (tgt := 29) (by decide +kernel : am_at co_X10_isBetter 25 = some (3, .goto 4)) rfl ?_
    exact x_zret (by decide +kernel : am_at co_X10_isBetter 29 = some (1, .ireturn)) (by decide) h
  · have c0 := (Int.not_lt.mp c0)
    have h := h.2 c0
    refine x_iload_n (by decide +kernel : am_at co_X10_isBetter 8 = some (1, .iload_n 2)) rfl ?_
    refine x_aload_n (by decide +kernel : am_at co_X10_isBetter 9 = some (1, .aload_n 0)) rfl ?_
    refine x_getf (by decide +kernel : am_at co_X10_isBetter 10 = some (3, .getfield 30)) pq_10_30 rfl ob_95 ?_
    refine x_icmp (tgt := 28) (by decide +kernel : am_at co_X10_isBetter 13 = some (3, .if_icmp .ne 15)) rfl Iff.rfl (fun c1 => ?_) (fun c1 => ?_)
    · have h := h.1 c1
      refine x_iconst (by decide +kernel : am_at co_X10_isBetter 28 = some (1, .iconst 0)) ?_
      exact x_zret (by decide +kernel : am_at co_X10_isBetter 29 = some (1, .ireturn)) (by decide) h
    · have c1 := (Classical.not_not.mp c1)
      have h := h.2 c1
      refine x_iload_n (by decide +kernel : am_at co_X10_isBetter 16 = some (1, .iload_n 1)) rfl ?_
      refine x_aload_n (by decide +kernel : am_at co_X10_isBetter 17 = some (1, .aload_n 0)) rfl ?_
      refine x_getf (by decide +kernel : am_at co_X10_isBetter 18 = some (3, .getfield 26)) pq_10_26 rfl ob_95 ?_
      refine x_icmp (tgt := 28) (by decide +kernel : am_at co_X10_isBetter 21 = some (3, .if_icmp .ge 7)) rfl Iff.rfl (fun c2 => ?_) (fun c2 => ?_)
      · have h := h.1 c2
        refine x_iconst (by decide +kernel : am_at co_X10_isBetter 28 = some (1, .iconst 0)) ?_
        exact x_zret (by decide +kernel : am_at co_X10_isBetter 29 = some (1, .ireturn)) (by decide) h
      · have c2 := (Int.not_le.mp c2)
        have h := h.2 c2
        refine x_iconst (by decide +kernel : am_at co_X10_isBetter 24 = some (1, .iconst 1)) ?_
        refine x_goto (tgt := 29) (by decide +kernel : am_at co_X10_isBetter 25 = some (3, .goto 4)) rfl ?_
        exact x_zret (by decide +kernel : am_at co_X10_isBetter 29 = some (1, .ireturn)) (by decide) h
set_option maxRecDepth 20000 in
theorem bk_X10_seek_0 {d : Nat} {Q : am_Q} {M : am_M} {v1 v2 v3 : Int} (h : ((v2 < 0 → Q (none, sh_T, M)) ∧ (0 ≤ v2 → ((10 < v2 → Q (none, sh_T, M)) ∧ (v2 ≤ 10 → am_cal pg d 116 [(2, 95), (0, v2), (0, v3)] sh_T M (am_c0 sh_T fun x3 M3 => ((¬ x3 = 0 → (0 ≤ v2 ∧ v2 < 11) ∧ am_ob sh_T 2 v1 ∧ am_cal pg d 31 [(2, v1), (2, 96 + 1 + 2 * v2)] sh_T M3 (am_c0 sh_T fun x7 M7 => ((x7 = 0 → ((10 ≤ v2 → Q (none, sh_T, M7)) ∧ (v2 < 10 → am_cal pg d 118 [(2, 95), (2, v1), (0, v2), (0, v3), (0, 0)] sh_T M7 (am_cv sh_T fun M10 => am_cal pg d 118 [(2, 95), (2, v1), (0, v2), (0, v3), (0, 1)] sh_T M10 (am_cv sh_T fun M11 => Q (none, sh_T, M11)))))) ∧ (¬ x7 = 0 → am_cp sh_T 119 0 120 0 10 ∧ Q (none, sh_T, (am_cpy (am_up (am_up M7 95 3 v2) 95 4 v3) 119 0 120 0 10)))))) ∧ (x3 = 0 → Q (none, sh_T, M3))))))))) : am_g 10 9 co_X10_seek d Q 0 [(2, 95), (2, v1), (0, v2), (0, v3)] [] sh_T M := by
  refine x_iload_n (by decide +kernel : am_at co_X10_seek 0 = some (1, .iload_n 2)) rfl ?_
  refine x_if (tgt := 19) (by decide +kernel : am_at co_X10_seek 1 = some (3, .ifCond .lt 18)) rfl Iff.rfl (fun c0 => ?_) (fun c0 => ?_)
  · have h := h.1 c0
    exact x_vret (by decide +kernel : am_at co_X10_seek 19 = some (1, .return_)) h
  · have c0 := (Int.not_lt.mp c0)
    have h := h.2 c0
    refine x_iload_n (by decide +kernel : am_at co_X10_seek 4 = some (1, .iload_n 2)) rfl ?_
    refine x_bipush (by decide +kernel : am_at co_X10_seek 5 = some (2, .bipush 10)) ?_
    refine x_icmp (tgt := 19) (by decide +kernel : am_at co_X10_seek 7 = some (3, .if_icmp .gt 12)) rfl Iff.rfl (fun c1 => ?_) (fun c1 => ?_)
    · have h := h.1 c1
      exact x_vret (by decide +kernel : am_at co_X10_seek 19 = some (1, .return_)) h
    · have c1 := (Int.not_lt.mp c1)
      have h := h.2 c1
      refine x_aload_n (by decide +kernel : am_at co_X10_seek 10 = some (1, .aload_n 0)) rfl ?_
      refine x_iload_n (by decide +kernel : am_at co_X10_seek 11 = some (1, .iload_n 2)) rfl ?_
      refine x_iload_n (by decide +kernel : am_at co_X10_seek 12 = some (1, .iload_n 3)) rfl ?_
      refine x_callV (n := 3) (by decide +kernel : am_at co_X10_seek 13 = some (3, .invokevirtual 71)) pq_10_71 pm_X10_isBetter rfl rfl rfl ob_95 h (x_k0 fun x3 M3 h => ?_)
      refine x_if (tgt := 20) (by decide +kernel : am_at co_X10_seek 16 = some (3, .ifCond .ne 4)) rfl Iff.rfl (fun c3 => ?_) (fun c3 => ?_)
      · have h := h.1 c3
        refine x_aload_n (by decide +kernel : am_at co_X10_seek 20 = some (1, .aload_n 1)) rfl ?_
        refine x_aload_n (by decide +kernel : am_at co_X10_seek 21 = some (1, .aload_n 0)) rfl ?_
        refine x_getF (by decide +kernel : am_at co_X10_seek 22 = some (3, .getfield 13)) pq_10_13 (by decide) rfl ob_95 ?_
        refine x_top2 (show 95 + 1 = 96 from rfl) ?_
        refine x_iload_n (by decide +kernel : am_at co_X10_seek 25 = some (1, .iload_n 2)) rfl ?_
        obtain ⟨o4, h⟩ := h
        refine x_aald (by decide +kernel : am_at co_X10_seek 26 = some (1, .aaload)) (ia_96 o4.1 o4.2) ?_
        obtain ⟨o5, h⟩ := h
        refine x_callV (n := 2) (by decide +kernel : am_at co_X10_seek 27 = some (3, .invokevirtual 75)) pq_10_75 pm_X2_isHome rfl rfl rfl o5 h (x_k0 fun x7 M7 h => ?_)
        refine x_if (tgt := 61) (by decide +kernel : am_at co_X10_seek 30 = some (3, .ifCond .eq 31)) rfl Iff.rfl (fun c7 => ?_) (fun c7 => ?_)
        · have h := h.1 c7
          refine x_iload_n (by decide +kernel : am_at co_X10_seek 61 = some (1, .iload_n 2)) rfl ?_
          refine x_bipush (by decide +kernel : am_at co_X10_seek 62 = some (2, .bipush 10)) ?_
          refine x_icmp (tgt := 83) (by decide +kernel : am_at co_X10_seek 64 = some (3, .if_icmp .ge 19)) rfl Iff.rfl (fun c8 => ?_) (fun c8 => ?_)
          · have h := h.1 c8
            exact x_vret (by decide +kernel : am_at co_X10_seek 83 = some (1, .return_)) h
          · have c8 := (Int.not_le.mp c8)
            have h := h.2 c8
            refine x_aload_n (by decide +kernel : am_at co_X10_seek 67 = some (1, .aload_n 0)) rfl ?_
            refine x_aload_n (by decide +kernel : am_at co_X10_seek 68 = some (1, .aload_n 1)) rfl ?_
            refine x_iload_n (by decide +kernel : am_at co_X10_seek 69 = some (1, .iload_n 2)) rfl ?_
            refine x_iload_n (by decide +kernel : am_at co_X10_seek 70 = some (1, .iload_n 3)) rfl ?_
            refine x_iconst (by decide +kernel : am_at co_X10_seek 71 = some (1, .iconst 0)) ?_
            refine x_callV (n := 5) (by decide +kernel : am_at co_X10_seek 72 = some (3, .invokevirtual 87)) pq_10_87 pm_X10_goOn rfl rfl rfl ob_95 h (x_kv fun M10 h => ?_)
            refine x_aload_n (by decide +kernel : am_at co_X10_seek 75 = some (1, .aload_n 0)) rfl ?_
            refine x_aload_n (by decide +kernel : am_at co_X10_seek 76 = some (1, .aload_n 1)) rfl ?_
            refine x_iload_n (by decide +kernel : am_at co_X10_seek 77 = some (1, .iload_n 2)) rfl ?_
            refine x_iload_n (by decide +kernel : am_at co_X10_seek 78 = some (1, .iload_n 3)) rfl ?_
            refine x_iconst (by decide +kernel : am_at co_X10_seek 79 = some (1, .iconst 1)) ?_
            refine x_callV (n := 5) (by decide +kernel : am_at co_X10_seek 80 = some (3, .invokevirtual 87)) pq_10_87 pm_X10_goOn rfl rfl rfl ob_95 h (x_kv fun M11 h => ?_)
            exact x_vret (by decide +kernel : am_at co_X10_seek 83 = some (1, .return_)) h
        · have c7 := c7
          have h := h.2 c7
          refine x_aload_n (by decide +kernel : am_at co_X10_seek 33 = some (1, .aload_n 0)) rfl ?_
          refine x_iload_n (by decide +kernel : am_at co_X10_seek 34 = some (1, .iload_n 2)) rfl ?_
          refine x_putf0 (by decide +kernel : am_at co_X10_seek 35 = some (3, .putfield 26)) pq_10_26 rfl ob_95 ?_
          refine x_aload_n (by decide +kernel : am_at co_X10_seek 38 = some (1, .aload_n 0)) rfl ?_
          refine x_iload_n (by decide +kernel : am_at co_X10_seek 39 = some (1, .iload_n 3)) rfl ?_
          refine x_putf0 (by decide +kernel : am_at co_X10_seek 40 = some (3, .putfield 30)) pq_10_30 rfl ob_95 ?_
          refine x_aload_n (by decide +kernel : am_at co_X10_seek 43 = some (1, .aload_n 0)) rfl ?_
          refine x_getF (by decide +kernel : am_at co_X10_seek 44 = some (3, .getfield 19)) pq_10_19 (by decide) rfl ob_95 ?_
          refine x_top2 (show 95 + 24 = 119 from rfl) ?_
          refine x_iconst (by decide +kernel : am_at co_X10_seek 47 = some (1, .iconst 0)) ?_
          refine x_aload_n (by decide +kernel : am_at co_X10_seek 48 = some (1, .aload_n 0)) rfl ?_
          refine x_getF (by decide +kernel : am_at co_X10_seek 49 = some (3, .getfield 23)) pq_10_23 (by decide) rfl ob_95 ?_
          refine x_top2 (show 95 + 25 = 120 from rfl) ?_
          refine x_iconst (by decide +kernel : am_at co_X10_seek 52 = some (1, .iconst 0)) ?_
          refine x_bipush (by decide +kernel : am_at co_X10_seek 53 = some (2, .bipush 10)) ?_
          obtain ⟨o11, h⟩ := h
          refine x_ext _ (Or.inl rfl) (by decide +kernel : am_at co_X10_seek 55 = some (3, .invokestatic 81)) pq_10_81 (by decide) (show am_ext pg 20 _ sh_T _ _ from ⟨o11, ?_⟩)
          refine x_goto (tgt := 83) (by decide +kernel : am_at co_X10_seek 58 = some (3, .goto 25)) rfl ?_
          exact x_vret (by decide +kernel : am_at co_X10_seek 83 = some (1, .return_)) h
      · have c3 := (Classical.not_not.mp c3)
        have h := h.2 c3
        exact x_vret (by decide +kernel : am_at co_X10_seek 19 = some (1, .return_)) h
set_option maxRecDepth 20000 in
theorem bk_X10_goOn_0 {d : Nat} {Q : am_Q} {M : am_M} {v1 v2 v3 v4 : Int} (h : ((v2 < 0 → Q (none, sh_T, M)) ∧ (0 ≤ v2 → ((v2 < 10 → am_r (v2 + 1) ∧ (0 ≤ v2 + 1 ∧ v2 + 1 < 11) ∧ (0 ≤ v2 ∧ v2 < 11) ∧ am_ob sh_T 7 (96 + 1 + 2 * (v2 + 1)) ∧ am_cal pg d 71 [(2, 96 + 1 + 2 * (v2 + 1)), (2, 96 + 1 + 2 * v2)] sh_T M (am_cv sh_T fun M7 => am_r (v2 + 1) ∧ am_ob sh_T 2 v1 ∧ am_cal pg d 34 [(2, v1), (2, 96 + 1 + 2 * (v2 + 1)), (0, v4)] sh_T M7 (am_c0 sh_T fun x10 M10 => ((x10 = (-1) → Q (none, sh_T, M10)) ∧ (¬ x10 = (-1) → ((v4 = 0 → (0 ≤ v2 ∧ v2 < 10) ∧ am_r (v2 + 1) ∧ ((M10 95 5 = 0 → am_cal pg d 117 [(2, 95), (2, v1), (0, v2 + 1), (0, 0)] sh_T (am_up M10 119 v2 0) (am_cv sh_T fun M16 => Q (none, sh_T, M16))) ∧ (¬ M10 95 5 = 0 → am_ob sh_T 7 (96 + 1 + 2 * v2) ∧ am_cal pg d 72 [(2, 96 + 1 + 2 * v2), (0, x10)] sh_T (am_up M10 119 v2 0) (am_c0 sh_T fun x18 M18 => am_r (v3 + x18) ∧ am_cal pg d 117 [(2, 95), (2, v1), (0, v2 + 1), (0, v3 + x18)] sh_T M18 (am_cv sh_T fun M20 => Q (none, sh_T, M20)))))) ∧ (¬ v4 = 0 → (0 ≤ v2 ∧ v2 < 10) ∧ am_r (v2 + 1) ∧ ((M10 95 5 = 0 → am_cal pg d 117 [(2, 95), (2, v1), (0, v2 + 1), (0, 0)] sh_T (am_up M10 119 v2 1) (am_cv sh_T fun M24 => Q (none, sh_T, M24))) ∧ (¬ M10 95 5 = 0 → am_ob sh_T 7 (96 + 1 + 2 * v2) ∧ am_cal pg d 72 [(2, 96 + 1 + 2 * v2), (0, x10)] sh_T (am_up M10 119 v2 1) (am_c0 sh_T fun x26 M26 => am_r (v3 + x26) ∧ am_cal pg d 117 [(2, 95), (2, v1), (0, v2 + 1), (0, v3 + x26)] sh_T M26 (am_cv sh_T fun M28 => Q (none, sh_T, M28)))))))))))) ∧ (10 ≤ v2 → Q (none, sh_T, M)))))) : am_g 10 9 co_X10_goOn d Q 0 [(2, 95), (2, v1), (0, v2), (0, v3), (0, v4), (3, 0)] [] sh_T M := by
  refine x_iload_n (by decide +kernel : am_at co_X10_goOn 0 = some (1, .iload_n 2)) rfl ?_
  refine x_if (tgt := 10) (by decide +kernel : am_at co_X10_goOn 1 = some (3, .ifCond .lt 9)) rfl Iff.rfl (fun c0 => ?_) (fun c0 => ?_)
  · have h := h.1 c0
    exact x_vret (by decide +kernel : am_at co_X10_goOn 10 = some (1, .return_)) h
  · have c0 := (Int.not_lt.mp c0)
    have h := h.2 c0
    refine x_iload_n (by decide +kernel : am_at co_X10_goOn 4 = some (1, .iload_n 2)) rfl ?_
    refine x_bipush (by decide +kernel : am_at co_X10_goOn 5 = some (2, .bipush 10)) ?_
    refine x_icmp (tgt := 11) (by decide +kernel : am_at co_X10_goOn 7 = some (3, .if_icmp .lt 4)) rfl Iff.rfl (fun c1 => ?_) (fun c1 => ?_)
    · have h := h.1 c1
      refine x_aload_n (by decide +kernel : am_at co_X10_goOn 11 = some (1, .aload_n 0)) rfl ?_
      refine x_getF (by decide +kernel : am_at co_X10_goOn 12 = some (3, .getfield 13)) pq_10_13 (by decide) rfl ob_95 ?_
      refine x_top2 (show 95 + 1 = 96 from rfl) ?_
      refine x_iload_n (by decide +kernel : am_at co_X10_goOn 15 = some (1, .iload_n 2)) rfl ?_
      refine x_iconst (by decide +kernel : am_at co_X10_goOn 16 = some (1, .iconst 1)) ?_
      obtain ⟨o2, h⟩ := h
      refine x_iadd (by decide +kernel : am_at co_X10_goOn 17 = some (1, .iadd)) o2 ?_
      obtain ⟨o3, h⟩ := h
      refine x_aald (by decide +kernel : am_at co_X10_goOn 18 = some (1, .aaload)) (ia_96 o3.1 o3.2) ?_
      refine x_aload_n (by decide +kernel : am_at co_X10_goOn 19 = some (1, .aload_n 0)) rfl ?_
      refine x_getF (by decide +kernel : am_at co_X10_goOn 20 = some (3, .getfield 13)) pq_10_13 (by decide) rfl ob_95 ?_
      refine x_top2 (show 95 + 1 = 96 from rfl) ?_
      refine x_iload_n (by decide +kernel : am_at co_X10_goOn 23 = some (1, .iload_n 2)) rfl ?_
      obtain ⟨o4, h⟩ := h
      refine x_aald (by decide +kernel : am_at co_X10_goOn 24 = some (1, .aaload)) (ia_96 o4.1 o4.2) ?_
      obtain ⟨o5, h⟩ := h
      refine x_callV (n := 2) (by decide +kernel : am_at co_X10_goOn 25 = some (3, .invokevirtual 62)) pq_10_62 pm_X7_copy rfl rfl rfl o5 h (x_kv fun M7 h => ?_)
      refine x_aload_n (by decide +kernel : am_at co_X10_goOn 28 = some (1, .aload_n 1)) rfl ?_
      refine x_aload_n (by decide +kernel : am_at co_X10_goOn 29 = some (1, .aload_n 0)) rfl ?_
      refine x_getF (by decide +kernel : am_at co_X10_goOn 30 = some (3, .getfield 13)) pq_10_13 (by decide) rfl ob_95 ?_
      refine x_top2 (show 95 + 1 = 96 from rfl) ?_
      refine x_iload_n (by decide +kernel : am_at co_X10_goOn 33 = some (1, .iload_n 2)) rfl ?_
      refine x_iconst (by decide +kernel : am_at co_X10_goOn 34 = some (1, .iconst 1)) ?_
      obtain ⟨o7, h⟩ := h
      refine x_iadd (by decide +kernel : am_at co_X10_goOn 35 = some (1, .iadd)) o7 ?_
      refine x_aald (by decide +kernel : am_at co_X10_goOn 36 = some (1, .aaload)) (ia_96 o3.1 o3.2) ?_
      refine x_iload (by decide +kernel : am_at co_X10_goOn 37 = some (2, .iload 4)) rfl ?_
      obtain ⟨o8, h⟩ := h
      refine x_callV (n := 3) (by decide +kernel : am_at co_X10_goOn 39 = some (3, .invokevirtual 91)) pq_10_91 pm_X2_enter rfl rfl rfl o8 h (x_k0 fun x10 M10 h => ?_)
      refine x_istore (L' := [(2, 95), (2, v1), (0, v2), (0, v3), (0, v4), (0, x10)]) (by decide +kernel : am_at co_X10_goOn 42 = some (2, .istore 5)) rfl ?_
      refine x_iload (by decide +kernel : am_at co_X10_goOn 44 = some (2, .iload 5)) rfl ?_
      refine x_iconst (by decide +kernel : am_at co_X10_goOn 46 = some (1, .iconst (-1))) ?_
      refine x_icmp (tgt := 98) (by decide +kernel : am_at co_X10_goOn 47 = some (3, .if_icmp .eq 51)) rfl Iff.rfl (fun c10 => ?_) (fun c10 => ?_)
      · have h := h.1 c10
        exact x_vret (by decide +kernel : am_at co_X10_goOn 98 = some (1, .return_)) h
      · have c10 := c10
        have h := h.2 c10
        refine x_aload_n (by decide +kernel : am_at co_X10_goOn 50 = some (1, .aload_n 0)) rfl ?_
        refine x_getF (by decide +kernel : am_at co_X10_goOn 51 = some (3, .getfield 19)) pq_10_19 (by decide) rfl ob_95 ?_
        refine x_top2 (show 95 + 24 = 119 from rfl) ?_
        refine x_iload_n (by decide +kernel : am_at co_X10_goOn 54 = some (1, .iload_n 2)) rfl ?_
        refine x_iload (by decide +kernel : am_at co_X10_goOn 55 = some (2, .iload 4)) rfl ?_
        refine x_if (tgt := 64) (by decide +kernel : am_at co_X10_goOn 57 = some (3, .ifCond .eq 7)) rfl Iff.rfl (fun c11 => ?_) (fun c11 => ?_)
        · have h := h.1 c11
          refine x_iconst (by decide +kernel : am_at co_X10_goOn 64 = some (1, .iconst 0)) ?_
          obtain ⟨o12, h⟩ := h
          refine x_iast (by decide +kernel : am_at co_X10_goOn 65 = some (1, .iastore)) (ow_119 o12.1 o12.2) ?_
          refine x_aload_n (by decide +kernel : am_at co_X10_goOn 66 = some (1, .aload_n 0)) rfl ?_
          refine x_aload_n (by decide +kernel : am_at co_X10_goOn 67 = some (1, .aload_n 1)) rfl ?_
          refine x_iload_n (by decide +kernel : am_at co_X10_goOn 68 = some (1, .iload_n 2)) rfl ?_
          refine x_iconst (by decide +kernel : am_at co_X10_goOn 69 = some (1, .iconst 1)) ?_
          obtain ⟨o13, h⟩ := h
          refine x_iadd (by decide +kernel : am_at co_X10_goOn 70 = some (1, .iadd)) o13 ?_
          refine x_aload_n (by decide +kernel : am_at co_X10_goOn 71 = some (1, .aload_n 0)) rfl ?_
          refine x_getf (by decide +kernel : am_at co_X10_goOn 72 = some (3, .getfield 33)) pq_10_33 rfl ob_95 ?_
          refine x_top0 (show (am_up M10 119 v2 0) 95 5 = M10 95 5 from by first | rfl | simp [am_up]) ?_
          refine x_if (tgt := 94) (by decide +kernel : am_at co_X10_goOn 75 = some (3, .ifCond .eq 19)) rfl Iff.rfl (fun c14 => ?_) (fun c14 => ?_)
          · have h := h.1 c14
            refine x_iconst (by decide +kernel : am_at co_X10_goOn 94 = some (1, .iconst 0)) ?_
            refine x_callV (n := 4) (by decide +kernel : am_at co_X10_goOn 95 = some (3, .invokevirtual 66)) pq_10_66 pm_X10_seek rfl rfl rfl ob_95 h (x_kv fun M16 h => ?_)
            exact x_vret (by decide +kernel : am_at co_X10_goOn 98 = some (1, .return_)) h
          · have c14 := c14
            have h := h.2 c14
            refine x_iload_n (by decide +kernel : am_at co_X10_goOn 78 = some (1, .iload_n 3)) rfl ?_
            refine x_aload_n (by decide +kernel : am_at co_X10_goOn 79 = some (1, .aload_n 0)) rfl ?_
            refine x_getF (by decide +kernel : am_at co_X10_goOn 80 = some (3, .getfield 13)) pq_10_13 (by decide) rfl ob_95 ?_
            refine x_top2 (show 95 + 1 = 96 from rfl) ?_
            refine x_iload_n (by decide +kernel : am_at co_X10_goOn 83 = some (1, .iload_n 2)) rfl ?_
            refine x_aald (by decide +kernel : am_at co_X10_goOn 84 = some (1, .aaload)) (ia_96 o4.1 o4.2) ?_
            refine x_iload (by decide +kernel : am_at co_X10_goOn 85 = some (2, .iload 5)) rfl ?_
            obtain ⟨o16, h⟩ := h
            refine x_callV (n := 2) (by decide +kernel : am_at co_X10_goOn 87 = some (3, .invokevirtual 95)) pq_10_95 pm_X7_at rfl rfl rfl o16 h (x_k0 fun x18 M18 h => ?_)
            obtain ⟨o18, h⟩ := h
            refine x_iadd (by decide +kernel : am_at co_X10_goOn 90 = some (1, .iadd)) o18 ?_
            refine x_goto (tgt := 95) (by decide +kernel : am_at co_X10_goOn 91 = some (3, .goto 4)) rfl ?_
            refine x_callV (n := 4) (by decide +kernel : am_at co_X10_goOn 95 = some (3, .invokevirtual 66)) pq_10_66 pm_X10_seek rfl rfl rfl ob_95 h (x_kv fun M20 h => ?_)
            exact x_vret (by decide +kernel : am_at co_X10_goOn 98 = some (1, .return_)) h
        · have c11 := c11
          have h := h.2 c11
          refine x_iconst (by decide +kernel : am_at co_X10_goOn 60 = some (1, .iconst 1)) ?_
          refine x_goto (tgt := 65) (by decide +kernel : am_at co_X10_goOn 61 = some (3, .goto 4)) rfl ?_
          obtain ⟨o20, h⟩ := h
          refine x_iast (by decide +kernel : am_at co_X10_goOn 65 = some (1, .iastore)) (ow_119 o20.1 o20.2) ?_
          refine x_aload_n (by decide +kernel : am_at co_X10_goOn 66 = some (1, .aload_n 0)) rfl ?_
          refine x_aload_n (by decide +kernel : am_at co_X10_goOn 67 = some (1, .aload_n 1)) rfl ?_
          refine x_iload_n (by decide +kernel : am_at co_X10_goOn 68 = some (1, .iload_n 2)) rfl ?_
          refine x_iconst (by decide +kernel : am_at co_X10_goOn 69 = some (1, .iconst 1)) ?_
          obtain ⟨o21, h⟩ := h
          refine x_iadd (by decide +kernel : am_at co_X10_goOn 70 = some (1, .iadd)) o21 ?_
          refine x_aload_n (by decide +kernel : am_at co_X10_goOn 71 = some (1, .aload_n 0)) rfl ?_
          refine x_getf (by decide +kernel : am_at co_X10_goOn 72 = some (3, .getfield 33)) pq_10_33 rfl ob_95 ?_
          refine x_top0 (show (am_up M10 119 v2 1) 95 5 = M10 95 5 from by first | rfl | simp [am_up]) ?_
          refine x_if (tgt := 94) (by decide +kernel : am_at co_X10_goOn 75 = some (3, .ifCond .eq 19)) rfl Iff.rfl (fun c22 => ?_) (fun c22 => ?_)
          · have h := h.1 c22
            refine x_iconst (by decide +kernel : am_at co_X10_goOn 94 = some (1, .iconst 0)) ?_
            refine x_callV (n := 4) (by decide +kernel : am_at co_X10_goOn 95 = some (3, .invokevirtual 66)) pq_10_66 pm_X10_seek rfl rfl rfl ob_95 h (x_kv fun M24 h => ?_)
            exact x_vret (by decide +kernel : am_at co_X10_goOn 98 = some (1, .return_)) h
          · have c22 := c22
            have h := h.2 c22
            refine x_iload_n (by decide +kernel : am_at co_X10_goOn 78 = some (1, .iload_n 3)) rfl ?_
            refine x_aload_n (by decide +kernel : am_at co_X10_goOn 79 = some (1, .aload_n 0)) rfl ?_
            refine x_getF (by decide +kernel : am_at co_X10_goOn 80 = some (3, .getfield 13)) pq_10_13 (by decide) rfl ob_95 ?_
            refine x_top2 (show 95 + 1 = 96 from rfl) ?_
            refine x_iload_n (by decide +kernel : am_at co_X10_goOn 83 = some (1, .iload_n 2)) rfl ?_
            refine x_aald (by decide +kernel : am_at co_X10_goOn 84 = some (1, .aaload)) (ia_96 o4.1 o4.2) ?_
            refine x_iload (by decide +kernel : am_at co_X10_goOn 85 = some (2, .iload 5)) rfl ?_
            obtain ⟨o24, h⟩ := h
            refine x_callV (n := 2) (by decide +kernel : am_at co_X10_goOn 87 = some (3, .invokevirtual 95)) pq_10_95 pm_X7_at rfl rfl rfl o24 h (x_k0 fun x26 M26 h => ?_)
            obtain ⟨o26, h⟩ := h
            refine x_iadd (by decide +kernel : am_at co_X10_goOn 90 = some (1, .iadd)) o26 ?_
            refine x_goto (tgt := 95) (by decide +kernel : am_at co_X10_goOn 91 = some (3, .goto 4)) rfl ?_
            refine x_callV (n := 4) (by decide +kernel : am_at co_X10_goOn 95 = some (3, .invokevirtual 66)) pq_10_66 pm_X10_seek rfl rfl rfl ob_95 h (x_kv fun M28 h => ?_)
            exact x_vret (by decide +kernel : am_at co_X10_goOn 98 = some (1, .return_)) h
    · have c1 := (Int.not_lt.mp c1)
      have h := h.2 c1
      exact x_vret (by decide +kernel : am_at co_X10_goOn 10 = some (1, .return_)) h
set_option maxRecDepth 20000 in
theorem bk_X10_findGuide_0 {d : Nat} {Q : am_Q} {M : am_M} {v1 v2 : Int} (h : am_cal pg d 71 [(2, 121), (2, v2)] sh_T M (am_cv sh_T fun M1 => am_g 10 0 co_X10_findGuide d Q 14 [(2, 95), (2, v1), (3, 0), (0, 11), (0, (-1)), (3, 0)] [] sh_T M1)) : am_g 10 0 co_X10_findGuide d Q 0 [(2, 95), (2, v1), (2, v2), (3, 0), (3, 0), (3, 0)] [] sh_T M := by
  refine x_aload_n (by decide +kernel : am_at co_X10_findGuide 0 = some (1, .aload_n 0)) rfl ?_
  refine x_getF (by decide +kernel : am_at co_X10_findGuide 1 = some (3, .getfield 40)) pq_10_40 (by decide) rfl ob_95 ?_
  refine x_top2 (show 95 + 26 = 121 from rfl) ?_
  refine x_aload_n (by decide +kernel : am_at co_X10_findGuide 4 = some (1, .aload_n 2)) rfl ?_
  refine x_callV (n := 2) (by decide +kernel : am_at co_X10_findGuide 5 = some (3, .invokevirtual 62)) pq_10_62 pm_X7_copy rfl rfl rfl ob_121 h (x_kv fun M1 h => ?_)
  refine x_bipush (by decide +kernel : am_at co_X10_findGuide 8 = some (2, .bipush 11)) ?_
  refine x_istore_n (L' := [(2, 95), (2, v1), (2, v2), (0, 11), (3, 0), (3, 0)]) (by decide +kernel : am_at co_X10_findGuide 10 = some (1, .istore_n 3)) rfl ?_
  refine x_iconst (by decide +kernel : am_at co_X10_findGuide 11 = some (1, .iconst (-1))) ?_
  refine x_istore (L' := [(2, 95), (2, v1), (2, v2), (0, 11), (0, (-1)), (3, 0)]) (by decide +kernel : am_at co_X10_findGuide 12 = some (2, .istore 4)) rfl ?_
  exact am_weak (lk (lk (ld (lk (lk (lk ln)))))) h
set_option maxRecDepth 20000 in
theorem bk_X10_findGuide_14 {d : Nat} {Q : am_Q} {M : am_M} {v1 v3 v4 : Int} (h : am_ob sh_T 2 v1 ∧ am_cal pg d 14 [(2, v1), (0, 2)] sh_T M (am_c0 sh_T fun x2 M2 => ((x2 ≤ v4 → ((10 < v3 → Q (some (0, (-1)), sh_T, M2)) ∧ (v3 ≤ 10 → Q (some (0, v3), sh_T, M2)))) ∧ (v4 < x2 → am_cal pg d 113 [(2, 95), (2, v1), (2, 121), (0, v3)] sh_T (am_up M2 121 2 v4) (am_c0 sh_T fun x5 M5 => ((x5 = (-1) → am_r (v4 + 1) ∧ am_g 10 0 co_X10_findGuide d Q 14 [(2, 95), (2, v1), (3, 0), (0, v3), (0, v4 + 1), (3, 0)] [] sh_T M5) ∧ (¬ x5 = (-1) → am_r (v4 + 1) ∧ am_g 10 0 co_X10_findGuide d Q 14 [(2, 95), (2, v1), (3, 0), (0, x5), (0, v4 + 1), (3, 0)] [] sh_T (am_up M5 95 7 v4)))))))) : am_g 10 0 co_X10_findGuide d Q 14 [(2, 95), (2, v1), (3, 0), (0, v3), (0, v4), (3, 0)] [] sh_T M := by
  refine x_iload (by decide +kernel : am_at co_X10_findGuide 14 = some (2, .iload 4)) rfl ?_
  refine x_aload_n (by decide +kernel : am_at co_X10_findGuide 16 = some (1, .aload_n 1)) rfl ?_
  refine x_iconst (by decide +kernel : am_at co_X10_findGuide 17 = some (1, .iconst 2)) ?_
  obtain ⟨o0, h⟩ := h
  refine x_callV (n := 2) (by decide +kernel : am_at co_X10_findGuide 18 = some (3, .invokevirtual 99)) pq_10_99 pm_X2_count rfl rfl rfl o0 h (x_k0 fun x2 M2 h => ?_)
  refine x_icmp (tgt := 66) (by decide +kernel : am_at co_X10_findGuide 21 = some (3, .if_icmp .ge 45)) rfl Iff.rfl (fun c2 => ?_) (fun c2 => ?_)
  · have h := h.1 c2
    refine x_iload_n (by decide +kernel : am_at co_X10_findGuide 66 = some (1, .iload_n 3)) rfl ?_
    refine x_bipush (by decide +kernel : am_at co_X10_findGuide 67 = some (2, .bipush 10)) ?_
    refine x_icmp (tgt := 76) (by decide +kernel : am_at co_X10_findGuide 69 = some (3, .if_icmp .gt 7)) rfl Iff.rfl (fun c3 => ?_) (fun c3 => ?_)
    · have h := h.1 c3
      refine x_iconst (by decide +kernel : am_at co_X10_findGuide 76 = some (1, .iconst (-1))) ?_
      exact x_iret (by decide +kernel : am_at co_X10_findGuide 77 = some (1, .ireturn)) h
    · have c3 := (Int.not_lt.mp c3)
      have h := h.2 c3
      refine x_iload_n (by decide +kernel : am_at co_X10_findGuide 72 = some (1, .iload_n 3)) rfl ?_
      refine x_goto (tgt := 77) (by decide +kernel : am_at co_X10_findGuide 73 = some (3, .goto 4)) rfl ?_
      exact x_iret (by decide +kernel : am_at co_X10_findGuide 77 = some (1, .ireturn)) h
  · have c2 := (Int.not_le.mp c2)
    have h := h.2 c2
    refine x_aload_n (by decide +kernel : am_at co_X10_findGuide 24 = some (1, .aload_n 0)) rfl ?_
    refine x_getF (by decide +kernel : am_at co_X10_findGuide 25 = some (3, .getfield 40)) pq_10_40 (by decide) rfl ob_95 ?_
    refine x_top2 (show 95 + 26 = 121 from rfl) ?_
    refine x_iload (by decide +kernel : am_at co_X10_findGuide 28 = some (2, .iload 4)) rfl ?_
    refine x_putf0 (by decide +kernel : am_at co_X10_findGuide 30 = some (3, .putfield 102)) pq_10_102 rfl ob_121 ?_
    refine x_aload_n (by decide +kernel : am_at co_X10_findGuide 33 = some (1, .aload_n 0)) rfl ?_
    refine x_aload_n (by decide +kernel : am_at co_X10_findGuide 34 = some (1, .aload_n 1)) rfl ?_
    refine x_aload_n (by decide +kernel : am_at co_X10_findGuide 35 = some (1, .aload_n 0)) rfl ?_
    refine x_getF (by decide +kernel : am_at co_X10_findGuide 36 = some (3, .getfield 40)) pq_10_40 (by decide) rfl ob_95 ?_
    refine x_top2 (show 95 + 26 = 121 from rfl) ?_
    refine x_iload_n (by decide +kernel : am_at co_X10_findGuide 39 = some (1, .iload_n 3)) rfl ?_
    refine x_callV (n := 4) (by decide +kernel : am_at co_X10_findGuide 40 = some (3, .invokevirtual 105)) pq_10_105 pm_X10_findSoonest rfl rfl rfl ob_95 h (x_k0 fun x5 M5 h => ?_)
    refine x_istore (L' := [(2, 95), (2, v1), (3, 0), (0, v3), (0, v4), (0, x5)]) (by decide +kernel : am_at co_X10_findGuide 43 = some (2, .istore 5)) rfl ?_
    refine x_iload (by decide +kernel : am_at co_X10_findGuide 45 = some (2, .iload 5)) rfl ?_
    refine x_iconst (by decide +kernel : am_at co_X10_findGuide 47 = some (1, .iconst (-1))) ?_
    refine x_icmp (tgt := 60) (by decide +kernel : am_at co_X10_findGuide 48 = some (3, .if_icmp .eq 12)) rfl Iff.rfl (fun c5 => ?_) (fun c5 => ?_)
    · have h := h.1 c5
      obtain ⟨o6, h⟩ := h
      refine x_iinc (L' := [(2, 95), (2, v1), (3, 0), (0, v3), (0, v4 + 1), (0, x5)]) (by decide +kernel : am_at co_X10_findGuide 60 = some (3, .iinc 4 1)) rfl o6 rfl ?_
      refine x_goto (tgt := 14) (by decide +kernel : am_at co_X10_findGuide 63 = some (3, .goto (-49))) rfl ?_
      exact am_weak (lk (lk (lk (lk (lk (ld ln)))))) h
    · have c5 := c5
      have h := h.2 c5
      refine x_iload (by decide +kernel : am_at co_X10_findGuide 51 = some (2, .iload 5)) rfl ?_
      refine x_istore_n (L' := [(2, 95), (2, v1), (3, 0), (0, x5), (0, v4), (0, x5)]) (by decide +kernel : am_at co_X10_findGuide 53 = some (1, .istore_n 3)) rfl ?_
      refine x_aload_n (by decide +kernel : am_at co_X10_findGuide 54 = some (1, .aload_n 0)) rfl ?_
      refine x_iload (by decide +kernel : am_at co_X10_findGuide 55 = some (2, .iload 4)) rfl ?_
      refine x_putf0 (by decide +kernel : am_at co_X10_findGuide 57 = some (3, .putfield 44)) pq_10_44 rfl ob_95 ?_
      obtain ⟨o7, h⟩ := h
      refine x_iinc (L' := [(2, 95), (2, v1), (3, 0), (0, x5), (0, v4 + 1), (0, x5)]) (by decide +kernel : am_at co_X10_findGuide 60 = some (3, .iinc 4 1)) rfl o7 rfl ?_
      refine x_goto (tgt := 14) (by decide +kernel : am_at co_X10_findGuide 63 = some (3, .goto (-49))) rfl ?_
      exact am_weak (lk (lk (lk (lk (lk (ld ln)))))) h
set_option maxRecDepth 20000 in
theorem bk_X10_findDays_0 {d : Nat} {Q : am_Q} {M : am_M} {v1 v2 v3 : Int} (h : am_g 10 0 co_X10_findDays d Q 12 [(2, 95), (2, v1), (2, v2), (0, v3), (0, 11), (0, 0), (3, 0), (3, 0)] [] sh_T (am_up M 95 12 0)) : am_g 10 0 co_X10_findDays d Q 0 [(2, 95), (2, v1), (2, v2), (0, v3), (3, 0), (3, 0), (3, 0), (3, 0)] [] sh_T M := by
  refine x_bipush (by decide +kernel : am_at co_X10_findDays 0 = some (2, .bipush 11)) ?_
  refine x_istore (L' := [(2, 95), (2, v1), (2, v2), (0, v3), (0, 11), (3, 0), (3, 0), (3, 0)]) (by decide +kernel : am_at co_X10_findDays 2 = some (2, .istore 4)) rfl ?_
  refine x_aload_n (by decide +kernel : am_at co_X10_findDays 4 = some (1, .aload_n 0)) rfl ?_
  refine x_iconst (by decide +kernel : am_at co_X10_findDays 5 = some (1, .iconst 0)) ?_
  refine x_putf0 (by decide +kernel : am_at co_X10_findDays 6 = some (3, .putfield 59)) pq_10_59 rfl ob_95 ?_
  refine x_iconst (by decide +kernel : am_at co_X10_findDays 9 = some (1, .iconst 0)) ?_
  refine x_istore (L' := [(2, 95), (2, v1), (2, v2), (0, v3), (0, 11), (0, 0), (3, 0), (3, 0)]) (by decide +kernel : am_at co_X10_findDays 10 = some (2, .istore 5)) rfl ?_
  exact am_weak (lk (lk (lk (lk (lk (lk (lk (lk ln)))))))) h
set_option maxRecDepth 20000 in
theorem bk_X10_findDays_12 {d : Nat} {Q : am_Q} {M : am_M} {v1 v2 v3 v4 v5 : Int} (h : ((24 ≤ v5 → ((10 < v4 → Q (some (0, (-1)), sh_T, M)) ∧ (v4 ≤ 10 → Q (some (0, v4), sh_T, M)))) ∧ (v5 < 24 → am_cal pg d 122 [(2, 95), (0, v3), (0, v5)] sh_T M (am_c0 sh_T fun x3 M3 => am_cal pg d 71 [(2, 123), (2, v2)] sh_T M3 (am_cv sh_T fun M4 => am_g 10 0 co_X10_findDays d Q 39 [(2, 95), (2, v1), (2, v2), (0, v3), (0, v4), (0, v5), (0, x3), (0, 0)] [] sh_T M4))))) : am_g 10 0 co_X10_findDays d Q 12 [(2, 95), (2, v1), (2, v2), (0, v3), (0, v4), (0, v5), (3, 0), (3, 0)] [] sh_T M := by
  refine x_iload (by decide +kernel : am_at co_X10_findDays 12 = some (2, .iload 5)) rfl ?_
  refine x_bipush (by decide +kernel : am_at co_X10_findDays 14 = some (2, .bipush 24)) ?_
  refine x_icmp (tgt := 141) (by decide +kernel : am_at co_X10_findDays 16 = some (3, .if_icmp .ge 125)) rfl Iff.rfl (fun c0 => ?_) (fun c0 => ?_)
  · have h := h.1 c0
    refine x_iload (by decide +kernel : am_at co_X10_findDays 141 = some (2, .iload 4)) rfl ?_
    refine x_bipush (by decide +kernel : am_at co_X10_findDays 143 = some (2, .bipush 10)) ?_
    refine x_icmp (tgt := 153) (by decide +kernel : am_at co_X10_findDays 145 = some (3, .if_icmp .gt 8)) rfl Iff.rfl (fun c1 => ?_) (fun c1 => ?_)
    · have h := h.1 c1
      refine x_iconst (by decide +kernel : am_at co_X10_findDays 153 = some (1, .iconst (-1))) ?_
      exact x_iret (by decide +kernel : am_at co_X10_findDays 154 = some (1, .ireturn)) h
    · have c1 := (Int.not_lt.mp c1)
      have h := h.2 c1
      refine x_iload (by decide +kernel : am_at co_X10_findDays 148 = some (2, .iload 4)) rfl ?_
      refine x_goto (tgt := 154) (by decide +kernel : am_at co_X10_findDays 150 = some (3, .goto 4)) rfl ?_
      exact x_iret (by decide +kernel : am_at co_X10_findDays 154 = some (1, .ireturn)) h
  · have c0 := (Int.not_le.mp c0)
    have h := h.2 c0
    refine x_aload_n (by decide +kernel : am_at co_X10_findDays 19 = some (1, .aload_n 0)) rfl ?_
    refine x_iload_n (by decide +kernel : am_at co_X10_findDays 20 = some (1, .iload_n 3)) rfl ?_
    refine x_iload (by decide +kernel : am_at co_X10_findDays 21 = some (2, .iload 5)) rfl ?_
    refine x_callV (n := 3) (by decide +kernel : am_at co_X10_findDays 23 = some (3, .invokevirtual 109)) pq_10_109 pm_X10_setOrder rfl rfl rfl ob_95 h (x_k0 fun x3 M3 h => ?_)
    refine x_istore (L' := [(2, 95), (2, v1), (2, v2), (0, v3), (0, v4), (0, v5), (0, x3), (3, 0)]) (by decide +kernel : am_at co_X10_findDays 26 = some (2, .istore 6)) rfl ?_
    refine x_aload_n (by decide +kernel : am_at co_X10_findDays 28 = some (1, .aload_n 0)) rfl ?_
    refine x_getF (by decide +kernel : am_at co_X10_findDays 29 = some (3, .getfield 47)) pq_10_47 (by decide) rfl ob_95 ?_
    refine x_top2 (show 95 + 28 = 123 from rfl) ?_
    refine x_aload_n (by decide +kernel : am_at co_X10_findDays 32 = some (1, .aload_n 2)) rfl ?_
    refine x_callV (n := 2) (by decide +kernel : am_at co_X10_findDays 33 = some (3, .invokevirtual 62)) pq_10_62 pm_X7_copy rfl rfl rfl ob_123 h (x_kv fun M4 h => ?_)
    refine x_iconst (by decide +kernel : am_at co_X10_findDays 36 = some (1, .iconst 0)) ?_
    refine x_istore (L' := [(2, 95), (2, v1), (2, v2), (0, v3), (0, v4), (0, v5), (0, x3), (0, 0)]) (by decide +kernel : am_at co_X10_findDays 37 = some (2, .istore 7)) rfl ?_
    exact am_weak (lk (lk (lk (lk (lk (lk (lk (lk ln)))))))) h
set_option maxRecDepth 20000 in
theorem bk_X10_findDays_39 {d : Nat} {Q : am_Q} {M : am_M} {v1 v2 v3 v4 v5 v6 v7 : Int} (h : ((v6 ≤ v7 → am_g 10 0 co_X10_findDays d Q 77 [(2, 95), (2, v1), (2, v2), (0, v3), (0, v4), (0, v5), (0, v6), (3, 0)] [] sh_T M) ∧ (v7 < v6 → ((4 ≤ v7 → am_g 10 0 co_X10_findDays d Q 77 [(2, 95), (2, v1), (2, v2), (0, v3), (0, v4), (0, v5), (0, v6), (3, 0)] [] sh_T M) ∧ (v7 < 4 → (0 ≤ v7 ∧ v7 < 4) ∧ am_ob sh_T 2 v1 ∧ am_cal pg d 35 [(2, v1), (2, 123), (0, M 125 v7)] sh_T M (am_cv sh_T fun M5 => am_r (v7 + 1) ∧ am_g 10 0 co_X10_findDays d Q 39 [(2, 95), (2, v1), (2, v2), (0, v3), (0, v4), (0, v5), (0, v6), (0, v7 + 1)] [] sh_T M5)))))) : am_g 10 0 co_X10_findDays d Q 39 [(2, 95), (2, v1), (2, v2), (0, v3), (0, v4), (0, v5), (0, v6), (0, v7)] [] sh_T M := by
  refine x_iload (by decide +kernel : am_at co_X10_findDays 39 = some (2, .iload 7)) rfl ?_
  refine x_iload (by decide +kernel : am_at co_X10_findDays 41 = some (2, .iload 6)) rfl ?_
  refine x_icmp (tgt := 77) (by decide +kernel : am_at co_X10_findDays 43 = some (3, .if_icmp .ge 34)) rfl Iff.rfl (fun c0 => ?_) (fun c0 => ?_)
  · have h := h.1 c0
    exact am_weak (lk (lk (lk (lk (lk (lk (lk (ld ln)))))))) h
  · have c0 := (Int.not_le.mp c0)
    have h := h.2 c0
    refine x_iload (by decide +kernel : am_at co_X10_findDays 46 = some (2, .iload 7)) rfl ?_
    refine x_aload_n (by decide +kernel : am_at co_X10_findDays 48 = some (1, .aload_n 0)) rfl ?_
    refine x_getF (by decide +kernel : am_at co_X10_findDays 49 = some (3, .getfield 50)) pq_10_50 (by decide) rfl ob_95 ?_
    refine x_top2 (show 95 + 30 = 125 from rfl) ?_
    refine x_alen (by decide +kernel : am_at co_X10_findDays 52 = some (1, .arraylength)) (n := 4) rfl ?_
    refine x_top0 (show ((4 : Nat) : Int) = 4 from rfl) ?_
    refine x_icmp (tgt := 77) (by decide +kernel : am_at co_X10_findDays 53 = some (3, .if_icmp .ge 24)) rfl Iff.rfl (fun c1 => ?_) (fun c1 => ?_)
    · have h := h.1 c1
      exact am_weak (lk (lk (lk (lk (lk (lk (lk (ld ln)))))))) h
    · have c1 := (Int.not_le.mp c1)
      have h := h.2 c1
      refine x_aload_n (by decide +kernel : am_at co_X10_findDays 56 = some (1, .aload_n 1)) rfl ?_
      refine x_aload_n (by decide +kernel : am_at co_X10_findDays 57 = some (1, .aload_n 0)) rfl ?_
      refine x_getF (by decide +kernel : am_at co_X10_findDays 58 = some (3, .getfield 47)) pq_10_47 (by decide) rfl ob_95 ?_
      refine x_top2 (show 95 + 28 = 123 from rfl) ?_
      refine x_aload_n (by decide +kernel : am_at co_X10_findDays 61 = some (1, .aload_n 0)) rfl ?_
      refine x_getF (by decide +kernel : am_at co_X10_findDays 62 = some (3, .getfield 50)) pq_10_50 (by decide) rfl ob_95 ?_
      refine x_top2 (show 95 + 30 = 125 from rfl) ?_
      refine x_iload (by decide +kernel : am_at co_X10_findDays 65 = some (2, .iload 7)) rfl ?_
      obtain ⟨o2, h⟩ := h
      refine x_iald (by decide +kernel : am_at co_X10_findDays 67 = some (1, .iaload)) (ia_125 o2.1 o2.2) ?_
      obtain ⟨o3, h⟩ := h
      refine x_callV (n := 3) (by decide +kernel : am_at co_X10_findDays 68 = some (3, .invokevirtual 113)) pq_10_113 pm_X2_meetByDay rfl rfl rfl o3 h (x_kv fun M5 h => ?_)
      obtain ⟨o5, h⟩ := h
      refine x_iinc (L' := [(2, 95), (2, v1), (2, v2), (0, v3), (0, v4), (0, v5), (0, v6), (0, v7 + 1)]) (by decide +kernel : am_at co_X10_findDays 71 = some (3, .iinc 7 1)) rfl o5 rfl ?_
      refine x_goto (tgt := 39) (by decide +kernel : am_at co_X10_findDays 74 = some (3, .goto (-35))) rfl ?_
      exact am_weak (lk (lk (lk (lk (lk (lk (lk (lk ln)))))))) h
set_option maxRecDepth 20000 in
theorem bk_X10_findDays_77 {d : Nat} {Q : am_Q} {M : am_M} {v1 v2 v3 v4 v5 v6 : Int} (h : ((v6 = (-1) → am_g 10 0 co_X10_findDays d Q 94 [(2, 95), (2, v1), (2, v2), (0, v3), (0, v4), (0, v5), (3, 0), (3, 0)] [] sh_T M) ∧ (¬ v6 = (-1) → am_cal pg d 124 [(2, 95), (2, 123)] sh_T M (am_c0 sh_T fun x2 M2 => ((x2 = 0 → am_cal pg d 113 [(2, 95), (2, v1), (2, 123), (0, v4)] sh_T M2 (am_c0 sh_T fun x4 M4 => ((x4 = (-1) → am_g 10 0 co_X10_findDays d Q 135 [(2, 95), (2, v1), (2, v2), (0, v3), (0, v4), (0, v5), (3, 0), (3, 0)] [] sh_T M4) ∧ (¬ x4 = (-1) → am_cp sh_T 125 0 126 0 4 ∧ am_g 10 0 co_X10_findDays d Q 135 [(2, 95), (2, v1), (2, v2), (0, v3), (0, x4), (0, v5), (3, 0), (3, 0)] [] sh_T (am_cpy M4 125 0 126 0 4))))) ∧ (¬ x2 = 0 → am_g 10 0 co_X10_findDays d Q 94 [(2, 95), (2, v1), (2, v2), (0, v3), (0, v4), (0, v5), (3, 0), (3, 0)] [] sh_T M2)))))) : am_g 10 0 co_X10_findDays d Q 77 [(2, 95), (2, v1), (2, v2), (0, v3), (0, v4), (0, v5), (0, v6), (3, 0)] [] sh_T M := by
  refine x_iload (by decide +kernel : am_at co_X10_findDays 77 = some (2, .iload 6)) rfl ?_
  refine x_iconst (by decide +kernel : am_at co_X10_findDays 79 = some (1, .iconst (-1))) ?_
  refine x_icmp (tgt := 94) (by decide +kernel : am_at co_X10_findDays 80 = some (3, .if_icmp .eq 14)) rfl Iff.rfl (fun c0 => ?_) (fun c0 => ?_)
  · have h := h.1 c0
    exact am_weak (lk (lk (lk (lk (lk (lk (ld (lk ln)))))))) h
  · have c0 := c0
    have h := h.2 c0
    refine x_aload_n (by decide +kernel : am_at co_X10_findDays 83 = some (1, .aload_n 0)) rfl ?_
    refine x_aload_n (by decide +kernel : am_at co_X10_findDays 84 = some (1, .aload_n 0)) rfl ?_
    refine x_getF (by decide +kernel : am_at co_X10_findDays 85 = some (3, .getfield 47)) pq_10_47 (by decide) rfl ob_95 ?_
    refine x_top2 (show 95 + 28 = 123 from rfl) ?_
    refine x_callV (n := 2) (by decide +kernel : am_at co_X10_findDays 88 = some (3, .invokevirtual 117)) pq_10_117 pm_X10_isEndKnown rfl rfl rfl ob_95 h (x_k0 fun x2 M2 h => ?_)
    refine x_if (tgt := 98) (by decide +kernel : am_at co_X10_findDays 91 = some (3, .ifCond .eq 7)) rfl Iff.rfl (fun c2 => ?_) (fun c2 => ?_)
    · have h := h.1 c2
      refine x_aload_n (by decide +kernel : am_at co_X10_findDays 98 = some (1, .aload_n 0)) rfl ?_
      refine x_aload_n (by decide +kernel : am_at co_X10_findDays 99 = some (1, .aload_n 1)) rfl ?_
      refine x_aload_n (by decide +kernel : am_at co_X10_findDays 100 = some (1, .aload_n 0)) rfl ?_
      refine x_getF (by decide +kernel : am_at co_X10_findDays 101 = some (3, .getfield 47)) pq_10_47 (by decide) rfl ob_95 ?_
      refine x_top2 (show 95 + 28 = 123 from rfl) ?_
      refine x_iload (by decide +kernel : am_at co_X10_findDays 104 = some (2, .iload 4)) rfl ?_
      refine x_callV (n := 4) (by decide +kernel : am_at co_X10_findDays 106 = some (3, .invokevirtual 105)) pq_10_105 pm_X10_findSoonest rfl rfl rfl ob_95 h (x_k0 fun x4 M4 h => ?_)
      refine x_istore (L' := [(2, 95), (2, v1), (2, v2), (0, v3), (0, v4), (0, v5), (0, v6), (0, x4)]) (by decide +kernel : am_at co_X10_findDays 109 = some (2, .istore 7)) rfl ?_
      refine x_iload (by decide +kernel : am_at co_X10_findDays 111 = some (2, .iload 7)) rfl ?_
      refine x_iconst (by decide +kernel : am_at co_X10_findDays 113 = some (1, .iconst (-1))) ?_
      refine x_icmp (tgt := 135) (by decide +kernel : am_at co_X10_findDays 114 = some (3, .if_icmp .eq 21)) rfl Iff.rfl (fun c4 => ?_) (fun c4 => ?_)
      · have h := h.1 c4
        exact am_weak (lk (lk (lk (lk (lk (lk (ld (ld ln)))))))) h
      · have c4 := c4
        have h := h.2 c4
        refine x_iload (by decide +kernel : am_at co_X10_findDays 117 = some (2, .iload 7)) rfl ?_
        refine x_istore (L' := [(2, 95), (2, v1), (2, v2), (0, v3), (0, x4), (0, v5), (0, v6), (0, x4)]) (by decide +kernel : am_at co_X10_findDays 119 = some (2, .istore 4)) rfl ?_
        refine x_aload_n (by decide +kernel : am_at co_X10_findDays 121 = some (1, .aload_n 0)) rfl ?_
        refine x_getF (by decide +kernel : am_at co_X10_findDays 122 = some (3, .getfield 50)) pq_10_50 (by decide) rfl ob_95 ?_
        refine x_top2 (show 95 + 30 = 125 from rfl) ?_
        refine x_iconst (by decide +kernel : am_at co_X10_findDays 125 = some (1, .iconst 0)) ?_
        refine x_aload_n (by decide +kernel : am_at co_X10_findDays 126 = some (1, .aload_n 0)) rfl ?_
        refine x_getF (by decide +kernel : am_at co_X10_findDays 127 = some (3, .getfield 53)) pq_10_53 (by decide) rfl ob_95 ?_
        refine x_top2 (show 95 + 31 = 126 from rfl) ?_
        refine x_iconst (by decide +kernel : am_at co_X10_findDays 130 = some (1, .iconst 0)) ?_
        refine x_iconst (by decide +kernel : am_at co_X10_findDays 131 = some (1, .iconst 4)) ?_
        obtain ⟨o5, h⟩ := h
        refine x_ext _ (Or.inl rfl) (by decide +kernel : am_at co_X10_findDays 132 = some (3, .invokestatic 81)) pq_10_81 (by decide) (show am_ext pg 20 _ sh_T _ _ from ⟨o5, ?_⟩)
        exact am_weak (lk (lk (lk (lk (lk (lk (ld (ld ln)))))))) h
    · have c2 := c2
      have h := h.2 c2
      exact am_weak (lk (lk (lk (lk (lk (lk (ld (lk ln)))))))) h
set_option maxRecDepth 20000 in
theorem bk_X10_findDays_94 {d : Nat} {Q : am_Q} {M : am_M} {v1 v2 v3 v4 v5 : Int} (h : am_g 10 0 co_X10_findDays d Q 135 [(2, 95), (2, v1), (2, v2), (0, v3), (0, v4), (0, v5), (3, 0), (3, 0)] [] sh_T M) : am_g 10 0 co_X10_findDays d Q 94 [(2, 95), (2, v1), (2, v2), (0, v3), (0, v4), (0, v5), (3, 0), (3, 0)] [] sh_T M := by
  refine x_iconst (by decide +kernel : am_at co_X10_findDays 94 = some (1, .iconst (-1))) ?_
  refine x_goto (tgt := 109) (by decide +kernel : am_at co_X10_findDays 95 = some (3, .goto 14)) rfl ?_
  refine x_istore (L' := [(2, 95), (2, v1), (2, v2), (0, v3), (0, v4), (0, v5), (3, 0), (0, (-1))]) (by decide +kernel : am_at co_X10_findDays 109 = some (2, .istore 7)) rfl ?_
  refine x_iload (by decide +kernel : am_at co_X10_findDays 111 = some (2, .iload 7)) rfl ?_
  refine x_iconst (by decide +kernel : am_at co_X10_findDays 113 = some (1, .iconst (-1))) ?_
  refine x_icmp (tgt := 135) (by decide +kernel : am_at co_X10_findDays 114 = some (3, .if_icmp .eq 21)) rfl Iff.rfl (fun q => ?_) (fun q => absurd (show (-1 : Int) = (-1 : Int) by decide) q)
  exact am_weak (lk (lk (lk (lk (lk (lk (lk (ld ln)))))))) h
set_option maxRecDepth 20000 in
theorem bk_X10_findDays_135 {d : Nat} {Q : am_Q} {M : am_M} {v1 v2 v3 v4 v5 : Int} (h : am_r (v5 + 1) ∧ am_g 10 0 co_X10_findDays d Q 12 [(2, 95), (2, v1), (2, v2), (0, v3), (0, v4), (0, v5 + 1), (3, 0), (3, 0)] [] sh_T M) : am_g 10 0 co_X10_findDays d Q 135 [(2, 95), (2, v1), (2, v2), (0, v3), (0, v4), (0, v5), (3, 0), (3, 0)] [] sh_T M := by
  obtain ⟨o0, h⟩ := h
  refine x_iinc (L' := [(2, 95), (2, v1), (2, v2), (0, v3), (0, v4), (0, v5 + 1), (3, 0), (3, 0)]) (by decide +kernel : am_at co_X10_findDays 135 = some (3, .iinc 5 1)) rfl o0 rfl ?_
  refine x_goto (tgt := 12) (by decide +kernel : am_at co_X10_findDays 138 = some (3, .goto (-126))) rfl ?_
  exact am_weak (lk (lk (lk (lk (lk (lk (lk (lk ln)))))))) h
