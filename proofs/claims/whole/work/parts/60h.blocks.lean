/-! blocks (printed) -/
set_option maxRecDepth 20000 in
theorem bk_X12_qGoesOn_0 {d : Nat} {Q : am_Q} {M : am_M} (h : ((¬ M 152 5 = 0 → am_g 12 5 co_X12_qGoesOn d Q 122 [(2, 152), (3, 0)] [] sh_T M) ∧ (M 152 5 = 0 → am_cal pg d 175 [(2, 152)] sh_T M (am_c0 sh_T fun x2 M2 => ((¬ x2 = 41 → am_g 12 5 co_X12_qGoesOn d Q 122 [(2, 152), (3, 0)] [] sh_T M2) ∧ (x2 = 41 → am_cal pg d 282 [(2, 152)] sh_T M2 (am_c0 sh_T fun x4 M4 => ((x4 = 20 → am_g 12 5 co_X12_qGoesOn d Q 43 [(2, 152), (3, 0)] [] sh_T M4) ∧ (¬ x4 = 20 → am_cal pg d 282 [(2, 152)] sh_T M4 (am_c0 sh_T fun x6 M6 => ((x6 = 23 → am_g 12 5 co_X12_qGoesOn d Q 43 [(2, 152), (3, 0)] [] sh_T M6) ∧ (¬ x6 = 23 → am_cal pg d 282 [(2, 152)] sh_T M6 (am_c0 sh_T fun x8 M8 => ((¬ x8 = 24 → am_g 12 5 co_X12_qGoesOn d Q 122 [(2, 152), (3, 0)] [] sh_T M8) ∧ (x8 = 24 → am_g 12 5 co_X12_qGoesOn d Q 43 [(2, 152), (3, 0)] [] sh_T M8))))))))))))))) : am_g 12 5 co_X12_qGoesOn d Q 0 [(2, 152), (3, 0)] [] sh_T M := by
  refine x_aload_n (by decide +kernel : am_at co_X12_qGoesOn 0 = some (1, .aload_n 0)) rfl ?_
  refine x_getf (by decide +kernel : am_at co_X12_qGoesOn 1 = some (3, .getfield 209)) pq_12_209 rfl ob_152 ?_
  refine x_if (tgt := 122) (by decide +kernel : am_at co_X12_qGoesOn 4 = some (3, .ifCond .ne 118)) rfl Iff.rfl (fun c0 => ?_) (fun c0 => ?_)
  · have h := h.1 c0
    exact am_weak (lk (lk ln)) h
  · have c0 := (Classical.not_not.mp c0)
    have h := h.2 c0
    refine x_aload_n (by decide +kernel : am_at co_X12_qGoesOn 7 = some (1, .aload_n 0)) rfl ?_
    refine x_callV (n := 1) (by decide +kernel : am_at co_X12_qGoesOn 8 = some (3, .invokevirtual 221)) pq_12_221 pm_X12_look rfl rfl rfl ob_152 h (x_k0 fun x2 M2 h => ?_)
    refine x_bipush (by decide +kernel : am_at co_X12_qGoesOn 11 = some (2, .bipush 41)) ?_
    refine x_icmp (tgt := 122) (by decide +kernel : am_at co_X12_qGoesOn 13 = some (3, .if_icmp .ne 109)) rfl Iff.rfl (fun c2 => ?_) (fun c2 => ?_)
    · have h := h.1 c2
      exact am_weak (lk (lk ln)) h
    · have c2 := (Classical.not_not.mp c2)
      have h := h.2 c2
      refine x_aload_n (by decide +kernel : am_at co_X12_qGoesOn 16 = some (1, .aload_n 0)) rfl ?_
      refine x_callV (n := 1) (by decide +kernel : am_at co_X12_qGoesOn 17 = some (3, .invokevirtual 612)) pq_12_612 pm_X12_qBracket rfl rfl rfl ob_152 h (x_k0 fun x4 M4 h => ?_)
      refine x_bipush (by decide +kernel : am_at co_X12_qGoesOn 20 = some (2, .bipush 20)) ?_
      refine x_icmp (tgt := 43) (by decide +kernel : am_at co_X12_qGoesOn 22 = some (3, .if_icmp .eq 21)) rfl Iff.rfl (fun c4 => ?_) (fun c4 => ?_)
      · have h := h.1 c4
        exact am_weak (lk (lk ln)) h
      · have c4 := c4
        have h := h.2 c4
        refine x_aload_n (by decide +kernel : am_at co_X12_qGoesOn 25 = some (1, .aload_n 0)) rfl ?_
        refine x_callV (n := 1) (by decide +kernel : am_at co_X12_qGoesOn 26 = some (3, .invokevirtual 612)) pq_12_612 pm_X12_qBracket rfl rfl rfl ob_152 h (x_k0 fun x6 M6 h => ?_)
        refine x_bipush (by decide +kernel : am_at co_X12_qGoesOn 29 = some (2, .bipush 23)) ?_
        refine x_icmp (tgt := 43) (by decide +kernel : am_at co_X12_qGoesOn 31 = some (3, .if_icmp .eq 12)) rfl Iff.rfl (fun c6 => ?_) (fun c6 => ?_)
        · have h := h.1 c6
          exact am_weak (lk (lk ln)) h
        · have c6 := c6
          have h := h.2 c6
          refine x_aload_n (by decide +kernel : am_at co_X12_qGoesOn 34 = some (1, .aload_n 0)) rfl ?_
          refine x_callV (n := 1) (by decide +kernel : am_at co_X12_qGoesOn 35 = some (3, .invokevirtual 612)) pq_12_612 pm_X12_qBracket rfl rfl rfl ob_152 h (x_k0 fun x8 M8 h => ?_)
          refine x_bipush (by decide +kernel : am_at co_X12_qGoesOn 38 = some (2, .bipush 24)) ?_
          refine x_icmp (tgt := 122) (by decide +kernel : am_at co_X12_qGoesOn 40 = some (3, .if_icmp .ne 82)) rfl Iff.rfl (fun c8 => ?_) (fun c8 => ?_)
          · have h := h.1 c8
            exact am_weak (lk (lk ln)) h
          · have c8 := (Classical.not_not.mp c8)
            have h := h.2 c8
            exact am_weak (lk (lk ln)) h
set_option maxRecDepth 20000 in
theorem bk_X12_qGoesOn_43 {d : Nat} {Q : am_Q} {M : am_M} (h : am_r ((M 152 2) + 1) ∧ am_cal pg d 283 [(2, 152)] sh_T (am_up M 152 2 ((M 152 2) + 1)) (am_cv sh_T fun M2 => am_r ((M2 152 85) - 1) ∧ am_r ((M2 152 86) - 1) ∧ (0 ≤ (M2 152 85) - 1 ∧ (M2 152 85) - 1 < 1700) ∧ ((M2 212 ((M2 152 85) - 1) = 20 → am_g 12 5 co_X12_qGoesOn d Q 115 [(2, 152), (3, 0)] [] sh_T (am_up (am_up M2 152 85 ((M2 152 85) - 1)) 152 86 ((M2 152 86) - 1))) ∧ (¬ M2 212 ((M2 152 85) - 1) = 20 → ((¬ M2 212 ((M2 152 85) - 1) = 23 → am_cal pg d 277 [(2, 152), (0, 6)] sh_T (am_up (am_up M2 152 85 ((M2 152 85) - 1)) 152 86 ((M2 152 86) - 1)) (am_cv sh_T fun M8 => am_g 12 5 co_X12_qGoesOn d Q 115 [(2, 152), (3, 0)] [] sh_T M8)) ∧ (M2 212 ((M2 152 85) - 1) = 23 → am_cal pg d 277 [(2, 152), (0, 5)] sh_T (am_up (am_up M2 152 85 ((M2 152 85) - 1)) 152 86 ((M2 152 86) - 1)) (am_cv sh_T fun M9 => am_g 12 5 co_X12_qGoesOn d Q 115 [(2, 152), (3, 0)] [] sh_T M9))))))) : am_g 12 5 co_X12_qGoesOn d Q 43 [(2, 152), (3, 0)] [] sh_T M := by
  refine x_aload_n (by decide +kernel : am_at co_X12_qGoesOn 43 = some (1, .aload_n 0)) rfl ?_
  refine x_dup2' (by decide +kernel : am_at co_X12_qGoesOn 44 = some (1, .dup)) ?_
  refine x_getf (by decide +kernel : am_at co_X12_qGoesOn 45 = some (3, .getfield 215)) pq_12_215 rfl ob_152 ?_
  refine x_iconst (by decide +kernel : am_at co_X12_qGoesOn 48 = some (1, .iconst 1)) ?_
  obtain ⟨o0, h⟩ := h
  refine x_iadd (by decide +kernel : am_at co_X12_qGoesOn 49 = some (1, .iadd)) o0 ?_
  refine x_putf0 (by decide +kernel : am_at co_X12_qGoesOn 50 = some (3, .putfield 215)) pq_12_215 rfl ob_152 ?_
  refine x_aload_n (by decide +kernel : am_at co_X12_qGoesOn 53 = some (1, .aload_n 0)) rfl ?_
  refine x_callV (n := 1) (by decide +kernel : am_at co_X12_qGoesOn 54 = some (3, .invokevirtual 615)) pq_12_615 pm_X12_qDropsToBracket rfl rfl rfl ob_152 h (x_kv fun M2 h => ?_)
  refine x_aload_n (by decide +kernel : am_at co_X12_qGoesOn 57 = some (1, .aload_n 0)) rfl ?_
  refine x_dup2' (by decide +kernel : am_at co_X12_qGoesOn 58 = some (1, .dup)) ?_
  refine x_getf (by decide +kernel : am_at co_X12_qGoesOn 59 = some (3, .getfield 582)) pq_12_582 rfl ob_152 ?_
  refine x_iconst (by decide +kernel : am_at co_X12_qGoesOn 62 = some (1, .iconst 1)) ?_
  obtain ⟨o2, h⟩ := h
  refine x_isub (by decide +kernel : am_at co_X12_qGoesOn 63 = some (1, .isub)) o2 ?_
  refine x_putf0 (by decide +kernel : am_at co_X12_qGoesOn 64 = some (3, .putfield 582)) pq_12_582 rfl ob_152 ?_
  refine x_aload_n (by decide +kernel : am_at co_X12_qGoesOn 67 = some (1, .aload_n 0)) rfl ?_
  refine x_dup2' (by decide +kernel : am_at co_X12_qGoesOn 68 = some (1, .dup)) ?_
  refine x_getf (by decide +kernel : am_at co_X12_qGoesOn 69 = some (3, .getfield 579)) pq_12_579 rfl ob_152 ?_
  refine x_top0 (show (am_up M2 152 85 ((M2 152 85) - 1)) 152 86 = M2 152 86 from by first | rfl | simp [am_up]) ?_
  refine x_iconst (by decide +kernel : am_at co_X12_qGoesOn 72 = some (1, .iconst 1)) ?_
  obtain ⟨o3, h⟩ := h
  refine x_isub (by decide +kernel : am_at co_X12_qGoesOn 73 = some (1, .isub)) o3 ?_
  refine x_putf0 (by decide +kernel : am_at co_X12_qGoesOn 74 = some (3, .putfield 579)) pq_12_579 rfl ob_152 ?_
  refine x_aload_n (by decide +kernel : am_at co_X12_qGoesOn 77 = some (1, .aload_n 0)) rfl ?_
  refine x_getF (by decide +kernel : am_at co_X12_qGoesOn 78 = some (3, .getfield 197)) pq_12_197 (by decide) rfl ob_152 ?_
  refine x_top2 (show 152 + 60 = 212 from rfl) ?_
  refine x_aload_n (by decide +kernel : am_at co_X12_qGoesOn 81 = some (1, .aload_n 0)) rfl ?_
  refine x_getf (by decide +kernel : am_at co_X12_qGoesOn 82 = some (3, .getfield 582)) pq_12_582 rfl ob_152 ?_
  refine x_top0 (show (am_up (am_up M2 152 85 ((M2 152 85) - 1)) 152 86 ((M2 152 86) - 1)) 152 85 = (M2 152 85) - 1 from by first | rfl | simp [am_up]) ?_
  obtain ⟨o4, h⟩ := h
  refine x_iald (by decide +kernel : am_at co_X12_qGoesOn 85 = some (1, .iaload)) (ia_212 o4.1 o4.2) ?_
  refine x_top0 (show (am_up (am_up M2 152 85 ((M2 152 85) - 1)) 152 86 ((M2 152 86) - 1)) 212 ((M2 152 85) - 1) = M2 212 ((M2 152 85) - 1) from by first | rfl | simp [am_up]) ?_
  refine x_bipush (by decide +kernel : am_at co_X12_qGoesOn 86 = some (2, .bipush 20)) ?_
  refine x_icmp (tgt := 115) (by decide +kernel : am_at co_X12_qGoesOn 88 = some (3, .if_icmp .eq 27)) rfl Iff.rfl (fun c5 => ?_) (fun c5 => ?_)
  · have h := h.1 c5
    exact am_weak (lk (lk ln)) h
  · have c5 := c5
    have h := h.2 c5
    refine x_aload_n (by decide +kernel : am_at co_X12_qGoesOn 91 = some (1, .aload_n 0)) rfl ?_
    refine x_aload_n (by decide +kernel : am_at co_X12_qGoesOn 92 = some (1, .aload_n 0)) rfl ?_
    refine x_getF (by decide +kernel : am_at co_X12_qGoesOn 93 = some (3, .getfield 197)) pq_12_197 (by decide) rfl ob_152 ?_
    refine x_top2 (show 152 + 60 = 212 from rfl) ?_
    refine x_aload_n (by decide +kernel : am_at co_X12_qGoesOn 96 = some (1, .aload_n 0)) rfl ?_
    refine x_getf (by decide +kernel : am_at co_X12_qGoesOn 97 = some (3, .getfield 582)) pq_12_582 rfl ob_152 ?_
    refine x_top0 (show (am_up (am_up M2 152 85 ((M2 152 85) - 1)) 152 86 ((M2 152 86) - 1)) 152 85 = (M2 152 85) - 1 from by first | rfl | simp [am_up]) ?_
    refine x_iald (by decide +kernel : am_at co_X12_qGoesOn 100 = some (1, .iaload)) (ia_212 o4.1 o4.2) ?_
    refine x_top0 (show (am_up (am_up M2 152 85 ((M2 152 85) - 1)) 152 86 ((M2 152 86) - 1)) 212 ((M2 152 85) - 1) = M2 212 ((M2 152 85) - 1) from by first | rfl | simp [am_up]) ?_
    refine x_bipush (by decide +kernel : am_at co_X12_qGoesOn 101 = some (2, .bipush 23)) ?_
    refine x_icmp (tgt := 110) (by decide +kernel : am_at co_X12_qGoesOn 103 = some (3, .if_icmp .ne 7)) rfl Iff.rfl (fun c6 => ?_) (fun c6 => ?_)
    · have h := h.1 c6
      refine x_bipush (by decide +kernel : am_at co_X12_qGoesOn 110 = some (2, .bipush 6)) ?_
      refine x_callV (n := 2) (by decide +kernel : am_at co_X12_qGoesOn 112 = some (3, .invokevirtual 585)) pq_12_585 pm_X12_qCode rfl rfl rfl ob_152 h (x_kv fun M8 h => ?_)
      exact am_weak (lk (lk ln)) h
    · have c6 := (Classical.not_not.mp c6)
      have h := h.2 c6
      refine x_iconst (by decide +kernel : am_at co_X12_qGoesOn 106 = some (1, .iconst 5)) ?_
      refine x_goto (tgt := 112) (by decide +kernel : am_at co_X12_qGoesOn 107 = some (3, .goto 5)) rfl ?_
      refine x_callV (n := 2) (by decide +kernel : am_at co_X12_qGoesOn 112 = some (3, .invokevirtual 585)) pq_12_585 pm_X12_qCode rfl rfl rfl ob_152 h (x_kv fun M9 h => ?_)
      exact am_weak (lk (lk ln)) h
set_option maxRecDepth 20000 in
theorem bk_X12_qGoesOn_115 {d : Nat} {Q : am_Q} {M : am_M} (h : am_cal pg d 287 [(2, 152)] sh_T M (am_cv sh_T fun M1 => am_g 12 5 co_X12_qGoesOn d Q 0 [(2, 152), (3, 0)] [] sh_T M1)) : am_g 12 5 co_X12_qGoesOn d Q 115 [(2, 152), (3, 0)] [] sh_T M := by
  refine x_aload_n (by decide +kernel : am_at co_X12_qGoesOn 115 = some (1, .aload_n 0)) rfl ?_
  refine x_callV (n := 1) (by decide +kernel : am_at co_X12_qGoesOn 116 = some (3, .invokevirtual 609)) pq_12_609 pm_X12_qEndsPart rfl rfl rfl ob_152 h (x_kv fun M1 h => ?_)
  refine x_goto (tgt := 0) (by decide +kernel : am_at co_X12_qGoesOn 119 = some (3, .goto (-119))) rfl ?_
  exact am_weak (lk (lk ln)) h
set_option maxRecDepth 20000 in
theorem bk_X12_qGoesOn_122 {d : Nat} {Q : am_Q} {M : am_M} (h : am_cal pg d 179 [(2, 152), (0, 42)] sh_T M (am_c0 sh_T fun x1 M1 => ((¬ x1 = 0 → am_g 12 5 co_X12_qGoesOn d Q 140 [(2, 152), (3, 0)] [] sh_T M1) ∧ (x1 = 0 → am_cal pg d 179 [(2, 152), (0, 47)] sh_T M1 (am_c0 sh_T fun x3 M3 => ((x3 = 0 → am_cal pg d 179 [(2, 152), (0, 43)] sh_T M3 (am_c0 sh_T fun x5 M5 => ((¬ x5 = 0 → am_g 12 5 co_X12_qGoesOn d Q 225 [(2, 152), (3, 0)] [] sh_T M5) ∧ (x5 = 0 → am_cal pg d 179 [(2, 152), (0, 45)] sh_T M5 (am_c0 sh_T fun x7 M7 => ((x7 = 0 → am_cal pg d 282 [(2, 152)] sh_T M7 (am_c0 sh_T fun x9 M9 => ((x9 = 21 → am_g 12 5 co_X12_qGoesOn d Q 326 [(2, 152), (3, 0)] [] sh_T M9) ∧ (¬ x9 = 21 → am_cal pg d 282 [(2, 152)] sh_T M9 (am_c0 sh_T fun x11 M11 => ((¬ x11 = 22 → am_cal pg d 282 [(2, 152)] sh_T M11 (am_c0 sh_T fun x13 M13 => ((x13 = (-1) → am_g 12 5 co_X12_qGoesOn d Q 386 [(3, 0), (3, 0)] [] sh_T M13) ∧ (¬ x13 = (-1) → ((¬ M13 152 5 = 0 → am_g 12 5 co_X12_qGoesOn d Q 386 [(3, 0), (3, 0)] [] sh_T M13) ∧ (M13 152 5 = 0 → am_cal pg d 172 [(2, 152), (0, 1), (0, M13 152 2)] sh_T M13 (am_cv sh_T fun M16 => am_g 12 5 co_X12_qGoesOn d Q 386 [(3, 0), (3, 0)] [] sh_T M16))))))) ∧ (x11 = 22 → am_g 12 5 co_X12_qGoesOn d Q 326 [(2, 152), (3, 0)] [] sh_T M11))))))) ∧ (¬ x7 = 0 → am_g 12 5 co_X12_qGoesOn d Q 225 [(2, 152), (3, 0)] [] sh_T M7))))))) ∧ (¬ x3 = 0 → am_g 12 5 co_X12_qGoesOn d Q 140 [(2, 152), (3, 0)] [] sh_T M3))))))) : am_g 12 5 co_X12_qGoesOn d Q 122 [(2, 152), (3, 0)] [] sh_T M := by
  refine x_aload_n (by decide +kernel : am_at co_X12_qGoesOn 122 = some (1, .aload_n 0)) rfl ?_
  refine x_bipush (by decide +kernel : am_at co_X12_qGoesOn 123 = some (2, .bipush 42)) ?_
  refine x_callV (n := 2) (by decide +kernel : am_at co_X12_qGoesOn 125 = some (3, .invokevirtual 243)) pq_12_243 pm_X12_takesSign rfl rfl rfl ob_152 h (x_k0 fun x1 M1 h => ?_)
  refine x_if (tgt := 140) (by decide +kernel : am_at co_X12_qGoesOn 128 = some (3, .ifCond .ne 12)) rfl Iff.rfl (fun c1 => ?_) (fun c1 => ?_)
  · have h := h.1 c1
    exact am_weak (lk (lk ln)) h
  · have c1 := (Classical.not_not.mp c1)
    have h := h.2 c1
    refine x_aload_n (by decide +kernel : am_at co_X12_qGoesOn 131 = some (1, .aload_n 0)) rfl ?_
    refine x_bipush (by decide +kernel : am_at co_X12_qGoesOn 132 = some (2, .bipush 47)) ?_
    refine x_callV (n := 2) (by decide +kernel : am_at co_X12_qGoesOn 134 = some (3, .invokevirtual 243)) pq_12_243 pm_X12_takesSign rfl rfl rfl ob_152 h (x_k0 fun x3 M3 h => ?_)
    refine x_if (tgt := 207) (by decide +kernel : am_at co_X12_qGoesOn 137 = some (3, .ifCond .eq 70)) rfl Iff.rfl (fun c3 => ?_) (fun c3 => ?_)
    · have h := h.1 c3
      refine x_aload_n (by decide +kernel : am_at co_X12_qGoesOn 207 = some (1, .aload_n 0)) rfl ?_
      refine x_bipush (by decide +kernel : am_at co_X12_qGoesOn 208 = some (2, .bipush 43)) ?_
      refine x_callV (n := 2) (by decide +kernel : am_at co_X12_qGoesOn 210 = some (3, .invokevirtual 243)) pq_12_243 pm_X12_takesSign rfl rfl rfl ob_152 h (x_k0 fun x5 M5 h => ?_)
      refine x_if (tgt := 225) (by decide +kernel : am_at co_X12_qGoesOn 213 = some (3, .ifCond .ne 12)) rfl Iff.rfl (fun c5 => ?_) (fun c5 => ?_)
      · have h := h.1 c5
        exact am_weak (lk (lk ln)) h
      · have c5 := (Classical.not_not.mp c5)
        have h := h.2 c5
        refine x_aload_n (by decide +kernel : am_at co_X12_qGoesOn 216 = some (1, .aload_n 0)) rfl ?_
        refine x_bipush (by decide +kernel : am_at co_X12_qGoesOn 217 = some (2, .bipush 45)) ?_
        refine x_callV (n := 2) (by decide +kernel : am_at co_X12_qGoesOn 219 = some (3, .invokevirtual 243)) pq_12_243 pm_X12_takesSign rfl rfl rfl ob_152 h (x_k0 fun x7 M7 h => ?_)
        refine x_if (tgt := 308) (by decide +kernel : am_at co_X12_qGoesOn 222 = some (3, .ifCond .eq 86)) rfl Iff.rfl (fun c7 => ?_) (fun c7 => ?_)
        · have h := h.1 c7
          refine x_aload_n (by decide +kernel : am_at co_X12_qGoesOn 308 = some (1, .aload_n 0)) rfl ?_
          refine x_callV (n := 1) (by decide +kernel : am_at co_X12_qGoesOn 309 = some (3, .invokevirtual 612)) pq_12_612 pm_X12_qBracket rfl rfl rfl ob_152 h (x_k0 fun x9 M9 h => ?_)
          refine x_bipush (by decide +kernel : am_at co_X12_qGoesOn 312 = some (2, .bipush 21)) ?_
          refine x_icmp (tgt := 326) (by decide +kernel : am_at co_X12_qGoesOn 314 = some (3, .if_icmp .eq 12)) rfl Iff.rfl (fun c9 => ?_) (fun c9 => ?_)
          · have h := h.1 c9
            exact am_weak (lk (lk ln)) h
          · have c9 := c9
            have h := h.2 c9
            refine x_aload_n (by decide +kernel : am_at co_X12_qGoesOn 317 = some (1, .aload_n 0)) rfl ?_
            refine x_callV (n := 1) (by decide +kernel : am_at co_X12_qGoesOn 318 = some (3, .invokevirtual 612)) pq_12_612 pm_X12_qBracket rfl rfl rfl ob_152 h (x_k0 fun x11 M11 h => ?_)
            refine x_bipush (by decide +kernel : am_at co_X12_qGoesOn 321 = some (2, .bipush 22)) ?_
            refine x_icmp (tgt := 362) (by decide +kernel : am_at co_X12_qGoesOn 323 = some (3, .if_icmp .ne 39)) rfl Iff.rfl (fun c11 => ?_) (fun c11 => ?_)
            · have h := h.1 c11
              refine x_aload_n (by decide +kernel : am_at co_X12_qGoesOn 362 = some (1, .aload_n 0)) rfl ?_
              refine x_callV (n := 1) (by decide +kernel : am_at co_X12_qGoesOn 363 = some (3, .invokevirtual 612)) pq_12_612 pm_X12_qBracket rfl rfl rfl ob_152 h (x_k0 fun x13 M13 h => ?_)
              refine x_iconst (by decide +kernel : am_at co_X12_qGoesOn 366 = some (1, .iconst (-1))) ?_
              refine x_icmp (tgt := 386) (by decide +kernel : am_at co_X12_qGoesOn 367 = some (3, .if_icmp .eq 19)) rfl Iff.rfl (fun c13 => ?_) (fun c13 => ?_)
              · have h := h.1 c13
                exact am_weak (ld (lk ln)) h
              · have c13 := c13
                have h := h.2 c13
                refine x_aload_n (by decide +kernel : am_at co_X12_qGoesOn 370 = some (1, .aload_n 0)) rfl ?_
                refine x_getf (by decide +kernel : am_at co_X12_qGoesOn 371 = some (3, .getfield 209)) pq_12_209 rfl ob_152 ?_
                refine x_if (tgt := 386) (by decide +kernel : am_at co_X12_qGoesOn 374 = some (3, .ifCond .ne 12)) rfl Iff.rfl (fun c14 => ?_) (fun c14 => ?_)
                · have h := h.1 c14
                  exact am_weak (ld (lk ln)) h
                · have c14 := (Classical.not_not.mp c14)
                  have h := h.2 c14
                  refine x_aload_n (by decide +kernel : am_at co_X12_qGoesOn 377 = some (1, .aload_n 0)) rfl ?_
                  refine x_iconst (by decide +kernel : am_at co_X12_qGoesOn 378 = some (1, .iconst 1)) ?_
                  refine x_aload_n (by decide +kernel : am_at co_X12_qGoesOn 379 = some (1, .aload_n 0)) rfl ?_
                  refine x_getf (by decide +kernel : am_at co_X12_qGoesOn 380 = some (3, .getfield 215)) pq_12_215 rfl ob_152 ?_
                  refine x_callV (n := 3) (by decide +kernel : am_at co_X12_qGoesOn 383 = some (3, .invokevirtual 239)) pq_12_239 pm_X12_fail rfl rfl rfl ob_152 h (x_kv fun M16 h => ?_)
                  exact am_weak (ld (lk ln)) h
            · have c11 := (Classical.not_not.mp c11)
              have h := h.2 c11
              exact am_weak (lk (lk ln)) h
        · have c7 := c7
          have h := h.2 c7
          exact am_weak (lk (lk ln)) h
    · have c3 := c3
      have h := h.2 c3
      exact am_weak (lk (lk ln)) h
set_option maxRecDepth 20000 in
theorem bk_X12_qGoesOn_140 {d : Nat} {Q : am_Q} {M : am_M} (h : am_r ((M 152 2) - 1) ∧ (0 ≤ (M 152 2) - 1 ∧ (M 152 2) - 1 < 1600) ∧ ((¬ M 153 ((M 152 2) - 1) = 42 → am_g 12 5 co_X12_qGoesOn d Q 162 [(2, 152), (0, 4)] [] sh_T M) ∧ (M 153 ((M 152 2) - 1) = 42 → am_g 12 5 co_X12_qGoesOn d Q 162 [(2, 152), (0, 3)] [] sh_T M))) : am_g 12 5 co_X12_qGoesOn d Q 140 [(2, 152), (3, 0)] [] sh_T M := by
  refine x_aload_n (by decide +kernel : am_at co_X12_qGoesOn 140 = some (1, .aload_n 0)) rfl ?_
  refine x_getF (by decide +kernel : am_at co_X12_qGoesOn 141 = some (3, .getfield 7)) pq_12_7 (by decide) rfl ob_152 ?_
  refine x_top2 (show 152 + 1 = 153 from rfl) ?_
  refine x_aload_n (by decide +kernel : am_at co_X12_qGoesOn 144 = some (1, .aload_n 0)) rfl ?_
  refine x_getf (by decide +kernel : am_at co_X12_qGoesOn 145 = some (3, .getfield 215)) pq_12_215 rfl ob_152 ?_
  refine x_iconst (by decide +kernel : am_at co_X12_qGoesOn 148 = some (1, .iconst 1)) ?_
  obtain ⟨o0, h⟩ := h
  refine x_isub (by decide +kernel : am_at co_X12_qGoesOn 149 = some (1, .isub)) o0 ?_
  obtain ⟨o1, h⟩ := h
  refine x_iald (by decide +kernel : am_at co_X12_qGoesOn 150 = some (1, .iaload)) (ia_153 o1.1 o1.2) ?_
  refine x_bipush (by decide +kernel : am_at co_X12_qGoesOn 151 = some (2, .bipush 42)) ?_
  refine x_icmp (tgt := 160) (by decide +kernel : am_at co_X12_qGoesOn 153 = some (3, .if_icmp .ne 7)) rfl Iff.rfl (fun c2 => ?_) (fun c2 => ?_)
  · have h := h.1 c2
    refine x_iconst (by decide +kernel : am_at co_X12_qGoesOn 160 = some (1, .iconst 4)) ?_
    refine x_istore_n (L' := [(2, 152), (0, 4)]) (by decide +kernel : am_at co_X12_qGoesOn 161 = some (1, .istore_n 1)) rfl ?_
    exact am_weak (lk (lk ln)) h
  · have c2 := (Classical.not_not.mp c2)
    have h := h.2 c2
    refine x_iconst (by decide +kernel : am_at co_X12_qGoesOn 156 = some (1, .iconst 3)) ?_
    refine x_goto (tgt := 161) (by decide +kernel : am_at co_X12_qGoesOn 157 = some (3, .goto 4)) rfl ?_
    refine x_istore_n (L' := [(2, 152), (0, 3)]) (by decide +kernel : am_at co_X12_qGoesOn 161 = some (1, .istore_n 1)) rfl ?_
    exact am_weak (lk (lk ln)) h
set_option maxRecDepth 20000 in
theorem bk_X12_qGoesOn_162 {d : Nat} {Q : am_Q} {M : am_M} {v1 : Int} (h : am_cal pg d 279 [(2, 152), (0, 3)] sh_T M (am_c0 sh_T fun x1 M1 => ((¬ x1 = 0 → am_g 12 5 co_X12_qGoesOn d Q 178 [(2, 152), (0, v1)] [] sh_T M1) ∧ (x1 = 0 → am_cal pg d 279 [(2, 152), (0, 4)] sh_T M1 (am_c0 sh_T fun x3 M3 => ((x3 = 0 → (0 ≤ M3 152 85 ∧ M3 152 85 < 1700) ∧ am_r ((M3 152 85) + 1) ∧ Q (some (0, 1), sh_T, (am_up (am_up M3 212 (M3 152 85) v1) 152 85 ((M3 152 85) + 1)))) ∧ (¬ x3 = 0 → am_g 12 5 co_X12_qGoesOn d Q 178 [(2, 152), (0, v1)] [] sh_T M3))))))) : am_g 12 5 co_X12_qGoesOn d Q 162 [(2, 152), (0, v1)] [] sh_T M := by
  refine x_aload_n (by decide +kernel : am_at co_X12_qGoesOn 162 = some (1, .aload_n 0)) rfl ?_
  refine x_iconst (by decide +kernel : am_at co_X12_qGoesOn 163 = some (1, .iconst 3)) ?_
  refine x_callV (n := 2) (by decide +kernel : am_at co_X12_qGoesOn 164 = some (3, .invokevirtual 618)) pq_12_618 pm_X12_qIsOn rfl rfl rfl ob_152 h (x_k0 fun x1 M1 h => ?_)
  refine x_if (tgt := 178) (by decide +kernel : am_at co_X12_qGoesOn 167 = some (3, .ifCond .ne 11)) rfl Iff.rfl (fun c1 => ?_) (fun c1 => ?_)
  · have h := h.1 c1
    exact am_weak (lk (lk ln)) h
  · have c1 := (Classical.not_not.mp c1)
    have h := h.2 c1
    refine x_aload_n (by decide +kernel : am_at co_X12_qGoesOn 170 = some (1, .aload_n 0)) rfl ?_
    refine x_iconst (by decide +kernel : am_at co_X12_qGoesOn 171 = some (1, .iconst 4)) ?_
    refine x_callV (n := 2) (by decide +kernel : am_at co_X12_qGoesOn 172 = some (3, .invokevirtual 618)) pq_12_618 pm_X12_qIsOn rfl rfl rfl ob_152 h (x_k0 fun x3 M3 h => ?_)
    refine x_if (tgt := 185) (by decide +kernel : am_at co_X12_qGoesOn 175 = some (3, .ifCond .eq 10)) rfl Iff.rfl (fun c3 => ?_) (fun c3 => ?_)
    · have h := h.1 c3
      refine x_aload_n (by decide +kernel : am_at co_X12_qGoesOn 185 = some (1, .aload_n 0)) rfl ?_
      refine x_getF (by decide +kernel : am_at co_X12_qGoesOn 186 = some (3, .getfield 197)) pq_12_197 (by decide) rfl ob_152 ?_
      refine x_top2 (show 152 + 60 = 212 from rfl) ?_
      refine x_aload_n (by decide +kernel : am_at co_X12_qGoesOn 189 = some (1, .aload_n 0)) rfl ?_
      refine x_getf (by decide +kernel : am_at co_X12_qGoesOn 190 = some (3, .getfield 582)) pq_12_582 rfl ob_152 ?_
      refine x_iload_n (by decide +kernel : am_at co_X12_qGoesOn 193 = some (1, .iload_n 1)) rfl ?_
      obtain ⟨o4, h⟩ := h
      refine x_iast (by decide +kernel : am_at co_X12_qGoesOn 194 = some (1, .iastore)) (ow_212 o4.1 o4.2) ?_
      refine x_aload_n (by decide +kernel : am_at co_X12_qGoesOn 195 = some (1, .aload_n 0)) rfl ?_
      refine x_dup2' (by decide +kernel : am_at co_X12_qGoesOn 196 = some (1, .dup)) ?_
      refine x_getf (by decide +kernel : am_at co_X12_qGoesOn 197 = some (3, .getfield 582)) pq_12_582 rfl ob_152 ?_
      refine x_top0 (show (am_up M3 212 (M3 152 85) v1) 152 85 = M3 152 85 from by first | rfl | simp [am_up]) ?_
      refine x_iconst (by decide +kernel : am_at co_X12_qGoesOn 200 = some (1, .iconst 1)) ?_
      obtain ⟨o5, h⟩ := h
      refine x_iadd (by decide +kernel : am_at co_X12_qGoesOn 201 = some (1, .iadd)) o5 ?_
      refine x_putf0 (by decide +kernel : am_at co_X12_qGoesOn 202 = some (3, .putfield 582)) pq_12_582 rfl ob_152 ?_
      refine x_iconst (by decide +kernel : am_at co_X12_qGoesOn 205 = some (1, .iconst 1)) ?_
      exact x_zret (by decide +kernel : am_at co_X12_qGoesOn 206 = some (1, .ireturn)) (by decide) h
    · have c3 := c3
      have h := h.2 c3
      exact am_weak (lk (lk ln)) h
set_option maxRecDepth 20000 in
theorem bk_X12_qGoesOn_178 {d : Nat} {Q : am_Q} {M : am_M} {v1 : Int} (h : am_cal pg d 280 [(2, 152)] sh_T M (am_cv sh_T fun M1 => am_g 12 5 co_X12_qGoesOn d Q 162 [(2, 152), (0, v1)] [] sh_T M1)) : am_g 12 5 co_X12_qGoesOn d Q 178 [(2, 152), (0, v1)] [] sh_T M := by
  refine x_aload_n (by decide +kernel : am_at co_X12_qGoesOn 178 = some (1, .aload_n 0)) rfl ?_
  refine x_callV (n := 1) (by decide +kernel : am_at co_X12_qGoesOn 179 = some (3, .invokevirtual 594)) pq_12_594 pm_X12_qDrops rfl rfl rfl ob_152 h (x_kv fun M1 h => ?_)
  refine x_goto (tgt := 162) (by decide +kernel : am_at co_X12_qGoesOn 182 = some (3, .goto (-20))) rfl ?_
  exact am_weak (lk (lk ln)) h
set_option maxRecDepth 20000 in
theorem bk_X12_qGoesOn_225 {d : Nat} {Q : am_Q} {M : am_M} (h : am_r ((M 152 2) - 1) ∧ (0 ≤ (M 152 2) - 1 ∧ (M 152 2) - 1 < 1600) ∧ ((¬ M 153 ((M 152 2) - 1) = 43 → am_g 12 5 co_X12_qGoesOn d Q 247 [(2, 152), (0, 2)] [] sh_T M) ∧ (M 153 ((M 152 2) - 1) = 43 → am_g 12 5 co_X12_qGoesOn d Q 247 [(2, 152), (0, 1)] [] sh_T M))) : am_g 12 5 co_X12_qGoesOn d Q 225 [(2, 152), (3, 0)] [] sh_T M := by
  refine x_aload_n (by decide +kernel : am_at co_X12_qGoesOn 225 = some (1, .aload_n 0)) rfl ?_
  refine x_getF (by decide +kernel : am_at co_X12_qGoesOn 226 = some (3, .getfield 7)) pq_12_7 (by decide) rfl ob_152 ?_
  refine x_top2 (show 152 + 1 = 153 from rfl) ?_
  refine x_aload_n (by decide +kernel : am_at co_X12_qGoesOn 229 = some (1, .aload_n 0)) rfl ?_
  refine x_getf (by decide +kernel : am_at co_X12_qGoesOn 230 = some (3, .getfield 215)) pq_12_215 rfl ob_152 ?_
  refine x_iconst (by decide +kernel : am_at co_X12_qGoesOn 233 = some (1, .iconst 1)) ?_
  obtain ⟨o0, h⟩ := h
  refine x_isub (by decide +kernel : am_at co_X12_qGoesOn 234 = some (1, .isub)) o0 ?_
  obtain ⟨o1, h⟩ := h
  refine x_iald (by decide +kernel : am_at co_X12_qGoesOn 235 = some (1, .iaload)) (ia_153 o1.1 o1.2) ?_
  refine x_bipush (by decide +kernel : am_at co_X12_qGoesOn 236 = some (2, .bipush 43)) ?_
  refine x_icmp (tgt := 245) (by decide +kernel : am_at co_X12_qGoesOn 238 = some (3, .if_icmp .ne 7)) rfl Iff.rfl (fun c2 => ?_) (fun c2 => ?_)
  · have h := h.1 c2
    refine x_iconst (by decide +kernel : am_at co_X12_qGoesOn 245 = some (1, .iconst 2)) ?_
    refine x_istore_n (L' := [(2, 152), (0, 2)]) (by decide +kernel : am_at co_X12_qGoesOn 246 = some (1, .istore_n 1)) rfl ?_
    exact am_weak (lk (lk ln)) h
  · have c2 := (Classical.not_not.mp c2)
    have h := h.2 c2
    refine x_iconst (by decide +kernel : am_at co_X12_qGoesOn 241 = some (1, .iconst 1)) ?_
    refine x_goto (tgt := 246) (by decide +kernel : am_at co_X12_qGoesOn 242 = some (3, .goto 4)) rfl ?_
    refine x_istore_n (L' := [(2, 152), (0, 1)]) (by decide +kernel : am_at co_X12_qGoesOn 246 = some (1, .istore_n 1)) rfl ?_
    exact am_weak (lk (lk ln)) h
set_option maxRecDepth 20000 in
theorem bk_X12_qGoesOn_247 {d : Nat} {Q : am_Q} {M : am_M} {v1 : Int} (h : am_cal pg d 279 [(2, 152), (0, 3)] sh_T M (am_c0 sh_T fun x1 M1 => ((¬ x1 = 0 → am_g 12 5 co_X12_qGoesOn d Q 279 [(2, 152), (0, v1)] [] sh_T M1) ∧ (x1 = 0 → am_cal pg d 279 [(2, 152), (0, 4)] sh_T M1 (am_c0 sh_T fun x3 M3 => ((¬ x3 = 0 → am_g 12 5 co_X12_qGoesOn d Q 279 [(2, 152), (0, v1)] [] sh_T M3) ∧ (x3 = 0 → am_cal pg d 279 [(2, 152), (0, 1)] sh_T M3 (am_c0 sh_T fun x5 M5 => ((¬ x5 = 0 → am_g 12 5 co_X12_qGoesOn d Q 279 [(2, 152), (0, v1)] [] sh_T M5) ∧ (x5 = 0 → am_cal pg d 279 [(2, 152), (0, 2)] sh_T M5 (am_c0 sh_T fun x7 M7 => ((x7 = 0 → (0 ≤ M7 152 85 ∧ M7 152 85 < 1700) ∧ am_r ((M7 152 85) + 1) ∧ Q (some (0, 1), sh_T, (am_up (am_up M7 212 (M7 152 85) v1) 152 85 ((M7 152 85) + 1)))) ∧ (¬ x7 = 0 → am_g 12 5 co_X12_qGoesOn d Q 279 [(2, 152), (0, v1)] [] sh_T M7))))))))))))) : am_g 12 5 co_X12_qGoesOn d Q 247 [(2, 152), (0, v1)] [] sh_T M := by
  refine x_aload_n (by decide +kernel : am_at co_X12_qGoesOn 247 = some (1, .aload_n 0)) rfl ?_
  refine x_iconst (by decide +kernel : am_at co_X12_qGoesOn 248 = some (1, .iconst 3)) ?_
  refine x_callV (n := 2) (by decide +kernel : am_at co_X12_qGoesOn 249 = some (3, .invokevirtual 618)) pq_12_618 pm_X12_qIsOn rfl rfl rfl ob_152 h (x_k0 fun x1 M1 h => ?_)
  refine x_if (tgt := 279) (by decide +kernel : am_at co_X12_qGoesOn 252 = some (3, .ifCond .ne 27)) rfl Iff.rfl (fun c1 => ?_) (fun c1 => ?_)
  · have h := h.1 c1
    exact am_weak (lk (lk ln)) h
  · have c1 := (Classical.not_not.mp c1)
    have h := h.2 c1
    refine x_aload_n (by decide +kernel : am_at co_X12_qGoesOn 255 = some (1, .aload_n 0)) rfl ?_
    refine x_iconst (by decide +kernel : am_at co_X12_qGoesOn 256 = some (1, .iconst 4)) ?_
    refine x_callV (n := 2) (by decide +kernel : am_at co_X12_qGoesOn 257 = some (3, .invokevirtual 618)) pq_12_618 pm_X12_qIsOn rfl rfl rfl ob_152 h (x_k0 fun x3 M3 h => ?_)
    refine x_if (tgt := 279) (by decide +kernel : am_at co_X12_qGoesOn 260 = some (3, .ifCond .ne 19)) rfl Iff.rfl (fun c3 => ?_) (fun c3 => ?_)
    · have h := h.1 c3
      exact am_weak (lk (lk ln)) h
    · have c3 := (Classical.not_not.mp c3)
      have h := h.2 c3
      refine x_aload_n (by decide +kernel : am_at co_X12_qGoesOn 263 = some (1, .aload_n 0)) rfl ?_
      refine x_iconst (by decide +kernel : am_at co_X12_qGoesOn 264 = some (1, .iconst 1)) ?_
      refine x_callV (n := 2) (by decide +kernel : am_at co_X12_qGoesOn 265 = some (3, .invokevirtual 618)) pq_12_618 pm_X12_qIsOn rfl rfl rfl ob_152 h (x_k0 fun x5 M5 h => ?_)
      refine x_if (tgt := 279) (by decide +kernel : am_at co_X12_qGoesOn 268 = some (3, .ifCond .ne 11)) rfl Iff.rfl (fun c5 => ?_) (fun c5 => ?_)
      · have h := h.1 c5
        exact am_weak (lk (lk ln)) h
      · have c5 := (Classical.not_not.mp c5)
        have h := h.2 c5
        refine x_aload_n (by decide +kernel : am_at co_X12_qGoesOn 271 = some (1, .aload_n 0)) rfl ?_
        refine x_iconst (by decide +kernel : am_at co_X12_qGoesOn 272 = some (1, .iconst 2)) ?_
        refine x_callV (n := 2) (by decide +kernel : am_at co_X12_qGoesOn 273 = some (3, .invokevirtual 618)) pq_12_618 pm_X12_qIsOn rfl rfl rfl ob_152 h (x_k0 fun x7 M7 h => ?_)
        refine x_if (tgt := 286) (by decide +kernel : am_at co_X12_qGoesOn 276 = some (3, .ifCond .eq 10)) rfl Iff.rfl (fun c7 => ?_) (fun c7 => ?_)
        · have h := h.1 c7
          refine x_aload_n (by decide +kernel : am_at co_X12_qGoesOn 286 = some (1, .aload_n 0)) rfl ?_
          refine x_getF (by decide +kernel : am_at co_X12_qGoesOn 287 = some (3, .getfield 197)) pq_12_197 (by decide) rfl ob_152 ?_
          refine x_top2 (show 152 + 60 = 212 from rfl) ?_
          refine x_aload_n (by decide +kernel : am_at co_X12_qGoesOn 290 = some (1, .aload_n 0)) rfl ?_
          refine x_getf (by decide +kernel : am_at co_X12_qGoesOn 291 = some (3, .getfield 582)) pq_12_582 rfl ob_152 ?_
          refine x_iload_n (by decide +kernel : am_at co_X12_qGoesOn 294 = some (1, .iload_n 1)) rfl ?_
          obtain ⟨o8, h⟩ := h
          refine x_iast (by decide +kernel : am_at co_X12_qGoesOn 295 = some (1, .iastore)) (ow_212 o8.1 o8.2) ?_
          refine x_aload_n (by decide +kernel : am_at co_X12_qGoesOn 296 = some (1, .aload_n 0)) rfl ?_
          refine x_dup2' (by decide +kernel : am_at co_X12_qGoesOn 297 = some (1, .dup)) ?_
          refine x_getf (by decide +kernel : am_at co_X12_qGoesOn 298 = some (3, .getfield 582)) pq_12_582 rfl ob_152 ?_
          refine x_top0 (show (am_up M7 212 (M7 152 85) v1) 152 85 = M7 152 85 from by first | rfl | simp [am_up]) ?_
          refine x_iconst (by decide +kernel : am_at co_X12_qGoesOn 301 = some (1, .iconst 1)) ?_
          obtain ⟨o9, h⟩ := h
          refine x_iadd (by decide +kernel : am_at co_X12_qGoesOn 302 = some (1, .iadd)) o9 ?_
          refine x_putf0 (by decide +kernel : am_at co_X12_qGoesOn 303 = some (3, .putfield 582)) pq_12_582 rfl ob_152 ?_
          refine x_iconst (by decide +kernel : am_at co_X12_qGoesOn 306 = some (1, .iconst 1)) ?_
          exact x_zret (by decide +kernel : am_at co_X12_qGoesOn 307 = some (1, .ireturn)) (by decide) h
        · have c7 := c7
          have h := h.2 c7
          exact am_weak (lk (lk ln)) h
set_option maxRecDepth 20000 in
theorem bk_X12_qGoesOn_279 {d : Nat} {Q : am_Q} {M : am_M} {v1 : Int} (h : am_cal pg d 280 [(2, 152)] sh_T M (am_cv sh_T fun M1 => am_g 12 5 co_X12_qGoesOn d Q 247 [(2, 152), (0, v1)] [] sh_T M1)) : am_g 12 5 co_X12_qGoesOn d Q 279 [(2, 152), (0, v1)] [] sh_T M := by
  refine x_aload_n (by decide +kernel : am_at co_X12_qGoesOn 279 = some (1, .aload_n 0)) rfl ?_
  refine x_callV (n := 1) (by decide +kernel : am_at co_X12_qGoesOn 280 = some (3, .invokevirtual 594)) pq_12_594 pm_X12_qDrops rfl rfl rfl ob_152 h (x_kv fun M1 h => ?_)
  refine x_goto (tgt := 247) (by decide +kernel : am_at co_X12_qGoesOn 283 = some (3, .goto (-36))) rfl ?_
  exact am_weak (lk (lk ln)) h
set_option maxRecDepth 20000 in
theorem bk_X12_qGoesOn_326 {d : Nat} {Q : am_Q} {M : am_M} (h : am_cal pg d 180 [(2, 152), (0, 44)] sh_T M (am_cv sh_T fun M1 => ((M1 152 5 = 0 → am_cal pg d 283 [(2, 152)] sh_T M1 (am_cv sh_T fun M3 => am_r ((M3 152 85) - 1) ∧ (0 ≤ (M3 152 85) - 1 ∧ (M3 152 85) - 1 < 1700) ∧ am_r ((M3 212 ((M3 152 85) - 1)) + 2) ∧ Q (some (0, 1), sh_T, (am_up M3 212 ((M3 152 85) - 1) ((M3 212 ((M3 152 85) - 1)) + 2))))) ∧ (¬ M1 152 5 = 0 → Q (some (0, 0), sh_T, M1))))) : am_g 12 5 co_X12_qGoesOn d Q 326 [(2, 152), (3, 0)] [] sh_T M := by
  refine x_aload_n (by decide +kernel : am_at co_X12_qGoesOn 326 = some (1, .aload_n 0)) rfl ?_
  refine x_bipush (by decide +kernel : am_at co_X12_qGoesOn 327 = some (2, .bipush 44)) ?_
  refine x_callV (n := 2) (by decide +kernel : am_at co_X12_qGoesOn 329 = some (3, .invokevirtual 325)) pq_12_325 pm_X12_asksSign rfl rfl rfl ob_152 h (x_kv fun M1 h => ?_)
  refine x_aload_n (by decide +kernel : am_at co_X12_qGoesOn 332 = some (1, .aload_n 0)) rfl ?_
  refine x_getf (by decide +kernel : am_at co_X12_qGoesOn 333 = some (3, .getfield 209)) pq_12_209 rfl ob_152 ?_
  refine x_if (tgt := 341) (by decide +kernel : am_at co_X12_qGoesOn 336 = some (3, .ifCond .eq 5)) rfl Iff.rfl (fun c1 => ?_) (fun c1 => ?_)
  · have h := h.1 c1
    refine x_aload_n (by decide +kernel : am_at co_X12_qGoesOn 341 = some (1, .aload_n 0)) rfl ?_
    refine x_callV (n := 1) (by decide +kernel : am_at co_X12_qGoesOn 342 = some (3, .invokevirtual 615)) pq_12_615 pm_X12_qDropsToBracket rfl rfl rfl ob_152 h (x_kv fun M3 h => ?_)
    refine x_aload_n (by decide +kernel : am_at co_X12_qGoesOn 345 = some (1, .aload_n 0)) rfl ?_
    refine x_getF (by decide +kernel : am_at co_X12_qGoesOn 346 = some (3, .getfield 197)) pq_12_197 (by decide) rfl ob_152 ?_
    refine x_top2 (show 152 + 60 = 212 from rfl) ?_
    refine x_aload_n (by decide +kernel : am_at co_X12_qGoesOn 349 = some (1, .aload_n 0)) rfl ?_
    refine x_getf (by decide +kernel : am_at co_X12_qGoesOn 350 = some (3, .getfield 582)) pq_12_582 rfl ob_152 ?_
    refine x_iconst (by decide +kernel : am_at co_X12_qGoesOn 353 = some (1, .iconst 1)) ?_
    obtain ⟨o3, h⟩ := h
    refine x_isub (by decide +kernel : am_at co_X12_qGoesOn 354 = some (1, .isub)) o3 ?_
    refine x_dup2 (by decide +kernel : am_at co_X12_qGoesOn 355 = some (1, .dup2)) ?_
    obtain ⟨o4, h⟩ := h
    refine x_iald (by decide +kernel : am_at co_X12_qGoesOn 356 = some (1, .iaload)) (ia_212 o4.1 o4.2) ?_
    refine x_iconst (by decide +kernel : am_at co_X12_qGoesOn 357 = some (1, .iconst 2)) ?_
    obtain ⟨o5, h⟩ := h
    refine x_iadd (by decide +kernel : am_at co_X12_qGoesOn 358 = some (1, .iadd)) o5 ?_
    refine x_iast (by decide +kernel : am_at co_X12_qGoesOn 359 = some (1, .iastore)) (ow_212 o4.1 o4.2) ?_
    refine x_iconst (by decide +kernel : am_at co_X12_qGoesOn 360 = some (1, .iconst 1)) ?_
    exact x_zret (by decide +kernel : am_at co_X12_qGoesOn 361 = some (1, .ireturn)) (by decide) h
  · have c1 := c1
    have h := h.2 c1
    refine x_iconst (by decide +kernel : am_at co_X12_qGoesOn 339 = some (1, .iconst 0)) ?_
    exact x_zret (by decide +kernel : am_at co_X12_qGoesOn 340 = some (1, .ireturn)) (by decide) h
set_option maxRecDepth 20000 in
theorem bk_X12_qGoesOn_386 {d : Nat} {Q : am_Q} {M : am_M} (h : Q (some (0, 0), sh_T, M)) : am_g 12 5 co_X12_qGoesOn d Q 386 [(3, 0), (3, 0)] [] sh_T M := by
  refine x_iconst (by decide +kernel : am_at co_X12_qGoesOn 386 = some (1, .iconst 0)) ?_
  exact x_zret (by decide +kernel : am_at co_X12_qGoesOn 387 = some (1, .ireturn)) (by decide) h
set_option maxRecDepth 20000 in
theorem bk_X12_qSums_0 {d : Nat} {Q : am_Q} {M : am_M} (h : am_g 12 9 co_X12_qSums d Q 15 [(2, 152), (0, M 152 87), (0, 1)] [] sh_T (am_up M 152 87 (M 152 85))) : am_g 12 9 co_X12_qSums d Q 0 [(2, 152), (3, 0), (3, 0)] [] sh_T M := by
  refine x_aload_n (by decide +kernel : am_at co_X12_qSums 0 = some (1, .aload_n 0)) rfl ?_
  refine x_getf (by decide +kernel : am_at co_X12_qSums 1 = some (3, .getfield 588)) pq_12_588 rfl ob_152 ?_
  refine x_istore_n (L' := [(2, 152), (0, M 152 87), (3, 0)]) (by decide +kernel : am_at co_X12_qSums 4 = some (1, .istore_n 1)) rfl ?_
  refine x_aload_n (by decide +kernel : am_at co_X12_qSums 5 = some (1, .aload_n 0)) rfl ?_
  refine x_aload_n (by decide +kernel : am_at co_X12_qSums 6 = some (1, .aload_n 0)) rfl ?_
  refine x_getf (by decide +kernel : am_at co_X12_qSums 7 = some (3, .getfield 582)) pq_12_582 rfl ob_152 ?_
  refine x_putf0 (by decide +kernel : am_at co_X12_qSums 10 = some (3, .putfield 588)) pq_12_588 rfl ob_152 ?_
  refine x_iconst (by decide +kernel : am_at co_X12_qSums 13 = some (1, .iconst 1)) ?_
  refine x_istore_n (L' := [(2, 152), (0, M 152 87), (0, 1)]) (by decide +kernel : am_at co_X12_qSums 14 = some (1, .istore_n 2)) rfl ?_
  exact am_weak (lk (lk (lk ln))) h
set_option maxRecDepth 20000 in
theorem bk_X12_qSums_15 {d : Nat} {Q : am_Q} {M : am_M} {v1 v2 : Int} (h : ((v2 = 0 → am_g 12 9 co_X12_qSums d Q 53 [(2, 152), (0, v1), (3, 0)] [] sh_T M) ∧ (¬ v2 = 0 → ((¬ M 152 5 = 0 → am_g 12 9 co_X12_qSums d Q 53 [(2, 152), (0, v1), (3, 0)] [] sh_T M) ∧ (M 152 5 = 0 → am_cal pg d 288 [(2, 152)] sh_T M (am_cv sh_T fun M3 => ((¬ M3 152 5 = 0 → am_g 12 9 co_X12_qSums d Q 15 [(2, 152), (0, v1), (0, 0)] [] sh_T M3) ∧ (M3 152 5 = 0 → am_cal pg d 289 [(2, 152)] sh_T M3 (am_c0 sh_T fun x5 M5 => ((x5 = 0 → am_g 12 9 co_X12_qSums d Q 15 [(2, 152), (0, v1), (0, 0)] [] sh_T M5) ∧ (¬ x5 = 0 → am_g 12 9 co_X12_qSums d Q 15 [(2, 152), (0, v1), (0, 1)] [] sh_T M5))))))))))) : am_g 12 9 co_X12_qSums d Q 15 [(2, 152), (0, v1), (0, v2)] [] sh_T M := by
  refine x_iload_n (by decide +kernel : am_at co_X12_qSums 15 = some (1, .iload_n 2)) rfl ?_
  refine x_if (tgt := 53) (by decide +kernel : am_at co_X12_qSums 16 = some (3, .ifCond .eq 37)) rfl Iff.rfl (fun c0 => ?_) (fun c0 => ?_)
  · have h := h.1 c0
    exact am_weak (lk (lk (ld ln))) h
  · have c0 := c0
    have h := h.2 c0
    refine x_aload_n (by decide +kernel : am_at co_X12_qSums 19 = some (1, .aload_n 0)) rfl ?_
    refine x_getf (by decide +kernel : am_at co_X12_qSums 20 = some (3, .getfield 209)) pq_12_209 rfl ob_152 ?_
    refine x_if (tgt := 53) (by decide +kernel : am_at co_X12_qSums 23 = some (3, .ifCond .ne 30)) rfl Iff.rfl (fun c1 => ?_) (fun c1 => ?_)
    · have h := h.1 c1
      exact am_weak (lk (lk (ld ln))) h
    · have c1 := (Classical.not_not.mp c1)
      have h := h.2 c1
      refine x_aload_n (by decide +kernel : am_at co_X12_qSums 26 = some (1, .aload_n 0)) rfl ?_
      refine x_callV (n := 1) (by decide +kernel : am_at co_X12_qSums 27 = some (3, .invokevirtual 621)) pq_12_621 pm_X12_qPartTold rfl rfl rfl ob_152 h (x_kv fun M3 h => ?_)
      refine x_aload_n (by decide +kernel : am_at co_X12_qSums 30 = some (1, .aload_n 0)) rfl ?_
      refine x_getf (by decide +kernel : am_at co_X12_qSums 31 = some (3, .getfield 209)) pq_12_209 rfl ob_152 ?_
      refine x_if (tgt := 48) (by decide +kernel : am_at co_X12_qSums 34 = some (3, .ifCond .ne 14)) rfl Iff.rfl (fun c3 => ?_) (fun c3 => ?_)
      · have h := h.1 c3
        refine x_iconst (by decide +kernel : am_at co_X12_qSums 48 = some (1, .iconst 0)) ?_
        refine x_istore_n (L' := [(2, 152), (0, v1), (0, 0)]) (by decide +kernel : am_at co_X12_qSums 49 = some (1, .istore_n 2)) rfl ?_
        refine x_goto (tgt := 15) (by decide +kernel : am_at co_X12_qSums 50 = some (3, .goto (-35))) rfl ?_
        exact am_weak (lk (lk (lk ln))) h
      · have c3 := (Classical.not_not.mp c3)
        have h := h.2 c3
        refine x_aload_n (by decide +kernel : am_at co_X12_qSums 37 = some (1, .aload_n 0)) rfl ?_
        refine x_callV (n := 1) (by decide +kernel : am_at co_X12_qSums 38 = some (3, .invokevirtual 624)) pq_12_624 pm_X12_qGoesOn rfl rfl rfl ob_152 h (x_k0 fun x5 M5 h => ?_)
        refine x_if (tgt := 48) (by decide +kernel : am_at co_X12_qSums 41 = some (3, .ifCond .eq 7)) rfl Iff.rfl (fun c5 => ?_) (fun c5 => ?_)
        · have h := h.1 c5
          refine x_iconst (by decide +kernel : am_at co_X12_qSums 48 = some (1, .iconst 0)) ?_
          refine x_istore_n (L' := [(2, 152), (0, v1), (0, 0)]) (by decide +kernel : am_at co_X12_qSums 49 = some (1, .istore_n 2)) rfl ?_
          refine x_goto (tgt := 15) (by decide +kernel : am_at co_X12_qSums 50 = some (3, .goto (-35))) rfl ?_
          exact am_weak (lk (lk (lk ln))) h
        · have c5 := c5
          have h := h.2 c5
          refine x_iconst (by decide +kernel : am_at co_X12_qSums 44 = some (1, .iconst 1)) ?_
          refine x_goto (tgt := 49) (by decide +kernel : am_at co_X12_qSums 45 = some (3, .goto 4)) rfl ?_
          refine x_istore_n (L' := [(2, 152), (0, v1), (0, 1)]) (by decide +kernel : am_at co_X12_qSums 49 = some (1, .istore_n 2)) rfl ?_
          refine x_goto (tgt := 15) (by decide +kernel : am_at co_X12_qSums 50 = some (3, .goto (-35))) rfl ?_
          exact am_weak (lk (lk (lk ln))) h
set_option maxRecDepth 20000 in
theorem bk_X12_qSums_53 {d : Nat} {Q : am_Q} {M : am_M} {v1 : Int} (h : ((¬ M 152 5 = 0 → Q (none, sh_T, (am_up M 152 87 v1))) ∧ (M 152 5 = 0 → ((M 152 85 ≤ M 152 87 → Q (none, sh_T, (am_up M 152 87 v1))) ∧ (M 152 87 < M 152 85 → am_cal pg d 280 [(2, 152)] sh_T M (am_cv sh_T fun M3 => am_g 12 9 co_X12_qSums d Q 53 [(2, 152), (0, v1), (3, 0)] [] sh_T M3)))))) : am_g 12 9 co_X12_qSums d Q 53 [(2, 152), (0, v1), (3, 0)] [] sh_T M := by
  refine x_aload_n (by decide +kernel : am_at co_X12_qSums 53 = some (1, .aload_n 0)) rfl ?_
  refine x_getf (by decide +kernel : am_at co_X12_qSums 54 = some (3, .getfield 209)) pq_12_209 rfl ob_152 ?_
  refine x_if (tgt := 78) (by decide +kernel : am_at co_X12_qSums 57 = some (3, .ifCond .ne 21)) rfl Iff.rfl (fun c0 => ?_) (fun c0 => ?_)
  · have h := h.1 c0
    refine x_aload_n (by decide +kernel : am_at co_X12_qSums 78 = some (1, .aload_n 0)) rfl ?_
    refine x_iload_n (by decide +kernel : am_at co_X12_qSums 79 = some (1, .iload_n 1)) rfl ?_
    refine x_putf0 (by decide +kernel : am_at co_X12_qSums 80 = some (3, .putfield 588)) pq_12_588 rfl ob_152 ?_
    exact x_vret (by decide +kernel : am_at co_X12_qSums 83 = some (1, .return_)) h
  · have c0 := (Classical.not_not.mp c0)
    have h := h.2 c0
    refine x_aload_n (by decide +kernel : am_at co_X12_qSums 60 = some (1, .aload_n 0)) rfl ?_
    refine x_getf (by decide +kernel : am_at co_X12_qSums 61 = some (3, .getfield 582)) pq_12_582 rfl ob_152 ?_
    refine x_aload_n (by decide +kernel : am_at co_X12_qSums 64 = some (1, .aload_n 0)) rfl ?_
    refine x_getf (by decide +kernel : am_at co_X12_qSums 65 = some (3, .getfield 588)) pq_12_588 rfl ob_152 ?_
    refine x_icmp (tgt := 78) (by decide +kernel : am_at co_X12_qSums 68 = some (3, .if_icmp .le 10)) rfl Iff.rfl (fun c1 => ?_) (fun c1 => ?_)
    · have h := h.1 c1
      refine x_aload_n (by decide +kernel : am_at co_X12_qSums 78 = some (1, .aload_n 0)) rfl ?_
      refine x_iload_n (by decide +kernel : am_at co_X12_qSums 79 = some (1, .iload_n 1)) rfl ?_
      refine x_putf0 (by decide +kernel : am_at co_X12_qSums 80 = some (3, .putfield 588)) pq_12_588 rfl ob_152 ?_
      exact x_vret (by decide +kernel : am_at co_X12_qSums 83 = some (1, .return_)) h
    · have c1 := (Int.not_le.mp c1)
      have h := h.2 c1
      refine x_aload_n (by decide +kernel : am_at co_X12_qSums 71 = some (1, .aload_n 0)) rfl ?_
      refine x_callV (n := 1) (by decide +kernel : am_at co_X12_qSums 72 = some (3, .invokevirtual 594)) pq_12_594 pm_X12_qDrops rfl rfl rfl ob_152 h (x_kv fun M3 h => ?_)
      refine x_goto (tgt := 53) (by decide +kernel : am_at co_X12_qSums 75 = some (3, .goto (-22))) rfl ?_
      exact am_weak (lk (lk (lk ln))) h
set_option maxRecDepth 20000 in
theorem bk_X12_qFact_0 {d : Nat} {Q : am_Q} {M : am_M} (h : am_cal pg d 177 [(2, 152), (2, 202)] sh_T M (am_c0 sh_T fun x1 M1 => ((x1 = 0 → am_cal pg d 290 [(2, 152)] sh_T M1 (am_cv sh_T fun M3 => ((M3 152 5 = 0 → am_cal pg d 175 [(2, 152)] sh_T M3 (am_c0 sh_T fun x5 M5 => ((x5 = 60 → am_r ((M5 152 2) + 1) ∧ am_cal pg d 290 [(2, 152)] sh_T (am_up M5 152 2 ((M5 152 2) + 1)) (am_cv sh_T fun M8 => am_cal pg d 277 [(2, 152), (0, 7)] sh_T M8 (am_cv sh_T fun M10 => Q (none, sh_T, M10)))) ∧ (¬ x5 = 60 → ((x5 = 62 → am_r ((M5 152 2) + 1) ∧ am_cal pg d 290 [(2, 152)] sh_T (am_up M5 152 2 ((M5 152 2) + 1)) (am_cv sh_T fun M13 => am_cal pg d 277 [(2, 152), (0, 8)] sh_T M13 (am_cv sh_T fun M16 => Q (none, sh_T, M16)))) ∧ (¬ x5 = 62 → ((x5 = 61 → am_r ((M5 152 2) + 1) ∧ am_cal pg d 290 [(2, 152)] sh_T (am_up M5 152 2 ((M5 152 2) + 1)) (am_cv sh_T fun M19 => am_cal pg d 277 [(2, 152), (0, 9)] sh_T M19 (am_cv sh_T fun M22 => Q (none, sh_T, M22)))) ∧ (¬ x5 = 61 → am_cal pg d 172 [(2, 152), (0, 1), (0, M5 152 2)] sh_T M5 (am_cv sh_T fun M23 => Q (none, sh_T, M23)))))))))) ∧ (¬ M3 152 5 = 0 → Q (none, sh_T, M3))))) ∧ (¬ x1 = 0 → am_cal pg d 277 [(2, 152), (0, 13)] sh_T M1 (am_cv sh_T fun M24 => Q (none, sh_T, M24)))))) : am_g 12 9 co_X12_qFact d Q 0 [(2, 152), (3, 0)] [] sh_T M := by
  refine x_aload_n (by decide +kernel : am_at co_X12_qFact 0 = some (1, .aload_n 0)) rfl ?_
  refine x_aload_n (by decide +kernel : am_at co_X12_qFact 1 = some (1, .aload_n 0)) rfl ?_
  refine x_getF (by decide +kernel : am_at co_X12_qFact 2 = some (3, .getfield 167)) pq_12_167 (by decide) rfl ob_152 ?_
  refine x_top2 (show 152 + 50 = 202 from rfl) ?_
  refine x_callV (n := 2) (by decide +kernel : am_at co_X12_qFact 5 = some (3, .invokevirtual 236)) pq_12_236 pm_X12_takes rfl rfl rfl ob_152 h (x_k0 fun x1 M1 h => ?_)
  refine x_if (tgt := 18) (by decide +kernel : am_at co_X12_qFact 8 = some (3, .ifCond .eq 10)) rfl Iff.rfl (fun c1 => ?_) (fun c1 => ?_)
  · have h := h.1 c1
    refine x_aload_n (by decide +kernel : am_at co_X12_qFact 18 = some (1, .aload_n 0)) rfl ?_
    refine x_callV (n := 1) (by decide +kernel : am_at co_X12_qFact 19 = some (3, .invokevirtual 627)) pq_12_627 pm_X12_qSums rfl rfl rfl ob_152 h (x_kv fun M3 h => ?_)
    refine x_aload_n (by decide +kernel : am_at co_X12_qFact 22 = some (1, .aload_n 0)) rfl ?_
    refine x_getf (by decide +kernel : am_at co_X12_qFact 23 = some (3, .getfield 209)) pq_12_209 rfl ob_152 ?_
    refine x_if (tgt := 30) (by decide +kernel : am_at co_X12_qFact 26 = some (3, .ifCond .eq 4)) rfl Iff.rfl (fun c3 => ?_) (fun c3 => ?_)
    · have h := h.1 c3
      refine x_aload_n (by decide +kernel : am_at co_X12_qFact 30 = some (1, .aload_n 0)) rfl ?_
      refine x_callV (n := 1) (by decide +kernel : am_at co_X12_qFact 31 = some (3, .invokevirtual 221)) pq_12_221 pm_X12_look rfl rfl rfl ob_152 h (x_k0 fun x5 M5 h => ?_)
      refine x_istore_n (L' := [(2, 152), (0, x5)]) (by decide +kernel : am_at co_X12_qFact 34 = some (1, .istore_n 1)) rfl ?_
      refine x_iload_n (by decide +kernel : am_at co_X12_qFact 35 = some (1, .iload_n 1)) rfl ?_
      refine x_bipush (by decide +kernel : am_at co_X12_qFact 36 = some (2, .bipush 60)) ?_
      refine x_icmp (tgt := 63) (by decide +kernel : am_at co_X12_qFact 38 = some (3, .if_icmp .eq 25)) rfl Iff.rfl (fun c5 => ?_) (fun c5 => ?_)
      · have h := h.1 c5
        refine x_aload_n (by decide +kernel : am_at co_X12_qFact 63 = some (1, .aload_n 0)) rfl ?_
        refine x_dup2' (by decide +kernel : am_at co_X12_qFact 64 = some (1, .dup)) ?_
        refine x_getf (by decide +kernel : am_at co_X12_qFact 65 = some (3, .getfield 215)) pq_12_215 rfl ob_152 ?_
        refine x_iconst (by decide +kernel : am_at co_X12_qFact 68 = some (1, .iconst 1)) ?_
        obtain ⟨o6, h⟩ := h
        refine x_iadd (by decide +kernel : am_at co_X12_qFact 69 = some (1, .iadd)) o6 ?_
        refine x_putf0 (by decide +kernel : am_at co_X12_qFact 70 = some (3, .putfield 215)) pq_12_215 rfl ob_152 ?_
        refine x_aload_n (by decide +kernel : am_at co_X12_qFact 73 = some (1, .aload_n 0)) rfl ?_
        refine x_callV (n := 1) (by decide +kernel : am_at co_X12_qFact 74 = some (3, .invokevirtual 627)) pq_12_627 pm_X12_qSums rfl rfl rfl ob_152 h (x_kv fun M8 h => ?_)
        refine x_aload_n (by decide +kernel : am_at co_X12_qFact 77 = some (1, .aload_n 0)) rfl ?_
        refine x_iload_n (by decide +kernel : am_at co_X12_qFact 78 = some (1, .iload_n 1)) rfl ?_
        refine x_bipush (by decide +kernel : am_at co_X12_qFact 79 = some (2, .bipush 60)) ?_
        refine x_icmp (tgt := 89) (by decide +kernel : am_at co_X12_qFact 81 = some (3, .if_icmp .ne 8)) rfl Iff.rfl (fun c8 => absurd c8 (fun z => z c5)) (fun _ => ?_)
        refine x_bipush (by decide +kernel : am_at co_X12_qFact 84 = some (2, .bipush 7)) ?_
        refine x_goto (tgt := 102) (by decide +kernel : am_at co_X12_qFact 86 = some (3, .goto 16)) rfl ?_
        refine x_callV (n := 2) (by decide +kernel : am_at co_X12_qFact 102 = some (3, .invokevirtual 585)) pq_12_585 pm_X12_qCode rfl rfl rfl ob_152 h (x_kv fun M10 h => ?_)
        exact x_vret (by decide +kernel : am_at co_X12_qFact 105 = some (1, .return_)) h
      · have c5 := c5
        have h := h.2 c5
        refine x_iload_n (by decide +kernel : am_at co_X12_qFact 41 = some (1, .iload_n 1)) rfl ?_
        refine x_bipush (by decide +kernel : am_at co_X12_qFact 42 = some (2, .bipush 62)) ?_
        refine x_icmp (tgt := 63) (by decide +kernel : am_at co_X12_qFact 44 = some (3, .if_icmp .eq 19)) rfl Iff.rfl (fun c10 => ?_) (fun c10 => ?_)
        · have h := h.1 c10
          refine x_aload_n (by decide +kernel : am_at co_X12_qFact 63 = some (1, .aload_n 0)) rfl ?_
          refine x_dup2' (by decide +kernel : am_at co_X12_qFact 64 = some (1, .dup)) ?_
          refine x_getf (by decide +kernel : am_at co_X12_qFact 65 = some (3, .getfield 215)) pq_12_215 rfl ob_152 ?_
          refine x_iconst (by decide +kernel : am_at co_X12_qFact 68 = some (1, .iconst 1)) ?_
          obtain ⟨o11, h⟩ := h
          refine x_iadd (by decide +kernel : am_at co_X12_qFact 69 = some (1, .iadd)) o11 ?_
          refine x_putf0 (by decide +kernel : am_at co_X12_qFact 70 = some (3, .putfield 215)) pq_12_215 rfl ob_152 ?_
          refine x_aload_n (by decide +kernel : am_at co_X12_qFact 73 = some (1, .aload_n 0)) rfl ?_
          refine x_callV (n := 1) (by decide +kernel : am_at co_X12_qFact 74 = some (3, .invokevirtual 627)) pq_12_627 pm_X12_qSums rfl rfl rfl ob_152 h (x_kv fun M13 h => ?_)
          refine x_aload_n (by decide +kernel : am_at co_X12_qFact 77 = some (1, .aload_n 0)) rfl ?_
          refine x_iload_n (by decide +kernel : am_at co_X12_qFact 78 = some (1, .iload_n 1)) rfl ?_
          refine x_bipush (by decide +kernel : am_at co_X12_qFact 79 = some (2, .bipush 60)) ?_
          refine x_icmp (tgt := 89) (by decide +kernel : am_at co_X12_qFact 81 = some (3, .if_icmp .ne 8)) rfl Iff.rfl (fun _ => ?_) (fun c13 => absurd c5 c13)
          refine x_iload_n (by decide +kernel : am_at co_X12_qFact 89 = some (1, .iload_n 1)) rfl ?_
          refine x_bipush (by decide +kernel : am_at co_X12_qFact 90 = some (2, .bipush 62)) ?_
          refine x_icmp (tgt := 100) (by decide +kernel : am_at co_X12_qFact 92 = some (3, .if_icmp .ne 8)) rfl Iff.rfl (fun c14 => absurd c14 (fun z => z c10)) (fun _ => ?_)
          refine x_bipush (by decide +kernel : am_at co_X12_qFact 95 = some (2, .bipush 8)) ?_
          refine x_goto (tgt := 102) (by decide +kernel : am_at co_X12_qFact 97 = some (3, .goto 5)) rfl ?_
          refine x_callV (n := 2) (by decide +kernel : am_at co_X12_qFact 102 = some (3, .invokevirtual 585)) pq_12_585 pm_X12_qCode rfl rfl rfl ob_152 h (x_kv fun M16 h => ?_)
          exact x_vret (by decide +kernel : am_at co_X12_qFact 105 = some (1, .return_)) h
        · have c10 := c10
          have h := h.2 c10
          refine x_iload_n (by decide +kernel : am_at co_X12_qFact 47 = some (1, .iload_n 1)) rfl ?_
          refine x_bipush (by decide +kernel : am_at co_X12_qFact 48 = some (2, .bipush 61)) ?_
          refine x_icmp (tgt := 63) (by decide +kernel : am_at co_X12_qFact 50 = some (3, .if_icmp .eq 13)) rfl Iff.rfl (fun c16 => ?_) (fun c16 => ?_)
          · have h := h.1 c16
            refine x_aload_n (by decide +kernel : am_at co_X12_qFact 63 = some (1, .aload_n 0)) rfl ?_
            refine x_dup2' (by decide +kernel : am_at co_X12_qFact 64 = some (1, .dup)) ?_
            refine x_getf (by decide +kernel : am_at co_X12_qFact 65 = some (3, .getfield 215)) pq_12_215 rfl ob_152 ?_
            refine x_iconst (by decide +kernel : am_at co_X12_qFact 68 = some (1, .iconst 1)) ?_
            obtain ⟨o17, h⟩ := h
            refine x_iadd (by decide +kernel : am_at co_X12_qFact 69 = some (1, .iadd)) o17 ?_
            refine x_putf0 (by decide +kernel : am_at co_X12_qFact 70 = some (3, .putfield 215)) pq_12_215 rfl ob_152 ?_
            refine x_aload_n (by decide +kernel : am_at co_X12_qFact 73 = some (1, .aload_n 0)) rfl ?_
            refine x_callV (n := 1) (by decide +kernel : am_at co_X12_qFact 74 = some (3, .invokevirtual 627)) pq_12_627 pm_X12_qSums rfl rfl rfl ob_152 h (x_kv fun M19 h => ?_)
            refine x_aload_n (by decide +kernel : am_at co_X12_qFact 77 = some (1, .aload_n 0)) rfl ?_
            refine x_iload_n (by decide +kernel : am_at co_X12_qFact 78 = some (1, .iload_n 1)) rfl ?_
            refine x_bipush (by decide +kernel : am_at co_X12_qFact 79 = some (2, .bipush 60)) ?_
            refine x_icmp (tgt := 89) (by decide +kernel : am_at co_X12_qFact 81 = some (3, .if_icmp .ne 8)) rfl Iff.rfl (fun _ => ?_) (fun c19 => absurd c5 c19)
            refine x_iload_n (by decide +kernel : am_at co_X12_qFact 89 = some (1, .iload_n 1)) rfl ?_
            refine x_bipush (by decide +kernel : am_at co_X12_qFact 90 = some (2, .bipush 62)) ?_
            refine x_icmp (tgt := 100) (by decide +kernel : am_at co_X12_qFact 92 = some (3, .if_icmp .ne 8)) rfl Iff.rfl (fun _ => ?_) (fun c20 => absurd c10 c20)
            refine x_bipush (by decide +kernel : am_at co_X12_qFact 100 = some (2, .bipush 9)) ?_
            refine x_callV (n := 2) (by decide +kernel : am_at co_X12_qFact 102 = some (3, .invokevirtual 585)) pq_12_585 pm_X12_qCode rfl rfl rfl ob_152 h (x_kv fun M22 h => ?_)
            exact x_vret (by decide +kernel : am_at co_X12_qFact 105 = some (1, .return_)) h
          · have c16 := c16
            have h := h.2 c16
            refine x_aload_n (by decide +kernel : am_at co_X12_qFact 53 = some (1, .aload_n 0)) rfl ?_
            refine x_iconst (by decide +kernel : am_at co_X12_qFact 54 = some (1, .iconst 1)) ?_
            refine x_aload_n (by decide +kernel : am_at co_X12_qFact 55 = some (1, .aload_n 0)) rfl ?_
            refine x_getf (by decide +kernel : am_at co_X12_qFact 56 = some (3, .getfield 215)) pq_12_215 rfl ob_152 ?_
            refine x_callV (n := 3) (by decide +kernel : am_at co_X12_qFact 59 = some (3, .invokevirtual 239)) pq_12_239 pm_X12_fail rfl rfl rfl ob_152 h (x_kv fun M23 h => ?_)
            exact x_vret (by decide +kernel : am_at co_X12_qFact 62 = some (1, .return_)) h
    · have c3 := c3
      have h := h.2 c3
      exact x_vret (by decide +kernel : am_at co_X12_qFact 29 = some (1, .return_)) h
  · have c1 := c1
    have h := h.2 c1
    refine x_aload_n (by decide +kernel : am_at co_X12_qFact 11 = some (1, .aload_n 0)) rfl ?_
    refine x_bipush (by decide +kernel : am_at co_X12_qFact 12 = some (2, .bipush 13)) ?_
    refine x_callV (n := 2) (by decide +kernel : am_at co_X12_qFact 14 = some (3, .invokevirtual 585)) pq_12_585 pm_X12_qCode rfl rfl rfl ob_152 h (x_kv fun M24 h => ?_)
    exact x_vret (by decide +kernel : am_at co_X12_qFact 17 = some (1, .return_)) h
set_option maxRecDepth 20000 in
theorem bk_X12_qHasSquare_0 {d : Nat} {Q : am_Q} {M : am_M} (h : am_g 12 5 co_X12_qHasSquare d Q 2 [(2, 152), (0, 0)] [] sh_T M) : am_g 12 5 co_X12_qHasSquare d Q 0 [(2, 152), (3, 0)] [] sh_T M := by
  refine x_iconst (by decide +kernel : am_at co_X12_qHasSquare 0 = some (1, .iconst 0)) ?_
  refine x_istore_n (L' := [(2, 152), (0, 0)]) (by decide +kernel : am_at co_X12_qHasSquare 1 = some (1, .istore_n 1)) rfl ?_
  exact am_weak (lk (lk ln)) h
set_option maxRecDepth 20000 in
theorem bk_X12_qHasSquare_2 {d : Nat} {Q : am_Q} {M : am_M} {v1 : Int} (h : ((M 152 85 ≤ v1 → Q (some (0, 0), sh_T, M)) ∧ (v1 < M 152 85 → (0 ≤ v1 ∧ v1 < 1700) ∧ ((¬ M 212 v1 = 25 → am_r (v1 + 1) ∧ am_g 12 5 co_X12_qHasSquare d Q 2 [(2, 152), (0, v1 + 1)] [] sh_T M) ∧ (M 212 v1 = 25 → Q (some (0, 1), sh_T, M)))))) : am_g 12 5 co_X12_qHasSquare d Q 2 [(2, 152), (0, v1)] [] sh_T M := by
  refine x_iload_n (by decide +kernel : am_at co_X12_qHasSquare 2 = some (1, .iload_n 1)) rfl ?_
  refine x_aload_n (by decide +kernel : am_at co_X12_qHasSquare 3 = some (1, .aload_n 0)) rfl ?_
  refine x_getf (by decide +kernel : am_at co_X12_qHasSquare 4 = some (3, .getfield 582)) pq_12_582 rfl ob_152 ?_
  refine x_icmp (tgt := 29) (by decide +kernel : am_at co_X12_qHasSquare 7 = some (3, .if_icmp .ge 22)) rfl Iff.rfl (fun c0 => ?_) (fun c0 => ?_)
  · have h := h.1 c0
    refine x_iconst (by decide +kernel : am_at co_X12_qHasSquare 29 = some (1, .iconst 0)) ?_
    exact x_zret (by decide +kernel : am_at co_X12_qHasSquare 30 = some (1, .ireturn)) (by decide) h
  · have c0 := (Int.not_le.mp c0)
    have h := h.2 c0
    refine x_aload_n (by decide +kernel : am_at co_X12_qHasSquare 10 = some (1, .aload_n 0)) rfl ?_
    refine x_getF (by decide +kernel : am_at co_X12_qHasSquare 11 = some (3, .getfield 197)) pq_12_197 (by decide) rfl ob_152 ?_
    refine x_top2 (show 152 + 60 = 212 from rfl) ?_
    refine x_iload_n (by decide +kernel : am_at co_X12_qHasSquare 14 = some (1, .iload_n 1)) rfl ?_
    obtain ⟨o1, h⟩ := h
    refine x_iald (by decide +kernel : am_at co_X12_qHasSquare 15 = some (1, .iaload)) (ia_212 o1.1 o1.2) ?_
    refine x_bipush (by decide +kernel : am_at co_X12_qHasSquare 16 = some (2, .bipush 25)) ?_
    refine x_icmp (tgt := 23) (by decide +kernel : am_at co_X12_qHasSquare 18 = some (3, .if_icmp .ne 5)) rfl Iff.rfl (fun c2 => ?_) (fun c2 => ?_)
    · have h := h.1 c2
      obtain ⟨o3, h⟩ := h
      refine x_iinc (L' := [(2, 152), (0, v1 + 1)]) (by decide +kernel : am_at co_X12_qHasSquare 23 = some (3, .iinc 1 1)) rfl o3 rfl ?_
      refine x_goto (tgt := 2) (by decide +kernel : am_at co_X12_qHasSquare 26 = some (3, .goto (-24))) rfl ?_
      exact am_weak (lk (lk ln)) h
    · have c2 := (Classical.not_not.mp c2)
      have h := h.2 c2
      refine x_iconst (by decide +kernel : am_at co_X12_qHasSquare 21 = some (1, .iconst 1)) ?_
      exact x_zret (by decide +kernel : am_at co_X12_qHasSquare 22 = some (1, .ireturn)) (by decide) h
set_option maxRecDepth 20000 in
theorem bk_X12_qDropsNots_0 {d : Nat} {Q : am_Q} {M : am_M} (h : ((¬ M 152 5 = 0 → Q (none, sh_T, M)) ∧ (M 152 5 = 0 → am_cal pg d 279 [(2, 152), (0, 12)] sh_T M (am_c0 sh_T fun x2 M2 => ((x2 = 0 → Q (none, sh_T, M2)) ∧ (¬ x2 = 0 → am_r ((M2 152 86) - 1) ∧ am_cal pg d 280 [(2, 152)] sh_T (am_up M2 152 86 ((M2 152 86) - 1)) (am_cv sh_T fun M5 => am_g 12 9 co_X12_qDropsNots d Q 0 [(2, 152)] [] sh_T M5))))))) : am_g 12 9 co_X12_qDropsNots d Q 0 [(2, 152)] [] sh_T M := by
  refine x_aload_n (by decide +kernel : am_at co_X12_qDropsNots 0 = some (1, .aload_n 0)) rfl ?_
  refine x_getf (by decide +kernel : am_at co_X12_qDropsNots 1 = some (3, .getfield 209)) pq_12_209 rfl ob_152 ?_
  refine x_if (tgt := 33) (by decide +kernel : am_at co_X12_qDropsNots 4 = some (3, .ifCond .ne 29)) rfl Iff.rfl (fun c0 => ?_) (fun c0 => ?_)
  · have h := h.1 c0
    exact x_vret (by decide +kernel : am_at co_X12_qDropsNots 33 = some (1, .return_)) h
  · have c0 := (Classical.not_not.mp c0)
    have h := h.2 c0
    refine x_aload_n (by decide +kernel : am_at co_X12_qDropsNots 7 = some (1, .aload_n 0)) rfl ?_
    refine x_bipush (by decide +kernel : am_at co_X12_qDropsNots 8 = some (2, .bipush 12)) ?_
    refine x_callV (n := 2) (by decide +kernel : am_at co_X12_qDropsNots 10 = some (3, .invokevirtual 618)) pq_12_618 pm_X12_qIsOn rfl rfl rfl ob_152 h (x_k0 fun x2 M2 h => ?_)
    refine x_if (tgt := 33) (by decide +kernel : am_at co_X12_qDropsNots 13 = some (3, .ifCond .eq 20)) rfl Iff.rfl (fun c2 => ?_) (fun c2 => ?_)
    · have h := h.1 c2
      exact x_vret (by decide +kernel : am_at co_X12_qDropsNots 33 = some (1, .return_)) h
    · have c2 := c2
      have h := h.2 c2
      refine x_aload_n (by decide +kernel : am_at co_X12_qDropsNots 16 = some (1, .aload_n 0)) rfl ?_
      refine x_dup2' (by decide +kernel : am_at co_X12_qDropsNots 17 = some (1, .dup)) ?_
      refine x_getf (by decide +kernel : am_at co_X12_qDropsNots 18 = some (3, .getfield 579)) pq_12_579 rfl ob_152 ?_
      refine x_iconst (by decide +kernel : am_at co_X12_qDropsNots 21 = some (1, .iconst 1)) ?_
      obtain ⟨o3, h⟩ := h
      refine x_isub (by decide +kernel : am_at co_X12_qDropsNots 22 = some (1, .isub)) o3 ?_
      refine x_putf0 (by decide +kernel : am_at co_X12_qDropsNots 23 = some (3, .putfield 579)) pq_12_579 rfl ob_152 ?_
      refine x_aload_n (by decide +kernel : am_at co_X12_qDropsNots 26 = some (1, .aload_n 0)) rfl ?_
      refine x_callV (n := 1) (by decide +kernel : am_at co_X12_qDropsNots 27 = some (3, .invokevirtual 594)) pq_12_594 pm_X12_qDrops rfl rfl rfl ob_152 h (x_kv fun M5 h => ?_)
      refine x_goto (tgt := 0) (by decide +kernel : am_at co_X12_qDropsNots 30 = some (3, .goto (-30))) rfl ?_
      exact am_weak (lk ln) h
set_option maxRecDepth 20000 in
theorem bk_X12_qTest_0 {d : Nat} {Q : am_Q} {M : am_M} (h : am_g 12 9 co_X12_qTest d Q 2 [(2, 152), (0, 1), (3, 0)] [] sh_T M) : am_g 12 9 co_X12_qTest d Q 0 [(2, 152), (3, 0), (3, 0)] [] sh_T M := by
  refine x_iconst (by decide +kernel : am_at co_X12_qTest 0 = some (1, .iconst 1)) ?_
  refine x_istore_n (L' := [(2, 152), (0, 1), (3, 0)]) (by decide +kernel : am_at co_X12_qTest 1 = some (1, .istore_n 1)) rfl ?_
  exact am_weak (lk (lk (lk ln))) h
set_option maxRecDepth 20000 in
theorem bk_X12_qTest_2 {d : Nat} {Q : am_Q} {M : am_M} {v1 : Int} (h : ((v1 = 0 → am_g 12 9 co_X12_qTest d Q 110 [(2, 152), (3, 0), (3, 0)] [] sh_T M) ∧ (¬ v1 = 0 → ((¬ M 152 5 = 0 → am_g 12 9 co_X12_qTest d Q 110 [(2, 152), (3, 0), (3, 0)] [] sh_T M) ∧ (M 152 5 = 0 → am_cal pg d 175 [(2, 152)] sh_T M (am_c0 sh_T fun x3 M3 => ((¬ x3 = 91 → am_cal pg d 176 [(2, 152), (2, 199)] sh_T M3 (am_c0 sh_T fun x5 M5 => ((x5 = 0 → am_cal pg d 291 [(2, 152)] sh_T M5 (am_cv sh_T fun M7 => am_cal pg d 293 [(2, 152)] sh_T M7 (am_cv sh_T fun M8 => ((¬ M8 152 5 = 0 → am_g 12 9 co_X12_qTest d Q 2 [(2, 152), (0, 0), (3, 0)] [] sh_T M8) ∧ (M8 152 5 = 0 → am_cal pg d 295 [(2, 152)] sh_T M8 (am_c0 sh_T fun x10 M10 => ((x10 = 0 → am_g 12 9 co_X12_qTest d Q 2 [(2, 152), (0, 0), (3, 0)] [] sh_T M10) ∧ (¬ x10 = 0 → am_g 12 9 co_X12_qTest d Q 2 [(2, 152), (0, 1), (3, 0)] [] sh_T M10)))))))) ∧ (¬ x5 = 0 → am_cal pg d 278 [(2, 152), (0, 12), (0, M5 152 2)] sh_T M5 (am_cv sh_T fun M12 => am_cal pg d 178 [(2, 152), (2, 199)] sh_T M12 (am_cv sh_T fun M13 => am_g 12 9 co_X12_qTest d Q 2 [(2, 152), (0, v1), (3, 0)] [] sh_T M13)))))) ∧ (x3 = 91 → am_cal pg d 278 [(2, 152), (0, 25), (0, M3 152 2)] sh_T M3 (am_cv sh_T fun M14 => am_r ((M14 152 2) + 1) ∧ am_g 12 9 co_X12_qTest d Q 2 [(2, 152), (0, v1), (3, 0)] [] sh_T (am_up M14 152 2 ((M14 152 2) + 1))))))))))) : am_g 12 9 co_X12_qTest d Q 2 [(2, 152), (0, v1), (3, 0)] [] sh_T M := by
  refine x_iload_n (by decide +kernel : am_at co_X12_qTest 2 = some (1, .iload_n 1)) rfl ?_
  refine x_if (tgt := 110) (by decide +kernel : am_at co_X12_qTest 3 = some (3, .ifCond .eq 107)) rfl Iff.rfl (fun c0 => ?_) (fun c0 => ?_)
  · have h := h.1 c0
    exact am_weak (lk (ld (lk ln))) h
  · have c0 := c0
    have h := h.2 c0
    refine x_aload_n (by decide +kernel : am_at co_X12_qTest 6 = some (1, .aload_n 0)) rfl ?_
    refine x_getf (by decide +kernel : am_at co_X12_qTest 7 = some (3, .getfield 209)) pq_12_209 rfl ob_152 ?_
    refine x_if (tgt := 110) (by decide +kernel : am_at co_X12_qTest 10 = some (3, .ifCond .ne 100)) rfl Iff.rfl (fun c1 => ?_) (fun c1 => ?_)
    · have h := h.1 c1
      exact am_weak (lk (ld (lk ln))) h
    · have c1 := (Classical.not_not.mp c1)
      have h := h.2 c1
      refine x_aload_n (by decide +kernel : am_at co_X12_qTest 13 = some (1, .aload_n 0)) rfl ?_
      refine x_callV (n := 1) (by decide +kernel : am_at co_X12_qTest 14 = some (3, .invokevirtual 221)) pq_12_221 pm_X12_look rfl rfl rfl ob_152 h (x_k0 fun x3 M3 h => ?_)
      refine x_istore_n (L' := [(2, 152), (0, v1), (0, x3)]) (by decide +kernel : am_at co_X12_qTest 17 = some (1, .istore_n 2)) rfl ?_
      refine x_iload_n (by decide +kernel : am_at co_X12_qTest 18 = some (1, .iload_n 2)) rfl ?_
      refine x_bipush (by decide +kernel : am_at co_X12_qTest 19 = some (2, .bipush 91)) ?_
      refine x_icmp (tgt := 47) (by decide +kernel : am_at co_X12_qTest 21 = some (3, .if_icmp .ne 26)) rfl Iff.rfl (fun c3 => ?_) (fun c3 => ?_)
      · have h := h.1 c3
        refine x_aload_n (by decide +kernel : am_at co_X12_qTest 47 = some (1, .aload_n 0)) rfl ?_
        refine x_aload_n (by decide +kernel : am_at co_X12_qTest 48 = some (1, .aload_n 0)) rfl ?_
        refine x_getF (by decide +kernel : am_at co_X12_qTest 49 = some (3, .getfield 158)) pq_12_158 (by decide) rfl ob_152 ?_
        refine x_top2 (show 152 + 47 = 199 from rfl) ?_
        refine x_callV (n := 2) (by decide +kernel : am_at co_X12_qTest 52 = some (3, .invokevirtual 232)) pq_12_232 pm_X12_isHere rfl rfl rfl ob_152 h (x_k0 fun x5 M5 h => ?_)
        refine x_if (tgt := 79) (by decide +kernel : am_at co_X12_qTest 55 = some (3, .ifCond .eq 24)) rfl Iff.rfl (fun c5 => ?_) (fun c5 => ?_)
        · have h := h.1 c5
          refine x_aload_n (by decide +kernel : am_at co_X12_qTest 79 = some (1, .aload_n 0)) rfl ?_
          refine x_callV (n := 1) (by decide +kernel : am_at co_X12_qTest 80 = some (3, .invokevirtual 630)) pq_12_630 pm_X12_qFact rfl rfl rfl ob_152 h (x_kv fun M7 h => ?_)
          refine x_aload_n (by decide +kernel : am_at co_X12_qTest 83 = some (1, .aload_n 0)) rfl ?_
          refine x_callV (n := 1) (by decide +kernel : am_at co_X12_qTest 84 = some (3, .invokevirtual 633)) pq_12_633 pm_X12_qDropsNots rfl rfl rfl ob_152 h (x_kv fun M8 h => ?_)
          refine x_aload_n (by decide +kernel : am_at co_X12_qTest 87 = some (1, .aload_n 0)) rfl ?_
          refine x_getf (by decide +kernel : am_at co_X12_qTest 88 = some (3, .getfield 209)) pq_12_209 rfl ob_152 ?_
          refine x_if (tgt := 105) (by decide +kernel : am_at co_X12_qTest 91 = some (3, .ifCond .ne 14)) rfl Iff.rfl (fun c8 => ?_) (fun c8 => ?_)
          · have h := h.1 c8
            refine x_iconst (by decide +kernel : am_at co_X12_qTest 105 = some (1, .iconst 0)) ?_
            refine x_istore_n (L' := [(2, 152), (0, 0), (0, x3)]) (by decide +kernel : am_at co_X12_qTest 106 = some (1, .istore_n 1)) rfl ?_
            refine x_goto (tgt := 2) (by decide +kernel : am_at co_X12_qTest 107 = some (3, .goto (-105))) rfl ?_
            exact am_weak (lk (lk (ld ln))) h
          · have c8 := (Classical.not_not.mp c8)
            have h := h.2 c8
            refine x_aload_n (by decide +kernel : am_at co_X12_qTest 94 = some (1, .aload_n 0)) rfl ?_
            refine x_callV (n := 1) (by decide +kernel : am_at co_X12_qTest 95 = some (3, .invokevirtual 636)) pq_12_636 pm_X12_qGoesOnTest rfl rfl rfl ob_152 h (x_k0 fun x10 M10 h => ?_)
            refine x_if (tgt := 105) (by decide +kernel : am_at co_X12_qTest 98 = some (3, .ifCond .eq 7)) rfl Iff.rfl (fun c10 => ?_) (fun c10 => ?_)
            · have h := h.1 c10
              refine x_iconst (by decide +kernel : am_at co_X12_qTest 105 = some (1, .iconst 0)) ?_
              refine x_istore_n (L' := [(2, 152), (0, 0), (0, x3)]) (by decide +kernel : am_at co_X12_qTest 106 = some (1, .istore_n 1)) rfl ?_
              refine x_goto (tgt := 2) (by decide +kernel : am_at co_X12_qTest 107 = some (3, .goto (-105))) rfl ?_
              exact am_weak (lk (lk (ld ln))) h
            · have c10 := c10
              have h := h.2 c10
              refine x_iconst (by decide +kernel : am_at co_X12_qTest 101 = some (1, .iconst 1)) ?_
              refine x_goto (tgt := 106) (by decide +kernel : am_at co_X12_qTest 102 = some (3, .goto 4)) rfl ?_
              refine x_istore_n (L' := [(2, 152), (0, 1), (0, x3)]) (by decide +kernel : am_at co_X12_qTest 106 = some (1, .istore_n 1)) rfl ?_
              refine x_goto (tgt := 2) (by decide +kernel : am_at co_X12_qTest 107 = some (3, .goto (-105))) rfl ?_
              exact am_weak (lk (lk (ld ln))) h
        · have c5 := c5
          have h := h.2 c5
          refine x_aload_n (by decide +kernel : am_at co_X12_qTest 58 = some (1, .aload_n 0)) rfl ?_
          refine x_bipush (by decide +kernel : am_at co_X12_qTest 59 = some (2, .bipush 12)) ?_
          refine x_aload_n (by decide +kernel : am_at co_X12_qTest 61 = some (1, .aload_n 0)) rfl ?_
          refine x_getf (by decide +kernel : am_at co_X12_qTest 62 = some (3, .getfield 215)) pq_12_215 rfl ob_152 ?_
          refine x_callV (n := 3) (by decide +kernel : am_at co_X12_qTest 65 = some (3, .invokevirtual 603)) pq_12_603 pm_X12_qOpens rfl rfl rfl ob_152 h (x_kv fun M12 h => ?_)
          refine x_aload_n (by decide +kernel : am_at co_X12_qTest 68 = some (1, .aload_n 0)) rfl ?_
          refine x_aload_n (by decide +kernel : am_at co_X12_qTest 69 = some (1, .aload_n 0)) rfl ?_
          refine x_getF (by decide +kernel : am_at co_X12_qTest 70 = some (3, .getfield 158)) pq_12_158 (by decide) rfl ob_152 ?_
          refine x_top2 (show 152 + 47 = 199 from rfl) ?_
          refine x_callV (n := 2) (by decide +kernel : am_at co_X12_qTest 73 = some (3, .invokevirtual 279)) pq_12_279 pm_X12_asks rfl rfl rfl ob_152 h (x_kv fun M13 h => ?_)
          refine x_goto (tgt := 2) (by decide +kernel : am_at co_X12_qTest 76 = some (3, .goto (-74))) rfl ?_
          exact am_weak (lk (lk (ld ln))) h
      · have c3 := (Classical.not_not.mp c3)
        have h := h.2 c3
        refine x_aload_n (by decide +kernel : am_at co_X12_qTest 24 = some (1, .aload_n 0)) rfl ?_
        refine x_bipush (by decide +kernel : am_at co_X12_qTest 25 = some (2, .bipush 25)) ?_
        refine x_aload_n (by decide +kernel : am_at co_X12_qTest 27 = some (1, .aload_n 0)) rfl ?_
        refine x_getf (by decide +kernel : am_at co_X12_qTest 28 = some (3, .getfield 215)) pq_12_215 rfl ob_152 ?_
        refine x_callV (n := 3) (by decide +kernel : am_at co_X12_qTest 31 = some (3, .invokevirtual 603)) pq_12_603 pm_X12_qOpens rfl rfl rfl ob_152 h (x_kv fun M14 h => ?_)
        refine x_aload_n (by decide +kernel : am_at co_X12_qTest 34 = some (1, .aload_n 0)) rfl ?_
        refine x_dup2' (by decide +kernel : am_at co_X12_qTest 35 = some (1, .dup)) ?_
        refine x_getf (by decide +kernel : am_at co_X12_qTest 36 = some (3, .getfield 215)) pq_12_215 rfl ob_152 ?_
        refine x_iconst (by decide +kernel : am_at co_X12_qTest 39 = some (1, .iconst 1)) ?_
        obtain ⟨o14, h⟩ := h
        refine x_iadd (by decide +kernel : am_at co_X12_qTest 40 = some (1, .iadd)) o14 ?_
        refine x_putf0 (by decide +kernel : am_at co_X12_qTest 41 = some (3, .putfield 215)) pq_12_215 rfl ob_152 ?_
        refine x_goto (tgt := 2) (by decide +kernel : am_at co_X12_qTest 44 = some (3, .goto (-42))) rfl ?_
        exact am_weak (lk (lk (ld ln))) h
set_option maxRecDepth 20000 in
theorem bk_X12_qTest_110 {d : Nat} {Q : am_Q} {M : am_M} (h : ((¬ M 152 5 = 0 → Q (none, sh_T, M)) ∧ (M 152 5 = 0 → ((M 152 85 ≤ 0 → Q (none, sh_T, M)) ∧ (0 < M 152 85 → am_cal pg d 280 [(2, 152)] sh_T M (am_cv sh_T fun M3 => am_g 12 9 co_X12_qTest d Q 110 [(2, 152), (3, 0), (3, 0)] [] sh_T M3)))))) : am_g 12 9 co_X12_qTest d Q 110 [(2, 152), (3, 0), (3, 0)] [] sh_T M := by
  refine x_aload_n (by decide +kernel : am_at co_X12_qTest 110 = some (1, .aload_n 0)) rfl ?_
  refine x_getf (by decide +kernel : am_at co_X12_qTest 111 = some (3, .getfield 209)) pq_12_209 rfl ob_152 ?_
  refine x_if (tgt := 131) (by decide +kernel : am_at co_X12_qTest 114 = some (3, .ifCond .ne 17)) rfl Iff.rfl (fun c0 => ?_) (fun c0 => ?_)
  · have h := h.1 c0
    exact x_vret (by decide +kernel : am_at co_X12_qTest 131 = some (1, .return_)) h
  · have c0 := (Classical.not_not.mp c0)
    have h := h.2 c0
    refine x_aload_n (by decide +kernel : am_at co_X12_qTest 117 = some (1, .aload_n 0)) rfl ?_
    refine x_getf (by decide +kernel : am_at co_X12_qTest 118 = some (3, .getfield 582)) pq_12_582 rfl ob_152 ?_
    refine x_if (tgt := 131) (by decide +kernel : am_at co_X12_qTest 121 = some (3, .ifCond .le 10)) rfl Iff.rfl (fun c1 => ?_) (fun c1 => ?_)
    · have h := h.1 c1
      exact x_vret (by decide +kernel : am_at co_X12_qTest 131 = some (1, .return_)) h
    · have c1 := (Int.not_le.mp c1)
      have h := h.2 c1
      refine x_aload_n (by decide +kernel : am_at co_X12_qTest 124 = some (1, .aload_n 0)) rfl ?_
      refine x_callV (n := 1) (by decide +kernel : am_at co_X12_qTest 125 = some (3, .invokevirtual 594)) pq_12_594 pm_X12_qDrops rfl rfl rfl ob_152 h (x_kv fun M3 h => ?_)
      refine x_goto (tgt := 110) (by decide +kernel : am_at co_X12_qTest 128 = some (3, .goto (-18))) rfl ?_
      exact am_weak (lk (lk (lk ln))) h
set_option maxRecDepth 20000 in
theorem bk_X12_qGoesOnTest_0 {d : Nat} {Q : am_Q} {M : am_M} (h : ((¬ M 152 5 = 0 → am_g 12 5 co_X12_qGoesOnTest d Q 76 [(2, 152)] [] sh_T M) ∧ (M 152 5 = 0 → am_cal pg d 175 [(2, 152)] sh_T M (am_c0 sh_T fun x2 M2 => ((¬ x2 = 93 → am_g 12 5 co_X12_qGoesOnTest d Q 76 [(2, 152)] [] sh_T M2) ∧ (x2 = 93 → am_cal pg d 292 [(2, 152)] sh_T M2 (am_c0 sh_T fun x4 M4 => ((x4 = 0 → am_g 12 5 co_X12_qGoesOnTest d Q 76 [(2, 152)] [] sh_T M4) ∧ (¬ x4 = 0 → am_r ((M4 152 2) + 1) ∧ am_g 12 5 co_X12_qGoesOnTest d Q 33 [(2, 152)] [] sh_T (am_up M4 152 2 ((M4 152 2) + 1))))))))))) : am_g 12 5 co_X12_qGoesOnTest d Q 0 [(2, 152)] [] sh_T M := by
  refine x_aload_n (by decide +kernel : am_at co_X12_qGoesOnTest 0 = some (1, .aload_n 0)) rfl ?_
  refine x_getf (by decide +kernel : am_at co_X12_qGoesOnTest 1 = some (3, .getfield 209)) pq_12_209 rfl ob_152 ?_
  refine x_if (tgt := 76) (by decide +kernel : am_at co_X12_qGoesOnTest 4 = some (3, .ifCond .ne 72)) rfl Iff.rfl (fun c0 => ?_) (fun c0 => ?_)
  · have h := h.1 c0
    exact am_weak (lk ln) h
  · have c0 := (Classical.not_not.mp c0)
    have h := h.2 c0
    refine x_aload_n (by decide +kernel : am_at co_X12_qGoesOnTest 7 = some (1, .aload_n 0)) rfl ?_
    refine x_callV (n := 1) (by decide +kernel : am_at co_X12_qGoesOnTest 8 = some (3, .invokevirtual 221)) pq_12_221 pm_X12_look rfl rfl rfl ob_152 h (x_k0 fun x2 M2 h => ?_)
    refine x_bipush (by decide +kernel : am_at co_X12_qGoesOnTest 11 = some (2, .bipush 93)) ?_
    refine x_icmp (tgt := 76) (by decide +kernel : am_at co_X12_qGoesOnTest 13 = some (3, .if_icmp .ne 63)) rfl Iff.rfl (fun c2 => ?_) (fun c2 => ?_)
    · have h := h.1 c2
      exact am_weak (lk ln) h
    · have c2 := (Classical.not_not.mp c2)
      have h := h.2 c2
      refine x_aload_n (by decide +kernel : am_at co_X12_qGoesOnTest 16 = some (1, .aload_n 0)) rfl ?_
      refine x_callV (n := 1) (by decide +kernel : am_at co_X12_qGoesOnTest 17 = some (3, .invokevirtual 639)) pq_12_639 pm_X12_qHasSquare rfl rfl rfl ob_152 h (x_k0 fun x4 M4 h => ?_)
      refine x_if (tgt := 76) (by decide +kernel : am_at co_X12_qGoesOnTest 20 = some (3, .ifCond .eq 56)) rfl Iff.rfl (fun c4 => ?_) (fun c4 => ?_)
      · have h := h.1 c4
        exact am_weak (lk ln) h
      · have c4 := c4
        have h := h.2 c4
        refine x_aload_n (by decide +kernel : am_at co_X12_qGoesOnTest 23 = some (1, .aload_n 0)) rfl ?_
        refine x_dup2' (by decide +kernel : am_at co_X12_qGoesOnTest 24 = some (1, .dup)) ?_
        refine x_getf (by decide +kernel : am_at co_X12_qGoesOnTest 25 = some (3, .getfield 215)) pq_12_215 rfl ob_152 ?_
        refine x_iconst (by decide +kernel : am_at co_X12_qGoesOnTest 28 = some (1, .iconst 1)) ?_
        obtain ⟨o5, h⟩ := h
        refine x_iadd (by decide +kernel : am_at co_X12_qGoesOnTest 29 = some (1, .iadd)) o5 ?_
        refine x_putf0 (by decide +kernel : am_at co_X12_qGoesOnTest 30 = some (3, .putfield 215)) pq_12_215 rfl ob_152 ?_
        exact am_weak (lk ln) h
set_option maxRecDepth 20000 in
theorem bk_X12_qGoesOnTest_33 {d : Nat} {Q : am_Q} {M : am_M} (h : am_cal pg d 279 [(2, 152), (0, 25)] sh_T M (am_c0 sh_T fun x1 M1 => ((¬ x1 = 0 → am_r ((M1 152 85) - 1) ∧ am_r ((M1 152 86) - 1) ∧ am_cal pg d 293 [(2, 152)] sh_T (am_up (am_up M1 152 85 ((M1 152 85) - 1)) 152 86 ((M1 152 86) - 1)) (am_cv sh_T fun M5 => am_g 12 5 co_X12_qGoesOnTest d Q 0 [(2, 152)] [] sh_T M5)) ∧ (x1 = 0 → am_cal pg d 280 [(2, 152)] sh_T M1 (am_cv sh_T fun M6 => am_g 12 5 co_X12_qGoesOnTest d Q 33 [(2, 152)] [] sh_T M6))))) : am_g 12 5 co_X12_qGoesOnTest d Q 33 [(2, 152)] [] sh_T M := by
  refine x_aload_n (by decide +kernel : am_at co_X12_qGoesOnTest 33 = some (1, .aload_n 0)) rfl ?_
  refine x_bipush (by decide +kernel : am_at co_X12_qGoesOnTest 34 = some (2, .bipush 25)) ?_
  refine x_callV (n := 2) (by decide +kernel : am_at co_X12_qGoesOnTest 36 = some (3, .invokevirtual 618)) pq_12_618 pm_X12_qIsOn rfl rfl rfl ob_152 h (x_k0 fun x1 M1 h => ?_)
  refine x_if (tgt := 49) (by decide +kernel : am_at co_X12_qGoesOnTest 39 = some (3, .ifCond .ne 10)) rfl Iff.rfl (fun c1 => ?_) (fun c1 => ?_)
  · have h := h.1 c1
    refine x_aload_n (by decide +kernel : am_at co_X12_qGoesOnTest 49 = some (1, .aload_n 0)) rfl ?_
    refine x_dup2' (by decide +kernel : am_at co_X12_qGoesOnTest 50 = some (1, .dup)) ?_
    refine x_getf (by decide +kernel : am_at co_X12_qGoesOnTest 51 = some (3, .getfield 582)) pq_12_582 rfl ob_152 ?_
    refine x_iconst (by decide +kernel : am_at co_X12_qGoesOnTest 54 = some (1, .iconst 1)) ?_
    obtain ⟨o2, h⟩ := h
    refine x_isub (by decide +kernel : am_at co_X12_qGoesOnTest 55 = some (1, .isub)) o2 ?_
    refine x_putf0 (by decide +kernel : am_at co_X12_qGoesOnTest 56 = some (3, .putfield 582)) pq_12_582 rfl ob_152 ?_
    refine x_aload_n (by decide +kernel : am_at co_X12_qGoesOnTest 59 = some (1, .aload_n 0)) rfl ?_
    refine x_dup2' (by decide +kernel : am_at co_X12_qGoesOnTest 60 = some (1, .dup)) ?_
    refine x_getf (by decide +kernel : am_at co_X12_qGoesOnTest 61 = some (3, .getfield 579)) pq_12_579 rfl ob_152 ?_
    refine x_top0 (show (am_up M1 152 85 ((M1 152 85) - 1)) 152 86 = M1 152 86 from by first | rfl | simp [am_up]) ?_
    refine x_iconst (by decide +kernel : am_at co_X12_qGoesOnTest 64 = some (1, .iconst 1)) ?_
    obtain ⟨o3, h⟩ := h
    refine x_isub (by decide +kernel : am_at co_X12_qGoesOnTest 65 = some (1, .isub)) o3 ?_
    refine x_putf0 (by decide +kernel : am_at co_X12_qGoesOnTest 66 = some (3, .putfield 579)) pq_12_579 rfl ob_152 ?_
    refine x_aload_n (by decide +kernel : am_at co_X12_qGoesOnTest 69 = some (1, .aload_n 0)) rfl ?_
    refine x_callV (n := 1) (by decide +kernel : am_at co_X12_qGoesOnTest 70 = some (3, .invokevirtual 633)) pq_12_633 pm_X12_qDropsNots rfl rfl rfl ob_152 h (x_kv fun M5 h => ?_)
    refine x_goto (tgt := 0) (by decide +kernel : am_at co_X12_qGoesOnTest 73 = some (3, .goto (-73))) rfl ?_
    exact am_weak (lk ln) h
  · have c1 := (Classical.not_not.mp c1)
    have h := h.2 c1
    refine x_aload_n (by decide +kernel : am_at co_X12_qGoesOnTest 42 = some (1, .aload_n 0)) rfl ?_
    refine x_callV (n := 1) (by decide +kernel : am_at co_X12_qGoesOnTest 43 = some (3, .invokevirtual 594)) pq_12_594 pm_X12_qDrops rfl rfl rfl ob_152 h (x_kv fun M6 h => ?_)
    refine x_goto (tgt := 33) (by decide +kernel : am_at co_X12_qGoesOnTest 46 = some (3, .goto (-13))) rfl ?_
    exact am_weak (lk ln) h
set_option maxRecDepth 20000 in
theorem bk_X12_qGoesOnTest_76 {d : Nat} {Q : am_Q} {M : am_M} (h : am_cal pg d 177 [(2, 152), (2, 200)] sh_T M (am_c0 sh_T fun x1 M1 => ((x1 = 0 → am_cal pg d 177 [(2, 152), (2, 201)] sh_T M1 (am_c0 sh_T fun x3 M3 => ((x3 = 0 → ((¬ M3 152 5 = 0 → am_g 12 5 co_X12_qGoesOnTest d Q 208 [(3, 0)] [] sh_T M3) ∧ (M3 152 5 = 0 → am_cal pg d 292 [(2, 152)] sh_T M3 (am_c0 sh_T fun x6 M6 => ((x6 = 0 → am_g 12 5 co_X12_qGoesOnTest d Q 208 [(3, 0)] [] sh_T M6) ∧ (¬ x6 = 0 → am_cal pg d 172 [(2, 152), (0, 1), (0, M6 152 2)] sh_T M6 (am_cv sh_T fun M8 => am_g 12 5 co_X12_qGoesOnTest d Q 208 [(3, 0)] [] sh_T M8))))))) ∧ (¬ x3 = 0 → am_g 12 5 co_X12_qGoesOnTest d Q 137 [(2, 152)] [] sh_T M3)))) ∧ (¬ x1 = 0 → am_g 12 5 co_X12_qGoesOnTest d Q 87 [(2, 152)] [] sh_T M1)))) : am_g 12 5 co_X12_qGoesOnTest d Q 76 [(2, 152)] [] sh_T M := by
  refine x_aload_n (by decide +kernel : am_at co_X12_qGoesOnTest 76 = some (1, .aload_n 0)) rfl ?_
  refine x_aload_n (by decide +kernel : am_at co_X12_qGoesOnTest 77 = some (1, .aload_n 0)) rfl ?_
  refine x_getF (by decide +kernel : am_at co_X12_qGoesOnTest 78 = some (3, .getfield 161)) pq_12_161 (by decide) rfl ob_152 ?_
  refine x_top2 (show 152 + 48 = 200 from rfl) ?_
  refine x_callV (n := 2) (by decide +kernel : am_at co_X12_qGoesOnTest 81 = some (3, .invokevirtual 236)) pq_12_236 pm_X12_takes rfl rfl rfl ob_152 h (x_k0 fun x1 M1 h => ?_)
  refine x_if (tgt := 126) (by decide +kernel : am_at co_X12_qGoesOnTest 84 = some (3, .ifCond .eq 42)) rfl Iff.rfl (fun c1 => ?_) (fun c1 => ?_)
  · have h := h.1 c1
    refine x_aload_n (by decide +kernel : am_at co_X12_qGoesOnTest 126 = some (1, .aload_n 0)) rfl ?_
    refine x_aload_n (by decide +kernel : am_at co_X12_qGoesOnTest 127 = some (1, .aload_n 0)) rfl ?_
    refine x_getF (by decide +kernel : am_at co_X12_qGoesOnTest 128 = some (3, .getfield 164)) pq_12_164 (by decide) rfl ob_152 ?_
    refine x_top2 (show 152 + 49 = 201 from rfl) ?_
    refine x_callV (n := 2) (by decide +kernel : am_at co_X12_qGoesOnTest 131 = some (3, .invokevirtual 236)) pq_12_236 pm_X12_takes rfl rfl rfl ob_152 h (x_k0 fun x3 M3 h => ?_)
    refine x_if (tgt := 185) (by decide +kernel : am_at co_X12_qGoesOnTest 134 = some (3, .ifCond .eq 51)) rfl Iff.rfl (fun c3 => ?_) (fun c3 => ?_)
    · have h := h.1 c3
      refine x_aload_n (by decide +kernel : am_at co_X12_qGoesOnTest 185 = some (1, .aload_n 0)) rfl ?_
      refine x_getf (by decide +kernel : am_at co_X12_qGoesOnTest 186 = some (3, .getfield 209)) pq_12_209 rfl ob_152 ?_
      refine x_if (tgt := 208) (by decide +kernel : am_at co_X12_qGoesOnTest 189 = some (3, .ifCond .ne 19)) rfl Iff.rfl (fun c4 => ?_) (fun c4 => ?_)
      · have h := h.1 c4
        exact am_weak (ld ln) h
      · have c4 := (Classical.not_not.mp c4)
        have h := h.2 c4
        refine x_aload_n (by decide +kernel : am_at co_X12_qGoesOnTest 192 = some (1, .aload_n 0)) rfl ?_
        refine x_callV (n := 1) (by decide +kernel : am_at co_X12_qGoesOnTest 193 = some (3, .invokevirtual 639)) pq_12_639 pm_X12_qHasSquare rfl rfl rfl ob_152 h (x_k0 fun x6 M6 h => ?_)
        refine x_if (tgt := 208) (by decide +kernel : am_at co_X12_qGoesOnTest 196 = some (3, .ifCond .eq 12)) rfl Iff.rfl (fun c6 => ?_) (fun c6 => ?_)
        · have h := h.1 c6
          exact am_weak (ld ln) h
        · have c6 := c6
          have h := h.2 c6
          refine x_aload_n (by decide +kernel : am_at co_X12_qGoesOnTest 199 = some (1, .aload_n 0)) rfl ?_
          refine x_iconst (by decide +kernel : am_at co_X12_qGoesOnTest 200 = some (1, .iconst 1)) ?_
          refine x_aload_n (by decide +kernel : am_at co_X12_qGoesOnTest 201 = some (1, .aload_n 0)) rfl ?_
          refine x_getf (by decide +kernel : am_at co_X12_qGoesOnTest 202 = some (3, .getfield 215)) pq_12_215 rfl ob_152 ?_
          refine x_callV (n := 3) (by decide +kernel : am_at co_X12_qGoesOnTest 205 = some (3, .invokevirtual 239)) pq_12_239 pm_X12_fail rfl rfl rfl ob_152 h (x_kv fun M8 h => ?_)
          exact am_weak (ld ln) h
    · have c3 := c3
      have h := h.2 c3
      exact am_weak (lk ln) h
  · have c1 := c1
    have h := h.2 c1
    exact am_weak (lk ln) h
set_option maxRecDepth 20000 in
theorem bk_X12_qGoesOnTest_87 {d : Nat} {Q : am_Q} {M : am_M} (h : am_cal pg d 279 [(2, 152), (0, 10)] sh_T M (am_c0 sh_T fun x1 M1 => ((x1 = 0 → (0 ≤ M1 152 85 ∧ M1 152 85 < 1700) ∧ am_r ((M1 152 85) + 1) ∧ Q (some (0, 1), sh_T, (am_up (am_up M1 212 (M1 152 85) 10) 152 85 ((M1 152 85) + 1)))) ∧ (¬ x1 = 0 → am_cal pg d 280 [(2, 152)] sh_T M1 (am_cv sh_T fun M5 => am_g 12 5 co_X12_qGoesOnTest d Q 87 [(2, 152)] [] sh_T M5))))) : am_g 12 5 co_X12_qGoesOnTest d Q 87 [(2, 152)] [] sh_T M := by
  refine x_aload_n (by decide +kernel : am_at co_X12_qGoesOnTest 87 = some (1, .aload_n 0)) rfl ?_
  refine x_bipush (by decide +kernel : am_at co_X12_qGoesOnTest 88 = some (2, .bipush 10)) ?_
  refine x_callV (n := 2) (by decide +kernel : am_at co_X12_qGoesOnTest 90 = some (3, .invokevirtual 618)) pq_12_618 pm_X12_qIsOn rfl rfl rfl ob_152 h (x_k0 fun x1 M1 h => ?_)
  refine x_if (tgt := 103) (by decide +kernel : am_at co_X12_qGoesOnTest 93 = some (3, .ifCond .eq 10)) rfl Iff.rfl (fun c1 => ?_) (fun c1 => ?_)
  · have h := h.1 c1
    refine x_aload_n (by decide +kernel : am_at co_X12_qGoesOnTest 103 = some (1, .aload_n 0)) rfl ?_
    refine x_getF (by decide +kernel : am_at co_X12_qGoesOnTest 104 = some (3, .getfield 197)) pq_12_197 (by decide) rfl ob_152 ?_
    refine x_top2 (show 152 + 60 = 212 from rfl) ?_
    refine x_aload_n (by decide +kernel : am_at co_X12_qGoesOnTest 107 = some (1, .aload_n 0)) rfl ?_
    refine x_getf (by decide +kernel : am_at co_X12_qGoesOnTest 108 = some (3, .getfield 582)) pq_12_582 rfl ob_152 ?_
    refine x_bipush (by decide +kernel : am_at co_X12_qGoesOnTest 111 = some (2, .bipush 10)) ?_
    obtain ⟨o2, h⟩ := h
    refine x_iast (by decide +kernel : am_at co_X12_qGoesOnTest 113 = some (1, .iastore)) (ow_212 o2.1 o2.2) ?_
    refine x_aload_n (by decide +kernel : am_at co_X12_qGoesOnTest 114 = some (1, .aload_n 0)) rfl ?_
    refine x_dup2' (by decide +kernel : am_at co_X12_qGoesOnTest 115 = some (1, .dup)) ?_
    refine x_getf (by decide +kernel : am_at co_X12_qGoesOnTest 116 = some (3, .getfield 582)) pq_12_582 rfl ob_152 ?_
    refine x_top0 (show (am_up M1 212 (M1 152 85) 10) 152 85 = M1 152 85 from by first | rfl | simp [am_up]) ?_
    refine x_iconst (by decide +kernel : am_at co_X12_qGoesOnTest 119 = some (1, .iconst 1)) ?_
    obtain ⟨o3, h⟩ := h
    refine x_iadd (by decide +kernel : am_at co_X12_qGoesOnTest 120 = some (1, .iadd)) o3 ?_
    refine x_putf0 (by decide +kernel : am_at co_X12_qGoesOnTest 121 = some (3, .putfield 582)) pq_12_582 rfl ob_152 ?_
    refine x_iconst (by decide +kernel : am_at co_X12_qGoesOnTest 124 = some (1, .iconst 1)) ?_
    exact x_zret (by decide +kernel : am_at co_X12_qGoesOnTest 125 = some (1, .ireturn)) (by decide) h
  · have c1 := c1
    have h := h.2 c1
    refine x_aload_n (by decide +kernel : am_at co_X12_qGoesOnTest 96 = some (1, .aload_n 0)) rfl ?_
    refine x_callV (n := 1) (by decide +kernel : am_at co_X12_qGoesOnTest 97 = some (3, .invokevirtual 594)) pq_12_594 pm_X12_qDrops rfl rfl rfl ob_152 h (x_kv fun M5 h => ?_)
    refine x_goto (tgt := 87) (by decide +kernel : am_at co_X12_qGoesOnTest 100 = some (3, .goto (-13))) rfl ?_
    exact am_weak (lk ln) h
set_option maxRecDepth 20000 in
theorem bk_X12_qGoesOnTest_137 {d : Nat} {Q : am_Q} {M : am_M} (h : am_cal pg d 279 [(2, 152), (0, 10)] sh_T M (am_c0 sh_T fun x1 M1 => ((¬ x1 = 0 → am_g 12 5 co_X12_qGoesOnTest d Q 155 [(2, 152)] [] sh_T M1) ∧ (x1 = 0 → am_cal pg d 279 [(2, 152), (0, 11)] sh_T M1 (am_c0 sh_T fun x3 M3 => ((x3 = 0 → (0 ≤ M3 152 85 ∧ M3 152 85 < 1700) ∧ am_r ((M3 152 85) + 1) ∧ Q (some (0, 1), sh_T, (am_up (am_up M3 212 (M3 152 85) 11) 152 85 ((M3 152 85) + 1)))) ∧ (¬ x3 = 0 → am_g 12 5 co_X12_qGoesOnTest d Q 155 [(2, 152)] [] sh_T M3))))))) : am_g 12 5 co_X12_qGoesOnTest d Q 137 [(2, 152)] [] sh_T M := by
  refine x_aload_n (by decide +kernel : am_at co_X12_qGoesOnTest 137 = some (1, .aload_n 0)) rfl ?_
  refine x_bipush (by decide +kernel : am_at co_X12_qGoesOnTest 138 = some (2, .bipush 10)) ?_
  refine x_callV (n := 2) (by decide +kernel : am_at co_X12_qGoesOnTest 140 = some (3, .invokevirtual 618)) pq_12_618 pm_X12_qIsOn rfl rfl rfl ob_152 h (x_k0 fun x1 M1 h => ?_)
  refine x_if (tgt := 155) (by decide +kernel : am_at co_X12_qGoesOnTest 143 = some (3, .ifCond .ne 12)) rfl Iff.rfl (fun c1 => ?_) (fun c1 => ?_)
  · have h := h.1 c1
    exact am_weak (lk ln) h
  · have c1 := (Classical.not_not.mp c1)
    have h := h.2 c1
    refine x_aload_n (by decide +kernel : am_at co_X12_qGoesOnTest 146 = some (1, .aload_n 0)) rfl ?_
    refine x_bipush (by decide +kernel : am_at co_X12_qGoesOnTest 147 = some (2, .bipush 11)) ?_
    refine x_callV (n := 2) (by decide +kernel : am_at co_X12_qGoesOnTest 149 = some (3, .invokevirtual 618)) pq_12_618 pm_X12_qIsOn rfl rfl rfl ob_152 h (x_k0 fun x3 M3 h => ?_)
    refine x_if (tgt := 162) (by decide +kernel : am_at co_X12_qGoesOnTest 152 = some (3, .ifCond .eq 10)) rfl Iff.rfl (fun c3 => ?_) (fun c3 => ?_)
    · have h := h.1 c3
      refine x_aload_n (by decide +kernel : am_at co_X12_qGoesOnTest 162 = some (1, .aload_n 0)) rfl ?_
      refine x_getF (by decide +kernel : am_at co_X12_qGoesOnTest 163 = some (3, .getfield 197)) pq_12_197 (by decide) rfl ob_152 ?_
      refine x_top2 (show 152 + 60 = 212 from rfl) ?_
      refine x_aload_n (by decide +kernel : am_at co_X12_qGoesOnTest 166 = some (1, .aload_n 0)) rfl ?_
      refine x_getf (by decide +kernel : am_at co_X12_qGoesOnTest 167 = some (3, .getfield 582)) pq_12_582 rfl ob_152 ?_
      refine x_bipush (by decide +kernel : am_at co_X12_qGoesOnTest 170 = some (2, .bipush 11)) ?_
      obtain ⟨o4, h⟩ := h
      refine x_iast (by decide +kernel : am_at co_X12_qGoesOnTest 172 = some (1, .iastore)) (ow_212 o4.1 o4.2) ?_
      refine x_aload_n (by decide +kernel : am_at co_X12_qGoesOnTest 173 = some (1, .aload_n 0)) rfl ?_
      refine x_dup2' (by decide +kernel : am_at co_X12_qGoesOnTest 174 = some (1, .dup)) ?_
      refine x_getf (by decide +kernel : am_at co_X12_qGoesOnTest 175 = some (3, .getfield 582)) pq_12_582 rfl ob_152 ?_
      refine x_top0 (show (am_up M3 212 (M3 152 85) 11) 152 85 = M3 152 85 from by first | rfl | simp [am_up]) ?_
      refine x_iconst (by decide +kernel : am_at co_X12_qGoesOnTest 178 = some (1, .iconst 1)) ?_
      obtain ⟨o5, h⟩ := h
      refine x_iadd (by decide +kernel : am_at co_X12_qGoesOnTest 179 = some (1, .iadd)) o5 ?_
      refine x_putf0 (by decide +kernel : am_at co_X12_qGoesOnTest 180 = some (3, .putfield 582)) pq_12_582 rfl ob_152 ?_
      refine x_iconst (by decide +kernel : am_at co_X12_qGoesOnTest 183 = some (1, .iconst 1)) ?_
      exact x_zret (by decide +kernel : am_at co_X12_qGoesOnTest 184 = some (1, .ireturn)) (by decide) h
    · have c3 := c3
      have h := h.2 c3
      exact am_weak (lk ln) h
set_option maxRecDepth 20000 in
theorem bk_X12_qGoesOnTest_155 {d : Nat} {Q : am_Q} {M : am_M} (h : am_cal pg d 280 [(2, 152)] sh_T M (am_cv sh_T fun M1 => am_g 12 5 co_X12_qGoesOnTest d Q 137 [(2, 152)] [] sh_T M1)) : am_g 12 5 co_X12_qGoesOnTest d Q 155 [(2, 152)] [] sh_T M := by
  refine x_aload_n (by decide +kernel : am_at co_X12_qGoesOnTest 155 = some (1, .aload_n 0)) rfl ?_
  refine x_callV (n := 1) (by decide +kernel : am_at co_X12_qGoesOnTest 156 = some (3, .invokevirtual 594)) pq_12_594 pm_X12_qDrops rfl rfl rfl ob_152 h (x_kv fun M1 h => ?_)
  refine x_goto (tgt := 137) (by decide +kernel : am_at co_X12_qGoesOnTest 159 = some (3, .goto (-22))) rfl ?_
  exact am_weak (lk ln) h
set_option maxRecDepth 20000 in
theorem bk_X12_qGoesOnTest_208 {d : Nat} {Q : am_Q} {M : am_M} (h : Q (some (0, 0), sh_T, M)) : am_g 12 5 co_X12_qGoesOnTest d Q 208 [(3, 0)] [] sh_T M := by
  refine x_iconst (by decide +kernel : am_at co_X12_qGoesOnTest 208 = some (1, .iconst 0)) ?_
  exact x_zret (by decide +kernel : am_at co_X12_qGoesOnTest 209 = some (1, .ireturn)) (by decide) h
set_option maxRecDepth 20000 in
theorem bk_X12_qClip_0 {d : Nat} {Q : am_Q} {M : am_M} {v0 : Int} (h : ((v0 ≤ 1000000 → (((-1000000) ≤ v0 → Q (some (1, v0), sh_T, M)) ∧ (v0 < (-1000000) → Q (some (1, (-1000000)), sh_T, M)))) ∧ (1000000 < v0 → Q (some (1, 1000000), sh_T, M)))) : am_g 12 1 co_X12_qClip d Q 0 [(1, v0), (3, 0)] [] sh_T M := by
  refine x_lload_n (by decide +kernel : am_at co_X12_qClip 0 = some (1, .lload_n 0)) rfl ?_
  refine x_ldc2 (by decide +kernel : am_at co_X12_qClip 1 = some (3, .ldc2_w 370)) pq_12_370 ?_
  refine x_lif (tgt := 14) (by decide +kernel : am_at co_X12_qClip 4 = some (1, .lcmp)) (by decide +kernel : am_at co_X12_qClip 5 = some (3, .ifCond .le 9)) rfl Iff.rfl (fun c0 => ?_) (fun c0 => ?_)
  · have h := h.1 c0
    refine x_lload_n (by decide +kernel : am_at co_X12_qClip 14 = some (1, .lload_n 0)) rfl ?_
    refine x_ldc2 (by decide +kernel : am_at co_X12_qClip 15 = some (3, .ldc2_w 372)) pq_12_372 ?_
    refine x_lif (tgt := 28) (by decide +kernel : am_at co_X12_qClip 18 = some (1, .lcmp)) (by decide +kernel : am_at co_X12_qClip 19 = some (3, .ifCond .ge 9)) rfl Iff.rfl (fun c1 => ?_) (fun c1 => ?_)
    · have h := h.1 c1
      refine x_lload_n (by decide +kernel : am_at co_X12_qClip 28 = some (1, .lload_n 0)) rfl ?_
      exact x_lret (by decide +kernel : am_at co_X12_qClip 29 = some (1, .lreturn)) h
    · have c1 := (Int.not_le.mp c1)
      have h := h.2 c1
      refine x_ldc2 (by decide +kernel : am_at co_X12_qClip 22 = some (3, .ldc2_w 372)) pq_12_372 ?_
      refine x_goto (tgt := 29) (by decide +kernel : am_at co_X12_qClip 25 = some (3, .goto 4)) rfl ?_
      exact x_lret (by decide +kernel : am_at co_X12_qClip 29 = some (1, .lreturn)) h
  · have c0 := (Int.not_le.mp c0)
    have h := h.2 c0
    refine x_ldc2 (by decide +kernel : am_at co_X12_qClip 8 = some (3, .ldc2_w 370)) pq_12_370 ?_
    refine x_goto (tgt := 29) (by decide +kernel : am_at co_X12_qClip 11 = some (3, .goto 18)) rfl ?_
    exact x_lret (by decide +kernel : am_at co_X12_qClip 29 = some (1, .lreturn)) h
set_option maxRecDepth 20000 in
theorem bk_X12_qFloor_0 {d : Nat} {Q : am_Q} {M : am_M} {v0 v2 : Int} (h : ((¬ v2 = 0 → ¬ v2 = 0 ∧ am_rl (v0.tdiv v2) ∧ ¬ v2 = 0 ∧ ((v0.tmod v2 = 0 → Q (some (1, v0.tdiv v2), sh_T, M)) ∧ (¬ v0.tmod v2 = 0 → ((0 ≤ v0 → ((0 ≤ v2 → Q (some (1, v0.tdiv v2), sh_T, M)) ∧ (v2 < 0 → am_rl ((v0.tdiv v2) - 1) ∧ Q (some (1, (v0.tdiv v2) - 1), sh_T, M)))) ∧ (v0 < 0 → ((0 ≤ v2 → am_rl ((v0.tdiv v2) - 1) ∧ Q (some (1, (v0.tdiv v2) - 1), sh_T, M)) ∧ (v2 < 0 → Q (some (1, v0.tdiv v2), sh_T, M)))))))) ∧ (v2 = 0 → Q (some (1, 0), sh_T, M)))) : am_g 12 1 co_X12_qFloor d Q 0 [(1, v0), (3, 0), (1, v2), (3, 0), (3, 0), (3, 0)] [] sh_T M := by
  refine x_lload_n (by decide +kernel : am_at co_X12_qFloor 0 = some (1, .lload_n 2)) rfl ?_
  refine x_lconst (by decide +kernel : am_at co_X12_qFloor 1 = some (1, .lconst 0)) ?_
  refine x_lif (tgt := 8) (by decide +kernel : am_at co_X12_qFloor 2 = some (1, .lcmp)) (by decide +kernel : am_at co_X12_qFloor 3 = some (3, .ifCond .ne 5)) rfl Iff.rfl (fun c0 => ?_) (fun c0 => ?_)
  · have h := h.1 c0
    refine x_lload_n (by decide +kernel : am_at co_X12_qFloor 8 = some (1, .lload_n 0)) rfl ?_
    refine x_lload_n (by decide +kernel : am_at co_X12_qFloor 9 = some (1, .lload_n 2)) rfl ?_
    obtain ⟨o1, h⟩ := h
    obtain ⟨o2, h⟩ := h
    refine x_ldiv (by decide +kernel : am_at co_X12_qFloor 10 = some (1, .ldiv)) o1 o2 ?_
    refine x_lstore (L' := [(1, v0), (3, 0), (1, v2), (3, 0), (1, v0.tdiv v2), (3, 0)]) (by decide +kernel : am_at co_X12_qFloor 11 = some (2, .lstore 4)) rfl ?_
    refine x_lload_n (by decide +kernel : am_at co_X12_qFloor 13 = some (1, .lload_n 0)) rfl ?_
    refine x_lload_n (by decide +kernel : am_at co_X12_qFloor 14 = some (1, .lload_n 2)) rfl ?_
    obtain ⟨o3, h⟩ := h
    refine x_lrem (by decide +kernel : am_at co_X12_qFloor 15 = some (1, .lrem)) o3 ?_
    refine x_lconst (by decide +kernel : am_at co_X12_qFloor 16 = some (1, .lconst 0)) ?_
    refine x_lif (tgt := 53) (by decide +kernel : am_at co_X12_qFloor 17 = some (1, .lcmp)) (by decide +kernel : am_at co_X12_qFloor 18 = some (3, .ifCond .eq 35)) rfl Iff.rfl (fun c4 => ?_) (fun c4 => ?_)
    · have h := h.1 c4
      refine x_lload (by decide +kernel : am_at co_X12_qFloor 53 = some (2, .lload 4)) rfl ?_
      exact x_lret (by decide +kernel : am_at co_X12_qFloor 55 = some (1, .lreturn)) h
    · have c4 := c4
      have h := h.2 c4
      refine x_lload_n (by decide +kernel : am_at co_X12_qFloor 21 = some (1, .lload_n 0)) rfl ?_
      refine x_lconst (by decide +kernel : am_at co_X12_qFloor 22 = some (1, .lconst 0)) ?_
      refine x_lif (tgt := 31) (by decide +kernel : am_at co_X12_qFloor 23 = some (1, .lcmp)) (by decide +kernel : am_at co_X12_qFloor 24 = some (3, .ifCond .ge 7)) rfl Iff.rfl (fun c5 => ?_) (fun c5 => ?_)
      · have h := h.1 c5
        refine x_iconst (by decide +kernel : am_at co_X12_qFloor 31 = some (1, .iconst 0)) ?_
        refine x_lload_n (by decide +kernel : am_at co_X12_qFloor 32 = some (1, .lload_n 2)) rfl ?_
        refine x_lconst (by decide +kernel : am_at co_X12_qFloor 33 = some (1, .lconst 0)) ?_
        refine x_lif (tgt := 42) (by decide +kernel : am_at co_X12_qFloor 34 = some (1, .lcmp)) (by decide +kernel : am_at co_X12_qFloor 35 = some (3, .ifCond .ge 7)) rfl Iff.rfl (fun c6 => ?_) (fun c6 => ?_)
        · have h := h.1 c6
          refine x_iconst (by decide +kernel : am_at co_X12_qFloor 42 = some (1, .iconst 0)) ?_
          refine x_icmp (tgt := 53) (by decide +kernel : am_at co_X12_qFloor 43 = some (3, .if_icmp .eq 10)) rfl Iff.rfl (fun q => ?_) (fun q => absurd (show (0 : Int) = (0 : Int) by decide) q)
          refine x_lload (by decide +kernel : am_at co_X12_qFloor 53 = some (2, .lload 4)) rfl ?_
          exact x_lret (by decide +kernel : am_at co_X12_qFloor 55 = some (1, .lreturn)) h
        · have c6 := (Int.not_le.mp c6)
          have h := h.2 c6
          refine x_iconst (by decide +kernel : am_at co_X12_qFloor 38 = some (1, .iconst 1)) ?_
          refine x_goto (tgt := 43) (by decide +kernel : am_at co_X12_qFloor 39 = some (3, .goto 4)) rfl ?_
          refine x_icmp (tgt := 53) (by decide +kernel : am_at co_X12_qFloor 43 = some (3, .if_icmp .eq 10)) rfl Iff.rfl (fun q => absurd q (show ¬ ((0 : Int) = (1 : Int)) by decide)) (fun q => ?_)
          refine x_lload (by decide +kernel : am_at co_X12_qFloor 46 = some (2, .lload 4)) rfl ?_
          refine x_lconst (by decide +kernel : am_at co_X12_qFloor 48 = some (1, .lconst 1)) ?_
          obtain ⟨o7, h⟩ := h
          refine x_lsub (by decide +kernel : am_at co_X12_qFloor 49 = some (1, .lsub)) o7 ?_
          refine x_goto (tgt := 55) (by decide +kernel : am_at co_X12_qFloor 50 = some (3, .goto 5)) rfl ?_
          exact x_lret (by decide +kernel : am_at co_X12_qFloor 55 = some (1, .lreturn)) h
      · have c5 := (Int.not_le.mp c5)
        have h := h.2 c5
        refine x_iconst (by decide +kernel : am_at co_X12_qFloor 27 = some (1, .iconst 1)) ?_
        refine x_goto (tgt := 32) (by decide +kernel : am_at co_X12_qFloor 28 = some (3, .goto 4)) rfl ?_
        refine x_lload_n (by decide +kernel : am_at co_X12_qFloor 32 = some (1, .lload_n 2)) rfl ?_
        refine x_lconst (by decide +kernel : am_at co_X12_qFloor 33 = some (1, .lconst 0)) ?_
        refine x_lif (tgt := 42) (by decide +kernel : am_at co_X12_qFloor 34 = some (1, .lcmp)) (by decide +kernel : am_at co_X12_qFloor 35 = some (3, .ifCond .ge 7)) rfl Iff.rfl (fun c8 => ?_) (fun c8 => ?_)
        · have h := h.1 c8
          refine x_iconst (by decide +kernel : am_at co_X12_qFloor 42 = some (1, .iconst 0)) ?_
          refine x_icmp (tgt := 53) (by decide +kernel : am_at co_X12_qFloor 43 = some (3, .if_icmp .eq 10)) rfl Iff.rfl (fun q => absurd q (show ¬ ((1 : Int) = (0 : Int)) by decide)) (fun q => ?_)
          refine x_lload (by decide +kernel : am_at co_X12_qFloor 46 = some (2, .lload 4)) rfl ?_
          refine x_lconst (by decide +kernel : am_at co_X12_qFloor 48 = some (1, .lconst 1)) ?_
          obtain ⟨o9, h⟩ := h
          refine x_lsub (by decide +kernel : am_at co_X12_qFloor 49 = some (1, .lsub)) o9 ?_
          refine x_goto (tgt := 55) (by decide +kernel : am_at co_X12_qFloor 50 = some (3, .goto 5)) rfl ?_
          exact x_lret (by decide +kernel : am_at co_X12_qFloor 55 = some (1, .lreturn)) h
        · have c8 := (Int.not_le.mp c8)
          have h := h.2 c8
          refine x_iconst (by decide +kernel : am_at co_X12_qFloor 38 = some (1, .iconst 1)) ?_
          refine x_goto (tgt := 43) (by decide +kernel : am_at co_X12_qFloor 39 = some (3, .goto 4)) rfl ?_
          refine x_icmp (tgt := 53) (by decide +kernel : am_at co_X12_qFloor 43 = some (3, .if_icmp .eq 10)) rfl Iff.rfl (fun q => ?_) (fun q => absurd (show (1 : Int) = (1 : Int) by decide) q)
          refine x_lload (by decide +kernel : am_at co_X12_qFloor 53 = some (2, .lload 4)) rfl ?_
          exact x_lret (by decide +kernel : am_at co_X12_qFloor 55 = some (1, .lreturn)) h
  · have c0 := (Classical.not_not.mp c0)
    have h := h.2 c0
    refine x_lconst (by decide +kernel : am_at co_X12_qFloor 6 = some (1, .lconst 0)) ?_
    exact x_lret (by decide +kernel : am_at co_X12_qFloor 7 = some (1, .lreturn)) h
set_option maxRecDepth 20000 in
theorem bk_X12_qPuts_0 {d : Nat} {Q : am_Q} {M : am_M} {v1 : Int} (h : (0 ≤ M 152 89 ∧ M 152 89 < 1700) ∧ am_r ((M 152 89) + 1) ∧ Q (none, sh_T, (am_up (am_up M 213 (M 152 89) v1) 152 89 ((M 152 89) + 1)))) : am_g 12 9 co_X12_qPuts d Q 0 [(2, 152), (1, v1), (3, 0)] [] sh_T M := by
  refine x_aload_n (by decide +kernel : am_at co_X12_qPuts 0 = some (1, .aload_n 0)) rfl ?_
  refine x_getF (by decide +kernel : am_at co_X12_qPuts 1 = some (3, .getfield 200)) pq_12_200 (by decide) rfl ob_152 ?_
  refine x_top2 (show 152 + 61 = 213 from rfl) ?_
  refine x_aload_n (by decide +kernel : am_at co_X12_qPuts 4 = some (1, .aload_n 0)) rfl ?_
  refine x_getf (by decide +kernel : am_at co_X12_qPuts 5 = some (3, .getfield 642)) pq_12_642 rfl ob_152 ?_
  refine x_lload_n (by decide +kernel : am_at co_X12_qPuts 8 = some (1, .lload_n 1)) rfl ?_
  obtain ⟨o0, h⟩ := h
  refine x_last (by decide +kernel : am_at co_X12_qPuts 9 = some (1, .lastore)) (ow_213 o0.1 o0.2) ?_
  refine x_aload_n (by decide +kernel : am_at co_X12_qPuts 10 = some (1, .aload_n 0)) rfl ?_
  refine x_dup2' (by decide +kernel : am_at co_X12_qPuts 11 = some (1, .dup)) ?_
  refine x_getf (by decide +kernel : am_at co_X12_qPuts 12 = some (3, .getfield 642)) pq_12_642 rfl ob_152 ?_
  refine x_top0 (show (am_up M 213 (M 152 89) v1) 152 89 = M 152 89 from by first | rfl | simp [am_up]) ?_
  refine x_iconst (by decide +kernel : am_at co_X12_qPuts 15 = some (1, .iconst 1)) ?_
  obtain ⟨o1, h⟩ := h
  refine x_iadd (by decide +kernel : am_at co_X12_qPuts 16 = some (1, .iadd)) o1 ?_
  refine x_putf0 (by decide +kernel : am_at co_X12_qPuts 17 = some (3, .putfield 642)) pq_12_642 rfl ob_152 ?_
  exact x_vret (by decide +kernel : am_at co_X12_qPuts 20 = some (1, .return_)) h
set_option maxRecDepth 20000 in
theorem bk_X12_qJoins_0 {d : Nat} {Q : am_Q} {M : am_M} {v1 : Int} (h : am_r ((M 152 89) - 1) ∧ (0 ≤ (M 152 89) - 1 ∧ (M 152 89) - 1 < 1700) ∧ am_r ((M 152 89) - 2) ∧ (0 ≤ (M 152 89) - 2 ∧ (M 152 89) - 2 < 1700) ∧ am_r ((M 152 89) - 2) ∧ ((v1 < 1 ∨ 10 < v1 → am_rl ((M 213 ((M 152 89) - 2)) + (M 213 ((M 152 89) - 1))) ∧ (((M 213 ((M 152 89) - 2)) + (M 213 ((M 152 89) - 1)) ≤ 0 → am_cal pg d 298 [(2, 152), (1, 0)] sh_T (am_up M 152 89 ((M 152 89) - 2)) (am_cv sh_T fun M8 => Q (none, sh_T, M8))) ∧ (0 < (M 213 ((M 152 89) - 2)) + (M 213 ((M 152 89) - 1)) → am_cal pg d 298 [(2, 152), (1, 1)] sh_T (am_up M 152 89 ((M 152 89) - 2)) (am_cv sh_T fun M9 => Q (none, sh_T, M9))))) ∧ (v1 = 1 → am_rl ((M 213 ((M 152 89) - 2)) + (M 213 ((M 152 89) - 1))) ∧ am_cal pg d 296 [(1, (M 213 ((M 152 89) - 2)) + (M 213 ((M 152 89) - 1)))] sh_T (am_up M 152 89 ((M 152 89) - 2)) (am_c1 sh_T fun x11 M11 => am_cal pg d 298 [(2, 152), (1, x11)] sh_T M11 (am_cv sh_T fun M12 => Q (none, sh_T, M12)))) ∧ (v1 = 2 → am_rl ((M 213 ((M 152 89) - 2)) - (M 213 ((M 152 89) - 1))) ∧ am_cal pg d 296 [(1, (M 213 ((M 152 89) - 2)) - (M 213 ((M 152 89) - 1)))] sh_T (am_up M 152 89 ((M 152 89) - 2)) (am_c1 sh_T fun x14 M14 => am_cal pg d 298 [(2, 152), (1, x14)] sh_T M14 (am_cv sh_T fun M15 => Q (none, sh_T, M15)))) ∧ (v1 = 3 → am_rl ((M 213 ((M 152 89) - 2)) * (M 213 ((M 152 89) - 1))) ∧ am_cal pg d 296 [(1, (M 213 ((M 152 89) - 2)) * (M 213 ((M 152 89) - 1)))] sh_T (am_up M 152 89 ((M 152 89) - 2)) (am_c1 sh_T fun x17 M17 => am_cal pg d 298 [(2, 152), (1, x17)] sh_T M17 (am_cv sh_T fun M18 => Q (none, sh_T, M18)))) ∧ (v1 = 4 → am_cal pg d 297 [(1, M 213 ((M 152 89) - 2)), (1, M 213 ((M 152 89) - 1))] sh_T (am_up M 152 89 ((M 152 89) - 2)) (am_c1 sh_T fun x19 M19 => am_cal pg d 298 [(2, 152), (1, x19)] sh_T M19 (am_cv sh_T fun M20 => Q (none, sh_T, M20)))) ∧ (v1 = 5 → ((M 213 ((M 152 89) - 1) ≤ M 213 ((M 152 89) - 2) → am_cal pg d 298 [(2, 152), (1, M 213 ((M 152 89) - 1))] sh_T (am_up M 152 89 ((M 152 89) - 2)) (am_cv sh_T fun M22 => Q (none, sh_T, M22))) ∧ (M 213 ((M 152 89) - 2) < M 213 ((M 152 89) - 1) → am_cal pg d 298 [(2, 152), (1, M 213 ((M 152 89) - 2))] sh_T (am_up M 152 89 ((M 152 89) - 2)) (am_cv sh_T fun M23 => Q (none, sh_T, M23))))) ∧ (v1 = 6 → ((M 213 ((M 152 89) - 2) ≤ M 213 ((M 152 89) - 1) → am_cal pg d 298 [(2, 152), (1, M 213 ((M 152 89) - 1))] sh_T (am_up M 152 89 ((M 152 89) - 2)) (am_cv sh_T fun M25 => Q (none, sh_T, M25))) ∧ (M 213 ((M 152 89) - 1) < M 213 ((M 152 89) - 2) → am_cal pg d 298 [(2, 152), (1, M 213 ((M 152 89) - 2))] sh_T (am_up M 152 89 ((M 152 89) - 2)) (am_cv sh_T fun M26 => Q (none, sh_T, M26))))) ∧ (v1 = 7 → ((M 213 ((M 152 89) - 1) ≤ M 213 ((M 152 89) - 2) → am_cal pg d 298 [(2, 152), (1, 0)] sh_T (am_up M 152 89 ((M 152 89) - 2)) (am_cv sh_T fun M28 => Q (none, sh_T, M28))) ∧ (M 213 ((M 152 89) - 2) < M 213 ((M 152 89) - 1) → am_cal pg d 298 [(2, 152), (1, 1)] sh_T (am_up M 152 89 ((M 152 89) - 2)) (am_cv sh_T fun M29 => Q (none, sh_T, M29))))) ∧ (v1 = 8 → ((M 213 ((M 152 89) - 2) ≤ M 213 ((M 152 89) - 1) → am_cal pg d 298 [(2, 152), (1, 0)] sh_T (am_up M 152 89 ((M 152 89) - 2)) (am_cv sh_T fun M31 => Q (none, sh_T, M31))) ∧ (M 213 ((M 152 89) - 1) < M 213 ((M 152 89) - 2) → am_cal pg d 298 [(2, 152), (1, 1)] sh_T (am_up M 152 89 ((M 152 89) - 2)) (am_cv sh_T fun M32 => Q (none, sh_T, M32))))) ∧ (v1 = 9 → ((¬ M 213 ((M 152 89) - 2) = M 213 ((M 152 89) - 1) → am_cal pg d 298 [(2, 152), (1, 0)] sh_T (am_up M 152 89 ((M 152 89) - 2)) (am_cv sh_T fun M34 => Q (none, sh_T, M34))) ∧ (M 213 ((M 152 89) - 2) = M 213 ((M 152 89) - 1) → am_cal pg d 298 [(2, 152), (1, 1)] sh_T (am_up M 152 89 ((M 152 89) - 2)) (am_cv sh_T fun M35 => Q (none, sh_T, M35))))) ∧ (v1 = 10 → am_rl ((M 213 ((M 152 89) - 2)) * (M 213 ((M 152 89) - 1))) ∧ am_cal pg d 298 [(2, 152), (1, (M 213 ((M 152 89) - 2)) * (M 213 ((M 152 89) - 1)))] sh_T (am_up M 152 89 ((M 152 89) - 2)) (am_cv sh_T fun M37 => Q (none, sh_T, M37))))) : am_g 12 9 co_X12_qJoins d Q 0 [(2, 152), (0, v1), (3, 0), (3, 0), (3, 0), (3, 0)] [] sh_T M := by
  refine x_aload_n (by decide +kernel : am_at co_X12_qJoins 0 = some (1, .aload_n 0)) rfl ?_
  refine x_getF (by decide +kernel : am_at co_X12_qJoins 1 = some (3, .getfield 200)) pq_12_200 (by decide) rfl ob_152 ?_
  refine x_top2 (show 152 + 61 = 213 from rfl) ?_
  refine x_aload_n (by decide +kernel : am_at co_X12_qJoins 4 = some (1, .aload_n 0)) rfl ?_
  refine x_getf (by decide +kernel : am_at co_X12_qJoins 5 = some (3, .getfield 642)) pq_12_642 rfl ob_152 ?_
  refine x_iconst (by decide +kernel : am_at co_X12_qJoins 8 = some (1, .iconst 1)) ?_
  obtain ⟨o0, h⟩ := h
  refine x_isub (by decide +kernel : am_at co_X12_qJoins 9 = some (1, .isub)) o0 ?_
  obtain ⟨o1, h⟩ := h
  refine x_lald (by decide +kernel : am_at co_X12_qJoins 10 = some (1, .laload)) (ia_213 o1.1 o1.2) ?_
  refine x_lstore_n (L' := [(2, 152), (0, v1), (1, M 213 ((M 152 89) - 1)), (3, 0), (3, 0), (3, 0)]) (by decide +kernel : am_at co_X12_qJoins 11 = some (1, .lstore_n 2)) rfl ?_
  refine x_aload_n (by decide +kernel : am_at co_X12_qJoins 12 = some (1, .aload_n 0)) rfl ?_
  refine x_getF (by decide +kernel : am_at co_X12_qJoins 13 = some (3, .getfield 200)) pq_12_200 (by decide) rfl ob_152 ?_
  refine x_top2 (show 152 + 61 = 213 from rfl) ?_
  refine x_aload_n (by decide +kernel : am_at co_X12_qJoins 16 = some (1, .aload_n 0)) rfl ?_
  refine x_getf (by decide +kernel : am_at co_X12_qJoins 17 = some (3, .getfield 642)) pq_12_642 rfl ob_152 ?_
  refine x_iconst (by decide +kernel : am_at co_X12_qJoins 20 = some (1, .iconst 2)) ?_
  obtain ⟨o2, h⟩ := h
  refine x_isub (by decide +kernel : am_at co_X12_qJoins 21 = some (1, .isub)) o2 ?_
  obtain ⟨o3, h⟩ := h
  refine x_lald (by decide +kernel : am_at co_X12_qJoins 22 = some (1, .laload)) (ia_213 o3.1 o3.2) ?_
  refine x_lstore (L' := [(2, 152), (0, v1), (1, M 213 ((M 152 89) - 1)), (3, 0), (1, M 213 ((M 152 89) - 2)), (3, 0)]) (by decide +kernel : am_at co_X12_qJoins 23 = some (2, .lstore 4)) rfl ?_
  refine x_aload_n (by decide +kernel : am_at co_X12_qJoins 25 = some (1, .aload_n 0)) rfl ?_
  refine x_dup2' (by decide +kernel : am_at co_X12_qJoins 26 = some (1, .dup)) ?_
  refine x_getf (by decide +kernel : am_at co_X12_qJoins 27 = some (3, .getfield 642)) pq_12_642 rfl ob_152 ?_
  refine x_iconst (by decide +kernel : am_at co_X12_qJoins 30 = some (1, .iconst 2)) ?_
  obtain ⟨o4, h⟩ := h
  refine x_isub (by decide +kernel : am_at co_X12_qJoins 31 = some (1, .isub)) o4 ?_
  refine x_putf0 (by decide +kernel : am_at co_X12_qJoins 32 = some (3, .putfield 642)) pq_12_642 rfl ob_152 ?_
  refine x_iload_n (by decide +kernel : am_at co_X12_qJoins 35 = some (1, .iload_n 1)) rfl ?_
  refine x_tsw (by decide +kernel : am_at co_X12_qJoins 36 = some (56, .tableswitch 219 1 10 #[56, 70, 84, 98, 111, 131, 151, 170, 189, 208])) (fun q => ?_) (fun q1 q2 => ?_)
  · have h := h.1 q
    refine x_aload_n (by decide +kernel : am_at co_X12_qJoins 255 = some (1, .aload_n 0)) rfl ?_
    refine x_lload (by decide +kernel : am_at co_X12_qJoins 256 = some (2, .lload 4)) rfl ?_
    refine x_lload_n (by decide +kernel : am_at co_X12_qJoins 258 = some (1, .lload_n 2)) rfl ?_
    obtain ⟨o5, h⟩ := h
    refine x_ladd (by decide +kernel : am_at co_X12_qJoins 259 = some (1, .ladd)) o5 ?_
    refine x_lconst (by decide +kernel : am_at co_X12_qJoins 260 = some (1, .lconst 0)) ?_
    refine x_lif (tgt := 269) (by decide +kernel : am_at co_X12_qJoins 261 = some (1, .lcmp)) (by decide +kernel : am_at co_X12_qJoins 262 = some (3, .ifCond .le 7)) rfl Iff.rfl (fun c6 => ?_) (fun c6 => ?_)
    · have h := h.1 c6
      refine x_lconst (by decide +kernel : am_at co_X12_qJoins 269 = some (1, .lconst 0)) ?_
      refine x_callV (n := 2) (by decide +kernel : am_at co_X12_qJoins 270 = some (3, .invokevirtual 648)) pq_12_648 pm_X12_qPuts rfl rfl rfl ob_152 h (x_kv fun M8 h => ?_)
      exact x_vret (by decide +kernel : am_at co_X12_qJoins 273 = some (1, .return_)) h
    · have c6 := (Int.not_le.mp c6)
      have h := h.2 c6
      refine x_lconst (by decide +kernel : am_at co_X12_qJoins 265 = some (1, .lconst 1)) ?_
      refine x_goto (tgt := 270) (by decide +kernel : am_at co_X12_qJoins 266 = some (3, .goto 4)) rfl ?_
      refine x_callV (n := 2) (by decide +kernel : am_at co_X12_qJoins 270 = some (3, .invokevirtual 648)) pq_12_648 pm_X12_qPuts rfl rfl rfl ob_152 h (x_kv fun M9 h => ?_)
      exact x_vret (by decide +kernel : am_at co_X12_qJoins 273 = some (1, .return_)) h
  · rcases (show v1 = 1 ∨ v1 = 2 ∨ v1 = 3 ∨ v1 = 4 ∨ v1 = 5 ∨ v1 = 6 ∨ v1 = 7 ∨ v1 = 8 ∨ v1 = 9 ∨ v1 = 10 by omega) with q | q | q | q | q | q | q | q | q | q
    · refine ⟨56, by rw [q]; rfl, ?_⟩
      have h := h.2.1 q
      refine x_aload_n (by decide +kernel : am_at co_X12_qJoins 92 = some (1, .aload_n 0)) rfl ?_
      refine x_lload (by decide +kernel : am_at co_X12_qJoins 93 = some (2, .lload 4)) rfl ?_
      refine x_lload_n (by decide +kernel : am_at co_X12_qJoins 95 = some (1, .lload_n 2)) rfl ?_
      obtain ⟨o9, h⟩ := h
      refine x_ladd (by decide +kernel : am_at co_X12_qJoins 96 = some (1, .ladd)) o9 ?_
      refine x_callS (n := 1) (by decide +kernel : am_at co_X12_qJoins 97 = some (3, .invokestatic 645)) pq_12_645 rfl rfl rfl h (x_k1 fun x11 M11 h => ?_)
      refine x_callV (n := 2) (by decide +kernel : am_at co_X12_qJoins 100 = some (3, .invokevirtual 648)) pq_12_648 pm_X12_qPuts rfl rfl rfl ob_152 h (x_kv fun M12 h => ?_)
      refine x_goto (tgt := 273) (by decide +kernel : am_at co_X12_qJoins 103 = some (3, .goto 170)) rfl ?_
      exact x_vret (by decide +kernel : am_at co_X12_qJoins 273 = some (1, .return_)) h
    · refine ⟨70, by rw [q]; rfl, ?_⟩
      have h := h.2.2.1 q
      refine x_aload_n (by decide +kernel : am_at co_X12_qJoins 106 = some (1, .aload_n 0)) rfl ?_
      refine x_lload (by decide +kernel : am_at co_X12_qJoins 107 = some (2, .lload 4)) rfl ?_
      refine x_lload_n (by decide +kernel : am_at co_X12_qJoins 109 = some (1, .lload_n 2)) rfl ?_
      obtain ⟨o12, h⟩ := h
      refine x_lsub (by decide +kernel : am_at co_X12_qJoins 110 = some (1, .lsub)) o12 ?_
      refine x_callS (n := 1) (by decide +kernel : am_at co_X12_qJoins 111 = some (3, .invokestatic 645)) pq_12_645 rfl rfl rfl h (x_k1 fun x14 M14 h => ?_)
      refine x_callV (n := 2) (by decide +kernel : am_at co_X12_qJoins 114 = some (3, .invokevirtual 648)) pq_12_648 pm_X12_qPuts rfl rfl rfl ob_152 h (x_kv fun M15 h => ?_)
      refine x_goto (tgt := 273) (by decide +kernel : am_at co_X12_qJoins 117 = some (3, .goto 156)) rfl ?_
      exact x_vret (by decide +kernel : am_at co_X12_qJoins 273 = some (1, .return_)) h
    · refine ⟨84, by rw [q]; rfl, ?_⟩
      have h := h.2.2.2.1 q
      refine x_aload_n (by decide +kernel : am_at co_X12_qJoins 120 = some (1, .aload_n 0)) rfl ?_
      refine x_lload (by decide +kernel : am_at co_X12_qJoins 121 = some (2, .lload 4)) rfl ?_
      refine x_lload_n (by decide +kernel : am_at co_X12_qJoins 123 = some (1, .lload_n 2)) rfl ?_
      obtain ⟨o15, h⟩ := h
      refine x_lmul (by decide +kernel : am_at co_X12_qJoins 124 = some (1, .lmul)) o15 ?_
      refine x_callS (n := 1) (by decide +kernel : am_at co_X12_qJoins 125 = some (3, .invokestatic 645)) pq_12_645 rfl rfl rfl h (x_k1 fun x17 M17 h => ?_)
      refine x_callV (n := 2) (by decide +kernel : am_at co_X12_qJoins 128 = some (3, .invokevirtual 648)) pq_12_648 pm_X12_qPuts rfl rfl rfl ob_152 h (x_kv fun M18 h => ?_)
      refine x_goto (tgt := 273) (by decide +kernel : am_at co_X12_qJoins 131 = some (3, .goto 142)) rfl ?_
      exact x_vret (by decide +kernel : am_at co_X12_qJoins 273 = some (1, .return_)) h
    · refine ⟨98, by rw [q]; rfl, ?_⟩
      have h := h.2.2.2.2.1 q
      refine x_aload_n (by decide +kernel : am_at co_X12_qJoins 134 = some (1, .aload_n 0)) rfl ?_
      refine x_lload (by decide +kernel : am_at co_X12_qJoins 135 = some (2, .lload 4)) rfl ?_
      refine x_lload_n (by decide +kernel : am_at co_X12_qJoins 137 = some (1, .lload_n 2)) rfl ?_
      refine x_callS (n := 2) (by decide +kernel : am_at co_X12_qJoins 138 = some (3, .invokestatic 651)) pq_12_651 rfl rfl rfl h (x_k1 fun x19 M19 h => ?_)
      refine x_callV (n := 2) (by decide +kernel : am_at co_X12_qJoins 141 = some (3, .invokevirtual 648)) pq_12_648 pm_X12_qPuts rfl rfl rfl ob_152 h (x_kv fun M20 h => ?_)
      refine x_goto (tgt := 273) (by decide +kernel : am_at co_X12_qJoins 144 = some (3, .goto 129)) rfl ?_
      exact x_vret (by decide +kernel : am_at co_X12_qJoins 273 = some (1, .return_)) h
    · refine ⟨111, by rw [q]; rfl, ?_⟩
      have h := h.2.2.2.2.2.1 q
      refine x_aload_n (by decide +kernel : am_at co_X12_qJoins 147 = some (1, .aload_n 0)) rfl ?_
      refine x_lload (by decide +kernel : am_at co_X12_qJoins 148 = some (2, .lload 4)) rfl ?_
      refine x_lload_n (by decide +kernel : am_at co_X12_qJoins 150 = some (1, .lload_n 2)) rfl ?_
      refine x_lif (tgt := 160) (by decide +kernel : am_at co_X12_qJoins 151 = some (1, .lcmp)) (by decide +kernel : am_at co_X12_qJoins 152 = some (3, .ifCond .ge 8)) rfl Iff.rfl (fun c20 => ?_) (fun c20 => ?_)
      · have h := h.1 c20
        refine x_lload_n (by decide +kernel : am_at co_X12_qJoins 160 = some (1, .lload_n 2)) rfl ?_
        refine x_callV (n := 2) (by decide +kernel : am_at co_X12_qJoins 161 = some (3, .invokevirtual 648)) pq_12_648 pm_X12_qPuts rfl rfl rfl ob_152 h (x_kv fun M22 h => ?_)
        refine x_goto (tgt := 273) (by decide +kernel : am_at co_X12_qJoins 164 = some (3, .goto 109)) rfl ?_
        exact x_vret (by decide +kernel : am_at co_X12_qJoins 273 = some (1, .return_)) h
      · have c20 := (Int.not_le.mp c20)
        have h := h.2 c20
        refine x_lload (by decide +kernel : am_at co_X12_qJoins 155 = some (2, .lload 4)) rfl ?_
        refine x_goto (tgt := 161) (by decide +kernel : am_at co_X12_qJoins 157 = some (3, .goto 4)) rfl ?_
        refine x_callV (n := 2) (by decide +kernel : am_at co_X12_qJoins 161 = some (3, .invokevirtual 648)) pq_12_648 pm_X12_qPuts rfl rfl rfl ob_152 h (x_kv fun M23 h => ?_)
        refine x_goto (tgt := 273) (by decide +kernel : am_at co_X12_qJoins 164 = some (3, .goto 109)) rfl ?_
        exact x_vret (by decide +kernel : am_at co_X12_qJoins 273 = some (1, .return_)) h
    · refine ⟨131, by rw [q]; rfl, ?_⟩
      have h := h.2.2.2.2.2.2.1 q
      refine x_aload_n (by decide +kernel : am_at co_X12_qJoins 167 = some (1, .aload_n 0)) rfl ?_
      refine x_lload (by decide +kernel : am_at co_X12_qJoins 168 = some (2, .lload 4)) rfl ?_
      refine x_lload_n (by decide +kernel : am_at co_X12_qJoins 170 = some (1, .lload_n 2)) rfl ?_
      refine x_lif (tgt := 180) (by decide +kernel : am_at co_X12_qJoins 171 = some (1, .lcmp)) (by decide +kernel : am_at co_X12_qJoins 172 = some (3, .ifCond .le 8)) rfl Iff.rfl (fun c23 => ?_) (fun c23 => ?_)
      · have h := h.1 c23
        refine x_lload_n (by decide +kernel : am_at co_X12_qJoins 180 = some (1, .lload_n 2)) rfl ?_
        refine x_callV (n := 2) (by decide +kernel : am_at co_X12_qJoins 181 = some (3, .invokevirtual 648)) pq_12_648 pm_X12_qPuts rfl rfl rfl ob_152 h (x_kv fun M25 h => ?_)
        refine x_goto (tgt := 273) (by decide +kernel : am_at co_X12_qJoins 184 = some (3, .goto 89)) rfl ?_
        exact x_vret (by decide +kernel : am_at co_X12_qJoins 273 = some (1, .return_)) h
      · have c23 := (Int.not_le.mp c23)
        have h := h.2 c23
        refine x_lload (by decide +kernel : am_at co_X12_qJoins 175 = some (2, .lload 4)) rfl ?_
        refine x_goto (tgt := 181) (by decide +kernel : am_at co_X12_qJoins 177 = some (3, .goto 4)) rfl ?_
        refine x_callV (n := 2) (by decide +kernel : am_at co_X12_qJoins 181 = some (3, .invokevirtual 648)) pq_12_648 pm_X12_qPuts rfl rfl rfl ob_152 h (x_kv fun M26 h => ?_)
        refine x_goto (tgt := 273) (by decide +kernel : am_at co_X12_qJoins 184 = some (3, .goto 89)) rfl ?_
        exact x_vret (by decide +kernel : am_at co_X12_qJoins 273 = some (1, .return_)) h
    · refine ⟨151, by rw [q]; rfl, ?_⟩
      have h := h.2.2.2.2.2.2.2.1 q
      refine x_aload_n (by decide +kernel : am_at co_X12_qJoins 187 = some (1, .aload_n 0)) rfl ?_
      refine x_lload (by decide +kernel : am_at co_X12_qJoins 188 = some (2, .lload 4)) rfl ?_
      refine x_lload_n (by decide +kernel : am_at co_X12_qJoins 190 = some (1, .lload_n 2)) rfl ?_
      refine x_lif (tgt := 199) (by decide +kernel : am_at co_X12_qJoins 191 = some (1, .lcmp)) (by decide +kernel : am_at co_X12_qJoins 192 = some (3, .ifCond .ge 7)) rfl Iff.rfl (fun c26 => ?_) (fun c26 => ?_)
      · have h := h.1 c26
        refine x_lconst (by decide +kernel : am_at co_X12_qJoins 199 = some (1, .lconst 0)) ?_
        refine x_callV (n := 2) (by decide +kernel : am_at co_X12_qJoins 200 = some (3, .invokevirtual 648)) pq_12_648 pm_X12_qPuts rfl rfl rfl ob_152 h (x_kv fun M28 h => ?_)
        refine x_goto (tgt := 273) (by decide +kernel : am_at co_X12_qJoins 203 = some (3, .goto 70)) rfl ?_
        exact x_vret (by decide +kernel : am_at co_X12_qJoins 273 = some (1, .return_)) h
      · have c26 := (Int.not_le.mp c26)
        have h := h.2 c26
        refine x_lconst (by decide +kernel : am_at co_X12_qJoins 195 = some (1, .lconst 1)) ?_
        refine x_goto (tgt := 200) (by decide +kernel : am_at co_X12_qJoins 196 = some (3, .goto 4)) rfl ?_
        refine x_callV (n := 2) (by decide +kernel : am_at co_X12_qJoins 200 = some (3, .invokevirtual 648)) pq_12_648 pm_X12_qPuts rfl rfl rfl ob_152 h (x_kv fun M29 h => ?_)
        refine x_goto (tgt := 273) (by decide +kernel : am_at co_X12_qJoins 203 = some (3, .goto 70)) rfl ?_
        exact x_vret (by decide +kernel : am_at co_X12_qJoins 273 = some (1, .return_)) h
    · refine ⟨170, by rw [q]; rfl, ?_⟩
      have h := h.2.2.2.2.2.2.2.2.1 q
      refine x_aload_n (by decide +kernel : am_at co_X12_qJoins 206 = some (1, .aload_n 0)) rfl ?_
      refine x_lload (by decide +kernel : am_at co_X12_qJoins 207 = some (2, .lload 4)) rfl ?_
      refine x_lload_n (by decide +kernel : am_at co_X12_qJoins 209 = some (1, .lload_n 2)) rfl ?_
      refine x_lif (tgt := 218) (by decide +kernel : am_at co_X12_qJoins 210 = some (1, .lcmp)) (by decide +kernel : am_at co_X12_qJoins 211 = some (3, .ifCond .le 7)) rfl Iff.rfl (fun c29 => ?_) (fun c29 => ?_)
      · have h := h.1 c29
        refine x_lconst (by decide +kernel : am_at co_X12_qJoins 218 = some (1, .lconst 0)) ?_
        refine x_callV (n := 2) (by decide +kernel : am_at co_X12_qJoins 219 = some (3, .invokevirtual 648)) pq_12_648 pm_X12_qPuts rfl rfl rfl ob_152 h (x_kv fun M31 h => ?_)
        refine x_goto (tgt := 273) (by decide +kernel : am_at co_X12_qJoins 222 = some (3, .goto 51)) rfl ?_
        exact x_vret (by decide +kernel : am_at co_X12_qJoins 273 = some (1, .return_)) h
      · have c29 := (Int.not_le.mp c29)
        have h := h.2 c29
        refine x_lconst (by decide +kernel : am_at co_X12_qJoins 214 = some (1, .lconst 1)) ?_
        refine x_goto (tgt := 219) (by decide +kernel : am_at co_X12_qJoins 215 = some (3, .goto 4)) rfl ?_
        refine x_callV (n := 2) (by decide +kernel : am_at co_X12_qJoins 219 = some (3, .invokevirtual 648)) pq_12_648 pm_X12_qPuts rfl rfl rfl ob_152 h (x_kv fun M32 h => ?_)
        refine x_goto (tgt := 273) (by decide +kernel : am_at co_X12_qJoins 222 = some (3, .goto 51)) rfl ?_
        exact x_vret (by decide +kernel : am_at co_X12_qJoins 273 = some (1, .return_)) h
    · refine ⟨189, by rw [q]; rfl, ?_⟩
      have h := h.2.2.2.2.2.2.2.2.2.1 q
      refine x_aload_n (by decide +kernel : am_at co_X12_qJoins 225 = some (1, .aload_n 0)) rfl ?_
      refine x_lload (by decide +kernel : am_at co_X12_qJoins 226 = some (2, .lload 4)) rfl ?_
      refine x_lload_n (by decide +kernel : am_at co_X12_qJoins 228 = some (1, .lload_n 2)) rfl ?_
      refine x_lif (tgt := 237) (by decide +kernel : am_at co_X12_qJoins 229 = some (1, .lcmp)) (by decide +kernel : am_at co_X12_qJoins 230 = some (3, .ifCond .ne 7)) rfl Iff.rfl (fun c32 => ?_) (fun c32 => ?_)
      · have h := h.1 c32
        refine x_lconst (by decide +kernel : am_at co_X12_qJoins 237 = some (1, .lconst 0)) ?_
        refine x_callV (n := 2) (by decide +kernel : am_at co_X12_qJoins 238 = some (3, .invokevirtual 648)) pq_12_648 pm_X12_qPuts rfl rfl rfl ob_152 h (x_kv fun M34 h => ?_)
        refine x_goto (tgt := 273) (by decide +kernel : am_at co_X12_qJoins 241 = some (3, .goto 32)) rfl ?_
        exact x_vret (by decide +kernel : am_at co_X12_qJoins 273 = some (1, .return_)) h
      · have c32 := (Classical.not_not.mp c32)
        have h := h.2 c32
        refine x_lconst (by decide +kernel : am_at co_X12_qJoins 233 = some (1, .lconst 1)) ?_
        refine x_goto (tgt := 238) (by decide +kernel : am_at co_X12_qJoins 234 = some (3, .goto 4)) rfl ?_
        refine x_callV (n := 2) (by decide +kernel : am_at co_X12_qJoins 238 = some (3, .invokevirtual 648)) pq_12_648 pm_X12_qPuts rfl rfl rfl ob_152 h (x_kv fun M35 h => ?_)
        refine x_goto (tgt := 273) (by decide +kernel : am_at co_X12_qJoins 241 = some (3, .goto 32)) rfl ?_
        exact x_vret (by decide +kernel : am_at co_X12_qJoins 273 = some (1, .return_)) h
    · refine ⟨208, by rw [q]; rfl, ?_⟩
      have h := h.2.2.2.2.2.2.2.2.2.2 q
      refine x_aload_n (by decide +kernel : am_at co_X12_qJoins 244 = some (1, .aload_n 0)) rfl ?_
      refine x_lload (by decide +kernel : am_at co_X12_qJoins 245 = some (2, .lload 4)) rfl ?_
      refine x_lload_n (by decide +kernel : am_at co_X12_qJoins 247 = some (1, .lload_n 2)) rfl ?_
      obtain ⟨o35, h⟩ := h
      refine x_lmul (by decide +kernel : am_at co_X12_qJoins 248 = some (1, .lmul)) o35 ?_
      refine x_callV (n := 2) (by decide +kernel : am_at co_X12_qJoins 249 = some (3, .invokevirtual 648)) pq_12_648 pm_X12_qPuts rfl rfl rfl ob_152 h (x_kv fun M37 h => ?_)
      refine x_goto (tgt := 273) (by decide +kernel : am_at co_X12_qJoins 252 = some (3, .goto 21)) rfl ?_
      exact x_vret (by decide +kernel : am_at co_X12_qJoins 273 = some (1, .return_)) h
