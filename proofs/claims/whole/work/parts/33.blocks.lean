set_option maxRecDepth 20000 in
theorem bk_X12_worstAt_0 {d : Nat} {Q : am_Q} {M : am_M} {v1 v2 v3 : Int} (h : am_g 12 0 co_X12_worstAt d Q 6 [(2, 152), (0, v1), (0, v2), (0, v3), (0, (-1)), (0, 0)] [] sh_T M) : am_g 12 0 co_X12_worstAt d Q 0 [(2, 152), (0, v1), (0, v2), (0, v3), (3, 0), (3, 0)] [] sh_T M := by
  refine x_iconst (by decide +kernel : am_at co_X12_worstAt 0 = some (1, .iconst (-1))) ?_
  refine x_istore (L' := [(2, 152), (0, v1), (0, v2), (0, v3), (0, (-1)), (3, 0)]) (by decide +kernel : am_at co_X12_worstAt 1 = some (2, .istore 4)) rfl ?_
  refine x_iconst (by decide +kernel : am_at co_X12_worstAt 3 = some (1, .iconst 0)) ?_
  refine x_istore (L' := [(2, 152), (0, v1), (0, v2), (0, v3), (0, (-1)), (0, 0)]) (by decide +kernel : am_at co_X12_worstAt 4 = some (2, .istore 5)) rfl ?_
  exact am_weak (lk (lk (lk (lk (lk (lk ln)))))) h
set_option maxRecDepth 20000 in
theorem bk_X12_worstAt_6 {d : Nat} {Q : am_Q} {M : am_M} {v1 v2 v3 v4 v5 : Int} (h : am_cal pg d 211 [(2, 152)] sh_T M (am_c0 sh_T fun x1 M1 => ((x1 ≤ v5 → Q (some (0, v4), sh_T, M1)) ∧ (v5 < x1 → ((¬ v5 = v3 → ((v4 = (-1) → am_r (v5 + 1) ∧ am_g 12 0 co_X12_worstAt d Q 6 [(2, 152), (0, v1), (0, v2), (0, v3), (0, v5), (0, v5 + 1)] [] sh_T M1) ∧ (¬ v4 = (-1) → am_r (v1 + v5) ∧ (0 ≤ v1 + v5 ∧ v1 + v5 < 1500) ∧ am_cal pg d 225 [(2, 152), (0, M1 187 (v1 + v5)), (0, v5), (0, v2)] sh_T M1 (am_c0 sh_T fun x8 M8 => am_r (v1 + v4) ∧ (0 ≤ v1 + v4 ∧ v1 + v4 < 1500) ∧ am_cal pg d 225 [(2, 152), (0, M8 187 (v1 + v4)), (0, v4), (0, v2)] sh_T M8 (am_c0 sh_T fun x11 M11 => ((x8 ≤ x11 → am_r (v5 + 1) ∧ am_g 12 0 co_X12_worstAt d Q 6 [(2, 152), (0, v1), (0, v2), (0, v3), (0, v4), (0, v5 + 1)] [] sh_T M11) ∧ (x11 < x8 → am_r (v5 + 1) ∧ am_g 12 0 co_X12_worstAt d Q 6 [(2, 152), (0, v1), (0, v2), (0, v3), (0, v5), (0, v5 + 1)] [] sh_T M11))))))) ∧ (v5 = v3 → am_r (v5 + 1) ∧ am_g 12 0 co_X12_worstAt d Q 6 [(2, 152), (0, v1), (0, v2), (0, v3), (0, v4), (0, v5 + 1)] [] sh_T M1)))))) : am_g 12 0 co_X12_worstAt d Q 6 [(2, 152), (0, v1), (0, v2), (0, v3), (0, v4), (0, v5)] [] sh_T M := by
  refine x_iload (by decide +kernel : am_at co_X12_worstAt 6 = some (2, .iload 5)) rfl ?_
  refine x_aload_n (by decide +kernel : am_at co_X12_worstAt 8 = some (1, .aload_n 0)) rfl ?_
  refine x_callV (n := 1) (by decide +kernel : am_at co_X12_worstAt 9 = some (3, .invokevirtual 389)) pq_12_389 pm_X12_dreadMany rfl rfl rfl ob_152 h (x_k0 fun x1 M1 h => ?_)
  refine x_icmp (tgt := 75) (by decide +kernel : am_at co_X12_worstAt 12 = some (3, .if_icmp .ge 63)) rfl Iff.rfl (fun c1 => ?_) (fun c1 => ?_)
  · have h := h.1 c1
    refine x_iload (by decide +kernel : am_at co_X12_worstAt 75 = some (2, .iload 4)) rfl ?_
    exact x_iret (by decide +kernel : am_at co_X12_worstAt 77 = some (1, .ireturn)) h
  · have c1 := (Int.not_le.mp c1)
    have h := h.2 c1
    refine x_iload (by decide +kernel : am_at co_X12_worstAt 15 = some (2, .iload 5)) rfl ?_
    refine x_iload_n (by decide +kernel : am_at co_X12_worstAt 17 = some (1, .iload_n 3)) rfl ?_
    refine x_icmp (tgt := 24) (by decide +kernel : am_at co_X12_worstAt 18 = some (3, .if_icmp .ne 6)) rfl Iff.rfl (fun c2 => ?_) (fun c2 => ?_)
    · have h := h.1 c2
      refine x_iload (by decide +kernel : am_at co_X12_worstAt 24 = some (2, .iload 4)) rfl ?_
      refine x_iconst (by decide +kernel : am_at co_X12_worstAt 26 = some (1, .iconst (-1))) ?_
      refine x_icmp (tgt := 65) (by decide +kernel : am_at co_X12_worstAt 27 = some (3, .if_icmp .eq 38)) rfl Iff.rfl (fun c3 => ?_) (fun c3 => ?_)
      · have h := h.1 c3
        refine x_iload (by decide +kernel : am_at co_X12_worstAt 65 = some (2, .iload 5)) rfl ?_
        refine x_istore (L' := [(2, 152), (0, v1), (0, v2), (0, v3), (0, v5), (0, v5)]) (by decide +kernel : am_at co_X12_worstAt 67 = some (2, .istore 4)) rfl ?_
        obtain ⟨o4, h⟩ := h
        refine x_iinc (L' := [(2, 152), (0, v1), (0, v2), (0, v3), (0, v5), (0, v5 + 1)]) (by decide +kernel : am_at co_X12_worstAt 69 = some (3, .iinc 5 1)) rfl o4 rfl ?_
        refine x_goto (tgt := 6) (by decide +kernel : am_at co_X12_worstAt 72 = some (3, .goto (-66))) rfl ?_
        exact am_weak (lk (lk (lk (lk (lk (lk ln)))))) h
      · have c3 := c3
        have h := h.2 c3
        refine x_aload_n (by decide +kernel : am_at co_X12_worstAt 30 = some (1, .aload_n 0)) rfl ?_
        refine x_aload_n (by decide +kernel : am_at co_X12_worstAt 31 = some (1, .aload_n 0)) rfl ?_
        refine x_getF (by decide +kernel : am_at co_X12_worstAt 32 = some (3, .getfield 118)) pq_12_118 (by decide) rfl ob_152 ?_
        refine x_top2 (show 152 + 35 = 187 from rfl) ?_
        refine x_iload_n (by decide +kernel : am_at co_X12_worstAt 35 = some (1, .iload_n 1)) rfl ?_
        refine x_iload (by decide +kernel : am_at co_X12_worstAt 36 = some (2, .iload 5)) rfl ?_
        obtain ⟨o5, h⟩ := h
        refine x_iadd (by decide +kernel : am_at co_X12_worstAt 38 = some (1, .iadd)) o5 ?_
        obtain ⟨o6, h⟩ := h
        refine x_iald (by decide +kernel : am_at co_X12_worstAt 39 = some (1, .iaload)) (ia_187 o6.1 o6.2) ?_
        refine x_iload (by decide +kernel : am_at co_X12_worstAt 40 = some (2, .iload 5)) rfl ?_
        refine x_iload_n (by decide +kernel : am_at co_X12_worstAt 42 = some (1, .iload_n 2)) rfl ?_
        refine x_callV (n := 4) (by decide +kernel : am_at co_X12_worstAt 43 = some (3, .invokevirtual 404)) pq_12_404 pm_X12_counts rfl rfl rfl ob_152 h (x_k0 fun x8 M8 h => ?_)
        refine x_aload_n (by decide +kernel : am_at co_X12_worstAt 46 = some (1, .aload_n 0)) rfl ?_
        refine x_aload_n (by decide +kernel : am_at co_X12_worstAt 47 = some (1, .aload_n 0)) rfl ?_
        refine x_getF (by decide +kernel : am_at co_X12_worstAt 48 = some (3, .getfield 118)) pq_12_118 (by decide) rfl ob_152 ?_
        refine x_top2 (show 152 + 35 = 187 from rfl) ?_
        refine x_iload_n (by decide +kernel : am_at co_X12_worstAt 51 = some (1, .iload_n 1)) rfl ?_
        refine x_iload (by decide +kernel : am_at co_X12_worstAt 52 = some (2, .iload 4)) rfl ?_
        obtain ⟨o8, h⟩ := h
        refine x_iadd (by decide +kernel : am_at co_X12_worstAt 54 = some (1, .iadd)) o8 ?_
        obtain ⟨o9, h⟩ := h
        refine x_iald (by decide +kernel : am_at co_X12_worstAt 55 = some (1, .iaload)) (ia_187 o9.1 o9.2) ?_
        refine x_iload (by decide +kernel : am_at co_X12_worstAt 56 = some (2, .iload 4)) rfl ?_
        refine x_iload_n (by decide +kernel : am_at co_X12_worstAt 58 = some (1, .iload_n 2)) rfl ?_
        refine x_callV (n := 4) (by decide +kernel : am_at co_X12_worstAt 59 = some (3, .invokevirtual 404)) pq_12_404 pm_X12_counts rfl rfl rfl ob_152 h (x_k0 fun x11 M11 h => ?_)
        refine x_icmp (tgt := 69) (by decide +kernel : am_at co_X12_worstAt 62 = some (3, .if_icmp .le 7)) rfl Iff.rfl (fun c11 => ?_) (fun c11 => ?_)
        · have h := h.1 c11
          obtain ⟨o12, h⟩ := h
          refine x_iinc (L' := [(2, 152), (0, v1), (0, v2), (0, v3), (0, v4), (0, v5 + 1)]) (by decide +kernel : am_at co_X12_worstAt 69 = some (3, .iinc 5 1)) rfl o12 rfl ?_
          refine x_goto (tgt := 6) (by decide +kernel : am_at co_X12_worstAt 72 = some (3, .goto (-66))) rfl ?_
          exact am_weak (lk (lk (lk (lk (lk (lk ln)))))) h
        · have c11 := (Int.not_le.mp c11)
          have h := h.2 c11
          refine x_iload (by decide +kernel : am_at co_X12_worstAt 65 = some (2, .iload 5)) rfl ?_
          refine x_istore (L' := [(2, 152), (0, v1), (0, v2), (0, v3), (0, v5), (0, v5)]) (by decide +kernel : am_at co_X12_worstAt 67 = some (2, .istore 4)) rfl ?_
          obtain ⟨o13, h⟩ := h
          refine x_iinc (L' := [(2, 152), (0, v1), (0, v2), (0, v3), (0, v5), (0, v5 + 1)]) (by decide +kernel : am_at co_X12_worstAt 69 = some (3, .iinc 5 1)) rfl o13 rfl ?_
          refine x_goto (tgt := 6) (by decide +kernel : am_at co_X12_worstAt 72 = some (3, .goto (-66))) rfl ?_
          exact am_weak (lk (lk (lk (lk (lk (lk ln)))))) h
    · have c2 := (Classical.not_not.mp c2)
      have h := h.2 c2
      refine x_goto (tgt := 69) (by decide +kernel : am_at co_X12_worstAt 21 = some (3, .goto 48)) rfl ?_
      obtain ⟨o14, h⟩ := h
      refine x_iinc (L' := [(2, 152), (0, v1), (0, v2), (0, v3), (0, v4), (0, v5 + 1)]) (by decide +kernel : am_at co_X12_worstAt 69 = some (3, .iinc 5 1)) rfl o14 rfl ?_
      refine x_goto (tgt := 6) (by decide +kernel : am_at co_X12_worstAt 72 = some (3, .goto (-66))) rfl ?_
      exact am_weak (lk (lk (lk (lk (lk (lk ln)))))) h

set_option maxRecDepth 20000 in
theorem bk_X12_counts_0 {d : Nat} {Q : am_Q} {M : am_M} {v1 v2 v3 : Int} (h : ((¬ v3 = (-1) → am_r (4 + v3) ∧ (0 ≤ 4 + v3 ∧ 4 + v3 < 8) ∧ ((¬ M 178 (4 + v3) = v2 → am_r (v1.tdiv 2) ∧ Q (some (0, v1.tdiv 2), sh_T, M)) ∧ (M 178 (4 + v3) = v2 → am_r (2 * v1) ∧ Q (some (0, 2 * v1), sh_T, M)))) ∧ (v3 = (-1) → Q (some (0, v1), sh_T, M)))) : am_g 12 0 co_X12_counts d Q 0 [(2, 152), (0, v1), (0, v2), (0, v3)] [] sh_T M := by
  refine x_iload_n (by decide +kernel : am_at co_X12_counts 0 = some (1, .iload_n 3)) rfl ?_
  refine x_iconst (by decide +kernel : am_at co_X12_counts 1 = some (1, .iconst (-1))) ?_
  refine x_icmp (tgt := 9) (by decide +kernel : am_at co_X12_counts 2 = some (3, .if_icmp .ne 7)) rfl Iff.rfl (fun c0 => ?_) (fun c0 => ?_)
  · have h := h.1 c0
    refine x_aload_n (by decide +kernel : am_at co_X12_counts 9 = some (1, .aload_n 0)) rfl ?_
    refine x_getF (by decide +kernel : am_at co_X12_counts 10 = some (3, .getfield 91)) pq_12_91 (by decide) rfl ob_152 ?_
    refine x_top2 (show 152 + 26 = 178 from rfl) ?_
    refine x_iconst (by decide +kernel : am_at co_X12_counts 13 = some (1, .iconst 4)) ?_
    refine x_iload_n (by decide +kernel : am_at co_X12_counts 14 = some (1, .iload_n 3)) rfl ?_
    obtain ⟨o1, h⟩ := h
    refine x_iadd (by decide +kernel : am_at co_X12_counts 15 = some (1, .iadd)) o1 ?_
    obtain ⟨o2, h⟩ := h
    refine x_iald (by decide +kernel : am_at co_X12_counts 16 = some (1, .iaload)) (ia_178 o2.1 o2.2) ?_
    refine x_iload_n (by decide +kernel : am_at co_X12_counts 17 = some (1, .iload_n 2)) rfl ?_
    refine x_icmp (tgt := 27) (by decide +kernel : am_at co_X12_counts 18 = some (3, .if_icmp .ne 9)) rfl Iff.rfl (fun c3 => ?_) (fun c3 => ?_)
    · have h := h.1 c3
      refine x_iload_n (by decide +kernel : am_at co_X12_counts 27 = some (1, .iload_n 1)) rfl ?_
      refine x_iconst (by decide +kernel : am_at co_X12_counts 28 = some (1, .iconst 2)) ?_
      obtain ⟨o4, h⟩ := h
      refine x_idiv (by decide +kernel : am_at co_X12_counts 29 = some (1, .idiv)) (by decide) o4 ?_
      exact x_iret (by decide +kernel : am_at co_X12_counts 30 = some (1, .ireturn)) h
    · have c3 := (Classical.not_not.mp c3)
      have h := h.2 c3
      refine x_iconst (by decide +kernel : am_at co_X12_counts 21 = some (1, .iconst 2)) ?_
      refine x_iload_n (by decide +kernel : am_at co_X12_counts 22 = some (1, .iload_n 1)) rfl ?_
      obtain ⟨o5, h⟩ := h
      refine x_imul (by decide +kernel : am_at co_X12_counts 23 = some (1, .imul)) o5 ?_
      refine x_goto (tgt := 30) (by decide +kernel : am_at co_X12_counts 24 = some (3, .goto 6)) rfl ?_
      exact x_iret (by decide +kernel : am_at co_X12_counts 30 = some (1, .ireturn)) h
  · have c0 := (Classical.not_not.mp c0)
    have h := h.2 c0
    refine x_iload_n (by decide +kernel : am_at co_X12_counts 5 = some (1, .iload_n 1)) rfl ?_
    refine x_goto (tgt := 30) (by decide +kernel : am_at co_X12_counts 6 = some (3, .goto 24)) rfl ?_
    exact x_iret (by decide +kernel : am_at co_X12_counts 30 = some (1, .ireturn)) h

set_option maxRecDepth 20000 in
theorem bk_X12_look_0 {d : Nat} {Q : am_Q} {M : am_M} (h : ((M 152 3 ≤ M 152 2 → Q (some (0, (-1)), sh_T, M)) ∧ (M 152 2 < M 152 3 → (0 ≤ M 152 2 ∧ M 152 2 < 1600) ∧ ((M 153 (M 152 2) = 10 → am_r ((M 152 2) + 1) ∧ am_g 12 0 co_X12_look d Q 0 [(2, 152)] [] sh_T (am_up M 152 2 ((M 152 2) + 1))) ∧ (¬ M 153 (M 152 2) = 10 → ((¬ M 153 (M 152 2) = 32 → Q (some (0, M 153 (M 152 2)), sh_T, M)) ∧ (M 153 (M 152 2) = 32 → am_r ((M 152 2) + 1) ∧ am_g 12 0 co_X12_look d Q 0 [(2, 152)] [] sh_T (am_up M 152 2 ((M 152 2) + 1))))))))) : am_g 12 0 co_X12_look d Q 0 [(2, 152)] [] sh_T M := by
  refine x_aload_n (by decide +kernel : am_at co_X12_look 0 = some (1, .aload_n 0)) rfl ?_
  refine x_getf (by decide +kernel : am_at co_X12_look 1 = some (3, .getfield 215)) pq_12_215 rfl ob_152 ?_
  refine x_aload_n (by decide +kernel : am_at co_X12_look 4 = some (1, .aload_n 0)) rfl ?_
  refine x_getf (by decide +kernel : am_at co_X12_look 5 = some (3, .getfield 218)) pq_12_218 rfl ob_152 ?_
  refine x_icmp (tgt := 52) (by decide +kernel : am_at co_X12_look 8 = some (3, .if_icmp .ge 44)) rfl Iff.rfl (fun c0 => ?_) (fun c0 => ?_)
  · have h := h.1 c0
    refine x_aload_n (by decide +kernel : am_at co_X12_look 52 = some (1, .aload_n 0)) rfl ?_
    refine x_getf (by decide +kernel : am_at co_X12_look 53 = some (3, .getfield 215)) pq_12_215 rfl ob_152 ?_
    refine x_aload_n (by decide +kernel : am_at co_X12_look 56 = some (1, .aload_n 0)) rfl ?_
    refine x_getf (by decide +kernel : am_at co_X12_look 57 = some (3, .getfield 218)) pq_12_218 rfl ob_152 ?_
    refine x_icmp (tgt := 75) (by decide +kernel : am_at co_X12_look 60 = some (3, .if_icmp .ge 15)) rfl Iff.rfl (fun _ => ?_) (fun c1 => absurd c0 c1)
    refine x_iconst (by decide +kernel : am_at co_X12_look 75 = some (1, .iconst (-1))) ?_
    exact x_iret (by decide +kernel : am_at co_X12_look 76 = some (1, .ireturn)) h
  · have c0 := (Int.not_le.mp c0)
    have h := h.2 c0
    refine x_aload_n (by decide +kernel : am_at co_X12_look 11 = some (1, .aload_n 0)) rfl ?_
    refine x_getF (by decide +kernel : am_at co_X12_look 12 = some (3, .getfield 7)) pq_12_7 (by decide) rfl ob_152 ?_
    refine x_top2 (show 152 + 1 = 153 from rfl) ?_
    refine x_aload_n (by decide +kernel : am_at co_X12_look 15 = some (1, .aload_n 0)) rfl ?_
    refine x_getf (by decide +kernel : am_at co_X12_look 16 = some (3, .getfield 215)) pq_12_215 rfl ob_152 ?_
    obtain ⟨o2, h⟩ := h
    refine x_iald (by decide +kernel : am_at co_X12_look 19 = some (1, .iaload)) (ia_153 o2.1 o2.2) ?_
    refine x_bipush (by decide +kernel : am_at co_X12_look 20 = some (2, .bipush 10)) ?_
    refine x_icmp (tgt := 39) (by decide +kernel : am_at co_X12_look 22 = some (3, .if_icmp .eq 17)) rfl Iff.rfl (fun c3 => ?_) (fun c3 => ?_)
    · have h := h.1 c3
      refine x_aload_n (by decide +kernel : am_at co_X12_look 39 = some (1, .aload_n 0)) rfl ?_
      refine x_dup2' (by decide +kernel : am_at co_X12_look 40 = some (1, .dup)) ?_
      refine x_getf (by decide +kernel : am_at co_X12_look 41 = some (3, .getfield 215)) pq_12_215 rfl ob_152 ?_
      refine x_iconst (by decide +kernel : am_at co_X12_look 44 = some (1, .iconst 1)) ?_
      obtain ⟨o4, h⟩ := h
      refine x_iadd (by decide +kernel : am_at co_X12_look 45 = some (1, .iadd)) o4 ?_
      refine x_putf0 (by decide +kernel : am_at co_X12_look 46 = some (3, .putfield 215)) pq_12_215 rfl ob_152 ?_
      refine x_goto (tgt := 0) (by decide +kernel : am_at co_X12_look 49 = some (3, .goto (-49))) rfl ?_
      exact am_weak (lk ln) h
    · have c3 := c3
      have h := h.2 c3
      refine x_aload_n (by decide +kernel : am_at co_X12_look 25 = some (1, .aload_n 0)) rfl ?_
      refine x_getF (by decide +kernel : am_at co_X12_look 26 = some (3, .getfield 7)) pq_12_7 (by decide) rfl ob_152 ?_
      refine x_top2 (show 152 + 1 = 153 from rfl) ?_
      refine x_aload_n (by decide +kernel : am_at co_X12_look 29 = some (1, .aload_n 0)) rfl ?_
      refine x_getf (by decide +kernel : am_at co_X12_look 30 = some (3, .getfield 215)) pq_12_215 rfl ob_152 ?_
      refine x_iald (by decide +kernel : am_at co_X12_look 33 = some (1, .iaload)) (ia_153 o2.1 o2.2) ?_
      refine x_bipush (by decide +kernel : am_at co_X12_look 34 = some (2, .bipush 32)) ?_
      refine x_icmp (tgt := 52) (by decide +kernel : am_at co_X12_look 36 = some (3, .if_icmp .ne 16)) rfl Iff.rfl (fun c5 => ?_) (fun c5 => ?_)
      · have h := h.1 c5
        refine x_aload_n (by decide +kernel : am_at co_X12_look 52 = some (1, .aload_n 0)) rfl ?_
        refine x_getf (by decide +kernel : am_at co_X12_look 53 = some (3, .getfield 215)) pq_12_215 rfl ob_152 ?_
        refine x_aload_n (by decide +kernel : am_at co_X12_look 56 = some (1, .aload_n 0)) rfl ?_
        refine x_getf (by decide +kernel : am_at co_X12_look 57 = some (3, .getfield 218)) pq_12_218 rfl ob_152 ?_
        refine x_icmp (tgt := 75) (by decide +kernel : am_at co_X12_look 60 = some (3, .if_icmp .ge 15)) rfl Iff.rfl (fun c6 => absurd c6 (Int.not_le.mpr c0)) (fun _ => ?_)
        refine x_aload_n (by decide +kernel : am_at co_X12_look 63 = some (1, .aload_n 0)) rfl ?_
        refine x_getF (by decide +kernel : am_at co_X12_look 64 = some (3, .getfield 7)) pq_12_7 (by decide) rfl ob_152 ?_
        refine x_top2 (show 152 + 1 = 153 from rfl) ?_
        refine x_aload_n (by decide +kernel : am_at co_X12_look 67 = some (1, .aload_n 0)) rfl ?_
        refine x_getf (by decide +kernel : am_at co_X12_look 68 = some (3, .getfield 215)) pq_12_215 rfl ob_152 ?_
        refine x_iald (by decide +kernel : am_at co_X12_look 71 = some (1, .iaload)) (ia_153 o2.1 o2.2) ?_
        refine x_goto (tgt := 76) (by decide +kernel : am_at co_X12_look 72 = some (3, .goto 4)) rfl ?_
        exact x_iret (by decide +kernel : am_at co_X12_look 76 = some (1, .ireturn)) h
      · have c5 := (Classical.not_not.mp c5)
        have h := h.2 c5
        refine x_aload_n (by decide +kernel : am_at co_X12_look 39 = some (1, .aload_n 0)) rfl ?_
        refine x_dup2' (by decide +kernel : am_at co_X12_look 40 = some (1, .dup)) ?_
        refine x_getf (by decide +kernel : am_at co_X12_look 41 = some (3, .getfield 215)) pq_12_215 rfl ob_152 ?_
        refine x_iconst (by decide +kernel : am_at co_X12_look 44 = some (1, .iconst 1)) ?_
        obtain ⟨o7, h⟩ := h
        refine x_iadd (by decide +kernel : am_at co_X12_look 45 = some (1, .iadd)) o7 ?_
        refine x_putf0 (by decide +kernel : am_at co_X12_look 46 = some (3, .putfield 215)) pq_12_215 rfl ob_152 ?_
        refine x_goto (tgt := 0) (by decide +kernel : am_at co_X12_look 49 = some (3, .goto (-49))) rfl ?_
        exact am_weak (lk ln) h

set_option maxRecDepth 20000 in
theorem bk_X12_number_0 {d : Nat} {Q : am_Q} {M : am_M} {v1 v2 : Int} (h : ((M 152 5 = 0 → am_cal pg d 175 [(2, 152)] sh_T M (am_c0 sh_T fun x2 M2 => am_cal pg d 174 [(0, x2)] sh_T M2 (am_c0 sh_T fun x3 M3 => ((x3 = 0 → am_cal pg d 172 [(2, 152), (0, 1), (0, M3 152 2)] sh_T M3 (am_cv sh_T fun M5 => Q (some (0, 0), sh_T, M5))) ∧ (¬ x3 = 0 → ((¬ M3 152 2 = M3 152 4 → am_g 12 0 co_X12_number d Q 49 [(2, 152), (0, v1), (0, v2), (0, M3 152 2), (0, 0)] [] sh_T M3) ∧ (M3 152 2 = M3 152 4 → am_cal pg d 172 [(2, 152), (0, 1), (0, M3 152 2)] sh_T M3 (am_cv sh_T fun M7 => Q (some (0, 0), sh_T, M7))))))))) ∧ (¬ M 152 5 = 0 → Q (some (0, 0), sh_T, M)))) : am_g 12 0 co_X12_number d Q 0 [(2, 152), (0, v1), (0, v2), (3, 0), (3, 0)] [] sh_T M := by
  refine x_aload_n (by decide +kernel : am_at co_X12_number 0 = some (1, .aload_n 0)) rfl ?_
  refine x_getf (by decide +kernel : am_at co_X12_number 1 = some (3, .getfield 209)) pq_12_209 rfl ob_152 ?_
  refine x_if (tgt := 9) (by decide +kernel : am_at co_X12_number 4 = some (3, .ifCond .eq 5)) rfl Iff.rfl (fun c0 => ?_) (fun c0 => ?_)
  · have h := h.1 c0
    refine x_aload_n (by decide +kernel : am_at co_X12_number 9 = some (1, .aload_n 0)) rfl ?_
    refine x_callV (n := 1) (by decide +kernel : am_at co_X12_number 10 = some (3, .invokevirtual 221)) pq_12_221 pm_X12_look rfl rfl rfl ob_152 h (x_k0 fun x2 M2 h => ?_)
    refine x_callS (n := 1) (by decide +kernel : am_at co_X12_number 13 = some (3, .invokestatic 246)) pq_12_246 rfl rfl rfl h (x_k0 fun x3 M3 h => ?_)
    refine x_if (tgt := 30) (by decide +kernel : am_at co_X12_number 16 = some (3, .ifCond .eq 14)) rfl Iff.rfl (fun c3 => ?_) (fun c3 => ?_)
    · have h := h.1 c3
      refine x_aload_n (by decide +kernel : am_at co_X12_number 30 = some (1, .aload_n 0)) rfl ?_
      refine x_iconst (by decide +kernel : am_at co_X12_number 31 = some (1, .iconst 1)) ?_
      refine x_aload_n (by decide +kernel : am_at co_X12_number 32 = some (1, .aload_n 0)) rfl ?_
      refine x_getf (by decide +kernel : am_at co_X12_number 33 = some (3, .getfield 215)) pq_12_215 rfl ob_152 ?_
      refine x_callV (n := 3) (by decide +kernel : am_at co_X12_number 36 = some (3, .invokevirtual 239)) pq_12_239 pm_X12_fail rfl rfl rfl ob_152 h (x_kv fun M5 h => ?_)
      refine x_iconst (by decide +kernel : am_at co_X12_number 39 = some (1, .iconst 0)) ?_
      exact x_iret (by decide +kernel : am_at co_X12_number 40 = some (1, .ireturn)) h
    · have c3 := c3
      have h := h.2 c3
      refine x_aload_n (by decide +kernel : am_at co_X12_number 19 = some (1, .aload_n 0)) rfl ?_
      refine x_getf (by decide +kernel : am_at co_X12_number 20 = some (3, .getfield 215)) pq_12_215 rfl ob_152 ?_
      refine x_aload_n (by decide +kernel : am_at co_X12_number 23 = some (1, .aload_n 0)) rfl ?_
      refine x_getf (by decide +kernel : am_at co_X12_number 24 = some (3, .getfield 229)) pq_12_229 rfl ob_152 ?_
      refine x_icmp (tgt := 41) (by decide +kernel : am_at co_X12_number 27 = some (3, .if_icmp .ne 14)) rfl Iff.rfl (fun c5 => ?_) (fun c5 => ?_)
      · have h := h.1 c5
        refine x_aload_n (by decide +kernel : am_at co_X12_number 41 = some (1, .aload_n 0)) rfl ?_
        refine x_getf (by decide +kernel : am_at co_X12_number 42 = some (3, .getfield 215)) pq_12_215 rfl ob_152 ?_
        refine x_istore_n (L' := [(2, 152), (0, v1), (0, v2), (0, M3 152 2), (3, 0)]) (by decide +kernel : am_at co_X12_number 45 = some (1, .istore_n 3)) rfl ?_
        refine x_iconst (by decide +kernel : am_at co_X12_number 46 = some (1, .iconst 0)) ?_
        refine x_istore (L' := [(2, 152), (0, v1), (0, v2), (0, M3 152 2), (0, 0)]) (by decide +kernel : am_at co_X12_number 47 = some (2, .istore 4)) rfl ?_
        exact am_weak (lk (lk (lk (lk (lk ln))))) h
      · have c5 := (Classical.not_not.mp c5)
        have h := h.2 c5
        refine x_aload_n (by decide +kernel : am_at co_X12_number 30 = some (1, .aload_n 0)) rfl ?_
        refine x_iconst (by decide +kernel : am_at co_X12_number 31 = some (1, .iconst 1)) ?_
        refine x_aload_n (by decide +kernel : am_at co_X12_number 32 = some (1, .aload_n 0)) rfl ?_
        refine x_getf (by decide +kernel : am_at co_X12_number 33 = some (3, .getfield 215)) pq_12_215 rfl ob_152 ?_
        refine x_callV (n := 3) (by decide +kernel : am_at co_X12_number 36 = some (3, .invokevirtual 239)) pq_12_239 pm_X12_fail rfl rfl rfl ob_152 h (x_kv fun M7 h => ?_)
        refine x_iconst (by decide +kernel : am_at co_X12_number 39 = some (1, .iconst 0)) ?_
        exact x_iret (by decide +kernel : am_at co_X12_number 40 = some (1, .ireturn)) h
  · have c0 := c0
    have h := h.2 c0
    refine x_iconst (by decide +kernel : am_at co_X12_number 7 = some (1, .iconst 0)) ?_
    exact x_iret (by decide +kernel : am_at co_X12_number 8 = some (1, .ireturn)) h
set_option maxRecDepth 20000 in
theorem bk_X12_number_49 {d : Nat} {Q : am_Q} {M : am_M} {v1 v2 v3 v4 : Int} (h : ((M 152 3 ≤ M 152 2 → am_cal pg d 169 [(1, v4), (1, v1), (1, v2)] sh_T (am_up M 152 4 (M 152 2)) (am_c0 sh_T fun x2 M2 => ((¬ x2 = 0 → Q (some (0, v4), sh_T, M2)) ∧ (x2 = 0 → am_cal pg d 172 [(2, 152), (0, 2), (0, v3)] sh_T M2 (am_cv sh_T fun M4 => Q (some (0, v4), sh_T, M4)))))) ∧ (M 152 2 < M 152 3 → (0 ≤ M 152 2 ∧ M 152 2 < 1600) ∧ am_cal pg d 174 [(0, M 153 (M 152 2))] sh_T M (am_c0 sh_T fun x6 M6 => ((x6 = 0 → am_cal pg d 169 [(1, v4), (1, v1), (1, v2)] sh_T (am_up M6 152 4 (M6 152 2)) (am_c0 sh_T fun x8 M8 => ((¬ x8 = 0 → Q (some (0, v4), sh_T, M8)) ∧ (x8 = 0 → am_cal pg d 172 [(2, 152), (0, 2), (0, v3)] sh_T M8 (am_cv sh_T fun M10 => Q (some (0, v4), sh_T, M10)))))) ∧ (¬ x6 = 0 → am_r ((M6 152 2) - v3) ∧ ((¬ (M6 152 2) - v3 = 4 → am_r (10 * v4) ∧ (0 ≤ M6 152 2 ∧ M6 152 2 < 1600) ∧ am_r ((10 * v4) + (M6 153 (M6 152 2))) ∧ am_r (((10 * v4) + (M6 153 (M6 152 2))) - 48) ∧ am_r ((M6 152 2) + 1) ∧ am_g 12 0 co_X12_number d Q 49 [(2, 152), (0, v1), (0, v2), (0, v3), (0, ((10 * v4) + (M6 153 (M6 152 2))) - 48)] [] sh_T (am_up M6 152 2 ((M6 152 2) + 1))) ∧ ((M6 152 2) - v3 = 4 → am_cal pg d 172 [(2, 152), (0, 1), (0, M6 152 2)] sh_T M6 (am_cv sh_T fun M18 => Q (some (0, 0), sh_T, M18)))))))))) : am_g 12 0 co_X12_number d Q 49 [(2, 152), (0, v1), (0, v2), (0, v3), (0, v4)] [] sh_T M := by
  refine x_aload_n (by decide +kernel : am_at co_X12_number 49 = some (1, .aload_n 0)) rfl ?_
  refine x_getf (by decide +kernel : am_at co_X12_number 50 = some (3, .getfield 215)) pq_12_215 rfl ob_152 ?_
  refine x_aload_n (by decide +kernel : am_at co_X12_number 53 = some (1, .aload_n 0)) rfl ?_
  refine x_getf (by decide +kernel : am_at co_X12_number 54 = some (3, .getfield 218)) pq_12_218 rfl ob_152 ?_
  refine x_icmp (tgt := 129) (by decide +kernel : am_at co_X12_number 57 = some (3, .if_icmp .ge 72)) rfl Iff.rfl (fun c0 => ?_) (fun c0 => ?_)
  · have h := h.1 c0
    refine x_aload_n (by decide +kernel : am_at co_X12_number 129 = some (1, .aload_n 0)) rfl ?_
    refine x_aload_n (by decide +kernel : am_at co_X12_number 130 = some (1, .aload_n 0)) rfl ?_
    refine x_getf (by decide +kernel : am_at co_X12_number 131 = some (3, .getfield 215)) pq_12_215 rfl ob_152 ?_
    refine x_putf0 (by decide +kernel : am_at co_X12_number 134 = some (3, .putfield 229)) pq_12_229 rfl ob_152 ?_
    refine x_iload (by decide +kernel : am_at co_X12_number 137 = some (2, .iload 4)) rfl ?_
    refine x_i2l (by decide +kernel : am_at co_X12_number 139 = some (1, .i2l)) ?_
    refine x_iload_n (by decide +kernel : am_at co_X12_number 140 = some (1, .iload_n 1)) rfl ?_
    refine x_i2l (by decide +kernel : am_at co_X12_number 141 = some (1, .i2l)) ?_
    refine x_iload_n (by decide +kernel : am_at co_X12_number 142 = some (1, .iload_n 2)) rfl ?_
    refine x_i2l (by decide +kernel : am_at co_X12_number 143 = some (1, .i2l)) ?_
    refine x_callS (n := 3) (by decide +kernel : am_at co_X12_number 144 = some (3, .invokestatic 249)) pq_12_249 rfl rfl rfl h (x_k0 fun x2 M2 h => ?_)
    refine x_if (tgt := 156) (by decide +kernel : am_at co_X12_number 147 = some (3, .ifCond .ne 9)) rfl Iff.rfl (fun c2 => ?_) (fun c2 => ?_)
    · have h := h.1 c2
      refine x_iload (by decide +kernel : am_at co_X12_number 156 = some (2, .iload 4)) rfl ?_
      exact x_iret (by decide +kernel : am_at co_X12_number 158 = some (1, .ireturn)) h
    · have c2 := (Classical.not_not.mp c2)
      have h := h.2 c2
      refine x_aload_n (by decide +kernel : am_at co_X12_number 150 = some (1, .aload_n 0)) rfl ?_
      refine x_iconst (by decide +kernel : am_at co_X12_number 151 = some (1, .iconst 2)) ?_
      refine x_iload_n (by decide +kernel : am_at co_X12_number 152 = some (1, .iload_n 3)) rfl ?_
      refine x_callV (n := 3) (by decide +kernel : am_at co_X12_number 153 = some (3, .invokevirtual 239)) pq_12_239 pm_X12_fail rfl rfl rfl ob_152 h (x_kv fun M4 h => ?_)
      refine x_iload (by decide +kernel : am_at co_X12_number 156 = some (2, .iload 4)) rfl ?_
      exact x_iret (by decide +kernel : am_at co_X12_number 158 = some (1, .ireturn)) h
  · have c0 := (Int.not_le.mp c0)
    have h := h.2 c0
    refine x_aload_n (by decide +kernel : am_at co_X12_number 60 = some (1, .aload_n 0)) rfl ?_
    refine x_getF (by decide +kernel : am_at co_X12_number 61 = some (3, .getfield 7)) pq_12_7 (by decide) rfl ob_152 ?_
    refine x_top2 (show 152 + 1 = 153 from rfl) ?_
    refine x_aload_n (by decide +kernel : am_at co_X12_number 64 = some (1, .aload_n 0)) rfl ?_
    refine x_getf (by decide +kernel : am_at co_X12_number 65 = some (3, .getfield 215)) pq_12_215 rfl ob_152 ?_
    obtain ⟨o4, h⟩ := h
    refine x_iald (by decide +kernel : am_at co_X12_number 68 = some (1, .iaload)) (ia_153 o4.1 o4.2) ?_
    refine x_callS (n := 1) (by decide +kernel : am_at co_X12_number 69 = some (3, .invokestatic 246)) pq_12_246 rfl rfl rfl h (x_k0 fun x6 M6 h => ?_)
    refine x_if (tgt := 129) (by decide +kernel : am_at co_X12_number 72 = some (3, .ifCond .eq 57)) rfl Iff.rfl (fun c6 => ?_) (fun c6 => ?_)
    · have h := h.1 c6
      refine x_aload_n (by decide +kernel : am_at co_X12_number 129 = some (1, .aload_n 0)) rfl ?_
      refine x_aload_n (by decide +kernel : am_at co_X12_number 130 = some (1, .aload_n 0)) rfl ?_
      refine x_getf (by decide +kernel : am_at co_X12_number 131 = some (3, .getfield 215)) pq_12_215 rfl ob_152 ?_
      refine x_putf0 (by decide +kernel : am_at co_X12_number 134 = some (3, .putfield 229)) pq_12_229 rfl ob_152 ?_
      refine x_iload (by decide +kernel : am_at co_X12_number 137 = some (2, .iload 4)) rfl ?_
      refine x_i2l (by decide +kernel : am_at co_X12_number 139 = some (1, .i2l)) ?_
      refine x_iload_n (by decide +kernel : am_at co_X12_number 140 = some (1, .iload_n 1)) rfl ?_
      refine x_i2l (by decide +kernel : am_at co_X12_number 141 = some (1, .i2l)) ?_
      refine x_iload_n (by decide +kernel : am_at co_X12_number 142 = some (1, .iload_n 2)) rfl ?_
      refine x_i2l (by decide +kernel : am_at co_X12_number 143 = some (1, .i2l)) ?_
      refine x_callS (n := 3) (by decide +kernel : am_at co_X12_number 144 = some (3, .invokestatic 249)) pq_12_249 rfl rfl rfl h (x_k0 fun x8 M8 h => ?_)
      refine x_if (tgt := 156) (by decide +kernel : am_at co_X12_number 147 = some (3, .ifCond .ne 9)) rfl Iff.rfl (fun c8 => ?_) (fun c8 => ?_)
      · have h := h.1 c8
        refine x_iload (by decide +kernel : am_at co_X12_number 156 = some (2, .iload 4)) rfl ?_
        exact x_iret (by decide +kernel : am_at co_X12_number 158 = some (1, .ireturn)) h
      · have c8 := (Classical.not_not.mp c8)
        have h := h.2 c8
        refine x_aload_n (by decide +kernel : am_at co_X12_number 150 = some (1, .aload_n 0)) rfl ?_
        refine x_iconst (by decide +kernel : am_at co_X12_number 151 = some (1, .iconst 2)) ?_
        refine x_iload_n (by decide +kernel : am_at co_X12_number 152 = some (1, .iload_n 3)) rfl ?_
        refine x_callV (n := 3) (by decide +kernel : am_at co_X12_number 153 = some (3, .invokevirtual 239)) pq_12_239 pm_X12_fail rfl rfl rfl ob_152 h (x_kv fun M10 h => ?_)
        refine x_iload (by decide +kernel : am_at co_X12_number 156 = some (2, .iload 4)) rfl ?_
        exact x_iret (by decide +kernel : am_at co_X12_number 158 = some (1, .ireturn)) h
    · have c6 := c6
      have h := h.2 c6
      refine x_aload_n (by decide +kernel : am_at co_X12_number 75 = some (1, .aload_n 0)) rfl ?_
      refine x_getf (by decide +kernel : am_at co_X12_number 76 = some (3, .getfield 215)) pq_12_215 rfl ob_152 ?_
      refine x_iload_n (by decide +kernel : am_at co_X12_number 79 = some (1, .iload_n 3)) rfl ?_
      obtain ⟨o10, h⟩ := h
      refine x_isub (by decide +kernel : am_at co_X12_number 80 = some (1, .isub)) o10 ?_
      refine x_iconst (by decide +kernel : am_at co_X12_number 81 = some (1, .iconst 4)) ?_
      refine x_icmp (tgt := 96) (by decide +kernel : am_at co_X12_number 82 = some (3, .if_icmp .ne 14)) rfl Iff.rfl (fun c11 => ?_) (fun c11 => ?_)
      · have h := h.1 c11
        refine x_bipush (by decide +kernel : am_at co_X12_number 96 = some (2, .bipush 10)) ?_
        refine x_iload (by decide +kernel : am_at co_X12_number 98 = some (2, .iload 4)) rfl ?_
        obtain ⟨o12, h⟩ := h
        refine x_imul (by decide +kernel : am_at co_X12_number 100 = some (1, .imul)) o12 ?_
        refine x_aload_n (by decide +kernel : am_at co_X12_number 101 = some (1, .aload_n 0)) rfl ?_
        refine x_getF (by decide +kernel : am_at co_X12_number 102 = some (3, .getfield 7)) pq_12_7 (by decide) rfl ob_152 ?_
        refine x_top2 (show 152 + 1 = 153 from rfl) ?_
        refine x_aload_n (by decide +kernel : am_at co_X12_number 105 = some (1, .aload_n 0)) rfl ?_
        refine x_getf (by decide +kernel : am_at co_X12_number 106 = some (3, .getfield 215)) pq_12_215 rfl ob_152 ?_
        obtain ⟨o13, h⟩ := h
        refine x_iald (by decide +kernel : am_at co_X12_number 109 = some (1, .iaload)) (ia_153 o13.1 o13.2) ?_
        obtain ⟨o14, h⟩ := h
        refine x_iadd (by decide +kernel : am_at co_X12_number 110 = some (1, .iadd)) o14 ?_
        refine x_bipush (by decide +kernel : am_at co_X12_number 111 = some (2, .bipush 48)) ?_
        obtain ⟨o15, h⟩ := h
        refine x_isub (by decide +kernel : am_at co_X12_number 113 = some (1, .isub)) o15 ?_
        refine x_istore (L' := [(2, 152), (0, v1), (0, v2), (0, v3), (0, ((10 * v4) + (M6 153 (M6 152 2))) - 48)]) (by decide +kernel : am_at co_X12_number 114 = some (2, .istore 4)) rfl ?_
        refine x_aload_n (by decide +kernel : am_at co_X12_number 116 = some (1, .aload_n 0)) rfl ?_
        refine x_dup2' (by decide +kernel : am_at co_X12_number 117 = some (1, .dup)) ?_
        refine x_getf (by decide +kernel : am_at co_X12_number 118 = some (3, .getfield 215)) pq_12_215 rfl ob_152 ?_
        refine x_iconst (by decide +kernel : am_at co_X12_number 121 = some (1, .iconst 1)) ?_
        obtain ⟨o16, h⟩ := h
        refine x_iadd (by decide +kernel : am_at co_X12_number 122 = some (1, .iadd)) o16 ?_
        refine x_putf0 (by decide +kernel : am_at co_X12_number 123 = some (3, .putfield 215)) pq_12_215 rfl ob_152 ?_
        refine x_goto (tgt := 49) (by decide +kernel : am_at co_X12_number 126 = some (3, .goto (-77))) rfl ?_
        exact am_weak (lk (lk (lk (lk (lk ln))))) h
      · have c11 := (Classical.not_not.mp c11)
        have h := h.2 c11
        refine x_aload_n (by decide +kernel : am_at co_X12_number 85 = some (1, .aload_n 0)) rfl ?_
        refine x_iconst (by decide +kernel : am_at co_X12_number 86 = some (1, .iconst 1)) ?_
        refine x_aload_n (by decide +kernel : am_at co_X12_number 87 = some (1, .aload_n 0)) rfl ?_
        refine x_getf (by decide +kernel : am_at co_X12_number 88 = some (3, .getfield 215)) pq_12_215 rfl ob_152 ?_
        refine x_callV (n := 3) (by decide +kernel : am_at co_X12_number 91 = some (3, .invokevirtual 239)) pq_12_239 pm_X12_fail rfl rfl rfl ob_152 h (x_kv fun M18 h => ?_)
        refine x_iconst (by decide +kernel : am_at co_X12_number 94 = some (1, .iconst 0)) ?_
        exact x_iret (by decide +kernel : am_at co_X12_number 95 = some (1, .ireturn)) h

set_option maxRecDepth 20000 in
theorem bk_X12_opens_0 {d : Nat} {Q : am_Q} {M : am_M} {v1 v2 : Int} (h : ((¬ M 152 43 = 6 → am_r ((M 152 43) + 1) ∧ (0 ≤ M 152 42 ∧ M 152 42 < 1700) ∧ am_r ((M 152 42) + 1) ∧ Q (none, sh_T, (am_up (am_up (am_up M 152 43 ((M 152 43) + 1)) 183 (M 152 42) v1) 152 42 ((M 152 42) + 1)))) ∧ (M 152 43 = 6 → am_cal pg d 172 [(2, 152), (0, 4), (0, v2)] sh_T M (am_cv sh_T fun M5 => Q (none, sh_T, M5))))) : am_g 12 9 co_X12_opens d Q 0 [(2, 152), (0, v1), (0, v2)] [] sh_T M := by
  refine x_aload_n (by decide +kernel : am_at co_X12_opens 0 = some (1, .aload_n 0)) rfl ?_
  refine x_getf (by decide +kernel : am_at co_X12_opens 1 = some (3, .getfield 297)) pq_12_297 rfl ob_152 ?_
  refine x_bipush (by decide +kernel : am_at co_X12_opens 4 = some (2, .bipush 6)) ?_
  refine x_icmp (tgt := 16) (by decide +kernel : am_at co_X12_opens 6 = some (3, .if_icmp .ne 10)) rfl Iff.rfl (fun c0 => ?_) (fun c0 => ?_)
  · have h := h.1 c0
    refine x_aload_n (by decide +kernel : am_at co_X12_opens 16 = some (1, .aload_n 0)) rfl ?_
    refine x_dup2' (by decide +kernel : am_at co_X12_opens 17 = some (1, .dup)) ?_
    refine x_getf (by decide +kernel : am_at co_X12_opens 18 = some (3, .getfield 297)) pq_12_297 rfl ob_152 ?_
    refine x_iconst (by decide +kernel : am_at co_X12_opens 21 = some (1, .iconst 1)) ?_
    obtain ⟨o1, h⟩ := h
    refine x_iadd (by decide +kernel : am_at co_X12_opens 22 = some (1, .iadd)) o1 ?_
    refine x_putf0 (by decide +kernel : am_at co_X12_opens 23 = some (3, .putfield 297)) pq_12_297 rfl ob_152 ?_
    refine x_aload_n (by decide +kernel : am_at co_X12_opens 26 = some (1, .aload_n 0)) rfl ?_
    refine x_getF (by decide +kernel : am_at co_X12_opens 27 = some (3, .getfield 106)) pq_12_106 (by decide) rfl ob_152 ?_
    refine x_top2 (show 152 + 31 = 183 from rfl) ?_
    refine x_aload_n (by decide +kernel : am_at co_X12_opens 30 = some (1, .aload_n 0)) rfl ?_
    refine x_getf (by decide +kernel : am_at co_X12_opens 31 = some (3, .getfield 294)) pq_12_294 rfl ob_152 ?_
    refine x_top0 (show (am_up M 152 43 ((M 152 43) + 1)) 152 42 = M 152 42 from rfl) ?_
    refine x_iload_n (by decide +kernel : am_at co_X12_opens 34 = some (1, .iload_n 1)) rfl ?_
    obtain ⟨o2, h⟩ := h
    refine x_iast (by decide +kernel : am_at co_X12_opens 35 = some (1, .iastore)) (ow_183 o2.1 o2.2) ?_
    refine x_aload_n (by decide +kernel : am_at co_X12_opens 36 = some (1, .aload_n 0)) rfl ?_
    refine x_dup2' (by decide +kernel : am_at co_X12_opens 37 = some (1, .dup)) ?_
    refine x_getf (by decide +kernel : am_at co_X12_opens 38 = some (3, .getfield 294)) pq_12_294 rfl ob_152 ?_
    refine x_top0 (show (am_up (am_up M 152 43 ((M 152 43) + 1)) 183 (M 152 42) v1) 152 42 = M 152 42 from rfl) ?_
    refine x_iconst (by decide +kernel : am_at co_X12_opens 41 = some (1, .iconst 1)) ?_
    obtain ⟨o3, h⟩ := h
    refine x_iadd (by decide +kernel : am_at co_X12_opens 42 = some (1, .iadd)) o3 ?_
    refine x_putf0 (by decide +kernel : am_at co_X12_opens 43 = some (3, .putfield 294)) pq_12_294 rfl ob_152 ?_
    exact x_vret (by decide +kernel : am_at co_X12_opens 46 = some (1, .return_)) h
  · have c0 := (Classical.not_not.mp c0)
    have h := h.2 c0
    refine x_aload_n (by decide +kernel : am_at co_X12_opens 9 = some (1, .aload_n 0)) rfl ?_
    refine x_iconst (by decide +kernel : am_at co_X12_opens 10 = some (1, .iconst 4)) ?_
    refine x_iload_n (by decide +kernel : am_at co_X12_opens 11 = some (1, .iload_n 2)) rfl ?_
    refine x_callV (n := 3) (by decide +kernel : am_at co_X12_opens 12 = some (3, .invokevirtual 239)) pq_12_239 pm_X12_fail rfl rfl rfl ob_152 h (x_kv fun M5 h => ?_)
    exact x_vret (by decide +kernel : am_at co_X12_opens 15 = some (1, .return_)) h

