/-! blocks (printed) -/
set_option maxRecDepth 20000 in
theorem bk_X11_hand_0 {d : Nat} {Q : am_Q} {M : am_M} {v1 v2 v3 : Int} (h : am_cal pg d 161 [(2, 0), (0, v1)] sh_T M (am_c0 sh_T fun x1 M1 => ((x1 = 0 → Q (some (0, (-1)), sh_T, M1)) ∧ (¬ x1 = 0 → am_cal pg d 161 [(2, 0), (0, v2)] sh_T M1 (am_c0 sh_T fun x3 M3 => ((x3 = 0 → Q (some (0, (-1)), sh_T, M3)) ∧ (¬ x3 = 0 → ((¬ v1 = v2 → (0 ≤ v1 ∧ v1 < 4) ∧ (0 ≤ v2 ∧ v2 < 4) ∧ am_cal pg d 9 [(2, 88), (2, M3 0 4), (2, 37 + 1 + 2 * v1), (2, 37 + 1 + 2 * v2)] sh_T M3 (am_c0 sh_T fun x8 M8 => ((v3 = (-1) → Q (some (0, x8), sh_T, M8)) ∧ (¬ v3 = (-1) → ((¬ x8 = (-1) → am_cal pg d 6 [(2, 88), (0, v3)] sh_T M8 (am_c0 sh_T fun x11 M11 => Q (some (0, x11), sh_T, M11))) ∧ (x8 = (-1) → Q (some (0, x8), sh_T, M8))))))) ∧ (v1 = v2 → Q (some (0, (-1)), sh_T, M3)))))))))) : am_g 11 0 co_X11_hand d Q 0 [(2, 0), (0, v1), (0, v2), (0, v3), (3, 0)] [] sh_T M := by
  refine x_aload_n (by decide +kernel : am_at co_X11_hand 0 = some (1, .aload_n 0)) rfl ?_
  refine x_iload_n (by decide +kernel : am_at co_X11_hand 1 = some (1, .iload_n 1)) rfl ?_
  refine x_callV (n := 2) (by decide +kernel : am_at co_X11_hand 2 = some (3, .invokevirtual 170)) pq_11_170 pm_X11_isDreamer rfl rfl rfl ob_0 h (x_k0 fun x1 M1 h => ?_)
  refine x_if (tgt := 21) (by decide +kernel : am_at co_X11_hand 5 = some (3, .ifCond .eq 16)) rfl Iff.rfl (fun c1 => ?_) (fun c1 => ?_)
  · have h := h.1 c1
    refine x_iconst (by decide +kernel : am_at co_X11_hand 21 = some (1, .iconst (-1))) ?_
    exact x_iret (by decide +kernel : am_at co_X11_hand 22 = some (1, .ireturn)) h
  · have c1 := c1
    have h := h.2 c1
    refine x_aload_n (by decide +kernel : am_at co_X11_hand 8 = some (1, .aload_n 0)) rfl ?_
    refine x_iload_n (by decide +kernel : am_at co_X11_hand 9 = some (1, .iload_n 2)) rfl ?_
    refine x_callV (n := 2) (by decide +kernel : am_at co_X11_hand 10 = some (3, .invokevirtual 170)) pq_11_170 pm_X11_isDreamer rfl rfl rfl ob_0 h (x_k0 fun x3 M3 h => ?_)
    refine x_if (tgt := 21) (by decide +kernel : am_at co_X11_hand 13 = some (3, .ifCond .eq 8)) rfl Iff.rfl (fun c3 => ?_) (fun c3 => ?_)
    · have h := h.1 c3
      refine x_iconst (by decide +kernel : am_at co_X11_hand 21 = some (1, .iconst (-1))) ?_
      exact x_iret (by decide +kernel : am_at co_X11_hand 22 = some (1, .ireturn)) h
    · have c3 := c3
      have h := h.2 c3
      refine x_iload_n (by decide +kernel : am_at co_X11_hand 16 = some (1, .iload_n 1)) rfl ?_
      refine x_iload_n (by decide +kernel : am_at co_X11_hand 17 = some (1, .iload_n 2)) rfl ?_
      refine x_icmp (tgt := 23) (by decide +kernel : am_at co_X11_hand 18 = some (3, .if_icmp .ne 5)) rfl Iff.rfl (fun c4 => ?_) (fun c4 => ?_)
      · have h := h.1 c4
        refine x_aload_n (by decide +kernel : am_at co_X11_hand 23 = some (1, .aload_n 0)) rfl ?_
        refine x_getF (by decide +kernel : am_at co_X11_hand 24 = some (3, .getfield 69)) pq_11_69 (by decide) rfl ob_0 ?_
        refine x_top2 (show 0 + 88 = 88 from rfl) ?_
        refine x_aload_n (by decide +kernel : am_at co_X11_hand 27 = some (1, .aload_n 0)) rfl ?_
        refine x_getf (by decide +kernel : am_at co_X11_hand 28 = some (3, .getfield 44)) pq_11_44 rfl ob_0 ?_
        refine x_aload_n (by decide +kernel : am_at co_X11_hand 31 = some (1, .aload_n 0)) rfl ?_
        refine x_getF (by decide +kernel : am_at co_X11_hand 32 = some (3, .getfield 55)) pq_11_55 (by decide) rfl ob_0 ?_
        refine x_top2 (show 0 + 37 = 37 from rfl) ?_
        refine x_iload_n (by decide +kernel : am_at co_X11_hand 35 = some (1, .iload_n 1)) rfl ?_
        obtain ⟨o5, h⟩ := h
        refine x_aald (by decide +kernel : am_at co_X11_hand 36 = some (1, .aaload)) (ia_37 o5.1 o5.2) ?_
        refine x_aload_n (by decide +kernel : am_at co_X11_hand 37 = some (1, .aload_n 0)) rfl ?_
        refine x_getF (by decide +kernel : am_at co_X11_hand 38 = some (3, .getfield 55)) pq_11_55 (by decide) rfl ob_0 ?_
        refine x_top2 (show 0 + 37 = 37 from rfl) ?_
        refine x_iload_n (by decide +kernel : am_at co_X11_hand 41 = some (1, .iload_n 2)) rfl ?_
        obtain ⟨o6, h⟩ := h
        refine x_aald (by decide +kernel : am_at co_X11_hand 42 = some (1, .aaload)) (ia_37 o6.1 o6.2) ?_
        refine x_callV (n := 4) (by decide +kernel : am_at co_X11_hand 43 = some (3, .invokevirtual 268)) pq_11_268 pm_X1_goTogether rfl rfl rfl ob_88 h (x_k0 fun x8 M8 h => ?_)
        refine x_istore (L' := [(2, 0), (0, v1), (0, v2), (0, v3), (0, x8)]) (by decide +kernel : am_at co_X11_hand 46 = some (2, .istore 4)) rfl ?_
        refine x_iload_n (by decide +kernel : am_at co_X11_hand 48 = some (1, .iload_n 3)) rfl ?_
        refine x_iconst (by decide +kernel : am_at co_X11_hand 49 = some (1, .iconst (-1))) ?_
        refine x_icmp (tgt := 59) (by decide +kernel : am_at co_X11_hand 50 = some (3, .if_icmp .eq 9)) rfl Iff.rfl (fun c8 => ?_) (fun c8 => ?_)
        · have h := h.1 c8
          refine x_iload (by decide +kernel : am_at co_X11_hand 59 = some (2, .iload 4)) rfl ?_
          exact x_iret (by decide +kernel : am_at co_X11_hand 61 = some (1, .ireturn)) h
        · have c8 := c8
          have h := h.2 c8
          refine x_iload (by decide +kernel : am_at co_X11_hand 53 = some (2, .iload 4)) rfl ?_
          refine x_iconst (by decide +kernel : am_at co_X11_hand 55 = some (1, .iconst (-1))) ?_
          refine x_icmp (tgt := 62) (by decide +kernel : am_at co_X11_hand 56 = some (3, .if_icmp .ne 6)) rfl Iff.rfl (fun c9 => ?_) (fun c9 => ?_)
          · have h := h.1 c9
            refine x_aload_n (by decide +kernel : am_at co_X11_hand 62 = some (1, .aload_n 0)) rfl ?_
            refine x_getF (by decide +kernel : am_at co_X11_hand 63 = some (3, .getfield 69)) pq_11_69 (by decide) rfl ob_0 ?_
            refine x_top2 (show 0 + 88 = 88 from rfl) ?_
            refine x_iload_n (by decide +kernel : am_at co_X11_hand 66 = some (1, .iload_n 3)) rfl ?_
            refine x_callV (n := 2) (by decide +kernel : am_at co_X11_hand 67 = some (3, .invokevirtual 219)) pq_11_219 pm_X1_dreadIn rfl rfl rfl ob_88 h (x_k0 fun x11 M11 h => ?_)
            exact x_iret (by decide +kernel : am_at co_X11_hand 70 = some (1, .ireturn)) h
          · have c9 := (Classical.not_not.mp c9)
            have h := h.2 c9
            refine x_iload (by decide +kernel : am_at co_X11_hand 59 = some (2, .iload 4)) rfl ?_
            exact x_iret (by decide +kernel : am_at co_X11_hand 61 = some (1, .ireturn)) h
      · have c4 := (Classical.not_not.mp c4)
        have h := h.2 c4
        refine x_iconst (by decide +kernel : am_at co_X11_hand 21 = some (1, .iconst (-1))) ?_
        exact x_iret (by decide +kernel : am_at co_X11_hand 22 = some (1, .ireturn)) h
set_option maxRecDepth 20000 in
theorem bk_X11_against_0 {d : Nat} {Q : am_Q} {M : am_M} {v1 v2 : Int} (h : am_cal pg d 161 [(2, 0), (0, v1)] sh_T M (am_c0 sh_T fun x1 M1 => ((x1 = 0 → Q (some (0, (-1)), sh_T, M1)) ∧ (¬ x1 = 0 → ((v2 < 0 → Q (some (0, (-1)), sh_T, M1)) ∧ (0 ≤ v2 → ((v2 ≤ 3 → (0 ≤ v1 ∧ v1 < 4) ∧ am_cal pg d 47 [(2, 128), (2, M1 0 4), (2, 37 + 1 + 2 * v1), (0, v2)] sh_T M1 (am_c0 sh_T fun x6 M6 => ((x6 = 0 → Q (some (0, 0), sh_T, M6)) ∧ (¬ x6 = 0 → Q (some (0, 1), sh_T, M6))))) ∧ (3 < v2 → Q (some (0, (-1)), sh_T, M1))))))))) : am_g 11 0 co_X11_against d Q 0 [(2, 0), (0, v1), (0, v2)] [] sh_T M := by
  refine x_aload_n (by decide +kernel : am_at co_X11_against 0 = some (1, .aload_n 0)) rfl ?_
  refine x_iload_n (by decide +kernel : am_at co_X11_against 1 = some (1, .iload_n 1)) rfl ?_
  refine x_callV (n := 2) (by decide +kernel : am_at co_X11_against 2 = some (3, .invokevirtual 170)) pq_11_170 pm_X11_isDreamer rfl rfl rfl ob_0 h (x_k0 fun x1 M1 h => ?_)
  refine x_if (tgt := 17) (by decide +kernel : am_at co_X11_against 5 = some (3, .ifCond .eq 12)) rfl Iff.rfl (fun c1 => ?_) (fun c1 => ?_)
  · have h := h.1 c1
    refine x_iconst (by decide +kernel : am_at co_X11_against 17 = some (1, .iconst (-1))) ?_
    exact x_iret (by decide +kernel : am_at co_X11_against 18 = some (1, .ireturn)) h
  · have c1 := c1
    have h := h.2 c1
    refine x_iload_n (by decide +kernel : am_at co_X11_against 8 = some (1, .iload_n 2)) rfl ?_
    refine x_if (tgt := 17) (by decide +kernel : am_at co_X11_against 9 = some (3, .ifCond .lt 8)) rfl Iff.rfl (fun c2 => ?_) (fun c2 => ?_)
    · have h := h.1 c2
      refine x_iconst (by decide +kernel : am_at co_X11_against 17 = some (1, .iconst (-1))) ?_
      exact x_iret (by decide +kernel : am_at co_X11_against 18 = some (1, .ireturn)) h
    · have c2 := (Int.not_lt.mp c2)
      have h := h.2 c2
      refine x_iload_n (by decide +kernel : am_at co_X11_against 12 = some (1, .iload_n 2)) rfl ?_
      refine x_iconst (by decide +kernel : am_at co_X11_against 13 = some (1, .iconst 3)) ?_
      refine x_icmp (tgt := 19) (by decide +kernel : am_at co_X11_against 14 = some (3, .if_icmp .le 5)) rfl Iff.rfl (fun c3 => ?_) (fun c3 => ?_)
      · have h := h.1 c3
        refine x_aload_n (by decide +kernel : am_at co_X11_against 19 = some (1, .aload_n 0)) rfl ?_
        refine x_getF (by decide +kernel : am_at co_X11_against 20 = some (3, .getfield 83)) pq_11_83 (by decide) rfl ob_0 ?_
        refine x_top2 (show 0 + 128 = 128 from rfl) ?_
        refine x_aload_n (by decide +kernel : am_at co_X11_against 23 = some (1, .aload_n 0)) rfl ?_
        refine x_getf (by decide +kernel : am_at co_X11_against 24 = some (3, .getfield 44)) pq_11_44 rfl ob_0 ?_
        refine x_aload_n (by decide +kernel : am_at co_X11_against 27 = some (1, .aload_n 0)) rfl ?_
        refine x_getF (by decide +kernel : am_at co_X11_against 28 = some (3, .getfield 55)) pq_11_55 (by decide) rfl ob_0 ?_
        refine x_top2 (show 0 + 37 = 37 from rfl) ?_
        refine x_iload_n (by decide +kernel : am_at co_X11_against 31 = some (1, .iload_n 1)) rfl ?_
        obtain ⟨o4, h⟩ := h
        refine x_aald (by decide +kernel : am_at co_X11_against 32 = some (1, .aaload)) (ia_37 o4.1 o4.2) ?_
        refine x_iload_n (by decide +kernel : am_at co_X11_against 33 = some (1, .iload_n 2)) rfl ?_
        refine x_callV (n := 4) (by decide +kernel : am_at co_X11_against 34 = some (3, .invokevirtual 272)) pq_11_272 pm_X4_canBeHome rfl rfl rfl ob_128 h (x_k0 fun x6 M6 h => ?_)
        refine x_if (tgt := 44) (by decide +kernel : am_at co_X11_against 37 = some (3, .ifCond .eq 7)) rfl Iff.rfl (fun c6 => ?_) (fun c6 => ?_)
        · have h := h.1 c6
          refine x_iconst (by decide +kernel : am_at co_X11_against 44 = some (1, .iconst 0)) ?_
          exact x_iret (by decide +kernel : am_at co_X11_against 45 = some (1, .ireturn)) h
        · have c6 := c6
          have h := h.2 c6
          refine x_iconst (by decide +kernel : am_at co_X11_against 40 = some (1, .iconst 1)) ?_
          refine x_goto (tgt := 45) (by decide +kernel : am_at co_X11_against 41 = some (3, .goto 4)) rfl ?_
          exact x_iret (by decide +kernel : am_at co_X11_against 45 = some (1, .ireturn)) h
      · have c3 := (Int.not_le.mp c3)
        have h := h.2 c3
        refine x_iconst (by decide +kernel : am_at co_X11_against 17 = some (1, .iconst (-1))) ?_
        exact x_iret (by decide +kernel : am_at co_X11_against 18 = some (1, .ireturn)) h
set_option maxRecDepth 20000 in
theorem bk_X11_chance_0 {d : Nat} {Q : am_Q} {M : am_M} {v1 v2 : Int} (h : am_cal pg d 161 [(2, 0), (0, v1)] sh_T M (am_c0 sh_T fun x1 M1 => ((x1 = 0 → Q (some (0, (-1)), sh_T, M1)) ∧ (¬ x1 = 0 → ((v2 < 0 → Q (some (0, (-1)), sh_T, M1)) ∧ (0 ≤ v2 → ((v2 ≤ 4 → (0 ≤ v1 ∧ v1 < 4) ∧ am_cal pg d 50 [(2, 128), (2, M1 0 4), (2, 37 + 1 + 2 * v1), (0, v2)] sh_T M1 (am_c0 sh_T fun x6 M6 => Q (some (0, x6), sh_T, M6))) ∧ (4 < v2 → Q (some (0, (-1)), sh_T, M1))))))))) : am_g 11 0 co_X11_chance d Q 0 [(2, 0), (0, v1), (0, v2)] [] sh_T M := by
  refine x_aload_n (by decide +kernel : am_at co_X11_chance 0 = some (1, .aload_n 0)) rfl ?_
  refine x_iload_n (by decide +kernel : am_at co_X11_chance 1 = some (1, .iload_n 1)) rfl ?_
  refine x_callV (n := 2) (by decide +kernel : am_at co_X11_chance 2 = some (3, .invokevirtual 170)) pq_11_170 pm_X11_isDreamer rfl rfl rfl ob_0 h (x_k0 fun x1 M1 h => ?_)
  refine x_if (tgt := 17) (by decide +kernel : am_at co_X11_chance 5 = some (3, .ifCond .eq 12)) rfl Iff.rfl (fun c1 => ?_) (fun c1 => ?_)
  · have h := h.1 c1
    refine x_iconst (by decide +kernel : am_at co_X11_chance 17 = some (1, .iconst (-1))) ?_
    exact x_iret (by decide +kernel : am_at co_X11_chance 18 = some (1, .ireturn)) h
  · have c1 := c1
    have h := h.2 c1
    refine x_iload_n (by decide +kernel : am_at co_X11_chance 8 = some (1, .iload_n 2)) rfl ?_
    refine x_if (tgt := 17) (by decide +kernel : am_at co_X11_chance 9 = some (3, .ifCond .lt 8)) rfl Iff.rfl (fun c2 => ?_) (fun c2 => ?_)
    · have h := h.1 c2
      refine x_iconst (by decide +kernel : am_at co_X11_chance 17 = some (1, .iconst (-1))) ?_
      exact x_iret (by decide +kernel : am_at co_X11_chance 18 = some (1, .ireturn)) h
    · have c2 := (Int.not_lt.mp c2)
      have h := h.2 c2
      refine x_iload_n (by decide +kernel : am_at co_X11_chance 12 = some (1, .iload_n 2)) rfl ?_
      refine x_iconst (by decide +kernel : am_at co_X11_chance 13 = some (1, .iconst 4)) ?_
      refine x_icmp (tgt := 19) (by decide +kernel : am_at co_X11_chance 14 = some (3, .if_icmp .le 5)) rfl Iff.rfl (fun c3 => ?_) (fun c3 => ?_)
      · have h := h.1 c3
        refine x_aload_n (by decide +kernel : am_at co_X11_chance 19 = some (1, .aload_n 0)) rfl ?_
        refine x_getF (by decide +kernel : am_at co_X11_chance 20 = some (3, .getfield 83)) pq_11_83 (by decide) rfl ob_0 ?_
        refine x_top2 (show 0 + 128 = 128 from rfl) ?_
        refine x_aload_n (by decide +kernel : am_at co_X11_chance 23 = some (1, .aload_n 0)) rfl ?_
        refine x_getf (by decide +kernel : am_at co_X11_chance 24 = some (3, .getfield 44)) pq_11_44 rfl ob_0 ?_
        refine x_aload_n (by decide +kernel : am_at co_X11_chance 27 = some (1, .aload_n 0)) rfl ?_
        refine x_getF (by decide +kernel : am_at co_X11_chance 28 = some (3, .getfield 55)) pq_11_55 (by decide) rfl ob_0 ?_
        refine x_top2 (show 0 + 37 = 37 from rfl) ?_
        refine x_iload_n (by decide +kernel : am_at co_X11_chance 31 = some (1, .iload_n 1)) rfl ?_
        obtain ⟨o4, h⟩ := h
        refine x_aald (by decide +kernel : am_at co_X11_chance 32 = some (1, .aaload)) (ia_37 o4.1 o4.2) ?_
        refine x_iload_n (by decide +kernel : am_at co_X11_chance 33 = some (1, .iload_n 2)) rfl ?_
        refine x_callV (n := 4) (by decide +kernel : am_at co_X11_chance 34 = some (3, .invokevirtual 276)) pq_11_276 pm_X4_thousandths rfl rfl rfl ob_128 h (x_k0 fun x6 M6 h => ?_)
        exact x_iret (by decide +kernel : am_at co_X11_chance 37 = some (1, .ireturn)) h
      · have c3 := (Int.not_le.mp c3)
        have h := h.2 c3
        refine x_iconst (by decide +kernel : am_at co_X11_chance 17 = some (1, .iconst (-1))) ?_
        exact x_iret (by decide +kernel : am_at co_X11_chance 18 = some (1, .ireturn)) h
set_option maxRecDepth 20000 in
theorem bk_X11_meet_0 {d : Nat} {Q : am_Q} {M : am_M} {v1 v2 : Int} (h : am_cal pg d 161 [(2, 0), (0, v1)] sh_T M (am_c0 sh_T fun x1 M1 => ((x1 = 0 → am_cal pg d 160 [(2, 0), (0, 2)] sh_T M1 (am_c0 sh_T fun x3 M3 => Q (some (0, x3), sh_T, M3))) ∧ (¬ x1 = 0 → (0 ≤ v1 ∧ v1 < 4) ∧ am_ob sh_T 2 (M1 0 4) ∧ am_cal pg d 33 [(2, M1 0 4), (2, 37 + 1 + 2 * v1), (0, v2)] sh_T M1 (am_c0 sh_T fun x6 M6 => ((¬ x6 = 0 → am_cal pg d 2 [(2, 46), (2, 37 + 1 + 2 * v1)] sh_T M6 (am_cv sh_T fun M8 => am_ob sh_T 2 (M8 0 4) ∧ am_cal pg d 34 [(2, M8 0 4), (2, 37 + 1 + 2 * v1), (0, v2)] sh_T M8 (am_c0 sh_T fun x10 M10 => Q (some (0, x10), sh_T, M10)))) ∧ (x6 = 0 → am_cal pg d 160 [(2, 0), (0, 2)] sh_T M6 (am_c0 sh_T fun x11 M11 => Q (some (0, x11), sh_T, M11))))))))) : am_g 11 0 co_X11_meet d Q 0 [(2, 0), (0, v1), (0, v2)] [] sh_T M := by
  refine x_aload_n (by decide +kernel : am_at co_X11_meet 0 = some (1, .aload_n 0)) rfl ?_
  refine x_iload_n (by decide +kernel : am_at co_X11_meet 1 = some (1, .iload_n 1)) rfl ?_
  refine x_callV (n := 2) (by decide +kernel : am_at co_X11_meet 2 = some (3, .invokevirtual 170)) pq_11_170 pm_X11_isDreamer rfl rfl rfl ob_0 h (x_k0 fun x1 M1 h => ?_)
  refine x_if (tgt := 25) (by decide +kernel : am_at co_X11_meet 5 = some (3, .ifCond .eq 20)) rfl Iff.rfl (fun c1 => ?_) (fun c1 => ?_)
  · have h := h.1 c1
    refine x_aload_n (by decide +kernel : am_at co_X11_meet 25 = some (1, .aload_n 0)) rfl ?_
    refine x_iconst (by decide +kernel : am_at co_X11_meet 26 = some (1, .iconst 2)) ?_
    refine x_callV (n := 2) (by decide +kernel : am_at co_X11_meet 27 = some (3, .invokevirtual 113)) pq_11_113 pm_X11_refuse rfl rfl rfl ob_0 h (x_k0 fun x3 M3 h => ?_)
    exact x_iret (by decide +kernel : am_at co_X11_meet 30 = some (1, .ireturn)) h
  · have c1 := c1
    have h := h.2 c1
    refine x_aload_n (by decide +kernel : am_at co_X11_meet 8 = some (1, .aload_n 0)) rfl ?_
    refine x_getf (by decide +kernel : am_at co_X11_meet 9 = some (3, .getfield 44)) pq_11_44 rfl ob_0 ?_
    refine x_aload_n (by decide +kernel : am_at co_X11_meet 12 = some (1, .aload_n 0)) rfl ?_
    refine x_getF (by decide +kernel : am_at co_X11_meet 13 = some (3, .getfield 55)) pq_11_55 (by decide) rfl ob_0 ?_
    refine x_top2 (show 0 + 37 = 37 from rfl) ?_
    refine x_iload_n (by decide +kernel : am_at co_X11_meet 16 = some (1, .iload_n 1)) rfl ?_
    obtain ⟨o3, h⟩ := h
    refine x_aald (by decide +kernel : am_at co_X11_meet 17 = some (1, .aaload)) (ia_37 o3.1 o3.2) ?_
    refine x_iload_n (by decide +kernel : am_at co_X11_meet 18 = some (1, .iload_n 2)) rfl ?_
    obtain ⟨o4, h⟩ := h
    refine x_callV (n := 3) (by decide +kernel : am_at co_X11_meet 19 = some (3, .invokevirtual 279)) pq_11_279 pm_X2_canEnter rfl rfl rfl o4 h (x_k0 fun x6 M6 h => ?_)
    refine x_if (tgt := 31) (by decide +kernel : am_at co_X11_meet 22 = some (3, .ifCond .ne 9)) rfl Iff.rfl (fun c6 => ?_) (fun c6 => ?_)
    · have h := h.1 c6
      refine x_aload_n (by decide +kernel : am_at co_X11_meet 31 = some (1, .aload_n 0)) rfl ?_
      refine x_getF (by decide +kernel : am_at co_X11_meet 32 = some (3, .getfield 62)) pq_11_62 (by decide) rfl ob_0 ?_
      refine x_top2 (show 0 + 46 = 46 from rfl) ?_
      refine x_aload_n (by decide +kernel : am_at co_X11_meet 35 = some (1, .aload_n 0)) rfl ?_
      refine x_getF (by decide +kernel : am_at co_X11_meet 36 = some (3, .getfield 55)) pq_11_55 (by decide) rfl ob_0 ?_
      refine x_top2 (show 0 + 37 = 37 from rfl) ?_
      refine x_iload_n (by decide +kernel : am_at co_X11_meet 39 = some (1, .iload_n 1)) rfl ?_
      refine x_aald (by decide +kernel : am_at co_X11_meet 40 = some (1, .aaload)) (ia_37 o3.1 o3.2) ?_
      refine x_callV (n := 2) (by decide +kernel : am_at co_X11_meet 41 = some (3, .invokevirtual 283)) pq_11_283 pm_X0_keep rfl rfl rfl ob_46 h (x_kv fun M8 h => ?_)
      refine x_aload_n (by decide +kernel : am_at co_X11_meet 44 = some (1, .aload_n 0)) rfl ?_
      refine x_getf (by decide +kernel : am_at co_X11_meet 45 = some (3, .getfield 44)) pq_11_44 rfl ob_0 ?_
      refine x_aload_n (by decide +kernel : am_at co_X11_meet 48 = some (1, .aload_n 0)) rfl ?_
      refine x_getF (by decide +kernel : am_at co_X11_meet 49 = some (3, .getfield 55)) pq_11_55 (by decide) rfl ob_0 ?_
      refine x_top2 (show 0 + 37 = 37 from rfl) ?_
      refine x_iload_n (by decide +kernel : am_at co_X11_meet 52 = some (1, .iload_n 1)) rfl ?_
      refine x_aald (by decide +kernel : am_at co_X11_meet 53 = some (1, .aaload)) (ia_37 o3.1 o3.2) ?_
      refine x_iload_n (by decide +kernel : am_at co_X11_meet 54 = some (1, .iload_n 2)) rfl ?_
      obtain ⟨o8, h⟩ := h
      refine x_callV (n := 3) (by decide +kernel : am_at co_X11_meet 55 = some (3, .invokevirtual 287)) pq_11_287 pm_X2_enter rfl rfl rfl o8 h (x_k0 fun x10 M10 h => ?_)
      exact x_iret (by decide +kernel : am_at co_X11_meet 58 = some (1, .ireturn)) h
    · have c6 := (Classical.not_not.mp c6)
      have h := h.2 c6
      refine x_aload_n (by decide +kernel : am_at co_X11_meet 25 = some (1, .aload_n 0)) rfl ?_
      refine x_iconst (by decide +kernel : am_at co_X11_meet 26 = some (1, .iconst 2)) ?_
      refine x_callV (n := 2) (by decide +kernel : am_at co_X11_meet 27 = some (3, .invokevirtual 113)) pq_11_113 pm_X11_refuse rfl rfl rfl ob_0 h (x_k0 fun x11 M11 h => ?_)
      exact x_iret (by decide +kernel : am_at co_X11_meet 30 = some (1, .ireturn)) h
set_option maxRecDepth 20000 in
theorem bk_X11_day_0 {d : Nat} {Q : am_Q} {M : am_M} {v1 v2 : Int} (h : am_cal pg d 161 [(2, 0), (0, v1)] sh_T M (am_c0 sh_T fun x1 M1 => ((x1 = 0 → am_cal pg d 160 [(2, 0), (0, 2)] sh_T M1 (am_c0 sh_T fun x3 M3 => Q (some (0, x3), sh_T, M3))) ∧ (¬ x1 = 0 → am_cal pg d 162 [(2, 0), (0, v2)] sh_T M1 (am_c0 sh_T fun x4 M4 => ((¬ x4 = 0 → (0 ≤ v1 ∧ v1 < 4) ∧ am_cal pg d 2 [(2, 46), (2, 37 + 1 + 2 * v1)] sh_T M4 (am_cv sh_T fun M7 => am_ob sh_T 2 (M7 0 4) ∧ am_cal pg d 35 [(2, M7 0 4), (2, 37 + 1 + 2 * v1), (0, v2)] sh_T M7 (am_cv sh_T fun M9 => am_ob sh_T 7 (37 + 1 + 2 * v1) ∧ am_cal pg d 72 [(2, 37 + 1 + 2 * v1), (0, v2)] sh_T M9 (am_c0 sh_T fun x11 M11 => Q (some (0, x11), sh_T, M11))))) ∧ (x4 = 0 → am_cal pg d 160 [(2, 0), (0, 2)] sh_T M4 (am_c0 sh_T fun x12 M12 => Q (some (0, x12), sh_T, M12))))))))) : am_g 11 0 co_X11_day d Q 0 [(2, 0), (0, v1), (0, v2)] [] sh_T M := by
  refine x_aload_n (by decide +kernel : am_at co_X11_day 0 = some (1, .aload_n 0)) rfl ?_
  refine x_iload_n (by decide +kernel : am_at co_X11_day 1 = some (1, .iload_n 1)) rfl ?_
  refine x_callV (n := 2) (by decide +kernel : am_at co_X11_day 2 = some (3, .invokevirtual 170)) pq_11_170 pm_X11_isDreamer rfl rfl rfl ob_0 h (x_k0 fun x1 M1 h => ?_)
  refine x_if (tgt := 16) (by decide +kernel : am_at co_X11_day 5 = some (3, .ifCond .eq 11)) rfl Iff.rfl (fun c1 => ?_) (fun c1 => ?_)
  · have h := h.1 c1
    refine x_aload_n (by decide +kernel : am_at co_X11_day 16 = some (1, .aload_n 0)) rfl ?_
    refine x_iconst (by decide +kernel : am_at co_X11_day 17 = some (1, .iconst 2)) ?_
    refine x_callV (n := 2) (by decide +kernel : am_at co_X11_day 18 = some (3, .invokevirtual 113)) pq_11_113 pm_X11_refuse rfl rfl rfl ob_0 h (x_k0 fun x3 M3 h => ?_)
    exact x_iret (by decide +kernel : am_at co_X11_day 21 = some (1, .ireturn)) h
  · have c1 := c1
    have h := h.2 c1
    refine x_aload_n (by decide +kernel : am_at co_X11_day 8 = some (1, .aload_n 0)) rfl ?_
    refine x_iload_n (by decide +kernel : am_at co_X11_day 9 = some (1, .iload_n 2)) rfl ?_
    refine x_callV (n := 2) (by decide +kernel : am_at co_X11_day 10 = some (3, .invokevirtual 199)) pq_11_199 pm_X11_isDread rfl rfl rfl ob_0 h (x_k0 fun x4 M4 h => ?_)
    refine x_if (tgt := 22) (by decide +kernel : am_at co_X11_day 13 = some (3, .ifCond .ne 9)) rfl Iff.rfl (fun c4 => ?_) (fun c4 => ?_)
    · have h := h.1 c4
      refine x_aload_n (by decide +kernel : am_at co_X11_day 22 = some (1, .aload_n 0)) rfl ?_
      refine x_getF (by decide +kernel : am_at co_X11_day 23 = some (3, .getfield 62)) pq_11_62 (by decide) rfl ob_0 ?_
      refine x_top2 (show 0 + 46 = 46 from rfl) ?_
      refine x_aload_n (by decide +kernel : am_at co_X11_day 26 = some (1, .aload_n 0)) rfl ?_
      refine x_getF (by decide +kernel : am_at co_X11_day 27 = some (3, .getfield 55)) pq_11_55 (by decide) rfl ob_0 ?_
      refine x_top2 (show 0 + 37 = 37 from rfl) ?_
      refine x_iload_n (by decide +kernel : am_at co_X11_day 30 = some (1, .iload_n 1)) rfl ?_
      obtain ⟨o5, h⟩ := h
      refine x_aald (by decide +kernel : am_at co_X11_day 31 = some (1, .aaload)) (ia_37 o5.1 o5.2) ?_
      refine x_callV (n := 2) (by decide +kernel : am_at co_X11_day 32 = some (3, .invokevirtual 283)) pq_11_283 pm_X0_keep rfl rfl rfl ob_46 h (x_kv fun M7 h => ?_)
      refine x_aload_n (by decide +kernel : am_at co_X11_day 35 = some (1, .aload_n 0)) rfl ?_
      refine x_getf (by decide +kernel : am_at co_X11_day 36 = some (3, .getfield 44)) pq_11_44 rfl ob_0 ?_
      refine x_aload_n (by decide +kernel : am_at co_X11_day 39 = some (1, .aload_n 0)) rfl ?_
      refine x_getF (by decide +kernel : am_at co_X11_day 40 = some (3, .getfield 55)) pq_11_55 (by decide) rfl ob_0 ?_
      refine x_top2 (show 0 + 37 = 37 from rfl) ?_
      refine x_iload_n (by decide +kernel : am_at co_X11_day 43 = some (1, .iload_n 1)) rfl ?_
      refine x_aald (by decide +kernel : am_at co_X11_day 44 = some (1, .aaload)) (ia_37 o5.1 o5.2) ?_
      refine x_iload_n (by decide +kernel : am_at co_X11_day 45 = some (1, .iload_n 2)) rfl ?_
      obtain ⟨o7, h⟩ := h
      refine x_callV (n := 3) (by decide +kernel : am_at co_X11_day 46 = some (3, .invokevirtual 291)) pq_11_291 pm_X2_meetByDay rfl rfl rfl o7 h (x_kv fun M9 h => ?_)
      refine x_aload_n (by decide +kernel : am_at co_X11_day 49 = some (1, .aload_n 0)) rfl ?_
      refine x_getF (by decide +kernel : am_at co_X11_day 50 = some (3, .getfield 55)) pq_11_55 (by decide) rfl ob_0 ?_
      refine x_top2 (show 0 + 37 = 37 from rfl) ?_
      refine x_iload_n (by decide +kernel : am_at co_X11_day 53 = some (1, .iload_n 1)) rfl ?_
      refine x_aald (by decide +kernel : am_at co_X11_day 54 = some (1, .aaload)) (ia_37 o5.1 o5.2) ?_
      refine x_iload_n (by decide +kernel : am_at co_X11_day 55 = some (1, .iload_n 2)) rfl ?_
      obtain ⟨o9, h⟩ := h
      refine x_callV (n := 2) (by decide +kernel : am_at co_X11_day 56 = some (3, .invokevirtual 202)) pq_11_202 pm_X7_at rfl rfl rfl o9 h (x_k0 fun x11 M11 h => ?_)
      exact x_iret (by decide +kernel : am_at co_X11_day 59 = some (1, .ireturn)) h
    · have c4 := (Classical.not_not.mp c4)
      have h := h.2 c4
      refine x_aload_n (by decide +kernel : am_at co_X11_day 16 = some (1, .aload_n 0)) rfl ?_
      refine x_iconst (by decide +kernel : am_at co_X11_day 17 = some (1, .iconst 2)) ?_
      refine x_callV (n := 2) (by decide +kernel : am_at co_X11_day 18 = some (3, .invokevirtual 113)) pq_11_113 pm_X11_refuse rfl rfl rfl ob_0 h (x_k0 fun x12 M12 h => ?_)
      exact x_iret (by decide +kernel : am_at co_X11_day 21 = some (1, .ireturn)) h
set_option maxRecDepth 20000 in
theorem bk_X11_take_0 {d : Nat} {Q : am_Q} {M : am_M} {v1 v2 : Int} (h : am_cal pg d 161 [(2, 0), (0, v1)] sh_T M (am_c0 sh_T fun x1 M1 => ((x1 = 0 → am_cal pg d 160 [(2, 0), (0, 2)] sh_T M1 (am_c0 sh_T fun x3 M3 => Q (some (0, 0), sh_T, M3))) ∧ (¬ x1 = 0 → ((v2 = (-1) → (0 ≤ v1 ∧ v1 < 4) ∧ am_ob sh_T 7 (37 + 1 + 2 * v1) ∧ ((¬ M1 (37 + 1 + 2 * v1) 2 = v2 → am_cal pg d 2 [(2, 46), (2, 37 + 1 + 2 * v1)] sh_T M1 (am_cv sh_T fun M8 => Q (some (0, 1), sh_T, (am_up M8 (37 + 1 + 2 * v1) 2 v2)))) ∧ (M1 (37 + 1 + 2 * v1) 2 = v2 → am_cal pg d 160 [(2, 0), (0, 2)] sh_T M1 (am_c0 sh_T fun x9 M9 => Q (some (0, 0), sh_T, M9))))) ∧ (¬ v2 = (-1) → am_ob sh_T 2 (M1 0 4) ∧ am_cal pg d 15 [(2, M1 0 4), (0, 2), (0, v2)] sh_T M1 (am_c0 sh_T fun x11 M11 => ((x11 = 0 → am_cal pg d 160 [(2, 0), (0, 2)] sh_T M11 (am_c0 sh_T fun x13 M13 => Q (some (0, 0), sh_T, M13))) ∧ (¬ x11 = 0 → (0 ≤ v1 ∧ v1 < 4) ∧ am_ob sh_T 7 (37 + 1 + 2 * v1) ∧ ((¬ M11 (37 + 1 + 2 * v1) 2 = v2 → am_cal pg d 2 [(2, 46), (2, 37 + 1 + 2 * v1)] sh_T M11 (am_cv sh_T fun M17 => Q (some (0, 1), sh_T, (am_up M17 (37 + 1 + 2 * v1) 2 v2)))) ∧ (M11 (37 + 1 + 2 * v1) 2 = v2 → am_cal pg d 160 [(2, 0), (0, 2)] sh_T M11 (am_c0 sh_T fun x18 M18 => Q (some (0, 0), sh_T, M18))))))))))))) : am_g 11 5 co_X11_take d Q 0 [(2, 0), (0, v1), (0, v2)] [] sh_T M := by
  refine x_aload_n (by decide +kernel : am_at co_X11_take 0 = some (1, .aload_n 0)) rfl ?_
  refine x_iload_n (by decide +kernel : am_at co_X11_take 1 = some (1, .iload_n 1)) rfl ?_
  refine x_callV (n := 2) (by decide +kernel : am_at co_X11_take 2 = some (3, .invokevirtual 170)) pq_11_170 pm_X11_isDreamer rfl rfl rfl ob_0 h (x_k0 fun x1 M1 h => ?_)
  refine x_if (tgt := 38) (by decide +kernel : am_at co_X11_take 5 = some (3, .ifCond .eq 33)) rfl Iff.rfl (fun c1 => ?_) (fun c1 => ?_)
  · have h := h.1 c1
    refine x_aload_n (by decide +kernel : am_at co_X11_take 38 = some (1, .aload_n 0)) rfl ?_
    refine x_iconst (by decide +kernel : am_at co_X11_take 39 = some (1, .iconst 2)) ?_
    refine x_callV (n := 2) (by decide +kernel : am_at co_X11_take 40 = some (3, .invokevirtual 113)) pq_11_113 pm_X11_refuse rfl rfl rfl ob_0 h (x_k0 fun x3 M3 h => ?_)
    refine x_pop0 (by decide +kernel : am_at co_X11_take 43 = some (1, .pop)) ?_
    refine x_iconst (by decide +kernel : am_at co_X11_take 44 = some (1, .iconst 0)) ?_
    exact x_zret (by decide +kernel : am_at co_X11_take 45 = some (1, .ireturn)) (by decide) h
  · have c1 := c1
    have h := h.2 c1
    refine x_iload_n (by decide +kernel : am_at co_X11_take 8 = some (1, .iload_n 2)) rfl ?_
    refine x_iconst (by decide +kernel : am_at co_X11_take 9 = some (1, .iconst (-1))) ?_
    refine x_icmp (tgt := 25) (by decide +kernel : am_at co_X11_take 10 = some (3, .if_icmp .eq 15)) rfl Iff.rfl (fun c3 => ?_) (fun c3 => ?_)
    · have h := h.1 c3
      refine x_aload_n (by decide +kernel : am_at co_X11_take 25 = some (1, .aload_n 0)) rfl ?_
      refine x_getF (by decide +kernel : am_at co_X11_take 26 = some (3, .getfield 55)) pq_11_55 (by decide) rfl ob_0 ?_
      refine x_top2 (show 0 + 37 = 37 from rfl) ?_
      refine x_iload_n (by decide +kernel : am_at co_X11_take 29 = some (1, .iload_n 1)) rfl ?_
      obtain ⟨o4, h⟩ := h
      refine x_aald (by decide +kernel : am_at co_X11_take 30 = some (1, .aaload)) (ia_37 o4.1 o4.2) ?_
      obtain ⟨o5, h⟩ := h
      refine x_getf (by decide +kernel : am_at co_X11_take 31 = some (3, .getfield 177)) pq_11_177 rfl o5 ?_
      refine x_iload_n (by decide +kernel : am_at co_X11_take 34 = some (1, .iload_n 2)) rfl ?_
      refine x_icmp (tgt := 46) (by decide +kernel : am_at co_X11_take 35 = some (3, .if_icmp .ne 11)) rfl Iff.rfl (fun c6 => ?_) (fun c6 => ?_)
      · have h := h.1 c6
        refine x_aload_n (by decide +kernel : am_at co_X11_take 46 = some (1, .aload_n 0)) rfl ?_
        refine x_getF (by decide +kernel : am_at co_X11_take 47 = some (3, .getfield 62)) pq_11_62 (by decide) rfl ob_0 ?_
        refine x_top2 (show 0 + 46 = 46 from rfl) ?_
        refine x_aload_n (by decide +kernel : am_at co_X11_take 50 = some (1, .aload_n 0)) rfl ?_
        refine x_getF (by decide +kernel : am_at co_X11_take 51 = some (3, .getfield 55)) pq_11_55 (by decide) rfl ob_0 ?_
        refine x_top2 (show 0 + 37 = 37 from rfl) ?_
        refine x_iload_n (by decide +kernel : am_at co_X11_take 54 = some (1, .iload_n 1)) rfl ?_
        refine x_aald (by decide +kernel : am_at co_X11_take 55 = some (1, .aaload)) (ia_37 o4.1 o4.2) ?_
        refine x_callV (n := 2) (by decide +kernel : am_at co_X11_take 56 = some (3, .invokevirtual 283)) pq_11_283 pm_X0_keep rfl rfl rfl ob_46 h (x_kv fun M8 h => ?_)
        refine x_aload_n (by decide +kernel : am_at co_X11_take 59 = some (1, .aload_n 0)) rfl ?_
        refine x_getF (by decide +kernel : am_at co_X11_take 60 = some (3, .getfield 55)) pq_11_55 (by decide) rfl ob_0 ?_
        refine x_top2 (show 0 + 37 = 37 from rfl) ?_
        refine x_iload_n (by decide +kernel : am_at co_X11_take 63 = some (1, .iload_n 1)) rfl ?_
        refine x_aald (by decide +kernel : am_at co_X11_take 64 = some (1, .aaload)) (ia_37 o4.1 o4.2) ?_
        refine x_iload_n (by decide +kernel : am_at co_X11_take 65 = some (1, .iload_n 2)) rfl ?_
        refine x_putf0 (by decide +kernel : am_at co_X11_take 66 = some (3, .putfield 177)) pq_11_177 rfl o5 ?_
        refine x_iconst (by decide +kernel : am_at co_X11_take 69 = some (1, .iconst 1)) ?_
        exact x_zret (by decide +kernel : am_at co_X11_take 70 = some (1, .ireturn)) (by decide) h
      · have c6 := (Classical.not_not.mp c6)
        have h := h.2 c6
        refine x_aload_n (by decide +kernel : am_at co_X11_take 38 = some (1, .aload_n 0)) rfl ?_
        refine x_iconst (by decide +kernel : am_at co_X11_take 39 = some (1, .iconst 2)) ?_
        refine x_callV (n := 2) (by decide +kernel : am_at co_X11_take 40 = some (3, .invokevirtual 113)) pq_11_113 pm_X11_refuse rfl rfl rfl ob_0 h (x_k0 fun x9 M9 h => ?_)
        refine x_pop0 (by decide +kernel : am_at co_X11_take 43 = some (1, .pop)) ?_
        refine x_iconst (by decide +kernel : am_at co_X11_take 44 = some (1, .iconst 0)) ?_
        exact x_zret (by decide +kernel : am_at co_X11_take 45 = some (1, .ireturn)) (by decide) h
    · have c3 := c3
      have h := h.2 c3
      refine x_aload_n (by decide +kernel : am_at co_X11_take 13 = some (1, .aload_n 0)) rfl ?_
      refine x_getf (by decide +kernel : am_at co_X11_take 14 = some (3, .getfield 44)) pq_11_44 rfl ob_0 ?_
      refine x_iconst (by decide +kernel : am_at co_X11_take 17 = some (1, .iconst 2)) ?_
      refine x_iload_n (by decide +kernel : am_at co_X11_take 18 = some (1, .iload_n 2)) rfl ?_
      obtain ⟨o9, h⟩ := h
      refine x_callV (n := 3) (by decide +kernel : am_at co_X11_take 19 = some (3, .invokevirtual 159)) pq_11_159 pm_X2_isThere rfl rfl rfl o9 h (x_k0 fun x11 M11 h => ?_)
      refine x_if (tgt := 38) (by decide +kernel : am_at co_X11_take 22 = some (3, .ifCond .eq 16)) rfl Iff.rfl (fun c11 => ?_) (fun c11 => ?_)
      · have h := h.1 c11
        refine x_aload_n (by decide +kernel : am_at co_X11_take 38 = some (1, .aload_n 0)) rfl ?_
        refine x_iconst (by decide +kernel : am_at co_X11_take 39 = some (1, .iconst 2)) ?_
        refine x_callV (n := 2) (by decide +kernel : am_at co_X11_take 40 = some (3, .invokevirtual 113)) pq_11_113 pm_X11_refuse rfl rfl rfl ob_0 h (x_k0 fun x13 M13 h => ?_)
        refine x_pop0 (by decide +kernel : am_at co_X11_take 43 = some (1, .pop)) ?_
        refine x_iconst (by decide +kernel : am_at co_X11_take 44 = some (1, .iconst 0)) ?_
        exact x_zret (by decide +kernel : am_at co_X11_take 45 = some (1, .ireturn)) (by decide) h
      · have c11 := c11
        have h := h.2 c11
        refine x_aload_n (by decide +kernel : am_at co_X11_take 25 = some (1, .aload_n 0)) rfl ?_
        refine x_getF (by decide +kernel : am_at co_X11_take 26 = some (3, .getfield 55)) pq_11_55 (by decide) rfl ob_0 ?_
        refine x_top2 (show 0 + 37 = 37 from rfl) ?_
        refine x_iload_n (by decide +kernel : am_at co_X11_take 29 = some (1, .iload_n 1)) rfl ?_
        obtain ⟨o13, h⟩ := h
        refine x_aald (by decide +kernel : am_at co_X11_take 30 = some (1, .aaload)) (ia_37 o13.1 o13.2) ?_
        obtain ⟨o14, h⟩ := h
        refine x_getf (by decide +kernel : am_at co_X11_take 31 = some (3, .getfield 177)) pq_11_177 rfl o14 ?_
        refine x_iload_n (by decide +kernel : am_at co_X11_take 34 = some (1, .iload_n 2)) rfl ?_
        refine x_icmp (tgt := 46) (by decide +kernel : am_at co_X11_take 35 = some (3, .if_icmp .ne 11)) rfl Iff.rfl (fun c15 => ?_) (fun c15 => ?_)
        · have h := h.1 c15
          refine x_aload_n (by decide +kernel : am_at co_X11_take 46 = some (1, .aload_n 0)) rfl ?_
          refine x_getF (by decide +kernel : am_at co_X11_take 47 = some (3, .getfield 62)) pq_11_62 (by decide) rfl ob_0 ?_
          refine x_top2 (show 0 + 46 = 46 from rfl) ?_
          refine x_aload_n (by decide +kernel : am_at co_X11_take 50 = some (1, .aload_n 0)) rfl ?_
          refine x_getF (by decide +kernel : am_at co_X11_take 51 = some (3, .getfield 55)) pq_11_55 (by decide) rfl ob_0 ?_
          refine x_top2 (show 0 + 37 = 37 from rfl) ?_
          refine x_iload_n (by decide +kernel : am_at co_X11_take 54 = some (1, .iload_n 1)) rfl ?_
          refine x_aald (by decide +kernel : am_at co_X11_take 55 = some (1, .aaload)) (ia_37 o13.1 o13.2) ?_
          refine x_callV (n := 2) (by decide +kernel : am_at co_X11_take 56 = some (3, .invokevirtual 283)) pq_11_283 pm_X0_keep rfl rfl rfl ob_46 h (x_kv fun M17 h => ?_)
          refine x_aload_n (by decide +kernel : am_at co_X11_take 59 = some (1, .aload_n 0)) rfl ?_
          refine x_getF (by decide +kernel : am_at co_X11_take 60 = some (3, .getfield 55)) pq_11_55 (by decide) rfl ob_0 ?_
          refine x_top2 (show 0 + 37 = 37 from rfl) ?_
          refine x_iload_n (by decide +kernel : am_at co_X11_take 63 = some (1, .iload_n 1)) rfl ?_
          refine x_aald (by decide +kernel : am_at co_X11_take 64 = some (1, .aaload)) (ia_37 o13.1 o13.2) ?_
          refine x_iload_n (by decide +kernel : am_at co_X11_take 65 = some (1, .iload_n 2)) rfl ?_
          refine x_putf0 (by decide +kernel : am_at co_X11_take 66 = some (3, .putfield 177)) pq_11_177 rfl o14 ?_
          refine x_iconst (by decide +kernel : am_at co_X11_take 69 = some (1, .iconst 1)) ?_
          exact x_zret (by decide +kernel : am_at co_X11_take 70 = some (1, .ireturn)) (by decide) h
        · have c15 := (Classical.not_not.mp c15)
          have h := h.2 c15
          refine x_aload_n (by decide +kernel : am_at co_X11_take 38 = some (1, .aload_n 0)) rfl ?_
          refine x_iconst (by decide +kernel : am_at co_X11_take 39 = some (1, .iconst 2)) ?_
          refine x_callV (n := 2) (by decide +kernel : am_at co_X11_take 40 = some (3, .invokevirtual 113)) pq_11_113 pm_X11_refuse rfl rfl rfl ob_0 h (x_k0 fun x18 M18 h => ?_)
          refine x_pop0 (by decide +kernel : am_at co_X11_take 43 = some (1, .pop)) ?_
          refine x_iconst (by decide +kernel : am_at co_X11_take 44 = some (1, .iconst 0)) ?_
          exact x_zret (by decide +kernel : am_at co_X11_take 45 = some (1, .ireturn)) (by decide) h
set_option maxRecDepth 20000 in
theorem bk_X11_set_0 {d : Nat} {Q : am_Q} {M : am_M} {v1 v2 v3 : Int} (h : am_cal pg d 161 [(2, 0), (0, v1)] sh_T M (am_c0 sh_T fun x1 M1 => ((x1 = 0 → am_cal pg d 160 [(2, 0), (0, 2)] sh_T M1 (am_c0 sh_T fun x3 M3 => Q (some (0, x3), sh_T, M3))) ∧ (¬ x1 = 0 → am_cal pg d 162 [(2, 0), (0, v2)] sh_T M1 (am_c0 sh_T fun x4 M4 => ((x4 = 0 → am_cal pg d 160 [(2, 0), (0, 2)] sh_T M4 (am_c0 sh_T fun x6 M6 => Q (some (0, x6), sh_T, M6))) ∧ (¬ x4 = 0 → ((v3 < 0 → am_cal pg d 160 [(2, 0), (0, 2)] sh_T M4 (am_c0 sh_T fun x8 M8 => Q (some (0, x8), sh_T, M8))) ∧ (0 ≤ v3 → ((v3 ≤ 999 → (0 ≤ v1 ∧ v1 < 4) ∧ am_ob sh_T 7 (37 + 1 + 2 * v1) ∧ am_cal pg d 72 [(2, 37 + 1 + 2 * v1), (0, v2)] sh_T M4 (am_c0 sh_T fun x12 M12 => am_cal pg d 2 [(2, 46), (2, 37 + 1 + 2 * v1)] sh_T M12 (am_cv sh_T fun M13 => am_cal pg d 73 [(2, 37 + 1 + 2 * v1), (0, v2), (0, v3)] sh_T M13 (am_cv sh_T fun M14 => Q (some (0, x12), sh_T, M14))))) ∧ (999 < v3 → am_cal pg d 160 [(2, 0), (0, 2)] sh_T M4 (am_c0 sh_T fun x15 M15 => Q (some (0, x15), sh_T, M15))))))))))))) : am_g 11 0 co_X11_set d Q 0 [(2, 0), (0, v1), (0, v2), (0, v3), (3, 0)] [] sh_T M := by
  refine x_aload_n (by decide +kernel : am_at co_X11_set 0 = some (1, .aload_n 0)) rfl ?_
  refine x_iload_n (by decide +kernel : am_at co_X11_set 1 = some (1, .iload_n 1)) rfl ?_
  refine x_callV (n := 2) (by decide +kernel : am_at co_X11_set 2 = some (3, .invokevirtual 170)) pq_11_170 pm_X11_isDreamer rfl rfl rfl ob_0 h (x_k0 fun x1 M1 h => ?_)
  refine x_if (tgt := 27) (by decide +kernel : am_at co_X11_set 5 = some (3, .ifCond .eq 22)) rfl Iff.rfl (fun c1 => ?_) (fun c1 => ?_)
  · have h := h.1 c1
    refine x_aload_n (by decide +kernel : am_at co_X11_set 27 = some (1, .aload_n 0)) rfl ?_
    refine x_iconst (by decide +kernel : am_at co_X11_set 28 = some (1, .iconst 2)) ?_
    refine x_callV (n := 2) (by decide +kernel : am_at co_X11_set 29 = some (3, .invokevirtual 113)) pq_11_113 pm_X11_refuse rfl rfl rfl ob_0 h (x_k0 fun x3 M3 h => ?_)
    exact x_iret (by decide +kernel : am_at co_X11_set 32 = some (1, .ireturn)) h
  · have c1 := c1
    have h := h.2 c1
    refine x_aload_n (by decide +kernel : am_at co_X11_set 8 = some (1, .aload_n 0)) rfl ?_
    refine x_iload_n (by decide +kernel : am_at co_X11_set 9 = some (1, .iload_n 2)) rfl ?_
    refine x_callV (n := 2) (by decide +kernel : am_at co_X11_set 10 = some (3, .invokevirtual 199)) pq_11_199 pm_X11_isDread rfl rfl rfl ob_0 h (x_k0 fun x4 M4 h => ?_)
    refine x_if (tgt := 27) (by decide +kernel : am_at co_X11_set 13 = some (3, .ifCond .eq 14)) rfl Iff.rfl (fun c4 => ?_) (fun c4 => ?_)
    · have h := h.1 c4
      refine x_aload_n (by decide +kernel : am_at co_X11_set 27 = some (1, .aload_n 0)) rfl ?_
      refine x_iconst (by decide +kernel : am_at co_X11_set 28 = some (1, .iconst 2)) ?_
      refine x_callV (n := 2) (by decide +kernel : am_at co_X11_set 29 = some (3, .invokevirtual 113)) pq_11_113 pm_X11_refuse rfl rfl rfl ob_0 h (x_k0 fun x6 M6 h => ?_)
      exact x_iret (by decide +kernel : am_at co_X11_set 32 = some (1, .ireturn)) h
    · have c4 := c4
      have h := h.2 c4
      refine x_iload_n (by decide +kernel : am_at co_X11_set 16 = some (1, .iload_n 3)) rfl ?_
      refine x_if (tgt := 27) (by decide +kernel : am_at co_X11_set 17 = some (3, .ifCond .lt 10)) rfl Iff.rfl (fun c6 => ?_) (fun c6 => ?_)
      · have h := h.1 c6
        refine x_aload_n (by decide +kernel : am_at co_X11_set 27 = some (1, .aload_n 0)) rfl ?_
        refine x_iconst (by decide +kernel : am_at co_X11_set 28 = some (1, .iconst 2)) ?_
        refine x_callV (n := 2) (by decide +kernel : am_at co_X11_set 29 = some (3, .invokevirtual 113)) pq_11_113 pm_X11_refuse rfl rfl rfl ob_0 h (x_k0 fun x8 M8 h => ?_)
        exact x_iret (by decide +kernel : am_at co_X11_set 32 = some (1, .ireturn)) h
      · have c6 := (Int.not_lt.mp c6)
        have h := h.2 c6
        refine x_iload_n (by decide +kernel : am_at co_X11_set 20 = some (1, .iload_n 3)) rfl ?_
        refine x_sipush (by decide +kernel : am_at co_X11_set 21 = some (3, .sipush 999)) ?_
        refine x_icmp (tgt := 33) (by decide +kernel : am_at co_X11_set 24 = some (3, .if_icmp .le 9)) rfl Iff.rfl (fun c8 => ?_) (fun c8 => ?_)
        · have h := h.1 c8
          refine x_aload_n (by decide +kernel : am_at co_X11_set 33 = some (1, .aload_n 0)) rfl ?_
          refine x_getF (by decide +kernel : am_at co_X11_set 34 = some (3, .getfield 55)) pq_11_55 (by decide) rfl ob_0 ?_
          refine x_top2 (show 0 + 37 = 37 from rfl) ?_
          refine x_iload_n (by decide +kernel : am_at co_X11_set 37 = some (1, .iload_n 1)) rfl ?_
          obtain ⟨o9, h⟩ := h
          refine x_aald (by decide +kernel : am_at co_X11_set 38 = some (1, .aaload)) (ia_37 o9.1 o9.2) ?_
          refine x_iload_n (by decide +kernel : am_at co_X11_set 39 = some (1, .iload_n 2)) rfl ?_
          obtain ⟨o10, h⟩ := h
          refine x_callV (n := 2) (by decide +kernel : am_at co_X11_set 40 = some (3, .invokevirtual 202)) pq_11_202 pm_X7_at rfl rfl rfl o10 h (x_k0 fun x12 M12 h => ?_)
          refine x_istore (L' := [(2, 0), (0, v1), (0, v2), (0, v3), (0, x12)]) (by decide +kernel : am_at co_X11_set 43 = some (2, .istore 4)) rfl ?_
          refine x_aload_n (by decide +kernel : am_at co_X11_set 45 = some (1, .aload_n 0)) rfl ?_
          refine x_getF (by decide +kernel : am_at co_X11_set 46 = some (3, .getfield 62)) pq_11_62 (by decide) rfl ob_0 ?_
          refine x_top2 (show 0 + 46 = 46 from rfl) ?_
          refine x_aload_n (by decide +kernel : am_at co_X11_set 49 = some (1, .aload_n 0)) rfl ?_
          refine x_getF (by decide +kernel : am_at co_X11_set 50 = some (3, .getfield 55)) pq_11_55 (by decide) rfl ob_0 ?_
          refine x_top2 (show 0 + 37 = 37 from rfl) ?_
          refine x_iload_n (by decide +kernel : am_at co_X11_set 53 = some (1, .iload_n 1)) rfl ?_
          refine x_aald (by decide +kernel : am_at co_X11_set 54 = some (1, .aaload)) (ia_37 o9.1 o9.2) ?_
          refine x_callV (n := 2) (by decide +kernel : am_at co_X11_set 55 = some (3, .invokevirtual 283)) pq_11_283 pm_X0_keep rfl rfl rfl ob_46 h (x_kv fun M13 h => ?_)
          refine x_aload_n (by decide +kernel : am_at co_X11_set 58 = some (1, .aload_n 0)) rfl ?_
          refine x_getF (by decide +kernel : am_at co_X11_set 59 = some (3, .getfield 55)) pq_11_55 (by decide) rfl ob_0 ?_
          refine x_top2 (show 0 + 37 = 37 from rfl) ?_
          refine x_iload_n (by decide +kernel : am_at co_X11_set 62 = some (1, .iload_n 1)) rfl ?_
          refine x_aald (by decide +kernel : am_at co_X11_set 63 = some (1, .aaload)) (ia_37 o9.1 o9.2) ?_
          refine x_iload_n (by decide +kernel : am_at co_X11_set 64 = some (1, .iload_n 2)) rfl ?_
          refine x_iload_n (by decide +kernel : am_at co_X11_set 65 = some (1, .iload_n 3)) rfl ?_
          refine x_callV (n := 3) (by decide +kernel : am_at co_X11_set 66 = some (3, .invokevirtual 294)) pq_11_294 pm_X7_put rfl rfl rfl o10 h (x_kv fun M14 h => ?_)
          refine x_iload (by decide +kernel : am_at co_X11_set 69 = some (2, .iload 4)) rfl ?_
          exact x_iret (by decide +kernel : am_at co_X11_set 71 = some (1, .ireturn)) h
        · have c8 := (Int.not_le.mp c8)
          have h := h.2 c8
          refine x_aload_n (by decide +kernel : am_at co_X11_set 27 = some (1, .aload_n 0)) rfl ?_
          refine x_iconst (by decide +kernel : am_at co_X11_set 28 = some (1, .iconst 2)) ?_
          refine x_callV (n := 2) (by decide +kernel : am_at co_X11_set 29 = some (3, .invokevirtual 113)) pq_11_113 pm_X11_refuse rfl rfl rfl ob_0 h (x_k0 fun x15 M15 h => ?_)
          exact x_iret (by decide +kernel : am_at co_X11_set 32 = some (1, .ireturn)) h
set_option maxRecDepth 20000 in
theorem bk_X11_night_0 {d : Nat} {Q : am_Q} {M : am_M} {v1 v2 : Int} (h : am_cal pg d 161 [(2, 0), (0, v1)] sh_T M (am_c0 sh_T fun x1 M1 => ((x1 = 0 → am_g 11 0 co_X11_night d Q 19 [(2, 0), (3, 0), (3, 0), (3, 0), (3, 0), (3, 0)] [] sh_T M1) ∧ (¬ x1 = 0 → ((v2 < 1 → am_g 11 0 co_X11_night d Q 19 [(2, 0), (3, 0), (3, 0), (3, 0), (3, 0), (3, 0)] [] sh_T M1) ∧ (1 ≤ v2 → ((v2 ≤ 100 → (0 ≤ v1 ∧ v1 < 4) ∧ am_cal pg d 2 [(2, 46), (2, 37 + 1 + 2 * v1)] sh_T M1 (am_cv sh_T fun M6 => am_g 11 0 co_X11_night d Q 43 [(2, 0), (3, 0), (0, v2), (2, 37 + 1 + 2 * v1), (0, 0), (3, 0)] [] sh_T M6)) ∧ (100 < v2 → am_g 11 0 co_X11_night d Q 19 [(2, 0), (3, 0), (3, 0), (3, 0), (3, 0), (3, 0)] [] sh_T M1)))))))) : am_g 11 0 co_X11_night d Q 0 [(2, 0), (0, v1), (0, v2), (3, 0), (3, 0), (3, 0)] [] sh_T M := by
  refine x_aload_n (by decide +kernel : am_at co_X11_night 0 = some (1, .aload_n 0)) rfl ?_
  refine x_iload_n (by decide +kernel : am_at co_X11_night 1 = some (1, .iload_n 1)) rfl ?_
  refine x_callV (n := 2) (by decide +kernel : am_at co_X11_night 2 = some (3, .invokevirtual 170)) pq_11_170 pm_X11_isDreamer rfl rfl rfl ob_0 h (x_k0 fun x1 M1 h => ?_)
  refine x_if (tgt := 19) (by decide +kernel : am_at co_X11_night 5 = some (3, .ifCond .eq 14)) rfl Iff.rfl (fun c1 => ?_) (fun c1 => ?_)
  · have h := h.1 c1
    exact am_weak (lk (ld (ld (lk (lk (lk ln)))))) h
  · have c1 := c1
    have h := h.2 c1
    refine x_iload_n (by decide +kernel : am_at co_X11_night 8 = some (1, .iload_n 2)) rfl ?_
    refine x_iconst (by decide +kernel : am_at co_X11_night 9 = some (1, .iconst 1)) ?_
    refine x_icmp (tgt := 19) (by decide +kernel : am_at co_X11_night 10 = some (3, .if_icmp .lt 9)) rfl Iff.rfl (fun c2 => ?_) (fun c2 => ?_)
    · have h := h.1 c2
      exact am_weak (lk (ld (ld (lk (lk (lk ln)))))) h
    · have c2 := (Int.not_lt.mp c2)
      have h := h.2 c2
      refine x_iload_n (by decide +kernel : am_at co_X11_night 13 = some (1, .iload_n 2)) rfl ?_
      refine x_bipush (by decide +kernel : am_at co_X11_night 14 = some (2, .bipush 100)) ?_
      refine x_icmp (tgt := 25) (by decide +kernel : am_at co_X11_night 16 = some (3, .if_icmp .le 9)) rfl Iff.rfl (fun c3 => ?_) (fun c3 => ?_)
      · have h := h.1 c3
        refine x_aload_n (by decide +kernel : am_at co_X11_night 25 = some (1, .aload_n 0)) rfl ?_
        refine x_getF (by decide +kernel : am_at co_X11_night 26 = some (3, .getfield 55)) pq_11_55 (by decide) rfl ob_0 ?_
        refine x_top2 (show 0 + 37 = 37 from rfl) ?_
        refine x_iload_n (by decide +kernel : am_at co_X11_night 29 = some (1, .iload_n 1)) rfl ?_
        obtain ⟨o4, h⟩ := h
        refine x_aald (by decide +kernel : am_at co_X11_night 30 = some (1, .aaload)) (ia_37 o4.1 o4.2) ?_
        refine x_astore_n (L' := [(2, 0), (0, v1), (0, v2), (2, 37 + 1 + 2 * v1), (3, 0), (3, 0)]) (by decide +kernel : am_at co_X11_night 31 = some (1, .astore_n 3)) rfl ?_
        refine x_aload_n (by decide +kernel : am_at co_X11_night 32 = some (1, .aload_n 0)) rfl ?_
        refine x_getF (by decide +kernel : am_at co_X11_night 33 = some (3, .getfield 62)) pq_11_62 (by decide) rfl ob_0 ?_
        refine x_top2 (show 0 + 46 = 46 from rfl) ?_
        refine x_aload_n (by decide +kernel : am_at co_X11_night 36 = some (1, .aload_n 3)) rfl ?_
        refine x_callV (n := 2) (by decide +kernel : am_at co_X11_night 37 = some (3, .invokevirtual 283)) pq_11_283 pm_X0_keep rfl rfl rfl ob_46 h (x_kv fun M6 h => ?_)
        refine x_iconst (by decide +kernel : am_at co_X11_night 40 = some (1, .iconst 0)) ?_
        refine x_istore (L' := [(2, 0), (0, v1), (0, v2), (2, 37 + 1 + 2 * v1), (0, 0), (3, 0)]) (by decide +kernel : am_at co_X11_night 41 = some (2, .istore 4)) rfl ?_
        exact am_weak (lk (ld (lk (lk (lk (lk ln)))))) h
      · have c3 := (Int.not_le.mp c3)
        have h := h.2 c3
        exact am_weak (lk (ld (ld (lk (lk (lk ln)))))) h
set_option maxRecDepth 20000 in
theorem bk_X11_night_19 {d : Nat} {Q : am_Q} {M : am_M} (h : am_cal pg d 160 [(2, 0), (0, 2)] sh_T M (am_c0 sh_T fun x1 M1 => Q (some (0, x1), sh_T, M1))) : am_g 11 0 co_X11_night d Q 19 [(2, 0), (3, 0), (3, 0), (3, 0), (3, 0), (3, 0)] [] sh_T M := by
  refine x_aload_n (by decide +kernel : am_at co_X11_night 19 = some (1, .aload_n 0)) rfl ?_
  refine x_iconst (by decide +kernel : am_at co_X11_night 20 = some (1, .iconst 2)) ?_
  refine x_callV (n := 2) (by decide +kernel : am_at co_X11_night 21 = some (3, .invokevirtual 113)) pq_11_113 pm_X11_refuse rfl rfl rfl ob_0 h (x_k0 fun x1 M1 h => ?_)
  exact x_iret (by decide +kernel : am_at co_X11_night 24 = some (1, .ireturn)) h
set_option maxRecDepth 20000 in
theorem bk_X11_night_43 {d : Nat} {Q : am_Q} {M : am_M} {v2 v3 v4 : Int} (h : ((v2 ≤ v4 → am_g 11 0 co_X11_night d Q 126 [(3, 0), (3, 0), (3, 0), (3, 0), (0, v4), (3, 0)] [] sh_T M) ∧ (v4 < v2 → am_ob sh_T 2 (M 0 4) ∧ am_cal pg d 33 [(2, M 0 4), (2, v3), (0, 0)] sh_T M (am_c0 sh_T fun x3 M3 => ((x3 = 0 → am_g 11 0 co_X11_night d Q 126 [(3, 0), (3, 0), (3, 0), (3, 0), (0, v4), (3, 0)] [] sh_T M3) ∧ (¬ x3 = 0 → am_cal pg d 164 [(2, 0), (0, 2)] sh_T M3 (am_c0 sh_T fun x5 M5 => ((¬ x5 = 1 → am_g 11 0 co_X11_night d Q 86 [(2, 0), (3, 0), (0, v2), (2, v3), (0, v4), (3, 0)] [] sh_T M5) ∧ (x5 = 1 → am_ob sh_T 2 (M5 0 4) ∧ am_cal pg d 14 [(2, M5 0 4), (0, 0)] sh_T M5 (am_c0 sh_T fun x8 M8 => ((x8 ≤ 1 → am_g 11 0 co_X11_night d Q 86 [(2, 0), (3, 0), (0, v2), (2, v3), (0, v4), (3, 0)] [] sh_T M8) ∧ (1 < x8 → am_ob sh_T 2 (M8 0 4) ∧ am_cal pg d 34 [(2, M8 0 4), (2, v3), (0, 1)] sh_T M8 (am_c0 sh_T fun x11 M11 => am_cal pg d 164 [(2, 0), (0, 100)] sh_T M11 (am_c0 sh_T fun x12 M12 => am_ob sh_T 2 (M12 0 4) ∧ ((M12 (M12 0 4) 6 ≤ x12 → am_g 11 0 co_X11_night d Q 120 [(2, 0), (3, 0), (0, v2), (2, v3), (0, v4), (3, 0)] [] sh_T M12) ∧ (x12 < M12 (M12 0 4) 6 → am_ob sh_T 7 v3 ∧ am_cal pg d 77 [(2, v3)] sh_T M12 (am_cv sh_T fun M16 => am_g 11 0 co_X11_night d Q 120 [(2, 0), (3, 0), (0, v2), (2, v3), (0, v4), (3, 0)] [] sh_T M16))))))))))))))))) : am_g 11 0 co_X11_night d Q 43 [(2, 0), (3, 0), (0, v2), (2, v3), (0, v4), (3, 0)] [] sh_T M := by
  refine x_iload (by decide +kernel : am_at co_X11_night 43 = some (2, .iload 4)) rfl ?_
  refine x_iload_n (by decide +kernel : am_at co_X11_night 45 = some (1, .iload_n 2)) rfl ?_
  refine x_icmp (tgt := 126) (by decide +kernel : am_at co_X11_night 46 = some (3, .if_icmp .ge 80)) rfl Iff.rfl (fun c0 => ?_) (fun c0 => ?_)
  · have h := h.1 c0
    exact am_weak (ld (lk (ld (ld (lk (lk ln)))))) h
  · have c0 := (Int.not_le.mp c0)
    have h := h.2 c0
    refine x_aload_n (by decide +kernel : am_at co_X11_night 49 = some (1, .aload_n 0)) rfl ?_
    refine x_getf (by decide +kernel : am_at co_X11_night 50 = some (3, .getfield 44)) pq_11_44 rfl ob_0 ?_
    refine x_aload_n (by decide +kernel : am_at co_X11_night 53 = some (1, .aload_n 3)) rfl ?_
    refine x_iconst (by decide +kernel : am_at co_X11_night 54 = some (1, .iconst 0)) ?_
    obtain ⟨o1, h⟩ := h
    refine x_callV (n := 3) (by decide +kernel : am_at co_X11_night 55 = some (3, .invokevirtual 279)) pq_11_279 pm_X2_canEnter rfl rfl rfl o1 h (x_k0 fun x3 M3 h => ?_)
    refine x_if (tgt := 126) (by decide +kernel : am_at co_X11_night 58 = some (3, .ifCond .eq 68)) rfl Iff.rfl (fun c3 => ?_) (fun c3 => ?_)
    · have h := h.1 c3
      exact am_weak (ld (lk (ld (ld (lk (lk ln)))))) h
    · have c3 := c3
      have h := h.2 c3
      refine x_aload_n (by decide +kernel : am_at co_X11_night 61 = some (1, .aload_n 0)) rfl ?_
      refine x_iconst (by decide +kernel : am_at co_X11_night 62 = some (1, .iconst 2)) ?_
      refine x_callV (n := 2) (by decide +kernel : am_at co_X11_night 63 = some (3, .invokevirtual 298)) pq_11_298 pm_X11_draw rfl rfl rfl ob_0 h (x_k0 fun x5 M5 h => ?_)
      refine x_iconst (by decide +kernel : am_at co_X11_night 66 = some (1, .iconst 1)) ?_
      refine x_icmp (tgt := 86) (by decide +kernel : am_at co_X11_night 67 = some (3, .if_icmp .ne 19)) rfl Iff.rfl (fun c5 => ?_) (fun c5 => ?_)
      · have h := h.1 c5
        exact am_weak (lk (lk (lk (lk (lk (lk ln)))))) h
      · have c5 := (Classical.not_not.mp c5)
        have h := h.2 c5
        refine x_aload_n (by decide +kernel : am_at co_X11_night 70 = some (1, .aload_n 0)) rfl ?_
        refine x_getf (by decide +kernel : am_at co_X11_night 71 = some (3, .getfield 44)) pq_11_44 rfl ob_0 ?_
        refine x_iconst (by decide +kernel : am_at co_X11_night 74 = some (1, .iconst 0)) ?_
        obtain ⟨o6, h⟩ := h
        refine x_callV (n := 2) (by decide +kernel : am_at co_X11_night 75 = some (3, .invokevirtual 141)) pq_11_141 pm_X2_count rfl rfl rfl o6 h (x_k0 fun x8 M8 h => ?_)
        refine x_iconst (by decide +kernel : am_at co_X11_night 78 = some (1, .iconst 1)) ?_
        refine x_icmp (tgt := 86) (by decide +kernel : am_at co_X11_night 79 = some (3, .if_icmp .le 7)) rfl Iff.rfl (fun c8 => ?_) (fun c8 => ?_)
        · have h := h.1 c8
          exact am_weak (lk (lk (lk (lk (lk (lk ln)))))) h
        · have c8 := (Int.not_le.mp c8)
          have h := h.2 c8
          refine x_iconst (by decide +kernel : am_at co_X11_night 82 = some (1, .iconst 1)) ?_
          refine x_goto (tgt := 87) (by decide +kernel : am_at co_X11_night 83 = some (3, .goto 4)) rfl ?_
          refine x_istore (L' := [(2, 0), (3, 0), (0, v2), (2, v3), (0, v4), (0, 1)]) (by decide +kernel : am_at co_X11_night 87 = some (2, .istore 5)) rfl ?_
          refine x_aload_n (by decide +kernel : am_at co_X11_night 89 = some (1, .aload_n 0)) rfl ?_
          refine x_getf (by decide +kernel : am_at co_X11_night 90 = some (3, .getfield 44)) pq_11_44 rfl ob_0 ?_
          refine x_aload_n (by decide +kernel : am_at co_X11_night 93 = some (1, .aload_n 3)) rfl ?_
          refine x_iload (by decide +kernel : am_at co_X11_night 94 = some (2, .iload 5)) rfl ?_
          obtain ⟨o9, h⟩ := h
          refine x_callV (n := 3) (by decide +kernel : am_at co_X11_night 96 = some (3, .invokevirtual 287)) pq_11_287 pm_X2_enter rfl rfl rfl o9 h (x_k0 fun x11 M11 h => ?_)
          refine x_pop0 (by decide +kernel : am_at co_X11_night 99 = some (1, .pop)) ?_
          refine x_aload_n (by decide +kernel : am_at co_X11_night 100 = some (1, .aload_n 0)) rfl ?_
          refine x_bipush (by decide +kernel : am_at co_X11_night 101 = some (2, .bipush 100)) ?_
          refine x_callV (n := 2) (by decide +kernel : am_at co_X11_night 103 = some (3, .invokevirtual 298)) pq_11_298 pm_X11_draw rfl rfl rfl ob_0 h (x_k0 fun x12 M12 h => ?_)
          refine x_aload_n (by decide +kernel : am_at co_X11_night 106 = some (1, .aload_n 0)) rfl ?_
          refine x_getf (by decide +kernel : am_at co_X11_night 107 = some (3, .getfield 44)) pq_11_44 rfl ob_0 ?_
          obtain ⟨o12, h⟩ := h
          refine x_getf (by decide +kernel : am_at co_X11_night 110 = some (3, .getfield 147)) pq_11_147 rfl o12 ?_
          refine x_icmp (tgt := 120) (by decide +kernel : am_at co_X11_night 113 = some (3, .if_icmp .ge 7)) rfl Iff.rfl (fun c13 => ?_) (fun c13 => ?_)
          · have h := h.1 c13
            exact am_weak (lk (lk (lk (lk (lk (ld ln)))))) h
          · have c13 := (Int.not_le.mp c13)
            have h := h.2 c13
            refine x_aload_n (by decide +kernel : am_at co_X11_night 116 = some (1, .aload_n 3)) rfl ?_
            obtain ⟨o14, h⟩ := h
            refine x_callV (n := 1) (by decide +kernel : am_at co_X11_night 117 = some (3, .invokevirtual 301)) pq_11_301 pm_X7_laugh rfl rfl rfl o14 h (x_kv fun M16 h => ?_)
            exact am_weak (lk (lk (lk (lk (lk (ld ln)))))) h
set_option maxRecDepth 20000 in
theorem bk_X11_night_86 {d : Nat} {Q : am_Q} {M : am_M} {v2 v3 v4 : Int} (h : am_ob sh_T 2 (M 0 4) ∧ am_cal pg d 34 [(2, M 0 4), (2, v3), (0, 0)] sh_T M (am_c0 sh_T fun x2 M2 => am_cal pg d 164 [(2, 0), (0, 100)] sh_T M2 (am_c0 sh_T fun x3 M3 => am_ob sh_T 2 (M3 0 4) ∧ ((M3 (M3 0 4) 6 ≤ x3 → am_g 11 0 co_X11_night d Q 120 [(2, 0), (3, 0), (0, v2), (2, v3), (0, v4), (3, 0)] [] sh_T M3) ∧ (x3 < M3 (M3 0 4) 6 → am_ob sh_T 7 v3 ∧ am_cal pg d 77 [(2, v3)] sh_T M3 (am_cv sh_T fun M7 => am_g 11 0 co_X11_night d Q 120 [(2, 0), (3, 0), (0, v2), (2, v3), (0, v4), (3, 0)] [] sh_T M7)))))) : am_g 11 0 co_X11_night d Q 86 [(2, 0), (3, 0), (0, v2), (2, v3), (0, v4), (3, 0)] [] sh_T M := by
  refine x_iconst (by decide +kernel : am_at co_X11_night 86 = some (1, .iconst 0)) ?_
  refine x_istore (L' := [(2, 0), (3, 0), (0, v2), (2, v3), (0, v4), (0, 0)]) (by decide +kernel : am_at co_X11_night 87 = some (2, .istore 5)) rfl ?_
  refine x_aload_n (by decide +kernel : am_at co_X11_night 89 = some (1, .aload_n 0)) rfl ?_
  refine x_getf (by decide +kernel : am_at co_X11_night 90 = some (3, .getfield 44)) pq_11_44 rfl ob_0 ?_
  refine x_aload_n (by decide +kernel : am_at co_X11_night 93 = some (1, .aload_n 3)) rfl ?_
  refine x_iload (by decide +kernel : am_at co_X11_night 94 = some (2, .iload 5)) rfl ?_
  obtain ⟨o0, h⟩ := h
  refine x_callV (n := 3) (by decide +kernel : am_at co_X11_night 96 = some (3, .invokevirtual 287)) pq_11_287 pm_X2_enter rfl rfl rfl o0 h (x_k0 fun x2 M2 h => ?_)
  refine x_pop0 (by decide +kernel : am_at co_X11_night 99 = some (1, .pop)) ?_
  refine x_aload_n (by decide +kernel : am_at co_X11_night 100 = some (1, .aload_n 0)) rfl ?_
  refine x_bipush (by decide +kernel : am_at co_X11_night 101 = some (2, .bipush 100)) ?_
  refine x_callV (n := 2) (by decide +kernel : am_at co_X11_night 103 = some (3, .invokevirtual 298)) pq_11_298 pm_X11_draw rfl rfl rfl ob_0 h (x_k0 fun x3 M3 h => ?_)
  refine x_aload_n (by decide +kernel : am_at co_X11_night 106 = some (1, .aload_n 0)) rfl ?_
  refine x_getf (by decide +kernel : am_at co_X11_night 107 = some (3, .getfield 44)) pq_11_44 rfl ob_0 ?_
  obtain ⟨o3, h⟩ := h
  refine x_getf (by decide +kernel : am_at co_X11_night 110 = some (3, .getfield 147)) pq_11_147 rfl o3 ?_
  refine x_icmp (tgt := 120) (by decide +kernel : am_at co_X11_night 113 = some (3, .if_icmp .ge 7)) rfl Iff.rfl (fun c4 => ?_) (fun c4 => ?_)
  · have h := h.1 c4
    exact am_weak (lk (lk (lk (lk (lk (ld ln)))))) h
  · have c4 := (Int.not_le.mp c4)
    have h := h.2 c4
    refine x_aload_n (by decide +kernel : am_at co_X11_night 116 = some (1, .aload_n 3)) rfl ?_
    obtain ⟨o5, h⟩ := h
    refine x_callV (n := 1) (by decide +kernel : am_at co_X11_night 117 = some (3, .invokevirtual 301)) pq_11_301 pm_X7_laugh rfl rfl rfl o5 h (x_kv fun M7 h => ?_)
    exact am_weak (lk (lk (lk (lk (lk (ld ln)))))) h
set_option maxRecDepth 20000 in
theorem bk_X11_night_120 {d : Nat} {Q : am_Q} {M : am_M} {v2 v3 v4 : Int} (h : am_r (v4 + 1) ∧ am_g 11 0 co_X11_night d Q 43 [(2, 0), (3, 0), (0, v2), (2, v3), (0, v4 + 1), (3, 0)] [] sh_T M) : am_g 11 0 co_X11_night d Q 120 [(2, 0), (3, 0), (0, v2), (2, v3), (0, v4), (3, 0)] [] sh_T M := by
  obtain ⟨o0, h⟩ := h
  refine x_iinc (L' := [(2, 0), (3, 0), (0, v2), (2, v3), (0, v4 + 1), (3, 0)]) (by decide +kernel : am_at co_X11_night 120 = some (3, .iinc 4 1)) rfl o0 rfl ?_
  refine x_goto (tgt := 43) (by decide +kernel : am_at co_X11_night 123 = some (3, .goto (-80))) rfl ?_
  exact am_weak (lk (lk (lk (lk (lk (lk ln)))))) h
set_option maxRecDepth 20000 in
theorem bk_X11_night_126 {d : Nat} {Q : am_Q} {M : am_M} {v4 : Int} (h : Q (some (0, v4), sh_T, M)) : am_g 11 0 co_X11_night d Q 126 [(3, 0), (3, 0), (3, 0), (3, 0), (0, v4), (3, 0)] [] sh_T M := by
  refine x_iload (by decide +kernel : am_at co_X11_night 126 = some (2, .iload 4)) rfl ?_
  exact x_iret (by decide +kernel : am_at co_X11_night 128 = some (1, .ireturn)) h
set_option maxRecDepth 20000 in
theorem bk_X11_undo_0 {d : Nat} {Q : am_Q} {M : am_M} (h : ((¬ M 46 2 = 0 → am_cal pg d 3 [(2, 46), (2, 37)] sh_T M (am_cv sh_T fun M2 => Q (some (0, 1), sh_T, M2))) ∧ (M 46 2 = 0 → am_cal pg d 160 [(2, 0), (0, 3)] sh_T M (am_c0 sh_T fun x3 M3 => Q (some (0, 0), sh_T, M3))))) : am_g 11 5 co_X11_undo d Q 0 [(2, 0)] [] sh_T M := by
  refine x_aload_n (by decide +kernel : am_at co_X11_undo 0 = some (1, .aload_n 0)) rfl ?_
  refine x_getF (by decide +kernel : am_at co_X11_undo 1 = some (3, .getfield 62)) pq_11_62 (by decide) rfl ob_0 ?_
  refine x_top2 (show 0 + 46 = 46 from rfl) ?_
  refine x_getf (by decide +kernel : am_at co_X11_undo 4 = some (3, .getfield 157)) pq_11_157 rfl ob_46 ?_
  refine x_if (tgt := 18) (by decide +kernel : am_at co_X11_undo 7 = some (3, .ifCond .ne 11)) rfl Iff.rfl (fun c0 => ?_) (fun c0 => ?_)
  · have h := h.1 c0
    refine x_aload_n (by decide +kernel : am_at co_X11_undo 18 = some (1, .aload_n 0)) rfl ?_
    refine x_getF (by decide +kernel : am_at co_X11_undo 19 = some (3, .getfield 62)) pq_11_62 (by decide) rfl ob_0 ?_
    refine x_top2 (show 0 + 46 = 46 from rfl) ?_
    refine x_aload_n (by decide +kernel : am_at co_X11_undo 22 = some (1, .aload_n 0)) rfl ?_
    refine x_getF (by decide +kernel : am_at co_X11_undo 23 = some (3, .getfield 55)) pq_11_55 (by decide) rfl ob_0 ?_
    refine x_top2 (show 0 + 37 = 37 from rfl) ?_
    refine x_callV (n := 2) (by decide +kernel : am_at co_X11_undo 26 = some (3, .invokevirtual 303)) pq_11_303 pm_X0_takeBack rfl rfl rfl ob_46 h (x_kv fun M2 h => ?_)
    refine x_iconst (by decide +kernel : am_at co_X11_undo 29 = some (1, .iconst 1)) ?_
    exact x_zret (by decide +kernel : am_at co_X11_undo 30 = some (1, .ireturn)) (by decide) h
  · have c0 := (Classical.not_not.mp c0)
    have h := h.2 c0
    refine x_aload_n (by decide +kernel : am_at co_X11_undo 10 = some (1, .aload_n 0)) rfl ?_
    refine x_iconst (by decide +kernel : am_at co_X11_undo 11 = some (1, .iconst 3)) ?_
    refine x_callV (n := 2) (by decide +kernel : am_at co_X11_undo 12 = some (3, .invokevirtual 113)) pq_11_113 pm_X11_refuse rfl rfl rfl ob_0 h (x_k0 fun x3 M3 h => ?_)
    refine x_pop0 (by decide +kernel : am_at co_X11_undo 15 = some (1, .pop)) ?_
    refine x_iconst (by decide +kernel : am_at co_X11_undo 16 = some (1, .iconst 0)) ?_
    exact x_zret (by decide +kernel : am_at co_X11_undo 17 = some (1, .ireturn)) (by decide) h
set_option maxRecDepth 20000 in
theorem bk_X11_seed_0 {d : Nat} {Q : am_Q} {M : am_M} {v1 : Int} (h : ((0 ≤ v1 → Q (some (0, 1), sh_T, (am_up M 0 17 v1))) ∧ (v1 < 0 → am_cal pg d 160 [(2, 0), (0, 4)] sh_T M (am_c0 sh_T fun x2 M2 => Q (some (0, 0), sh_T, M2))))) : am_g 11 5 co_X11_seed d Q 0 [(2, 0), (0, v1)] [] sh_T M := by
  refine x_iload_n (by decide +kernel : am_at co_X11_seed 0 = some (1, .iload_n 1)) rfl ?_
  refine x_if (tgt := 12) (by decide +kernel : am_at co_X11_seed 1 = some (3, .ifCond .ge 11)) rfl Iff.rfl (fun c0 => ?_) (fun c0 => ?_)
  · have h := h.1 c0
    refine x_aload_n (by decide +kernel : am_at co_X11_seed 12 = some (1, .aload_n 0)) rfl ?_
    refine x_iload_n (by decide +kernel : am_at co_X11_seed 13 = some (1, .iload_n 1)) rfl ?_
    refine x_putf0 (by decide +kernel : am_at co_X11_seed 14 = some (3, .putfield 107)) pq_11_107 rfl ob_0 ?_
    refine x_iconst (by decide +kernel : am_at co_X11_seed 17 = some (1, .iconst 1)) ?_
    exact x_zret (by decide +kernel : am_at co_X11_seed 18 = some (1, .ireturn)) (by decide) h
  · have c0 := (Int.not_le.mp c0)
    have h := h.2 c0
    refine x_aload_n (by decide +kernel : am_at co_X11_seed 4 = some (1, .aload_n 0)) rfl ?_
    refine x_iconst (by decide +kernel : am_at co_X11_seed 5 = some (1, .iconst 4)) ?_
    refine x_callV (n := 2) (by decide +kernel : am_at co_X11_seed 6 = some (3, .invokevirtual 113)) pq_11_113 pm_X11_refuse rfl rfl rfl ob_0 h (x_k0 fun x2 M2 h => ?_)
    refine x_pop0 (by decide +kernel : am_at co_X11_seed 9 = some (1, .pop)) ?_
    refine x_iconst (by decide +kernel : am_at co_X11_seed 10 = some (1, .iconst 0)) ?_
    exact x_zret (by decide +kernel : am_at co_X11_seed 11 = some (1, .ireturn)) (by decide) h
set_option maxRecDepth 20000 in
theorem bk_X11_told_0 {d : Nat} {Q : am_Q} {M : am_M} {v1 : Int} (h : am_cal pg d 161 [(2, 0), (0, v1)] sh_T M (am_c0 sh_T fun x1 M1 => ((x1 = 0 → am_g 11 0 co_X11_told d Q 31 [(2, 0), (0, v1), (0, M 1 1), (3, 0), (3, 0)] [] sh_T M1) ∧ (¬ x1 = 0 → ((M 1 1 < 1 → am_g 11 0 co_X11_told d Q 31 [(2, 0), (0, v1), (0, M 1 1), (3, 0), (3, 0)] [] sh_T M1) ∧ (1 ≤ M 1 1 → ((20 < M 1 1 → am_g 11 0 co_X11_told d Q 31 [(2, 0), (0, v1), (0, M 1 1), (3, 0), (3, 0)] [] sh_T M1) ∧ (M 1 1 ≤ 20 → am_g 11 0 co_X11_told d Q 36 [(2, 0), (0, v1), (0, M 1 1), (0, 1), (0, 0)] [] sh_T M1)))))))) : am_g 11 0 co_X11_told d Q 0 [(2, 0), (0, v1), (3, 0), (3, 0), (3, 0)] [] sh_T M := by
  refine x_aload_n (by decide +kernel : am_at co_X11_told 0 = some (1, .aload_n 0)) rfl ?_
  refine x_getF (by decide +kernel : am_at co_X11_told 1 = some (3, .getfield 10)) pq_11_10 (by decide) rfl ob_0 ?_
  refine x_top2 (show 0 + 1 = 1 from rfl) ?_
  refine x_getf (by decide +kernel : am_at co_X11_told 4 = some (3, .getfield 110)) pq_11_110 rfl ob_1 ?_
  refine x_istore_n (L' := [(2, 0), (0, v1), (0, M 1 1), (3, 0), (3, 0)]) (by decide +kernel : am_at co_X11_told 7 = some (1, .istore_n 2)) rfl ?_
  refine x_aload_n (by decide +kernel : am_at co_X11_told 8 = some (1, .aload_n 0)) rfl ?_
  refine x_iload_n (by decide +kernel : am_at co_X11_told 9 = some (1, .iload_n 1)) rfl ?_
  refine x_callV (n := 2) (by decide +kernel : am_at co_X11_told 10 = some (3, .invokevirtual 170)) pq_11_170 pm_X11_isDreamer rfl rfl rfl ob_0 h (x_k0 fun x1 M1 h => ?_)
  refine x_if (tgt := 31) (by decide +kernel : am_at co_X11_told 13 = some (3, .ifCond .eq 18)) rfl Iff.rfl (fun c1 => ?_) (fun c1 => ?_)
  · have h := h.1 c1
    exact am_weak (lk (lk (lk (lk (lk ln))))) h
  · have c1 := c1
    have h := h.2 c1
    refine x_iload_n (by decide +kernel : am_at co_X11_told 16 = some (1, .iload_n 2)) rfl ?_
    refine x_iconst (by decide +kernel : am_at co_X11_told 17 = some (1, .iconst 1)) ?_
    refine x_icmp (tgt := 31) (by decide +kernel : am_at co_X11_told 18 = some (3, .if_icmp .lt 13)) rfl Iff.rfl (fun c2 => ?_) (fun c2 => ?_)
    · have h := h.1 c2
      exact am_weak (lk (lk (lk (lk (lk ln))))) h
    · have c2 := (Int.not_lt.mp c2)
      have h := h.2 c2
      refine x_iload_n (by decide +kernel : am_at co_X11_told 21 = some (1, .iload_n 2)) rfl ?_
      refine x_bipush (by decide +kernel : am_at co_X11_told 22 = some (2, .bipush 20)) ?_
      refine x_icmp (tgt := 31) (by decide +kernel : am_at co_X11_told 24 = some (3, .if_icmp .gt 7)) rfl Iff.rfl (fun c3 => ?_) (fun c3 => ?_)
      · have h := h.1 c3
        exact am_weak (lk (lk (lk (lk (lk ln))))) h
      · have c3 := (Int.not_lt.mp c3)
        have h := h.2 c3
        refine x_iconst (by decide +kernel : am_at co_X11_told 27 = some (1, .iconst 1)) ?_
        refine x_goto (tgt := 32) (by decide +kernel : am_at co_X11_told 28 = some (3, .goto 4)) rfl ?_
        refine x_istore_n (L' := [(2, 0), (0, v1), (0, M 1 1), (0, 1), (3, 0)]) (by decide +kernel : am_at co_X11_told 32 = some (1, .istore_n 3)) rfl ?_
        refine x_iconst (by decide +kernel : am_at co_X11_told 33 = some (1, .iconst 0)) ?_
        refine x_istore (L' := [(2, 0), (0, v1), (0, M 1 1), (0, 1), (0, 0)]) (by decide +kernel : am_at co_X11_told 34 = some (2, .istore 4)) rfl ?_
        exact am_weak (lk (lk (lk (lk (lk ln))))) h
set_option maxRecDepth 20000 in
theorem bk_X11_told_31 {d : Nat} {Q : am_Q} {M : am_M} {v1 v2 : Int} (h : am_g 11 0 co_X11_told d Q 36 [(2, 0), (0, v1), (0, v2), (0, 0), (0, 0)] [] sh_T M) : am_g 11 0 co_X11_told d Q 31 [(2, 0), (0, v1), (0, v2), (3, 0), (3, 0)] [] sh_T M := by
  refine x_iconst (by decide +kernel : am_at co_X11_told 31 = some (1, .iconst 0)) ?_
  refine x_istore_n (L' := [(2, 0), (0, v1), (0, v2), (0, 0), (3, 0)]) (by decide +kernel : am_at co_X11_told 32 = some (1, .istore_n 3)) rfl ?_
  refine x_iconst (by decide +kernel : am_at co_X11_told 33 = some (1, .iconst 0)) ?_
  refine x_istore (L' := [(2, 0), (0, v1), (0, v2), (0, 0), (0, 0)]) (by decide +kernel : am_at co_X11_told 34 = some (2, .istore 4)) rfl ?_
  exact am_weak (lk (lk (lk (lk (lk ln))))) h
set_option maxRecDepth 20000 in
theorem bk_X11_told_36 {d : Nat} {Q : am_Q} {M : am_M} {v1 v2 v3 v4 : Int} (h : ((v2 ≤ v4 → am_g 11 0 co_X11_told d Q 66 [(2, 0), (0, v1), (0, v2), (0, v3), (3, 0)] [] sh_T M) ∧ (v4 < v2 → ((v3 = 0 → am_g 11 0 co_X11_told d Q 66 [(2, 0), (0, v1), (0, v2), (0, v3), (3, 0)] [] sh_T M) ∧ (¬ v3 = 0 → am_cal pg d 92 [(2, 1), (0, v4)] sh_T M (am_c0 sh_T fun x3 M3 => am_cal pg d 162 [(2, 0), (0, x3)] sh_T M3 (am_c0 sh_T fun x4 M4 => am_r (v4 + 1) ∧ am_g 11 0 co_X11_told d Q 36 [(2, 0), (0, v1), (0, v2), (0, x4), (0, v4 + 1)] [] sh_T M4))))))) : am_g 11 0 co_X11_told d Q 36 [(2, 0), (0, v1), (0, v2), (0, v3), (0, v4)] [] sh_T M := by
  refine x_iload (by decide +kernel : am_at co_X11_told 36 = some (2, .iload 4)) rfl ?_
  refine x_iload_n (by decide +kernel : am_at co_X11_told 38 = some (1, .iload_n 2)) rfl ?_
  refine x_icmp (tgt := 66) (by decide +kernel : am_at co_X11_told 39 = some (3, .if_icmp .ge 27)) rfl Iff.rfl (fun c0 => ?_) (fun c0 => ?_)
  · have h := h.1 c0
    exact am_weak (lk (lk (lk (lk (ld ln))))) h
  · have c0 := (Int.not_le.mp c0)
    have h := h.2 c0
    refine x_iload_n (by decide +kernel : am_at co_X11_told 42 = some (1, .iload_n 3)) rfl ?_
    refine x_if (tgt := 66) (by decide +kernel : am_at co_X11_told 43 = some (3, .ifCond .eq 23)) rfl Iff.rfl (fun c1 => ?_) (fun c1 => ?_)
    · have h := h.1 c1
      exact am_weak (lk (lk (lk (lk (ld ln))))) h
    · have c1 := c1
      have h := h.2 c1
      refine x_aload_n (by decide +kernel : am_at co_X11_told 46 = some (1, .aload_n 0)) rfl ?_
      refine x_aload_n (by decide +kernel : am_at co_X11_told 47 = some (1, .aload_n 0)) rfl ?_
      refine x_getF (by decide +kernel : am_at co_X11_told 48 = some (3, .getfield 10)) pq_11_10 (by decide) rfl ob_0 ?_
      refine x_top2 (show 0 + 1 = 1 from rfl) ?_
      refine x_iload (by decide +kernel : am_at co_X11_told 51 = some (2, .iload 4)) rfl ?_
      refine x_callV (n := 2) (by decide +kernel : am_at co_X11_told 53 = some (3, .invokevirtual 307)) pq_11_307 pm_X9_byteAt rfl rfl rfl ob_1 h (x_k0 fun x3 M3 h => ?_)
      refine x_callV (n := 2) (by decide +kernel : am_at co_X11_told 56 = some (3, .invokevirtual 199)) pq_11_199 pm_X11_isDread rfl rfl rfl ob_0 h (x_k0 fun x4 M4 h => ?_)
      refine x_istore_n (L' := [(2, 0), (0, v1), (0, v2), (0, x4), (0, v4)]) (by decide +kernel : am_at co_X11_told 59 = some (1, .istore_n 3)) rfl ?_
      obtain ⟨o4, h⟩ := h
      refine x_iinc (L' := [(2, 0), (0, v1), (0, v2), (0, x4), (0, v4 + 1)]) (by decide +kernel : am_at co_X11_told 60 = some (3, .iinc 4 1)) rfl o4 rfl ?_
      refine x_goto (tgt := 36) (by decide +kernel : am_at co_X11_told 63 = some (3, .goto (-27))) rfl ?_
      exact am_weak (lk (lk (lk (lk (lk ln))))) h
set_option maxRecDepth 20000 in
theorem bk_X11_told_66 {d : Nat} {Q : am_Q} {M : am_M} {v1 v2 v3 : Int} (h : am_g 11 0 co_X11_told d Q 69 [(2, 0), (0, v1), (0, v2), (0, v3), (0, 0)] [] sh_T M) : am_g 11 0 co_X11_told d Q 66 [(2, 0), (0, v1), (0, v2), (0, v3), (3, 0)] [] sh_T M := by
  refine x_iconst (by decide +kernel : am_at co_X11_told 66 = some (1, .iconst 0)) ?_
  refine x_istore (L' := [(2, 0), (0, v1), (0, v2), (0, v3), (0, 0)]) (by decide +kernel : am_at co_X11_told 67 = some (2, .istore 4)) rfl ?_
  exact am_weak (lk (lk (lk (lk (lk ln))))) h
set_option maxRecDepth 20000 in
theorem bk_X11_told_69 {d : Nat} {Q : am_Q} {M : am_M} {v1 v2 v3 v4 : Int} (h : ((v2 ≤ v4 → am_g 11 0 co_X11_told d Q 108 [(2, 0), (0, v1), (0, v2), (0, v3), (3, 0)] [] sh_T M) ∧ (v4 < v2 → ((20 ≤ v4 → am_g 11 0 co_X11_told d Q 108 [(2, 0), (0, v1), (0, v2), (0, v3), (3, 0)] [] sh_T M) ∧ (v4 < 20 → ((v3 = 0 → am_g 11 0 co_X11_told d Q 108 [(2, 0), (0, v1), (0, v2), (0, v3), (3, 0)] [] sh_T M) ∧ (¬ v3 = 0 → am_cal pg d 92 [(2, 1), (0, v4)] sh_T M (am_c0 sh_T fun x4 M4 => (0 ≤ v4 ∧ v4 < 20) ∧ am_r (v4 + 1) ∧ am_g 11 0 co_X11_told d Q 69 [(2, 0), (0, v1), (0, v2), (0, v3), (0, v4 + 1)] [] sh_T (am_up M4 149 v4 x4))))))))) : am_g 11 0 co_X11_told d Q 69 [(2, 0), (0, v1), (0, v2), (0, v3), (0, v4)] [] sh_T M := by
  refine x_iload (by decide +kernel : am_at co_X11_told 69 = some (2, .iload 4)) rfl ?_
  refine x_iload_n (by decide +kernel : am_at co_X11_told 71 = some (1, .iload_n 2)) rfl ?_
  refine x_icmp (tgt := 108) (by decide +kernel : am_at co_X11_told 72 = some (3, .if_icmp .ge 36)) rfl Iff.rfl (fun c0 => ?_) (fun c0 => ?_)
  · have h := h.1 c0
    exact am_weak (lk (lk (lk (lk (ld ln))))) h
  · have c0 := (Int.not_le.mp c0)
    have h := h.2 c0
    refine x_iload (by decide +kernel : am_at co_X11_told 75 = some (2, .iload 4)) rfl ?_
    refine x_bipush (by decide +kernel : am_at co_X11_told 77 = some (2, .bipush 20)) ?_
    refine x_icmp (tgt := 108) (by decide +kernel : am_at co_X11_told 79 = some (3, .if_icmp .ge 29)) rfl Iff.rfl (fun c1 => ?_) (fun c1 => ?_)
    · have h := h.1 c1
      exact am_weak (lk (lk (lk (lk (ld ln))))) h
    · have c1 := (Int.not_le.mp c1)
      have h := h.2 c1
      refine x_iload_n (by decide +kernel : am_at co_X11_told 82 = some (1, .iload_n 3)) rfl ?_
      refine x_if (tgt := 108) (by decide +kernel : am_at co_X11_told 83 = some (3, .ifCond .eq 25)) rfl Iff.rfl (fun c2 => ?_) (fun c2 => ?_)
      · have h := h.1 c2
        exact am_weak (lk (lk (lk (lk (ld ln))))) h
      · have c2 := c2
        have h := h.2 c2
        refine x_aload_n (by decide +kernel : am_at co_X11_told 86 = some (1, .aload_n 0)) rfl ?_
        refine x_getF (by decide +kernel : am_at co_X11_told 87 = some (3, .getfield 87)) pq_11_87 (by decide) rfl ob_0 ?_
        refine x_top2 (show 0 + 149 = 149 from rfl) ?_
        refine x_iload (by decide +kernel : am_at co_X11_told 90 = some (2, .iload 4)) rfl ?_
        refine x_aload_n (by decide +kernel : am_at co_X11_told 92 = some (1, .aload_n 0)) rfl ?_
        refine x_getF (by decide +kernel : am_at co_X11_told 93 = some (3, .getfield 10)) pq_11_10 (by decide) rfl ob_0 ?_
        refine x_top2 (show 0 + 1 = 1 from rfl) ?_
        refine x_iload (by decide +kernel : am_at co_X11_told 96 = some (2, .iload 4)) rfl ?_
        refine x_callV (n := 2) (by decide +kernel : am_at co_X11_told 98 = some (3, .invokevirtual 307)) pq_11_307 pm_X9_byteAt rfl rfl rfl ob_1 h (x_k0 fun x4 M4 h => ?_)
        obtain ⟨o4, h⟩ := h
        refine x_iast (by decide +kernel : am_at co_X11_told 101 = some (1, .iastore)) (ow_149 o4.1 o4.2) ?_
        obtain ⟨o5, h⟩ := h
        refine x_iinc (L' := [(2, 0), (0, v1), (0, v2), (0, v3), (0, v4 + 1)]) (by decide +kernel : am_at co_X11_told 102 = some (3, .iinc 4 1)) rfl o5 rfl ?_
        refine x_goto (tgt := 69) (by decide +kernel : am_at co_X11_told 105 = some (3, .goto (-36))) rfl ?_
        exact am_weak (lk (lk (lk (lk (lk ln))))) h
set_option maxRecDepth 20000 in
theorem bk_X11_told_108 {d : Nat} {Q : am_Q} {M : am_M} {v1 v2 v3 : Int} (h : am_cal pg d 91 [(2, 1)] sh_T M (am_cv sh_T fun M1 => ((¬ v3 = 0 → Q (some (0, v2), sh_T, (am_up (am_up M1 0 13 v1) 0 12 v2))) ∧ (v3 = 0 → am_cal pg d 160 [(2, 0), (0, 1)] sh_T M1 (am_c0 sh_T fun x3 M3 => Q (some (0, x3), sh_T, M3)))))) : am_g 11 0 co_X11_told d Q 108 [(2, 0), (0, v1), (0, v2), (0, v3), (3, 0)] [] sh_T M := by
  refine x_aload_n (by decide +kernel : am_at co_X11_told 108 = some (1, .aload_n 0)) rfl ?_
  refine x_getF (by decide +kernel : am_at co_X11_told 109 = some (3, .getfield 10)) pq_11_10 (by decide) rfl ob_0 ?_
  refine x_top2 (show 0 + 1 = 1 from rfl) ?_
  refine x_callV (n := 1) (by decide +kernel : am_at co_X11_told 112 = some (3, .invokevirtual 125)) pq_11_125 pm_X9_wipe rfl rfl rfl ob_1 h (x_kv fun M1 h => ?_)
  refine x_iload_n (by decide +kernel : am_at co_X11_told 115 = some (1, .iload_n 3)) rfl ?_
  refine x_if (tgt := 125) (by decide +kernel : am_at co_X11_told 116 = some (3, .ifCond .ne 9)) rfl Iff.rfl (fun c1 => ?_) (fun c1 => ?_)
  · have h := h.1 c1
    refine x_aload_n (by decide +kernel : am_at co_X11_told 125 = some (1, .aload_n 0)) rfl ?_
    refine x_iload_n (by decide +kernel : am_at co_X11_told 126 = some (1, .iload_n 1)) rfl ?_
    refine x_putf0 (by decide +kernel : am_at co_X11_told 127 = some (3, .putfield 95)) pq_11_95 rfl ob_0 ?_
    refine x_aload_n (by decide +kernel : am_at co_X11_told 130 = some (1, .aload_n 0)) rfl ?_
    refine x_iload_n (by decide +kernel : am_at co_X11_told 131 = some (1, .iload_n 2)) rfl ?_
    refine x_putf0 (by decide +kernel : am_at co_X11_told 132 = some (3, .putfield 91)) pq_11_91 rfl ob_0 ?_
    refine x_iload_n (by decide +kernel : am_at co_X11_told 135 = some (1, .iload_n 2)) rfl ?_
    exact x_iret (by decide +kernel : am_at co_X11_told 136 = some (1, .ireturn)) h
  · have c1 := (Classical.not_not.mp c1)
    have h := h.2 c1
    refine x_aload_n (by decide +kernel : am_at co_X11_told 119 = some (1, .aload_n 0)) rfl ?_
    refine x_iconst (by decide +kernel : am_at co_X11_told 120 = some (1, .iconst 1)) ?_
    refine x_callV (n := 2) (by decide +kernel : am_at co_X11_told 121 = some (3, .invokevirtual 113)) pq_11_113 pm_X11_refuse rfl rfl rfl ob_0 h (x_k0 fun x3 M3 h => ?_)
    exact x_iret (by decide +kernel : am_at co_X11_told 124 = some (1, .ireturn)) h
set_option maxRecDepth 20000 in
theorem bk_X11_fits_0 {d : Nat} {Q : am_Q} {M : am_M} {v1 v2 : Int} (h : am_cal pg d 161 [(2, 0), (0, M 0 13)] sh_T M (am_c0 sh_T fun x1 M1 => ((x1 = 0 → Q (some (0, (-1)), sh_T, M1)) ∧ (¬ x1 = 0 → am_cal pg d 162 [(2, 0), (0, v1)] sh_T M1 (am_c0 sh_T fun x3 M3 => ((x3 = 0 → Q (some (0, (-1)), sh_T, M3)) ∧ (¬ x3 = 0 → ((v2 < 0 → Q (some (0, (-1)), sh_T, M3)) ∧ (0 ≤ v2 → ((v2 ≤ 2 → am_g 11 0 co_X11_fits d Q 41 [(2, 0), (0, v1), (0, v2), (0, 0), (0, (-1)), (0, (-1)), (0, 0)] [] sh_T M3) ∧ (2 < v2 → Q (some (0, (-1)), sh_T, M3)))))))))))) : am_g 11 0 co_X11_fits d Q 0 [(2, 0), (0, v1), (0, v2), (3, 0), (3, 0), (3, 0), (3, 0)] [] sh_T M := by
  refine x_aload_n (by decide +kernel : am_at co_X11_fits 0 = some (1, .aload_n 0)) rfl ?_
  refine x_aload_n (by decide +kernel : am_at co_X11_fits 1 = some (1, .aload_n 0)) rfl ?_
  refine x_getf (by decide +kernel : am_at co_X11_fits 2 = some (3, .getfield 95)) pq_11_95 rfl ob_0 ?_
  refine x_callV (n := 2) (by decide +kernel : am_at co_X11_fits 5 = some (3, .invokevirtual 170)) pq_11_170 pm_X11_isDreamer rfl rfl rfl ob_0 h (x_k0 fun x1 M1 h => ?_)
  refine x_if (tgt := 28) (by decide +kernel : am_at co_X11_fits 8 = some (3, .ifCond .eq 20)) rfl Iff.rfl (fun c1 => ?_) (fun c1 => ?_)
  · have h := h.1 c1
    refine x_iconst (by decide +kernel : am_at co_X11_fits 28 = some (1, .iconst (-1))) ?_
    exact x_iret (by decide +kernel : am_at co_X11_fits 29 = some (1, .ireturn)) h
  · have c1 := c1
    have h := h.2 c1
    refine x_aload_n (by decide +kernel : am_at co_X11_fits 11 = some (1, .aload_n 0)) rfl ?_
    refine x_iload_n (by decide +kernel : am_at co_X11_fits 12 = some (1, .iload_n 1)) rfl ?_
    refine x_callV (n := 2) (by decide +kernel : am_at co_X11_fits 13 = some (3, .invokevirtual 199)) pq_11_199 pm_X11_isDread rfl rfl rfl ob_0 h (x_k0 fun x3 M3 h => ?_)
    refine x_if (tgt := 28) (by decide +kernel : am_at co_X11_fits 16 = some (3, .ifCond .eq 12)) rfl Iff.rfl (fun c3 => ?_) (fun c3 => ?_)
    · have h := h.1 c3
      refine x_iconst (by decide +kernel : am_at co_X11_fits 28 = some (1, .iconst (-1))) ?_
      exact x_iret (by decide +kernel : am_at co_X11_fits 29 = some (1, .ireturn)) h
    · have c3 := c3
      have h := h.2 c3
      refine x_iload_n (by decide +kernel : am_at co_X11_fits 19 = some (1, .iload_n 2)) rfl ?_
      refine x_if (tgt := 28) (by decide +kernel : am_at co_X11_fits 20 = some (3, .ifCond .lt 8)) rfl Iff.rfl (fun c4 => ?_) (fun c4 => ?_)
      · have h := h.1 c4
        refine x_iconst (by decide +kernel : am_at co_X11_fits 28 = some (1, .iconst (-1))) ?_
        exact x_iret (by decide +kernel : am_at co_X11_fits 29 = some (1, .ireturn)) h
      · have c4 := (Int.not_lt.mp c4)
        have h := h.2 c4
        refine x_iload_n (by decide +kernel : am_at co_X11_fits 23 = some (1, .iload_n 2)) rfl ?_
        refine x_iconst (by decide +kernel : am_at co_X11_fits 24 = some (1, .iconst 2)) ?_
        refine x_icmp (tgt := 30) (by decide +kernel : am_at co_X11_fits 25 = some (3, .if_icmp .le 5)) rfl Iff.rfl (fun c5 => ?_) (fun c5 => ?_)
        · have h := h.1 c5
          refine x_iconst (by decide +kernel : am_at co_X11_fits 30 = some (1, .iconst 0)) ?_
          refine x_istore_n (L' := [(2, 0), (0, v1), (0, v2), (0, 0), (3, 0), (3, 0), (3, 0)]) (by decide +kernel : am_at co_X11_fits 31 = some (1, .istore_n 3)) rfl ?_
          refine x_iconst (by decide +kernel : am_at co_X11_fits 32 = some (1, .iconst (-1))) ?_
          refine x_istore (L' := [(2, 0), (0, v1), (0, v2), (0, 0), (0, (-1)), (3, 0), (3, 0)]) (by decide +kernel : am_at co_X11_fits 33 = some (2, .istore 4)) rfl ?_
          refine x_iconst (by decide +kernel : am_at co_X11_fits 35 = some (1, .iconst (-1))) ?_
          refine x_istore (L' := [(2, 0), (0, v1), (0, v2), (0, 0), (0, (-1)), (0, (-1)), (3, 0)]) (by decide +kernel : am_at co_X11_fits 36 = some (2, .istore 5)) rfl ?_
          refine x_iconst (by decide +kernel : am_at co_X11_fits 38 = some (1, .iconst 0)) ?_
          refine x_istore (L' := [(2, 0), (0, v1), (0, v2), (0, 0), (0, (-1)), (0, (-1)), (0, 0)]) (by decide +kernel : am_at co_X11_fits 39 = some (2, .istore 6)) rfl ?_
          exact am_weak (lk (lk (lk (lk (lk (lk (lk ln))))))) h
        · have c5 := (Int.not_le.mp c5)
          have h := h.2 c5
          refine x_iconst (by decide +kernel : am_at co_X11_fits 28 = some (1, .iconst (-1))) ?_
          exact x_iret (by decide +kernel : am_at co_X11_fits 29 = some (1, .ireturn)) h
set_option maxRecDepth 20000 in
theorem bk_X11_fits_41 {d : Nat} {Q : am_Q} {M : am_M} {v1 v2 v3 v4 v5 v6 : Int} (h : ((999 < v6 → ((¬ v2 = 0 → ((¬ v2 = 1 → Q (some (0, v5), sh_T, M)) ∧ (v2 = 1 → Q (some (0, v4), sh_T, M)))) ∧ (v2 = 0 → Q (some (0, v3), sh_T, M)))) ∧ (v6 ≤ 999 → (0 ≤ M 0 13 ∧ M 0 13 < 4) ∧ am_cal pg d 11 [(2, 88), (2, M 0 4), (2, 37 + 1 + 2 * (M 0 13)), (0, v1), (0, v6), (2, 149), (0, M 0 12)] sh_T M (am_c0 sh_T fun x5 M5 => ((x5 = 0 → am_r (v6 + 1) ∧ am_g 11 0 co_X11_fits d Q 41 [(2, 0), (0, v1), (0, v2), (0, v3), (0, v4), (0, v5), (0, v6 + 1)] [] sh_T M5) ∧ (¬ x5 = 0 → am_r (v3 + 1) ∧ ((¬ v4 = (-1) → am_r (v6 + 1) ∧ am_g 11 0 co_X11_fits d Q 41 [(2, 0), (0, v1), (0, v2), (0, v3 + 1), (0, v4), (0, v6), (0, v6 + 1)] [] sh_T M5) ∧ (v4 = (-1) → am_r (v6 + 1) ∧ am_g 11 0 co_X11_fits d Q 41 [(2, 0), (0, v1), (0, v2), (0, v3 + 1), (0, v6), (0, v6), (0, v6 + 1)] [] sh_T M5)))))))) : am_g 11 0 co_X11_fits d Q 41 [(2, 0), (0, v1), (0, v2), (0, v3), (0, v4), (0, v5), (0, v6)] [] sh_T M := by
  refine x_iload (by decide +kernel : am_at co_X11_fits 41 = some (2, .iload 6)) rfl ?_
  refine x_sipush (by decide +kernel : am_at co_X11_fits 43 = some (3, .sipush 999)) ?_
  refine x_icmp (tgt := 111) (by decide +kernel : am_at co_X11_fits 46 = some (3, .if_icmp .gt 65)) rfl Iff.rfl (fun c0 => ?_) (fun c0 => ?_)
  · have h := h.1 c0
    refine x_iload_n (by decide +kernel : am_at co_X11_fits 111 = some (1, .iload_n 2)) rfl ?_
    refine x_if (tgt := 117) (by decide +kernel : am_at co_X11_fits 112 = some (3, .ifCond .ne 5)) rfl Iff.rfl (fun c1 => ?_) (fun c1 => ?_)
    · have h := h.1 c1
      refine x_iload_n (by decide +kernel : am_at co_X11_fits 117 = some (1, .iload_n 2)) rfl ?_
      refine x_iconst (by decide +kernel : am_at co_X11_fits 118 = some (1, .iconst 1)) ?_
      refine x_icmp (tgt := 127) (by decide +kernel : am_at co_X11_fits 119 = some (3, .if_icmp .ne 8)) rfl Iff.rfl (fun c2 => ?_) (fun c2 => ?_)
      · have h := h.1 c2
        refine x_iload (by decide +kernel : am_at co_X11_fits 127 = some (2, .iload 5)) rfl ?_
        exact x_iret (by decide +kernel : am_at co_X11_fits 129 = some (1, .ireturn)) h
      · have c2 := (Classical.not_not.mp c2)
        have h := h.2 c2
        refine x_iload (by decide +kernel : am_at co_X11_fits 122 = some (2, .iload 4)) rfl ?_
        refine x_goto (tgt := 129) (by decide +kernel : am_at co_X11_fits 124 = some (3, .goto 5)) rfl ?_
        exact x_iret (by decide +kernel : am_at co_X11_fits 129 = some (1, .ireturn)) h
    · have c1 := (Classical.not_not.mp c1)
      have h := h.2 c1
      refine x_iload_n (by decide +kernel : am_at co_X11_fits 115 = some (1, .iload_n 3)) rfl ?_
      exact x_iret (by decide +kernel : am_at co_X11_fits 116 = some (1, .ireturn)) h
  · have c0 := (Int.not_lt.mp c0)
    have h := h.2 c0
    refine x_aload_n (by decide +kernel : am_at co_X11_fits 49 = some (1, .aload_n 0)) rfl ?_
    refine x_getF (by decide +kernel : am_at co_X11_fits 50 = some (3, .getfield 69)) pq_11_69 (by decide) rfl ob_0 ?_
    refine x_top2 (show 0 + 88 = 88 from rfl) ?_
    refine x_aload_n (by decide +kernel : am_at co_X11_fits 53 = some (1, .aload_n 0)) rfl ?_
    refine x_getf (by decide +kernel : am_at co_X11_fits 54 = some (3, .getfield 44)) pq_11_44 rfl ob_0 ?_
    refine x_aload_n (by decide +kernel : am_at co_X11_fits 57 = some (1, .aload_n 0)) rfl ?_
    refine x_getF (by decide +kernel : am_at co_X11_fits 58 = some (3, .getfield 55)) pq_11_55 (by decide) rfl ob_0 ?_
    refine x_top2 (show 0 + 37 = 37 from rfl) ?_
    refine x_aload_n (by decide +kernel : am_at co_X11_fits 61 = some (1, .aload_n 0)) rfl ?_
    refine x_getf (by decide +kernel : am_at co_X11_fits 62 = some (3, .getfield 95)) pq_11_95 rfl ob_0 ?_
    obtain ⟨o3, h⟩ := h
    refine x_aald (by decide +kernel : am_at co_X11_fits 65 = some (1, .aaload)) (ia_37 o3.1 o3.2) ?_
    refine x_iload_n (by decide +kernel : am_at co_X11_fits 66 = some (1, .iload_n 1)) rfl ?_
    refine x_iload (by decide +kernel : am_at co_X11_fits 67 = some (2, .iload 6)) rfl ?_
    refine x_aload_n (by decide +kernel : am_at co_X11_fits 69 = some (1, .aload_n 0)) rfl ?_
    refine x_getF (by decide +kernel : am_at co_X11_fits 70 = some (3, .getfield 87)) pq_11_87 (by decide) rfl ob_0 ?_
    refine x_top2 (show 0 + 149 = 149 from rfl) ?_
    refine x_aload_n (by decide +kernel : am_at co_X11_fits 73 = some (1, .aload_n 0)) rfl ?_
    refine x_getf (by decide +kernel : am_at co_X11_fits 74 = some (3, .getfield 91)) pq_11_91 rfl ob_0 ?_
    refine x_callV (n := 7) (by decide +kernel : am_at co_X11_fits 77 = some (3, .invokevirtual 310)) pq_11_310 pm_X1_follows rfl rfl rfl ob_88 h (x_k0 fun x5 M5 h => ?_)
    refine x_if (tgt := 105) (by decide +kernel : am_at co_X11_fits 80 = some (3, .ifCond .eq 25)) rfl Iff.rfl (fun c5 => ?_) (fun c5 => ?_)
    · have h := h.1 c5
      obtain ⟨o6, h⟩ := h
      refine x_iinc (L' := [(2, 0), (0, v1), (0, v2), (0, v3), (0, v4), (0, v5), (0, v6 + 1)]) (by decide +kernel : am_at co_X11_fits 105 = some (3, .iinc 6 1)) rfl o6 rfl ?_
      refine x_goto (tgt := 41) (by decide +kernel : am_at co_X11_fits 108 = some (3, .goto (-67))) rfl ?_
      exact am_weak (lk (lk (lk (lk (lk (lk (lk ln))))))) h
    · have c5 := c5
      have h := h.2 c5
      obtain ⟨o7, h⟩ := h
      refine x_iinc (L' := [(2, 0), (0, v1), (0, v2), (0, v3 + 1), (0, v4), (0, v5), (0, v6)]) (by decide +kernel : am_at co_X11_fits 83 = some (3, .iinc 3 1)) rfl o7 rfl ?_
      refine x_iload (by decide +kernel : am_at co_X11_fits 86 = some (2, .iload 4)) rfl ?_
      refine x_iconst (by decide +kernel : am_at co_X11_fits 88 = some (1, .iconst (-1))) ?_
      refine x_icmp (tgt := 97) (by decide +kernel : am_at co_X11_fits 89 = some (3, .if_icmp .ne 8)) rfl Iff.rfl (fun c8 => ?_) (fun c8 => ?_)
      · have h := h.1 c8
        refine x_iload (by decide +kernel : am_at co_X11_fits 97 = some (2, .iload 4)) rfl ?_
        refine x_istore (L' := [(2, 0), (0, v1), (0, v2), (0, v3 + 1), (0, v4), (0, v5), (0, v6)]) (by decide +kernel : am_at co_X11_fits 99 = some (2, .istore 4)) rfl ?_
        refine x_iload (by decide +kernel : am_at co_X11_fits 101 = some (2, .iload 6)) rfl ?_
        refine x_istore (L' := [(2, 0), (0, v1), (0, v2), (0, v3 + 1), (0, v4), (0, v6), (0, v6)]) (by decide +kernel : am_at co_X11_fits 103 = some (2, .istore 5)) rfl ?_
        obtain ⟨o9, h⟩ := h
        refine x_iinc (L' := [(2, 0), (0, v1), (0, v2), (0, v3 + 1), (0, v4), (0, v6), (0, v6 + 1)]) (by decide +kernel : am_at co_X11_fits 105 = some (3, .iinc 6 1)) rfl o9 rfl ?_
        refine x_goto (tgt := 41) (by decide +kernel : am_at co_X11_fits 108 = some (3, .goto (-67))) rfl ?_
        exact am_weak (lk (lk (lk (lk (lk (lk (lk ln))))))) h
      · have c8 := (Classical.not_not.mp c8)
        have h := h.2 c8
        refine x_iload (by decide +kernel : am_at co_X11_fits 92 = some (2, .iload 6)) rfl ?_
        refine x_goto (tgt := 99) (by decide +kernel : am_at co_X11_fits 94 = some (3, .goto 5)) rfl ?_
        refine x_istore (L' := [(2, 0), (0, v1), (0, v2), (0, v3 + 1), (0, v6), (0, v5), (0, v6)]) (by decide +kernel : am_at co_X11_fits 99 = some (2, .istore 4)) rfl ?_
        refine x_iload (by decide +kernel : am_at co_X11_fits 101 = some (2, .iload 6)) rfl ?_
        refine x_istore (L' := [(2, 0), (0, v1), (0, v2), (0, v3 + 1), (0, v6), (0, v6), (0, v6)]) (by decide +kernel : am_at co_X11_fits 103 = some (2, .istore 5)) rfl ?_
        obtain ⟨o10, h⟩ := h
        refine x_iinc (L' := [(2, 0), (0, v1), (0, v2), (0, v3 + 1), (0, v6), (0, v6), (0, v6 + 1)]) (by decide +kernel : am_at co_X11_fits 105 = some (3, .iinc 6 1)) rfl o10 rfl ?_
        refine x_goto (tgt := 41) (by decide +kernel : am_at co_X11_fits 108 = some (3, .goto (-67))) rfl ?_
        exact am_weak (lk (lk (lk (lk (lk (lk (lk ln))))))) h
set_option maxRecDepth 20000 in
theorem bk_X11_ask_0 {d : Nat} {Q : am_Q} {M : am_M} {v1 : Int} (h : am_cal pg d 161 [(2, 0), (0, v1)] sh_T M (am_c0 sh_T fun x1 M1 => ((¬ x1 = 0 → am_cal pg d 53 [(2, 5)] sh_T M1 (am_c0 sh_T fun x3 M3 => am_cal pg d 91 [(2, 1)] sh_T M3 (am_cv sh_T fun M4 => ((¬ x3 = 0 → (0 ≤ v1 ∧ v1 < 4) ∧ am_cal pg d 5 [(2, 88), (2, M4 0 4), (2, 37 + 1 + 2 * v1)] sh_T M4 (am_cv sh_T fun M7 => am_cal pg d 57 [(2, 5), (2, 88)] sh_T M7 (am_c1 sh_T fun x8 M8 => Q (some (1, x8), sh_T, M8)))) ∧ (x3 = 0 → Q (some (1, (-1000000000000000)), sh_T, M4)))))) ∧ (x1 = 0 → am_cal pg d 91 [(2, 1)] sh_T M1 (am_cv sh_T fun M9 => Q (some (1, (-1000000000000000)), sh_T, M9)))))) : am_g 11 1 co_X11_ask d Q 0 [(2, 0), (0, v1), (3, 0)] [] sh_T M := by
  refine x_aload_n (by decide +kernel : am_at co_X11_ask 0 = some (1, .aload_n 0)) rfl ?_
  refine x_iload_n (by decide +kernel : am_at co_X11_ask 1 = some (1, .iload_n 1)) rfl ?_
  refine x_callV (n := 2) (by decide +kernel : am_at co_X11_ask 2 = some (3, .invokevirtual 170)) pq_11_170 pm_X11_isDreamer rfl rfl rfl ob_0 h (x_k0 fun x1 M1 h => ?_)
  refine x_if (tgt := 19) (by decide +kernel : am_at co_X11_ask 5 = some (3, .ifCond .ne 14)) rfl Iff.rfl (fun c1 => ?_) (fun c1 => ?_)
  · have h := h.1 c1
    refine x_aload_n (by decide +kernel : am_at co_X11_ask 19 = some (1, .aload_n 0)) rfl ?_
    refine x_getF (by decide +kernel : am_at co_X11_ask 20 = some (3, .getfield 37)) pq_11_37 (by decide) rfl ob_0 ?_
    refine x_top2 (show 0 + 5 = 5 from rfl) ?_
    refine x_callV (n := 1) (by decide +kernel : am_at co_X11_ask 23 = some (3, .invokevirtual 316)) pq_11_316 pm_X5_read rfl rfl rfl ob_5 h (x_k0 fun x3 M3 h => ?_)
    refine x_istore_n (L' := [(2, 0), (0, v1), (0, x3)]) (by decide +kernel : am_at co_X11_ask 26 = some (1, .istore_n 2)) rfl ?_
    refine x_aload_n (by decide +kernel : am_at co_X11_ask 27 = some (1, .aload_n 0)) rfl ?_
    refine x_getF (by decide +kernel : am_at co_X11_ask 28 = some (3, .getfield 10)) pq_11_10 (by decide) rfl ob_0 ?_
    refine x_top2 (show 0 + 1 = 1 from rfl) ?_
    refine x_callV (n := 1) (by decide +kernel : am_at co_X11_ask 31 = some (3, .invokevirtual 125)) pq_11_125 pm_X9_wipe rfl rfl rfl ob_1 h (x_kv fun M4 h => ?_)
    refine x_iload_n (by decide +kernel : am_at co_X11_ask 34 = some (1, .iload_n 2)) rfl ?_
    refine x_if (tgt := 42) (by decide +kernel : am_at co_X11_ask 35 = some (3, .ifCond .ne 7)) rfl Iff.rfl (fun c4 => ?_) (fun c4 => ?_)
    · have h := h.1 c4
      refine x_aload_n (by decide +kernel : am_at co_X11_ask 42 = some (1, .aload_n 0)) rfl ?_
      refine x_getF (by decide +kernel : am_at co_X11_ask 43 = some (3, .getfield 69)) pq_11_69 (by decide) rfl ob_0 ?_
      refine x_top2 (show 0 + 88 = 88 from rfl) ?_
      refine x_aload_n (by decide +kernel : am_at co_X11_ask 46 = some (1, .aload_n 0)) rfl ?_
      refine x_getf (by decide +kernel : am_at co_X11_ask 47 = some (3, .getfield 44)) pq_11_44 rfl ob_0 ?_
      refine x_aload_n (by decide +kernel : am_at co_X11_ask 50 = some (1, .aload_n 0)) rfl ?_
      refine x_getF (by decide +kernel : am_at co_X11_ask 51 = some (3, .getfield 55)) pq_11_55 (by decide) rfl ob_0 ?_
      refine x_top2 (show 0 + 37 = 37 from rfl) ?_
      refine x_iload_n (by decide +kernel : am_at co_X11_ask 54 = some (1, .iload_n 1)) rfl ?_
      obtain ⟨o5, h⟩ := h
      refine x_aald (by decide +kernel : am_at co_X11_ask 55 = some (1, .aaload)) (ia_37 o5.1 o5.2) ?_
      refine x_callV (n := 3) (by decide +kernel : am_at co_X11_ask 56 = some (3, .invokevirtual 215)) pq_11_215 pm_X1_go rfl rfl rfl ob_88 h (x_kv fun M7 h => ?_)
      refine x_aload_n (by decide +kernel : am_at co_X11_ask 59 = some (1, .aload_n 0)) rfl ?_
      refine x_getF (by decide +kernel : am_at co_X11_ask 60 = some (3, .getfield 37)) pq_11_37 (by decide) rfl ob_0 ?_
      refine x_top2 (show 0 + 5 = 5 from rfl) ?_
      refine x_aload_n (by decide +kernel : am_at co_X11_ask 63 = some (1, .aload_n 0)) rfl ?_
      refine x_getF (by decide +kernel : am_at co_X11_ask 64 = some (3, .getfield 69)) pq_11_69 (by decide) rfl ob_0 ?_
      refine x_top2 (show 0 + 88 = 88 from rfl) ?_
      refine x_callV (n := 2) (by decide +kernel : am_at co_X11_ask 67 = some (3, .invokevirtual 319)) pq_11_319 pm_X5_answer rfl rfl rfl ob_5 h (x_k1 fun x8 M8 h => ?_)
      exact x_lret (by decide +kernel : am_at co_X11_ask 70 = some (1, .lreturn)) h
    · have c4 := (Classical.not_not.mp c4)
      have h := h.2 c4
      refine x_ldc2 (by decide +kernel : am_at co_X11_ask 38 = some (3, .ldc2_w 314)) pq_11_314 ?_
      exact x_lret (by decide +kernel : am_at co_X11_ask 41 = some (1, .lreturn)) h
  · have c1 := (Classical.not_not.mp c1)
    have h := h.2 c1
    refine x_aload_n (by decide +kernel : am_at co_X11_ask 8 = some (1, .aload_n 0)) rfl ?_
    refine x_getF (by decide +kernel : am_at co_X11_ask 9 = some (3, .getfield 10)) pq_11_10 (by decide) rfl ob_0 ?_
    refine x_top2 (show 0 + 1 = 1 from rfl) ?_
    refine x_callV (n := 1) (by decide +kernel : am_at co_X11_ask 12 = some (3, .invokevirtual 125)) pq_11_125 pm_X9_wipe rfl rfl rfl ob_1 h (x_kv fun M9 h => ?_)
    refine x_ldc2 (by decide +kernel : am_at co_X11_ask 15 = some (3, .ldc2_w 314)) pq_11_314 ?_
    exact x_lret (by decide +kernel : am_at co_X11_ask 18 = some (1, .lreturn)) h
set_option maxRecDepth 20000 in
theorem bk_X11_image_0 {d : Nat} {Q : am_Q} {M : am_M} (h : am_g 11 0 co_X11_image d Q 7 [(2, 0), (0, 0), (3, 0), (3, 0)] [] sh_T (am_up M 0 15 0)) : am_g 11 0 co_X11_image d Q 0 [(2, 0), (3, 0), (3, 0), (3, 0)] [] sh_T M := by
  refine x_aload_n (by decide +kernel : am_at co_X11_image 0 = some (1, .aload_n 0)) rfl ?_
  refine x_iconst (by decide +kernel : am_at co_X11_image 1 = some (1, .iconst 0)) ?_
  refine x_putf0 (by decide +kernel : am_at co_X11_image 2 = some (3, .putfield 101)) pq_11_101 rfl ob_0 ?_
  refine x_iconst (by decide +kernel : am_at co_X11_image 5 = some (1, .iconst 0)) ?_
  refine x_istore_n (L' := [(2, 0), (0, 0), (3, 0), (3, 0)]) (by decide +kernel : am_at co_X11_image 6 = some (1, .istore_n 1)) rfl ?_
  exact am_weak (lk (lk (lk (lk ln)))) h
set_option maxRecDepth 20000 in
theorem bk_X11_image_7 {d : Nat} {Q : am_Q} {M : am_M} {v1 : Int} (h : am_ob sh_T 2 (M 0 4) ∧ am_cal pg d 14 [(2, M 0 4), (0, 1)] sh_T M (am_c0 sh_T fun x2 M2 => ((x2 ≤ v1 → am_g 11 0 co_X11_image d Q 103 [(2, 0), (0, 181), (0, 0), (3, 0)] [] sh_T M2) ∧ (v1 < x2 → ((4 ≤ v1 → am_g 11 0 co_X11_image d Q 103 [(2, 0), (0, 181), (0, 0), (3, 0)] [] sh_T M2) ∧ (v1 < 4 → (0 ≤ v1 ∧ v1 < 4) ∧ am_ob sh_T 7 (37 + 1 + 2 * v1) ∧ am_r ((M2 (37 + 1 + 2 * v1) 2) + 1) ∧ am_cal pg d 165 [(2, 0), (0, (M2 (37 + 1 + 2 * v1) 2) + 1)] sh_T M2 (am_cv sh_T fun M8 => am_g 11 0 co_X11_image d Q 45 [(2, 0), (0, v1), (0, 0), (3, 0)] [] sh_T M8))))))) : am_g 11 0 co_X11_image d Q 7 [(2, 0), (0, v1), (3, 0), (3, 0)] [] sh_T M := by
  refine x_iload_n (by decide +kernel : am_at co_X11_image 7 = some (1, .iload_n 1)) rfl ?_
  refine x_aload_n (by decide +kernel : am_at co_X11_image 8 = some (1, .aload_n 0)) rfl ?_
  refine x_getf (by decide +kernel : am_at co_X11_image 9 = some (3, .getfield 44)) pq_11_44 rfl ob_0 ?_
  refine x_iconst (by decide +kernel : am_at co_X11_image 12 = some (1, .iconst 1)) ?_
  obtain ⟨o0, h⟩ := h
  refine x_callV (n := 2) (by decide +kernel : am_at co_X11_image 13 = some (3, .invokevirtual 141)) pq_11_141 pm_X2_count rfl rfl rfl o0 h (x_k0 fun x2 M2 h => ?_)
  refine x_icmp (tgt := 97) (by decide +kernel : am_at co_X11_image 16 = some (3, .if_icmp .ge 81)) rfl Iff.rfl (fun c2 => ?_) (fun c2 => ?_)
  · have h := h.1 c2
    refine x_sipush (by decide +kernel : am_at co_X11_image 97 = some (3, .sipush 181)) ?_
    refine x_istore_n (L' := [(2, 0), (0, 181), (3, 0), (3, 0)]) (by decide +kernel : am_at co_X11_image 100 = some (1, .istore_n 1)) rfl ?_
    refine x_iconst (by decide +kernel : am_at co_X11_image 101 = some (1, .iconst 0)) ?_
    refine x_istore_n (L' := [(2, 0), (0, 181), (0, 0), (3, 0)]) (by decide +kernel : am_at co_X11_image 102 = some (1, .istore_n 2)) rfl ?_
    exact am_weak (lk (lk (lk (lk ln)))) h
  · have c2 := (Int.not_le.mp c2)
    have h := h.2 c2
    refine x_iload_n (by decide +kernel : am_at co_X11_image 19 = some (1, .iload_n 1)) rfl ?_
    refine x_aload_n (by decide +kernel : am_at co_X11_image 20 = some (1, .aload_n 0)) rfl ?_
    refine x_getF (by decide +kernel : am_at co_X11_image 21 = some (3, .getfield 55)) pq_11_55 (by decide) rfl ob_0 ?_
    refine x_top2 (show 0 + 37 = 37 from rfl) ?_
    refine x_alen (by decide +kernel : am_at co_X11_image 24 = some (1, .arraylength)) (n := 4) rfl ?_
    refine x_top0 (show ((4 : Nat) : Int) = 4 from rfl) ?_
    refine x_icmp (tgt := 97) (by decide +kernel : am_at co_X11_image 25 = some (3, .if_icmp .ge 72)) rfl Iff.rfl (fun c3 => ?_) (fun c3 => ?_)
    · have h := h.1 c3
      refine x_sipush (by decide +kernel : am_at co_X11_image 97 = some (3, .sipush 181)) ?_
      refine x_istore_n (L' := [(2, 0), (0, 181), (3, 0), (3, 0)]) (by decide +kernel : am_at co_X11_image 100 = some (1, .istore_n 1)) rfl ?_
      refine x_iconst (by decide +kernel : am_at co_X11_image 101 = some (1, .iconst 0)) ?_
      refine x_istore_n (L' := [(2, 0), (0, 181), (0, 0), (3, 0)]) (by decide +kernel : am_at co_X11_image 102 = some (1, .istore_n 2)) rfl ?_
      exact am_weak (lk (lk (lk (lk ln)))) h
    · have c3 := (Int.not_le.mp c3)
      have h := h.2 c3
      refine x_aload_n (by decide +kernel : am_at co_X11_image 28 = some (1, .aload_n 0)) rfl ?_
      refine x_aload_n (by decide +kernel : am_at co_X11_image 29 = some (1, .aload_n 0)) rfl ?_
      refine x_getF (by decide +kernel : am_at co_X11_image 30 = some (3, .getfield 55)) pq_11_55 (by decide) rfl ob_0 ?_
      refine x_top2 (show 0 + 37 = 37 from rfl) ?_
      refine x_iload_n (by decide +kernel : am_at co_X11_image 33 = some (1, .iload_n 1)) rfl ?_
      obtain ⟨o4, h⟩ := h
      refine x_aald (by decide +kernel : am_at co_X11_image 34 = some (1, .aaload)) (ia_37 o4.1 o4.2) ?_
      obtain ⟨o5, h⟩ := h
      refine x_getf (by decide +kernel : am_at co_X11_image 35 = some (3, .getfield 177)) pq_11_177 rfl o5 ?_
      refine x_iconst (by decide +kernel : am_at co_X11_image 38 = some (1, .iconst 1)) ?_
      obtain ⟨o6, h⟩ := h
      refine x_iadd (by decide +kernel : am_at co_X11_image 39 = some (1, .iadd)) o6 ?_
      refine x_callV (n := 2) (by decide +kernel : am_at co_X11_image 40 = some (3, .invokevirtual 323)) pq_11_323 pm_X11_paint rfl rfl rfl ob_0 h (x_kv fun M8 h => ?_)
      refine x_iconst (by decide +kernel : am_at co_X11_image 43 = some (1, .iconst 0)) ?_
      refine x_istore_n (L' := [(2, 0), (0, v1), (0, 0), (3, 0)]) (by decide +kernel : am_at co_X11_image 44 = some (1, .istore_n 2)) rfl ?_
      exact am_weak (lk (lk (lk (lk ln)))) h
set_option maxRecDepth 20000 in
theorem bk_X11_image_45 {d : Nat} {Q : am_Q} {M : am_M} {v1 v2 : Int} (h : am_ob sh_T 2 (M 0 4) ∧ am_cal pg d 14 [(2, M 0 4), (0, 0)] sh_T M (am_c0 sh_T fun x2 M2 => ((x2 ≤ v2 → am_r (v1 + 1) ∧ am_g 11 0 co_X11_image d Q 7 [(2, 0), (0, v1 + 1), (3, 0), (3, 0)] [] sh_T M2) ∧ (v2 < x2 → (0 ≤ v1 ∧ v1 < 4) ∧ am_ob sh_T 7 (37 + 1 + 2 * v1) ∧ am_cal pg d 72 [(2, 37 + 1 + 2 * v1), (0, v2)] sh_T M2 (am_c0 sh_T fun x7 M7 => am_cal pg d 165 [(2, 0), (0, am_shr x7 8)] sh_T M7 (am_cv sh_T fun M8 => am_cal pg d 165 [(2, 0), (0, am_band x7 255)] sh_T M8 (am_cv sh_T fun M9 => am_r (v2 + 1) ∧ am_g 11 0 co_X11_image d Q 45 [(2, 0), (0, v1), (0, v2 + 1), (3, 0)] [] sh_T M9))))))) : am_g 11 0 co_X11_image d Q 45 [(2, 0), (0, v1), (0, v2), (3, 0)] [] sh_T M := by
  refine x_iload_n (by decide +kernel : am_at co_X11_image 45 = some (1, .iload_n 2)) rfl ?_
  refine x_aload_n (by decide +kernel : am_at co_X11_image 46 = some (1, .aload_n 0)) rfl ?_
  refine x_getf (by decide +kernel : am_at co_X11_image 47 = some (3, .getfield 44)) pq_11_44 rfl ob_0 ?_
  refine x_iconst (by decide +kernel : am_at co_X11_image 50 = some (1, .iconst 0)) ?_
  obtain ⟨o0, h⟩ := h
  refine x_callV (n := 2) (by decide +kernel : am_at co_X11_image 51 = some (3, .invokevirtual 141)) pq_11_141 pm_X2_count rfl rfl rfl o0 h (x_k0 fun x2 M2 h => ?_)
  refine x_icmp (tgt := 91) (by decide +kernel : am_at co_X11_image 54 = some (3, .if_icmp .ge 37)) rfl Iff.rfl (fun c2 => ?_) (fun c2 => ?_)
  · have h := h.1 c2
    obtain ⟨o3, h⟩ := h
    refine x_iinc (L' := [(2, 0), (0, v1 + 1), (0, v2), (3, 0)]) (by decide +kernel : am_at co_X11_image 91 = some (3, .iinc 1 1)) rfl o3 rfl ?_
    refine x_goto (tgt := 7) (by decide +kernel : am_at co_X11_image 94 = some (3, .goto (-87))) rfl ?_
    exact am_weak (lk (lk (ld (lk ln)))) h
  · have c2 := (Int.not_le.mp c2)
    have h := h.2 c2
    refine x_aload_n (by decide +kernel : am_at co_X11_image 57 = some (1, .aload_n 0)) rfl ?_
    refine x_getF (by decide +kernel : am_at co_X11_image 58 = some (3, .getfield 55)) pq_11_55 (by decide) rfl ob_0 ?_
    refine x_top2 (show 0 + 37 = 37 from rfl) ?_
    refine x_iload_n (by decide +kernel : am_at co_X11_image 61 = some (1, .iload_n 1)) rfl ?_
    obtain ⟨o4, h⟩ := h
    refine x_aald (by decide +kernel : am_at co_X11_image 62 = some (1, .aaload)) (ia_37 o4.1 o4.2) ?_
    refine x_iload_n (by decide +kernel : am_at co_X11_image 63 = some (1, .iload_n 2)) rfl ?_
    obtain ⟨o5, h⟩ := h
    refine x_callV (n := 2) (by decide +kernel : am_at co_X11_image 64 = some (3, .invokevirtual 202)) pq_11_202 pm_X7_at rfl rfl rfl o5 h (x_k0 fun x7 M7 h => ?_)
    refine x_istore_n (L' := [(2, 0), (0, v1), (0, v2), (0, x7)]) (by decide +kernel : am_at co_X11_image 67 = some (1, .istore_n 3)) rfl ?_
    refine x_aload_n (by decide +kernel : am_at co_X11_image 68 = some (1, .aload_n 0)) rfl ?_
    refine x_iload_n (by decide +kernel : am_at co_X11_image 69 = some (1, .iload_n 3)) rfl ?_
    refine x_bipush (by decide +kernel : am_at co_X11_image 70 = some (2, .bipush 8)) ?_
    refine x_ishr (by decide +kernel : am_at co_X11_image 72 = some (1, .ishr)) ?_
    refine x_callV (n := 2) (by decide +kernel : am_at co_X11_image 73 = some (3, .invokevirtual 323)) pq_11_323 pm_X11_paint rfl rfl rfl ob_0 h (x_kv fun M8 h => ?_)
    refine x_aload_n (by decide +kernel : am_at co_X11_image 76 = some (1, .aload_n 0)) rfl ?_
    refine x_iload_n (by decide +kernel : am_at co_X11_image 77 = some (1, .iload_n 3)) rfl ?_
    refine x_sipush (by decide +kernel : am_at co_X11_image 78 = some (3, .sipush 255)) ?_
    refine x_iand (by decide +kernel : am_at co_X11_image 81 = some (1, .iand)) ?_
    refine x_callV (n := 2) (by decide +kernel : am_at co_X11_image 82 = some (3, .invokevirtual 323)) pq_11_323 pm_X11_paint rfl rfl rfl ob_0 h (x_kv fun M9 h => ?_)
    obtain ⟨o9, h⟩ := h
    refine x_iinc (L' := [(2, 0), (0, v1), (0, v2 + 1), (0, x7)]) (by decide +kernel : am_at co_X11_image 85 = some (3, .iinc 2 1)) rfl o9 rfl ?_
    refine x_goto (tgt := 45) (by decide +kernel : am_at co_X11_image 88 = some (3, .goto (-43))) rfl ?_
    exact am_weak (lk (lk (lk (ld ln)))) h
set_option maxRecDepth 20000 in
theorem bk_X11_image_103 {d : Nat} {Q : am_Q} {M : am_M} {v1 v2 : Int} (h : ((M 0 15 ≤ v2 → am_cal pg d 165 [(2, 0), (0, v1)] sh_T M (am_cv sh_T fun M2 => Q (some (0, M2 0 15), sh_T, M2))) ∧ (v2 < M 0 15 → ((53 ≤ v2 → am_cal pg d 165 [(2, 0), (0, v1)] sh_T M (am_cv sh_T fun M4 => Q (some (0, M4 0 15), sh_T, M4))) ∧ (v2 < 53 → am_r (3 * v1) ∧ (0 ≤ v2 ∧ v2 < 53) ∧ am_r ((3 * v1) + (M 150 v2)) ∧ am_r (v2 + 1) ∧ am_g 11 0 co_X11_image d Q 103 [(2, 0), (0, ((3 * v1) + (M 150 v2)).tmod 251), (0, v2 + 1), (3, 0)] [] sh_T M))))) : am_g 11 0 co_X11_image d Q 103 [(2, 0), (0, v1), (0, v2), (3, 0)] [] sh_T M := by
  refine x_iload_n (by decide +kernel : am_at co_X11_image 103 = some (1, .iload_n 2)) rfl ?_
  refine x_aload_n (by decide +kernel : am_at co_X11_image 104 = some (1, .aload_n 0)) rfl ?_
  refine x_getf (by decide +kernel : am_at co_X11_image 105 = some (3, .getfield 101)) pq_11_101 rfl ob_0 ?_
  refine x_icmp (tgt := 138) (by decide +kernel : am_at co_X11_image 108 = some (3, .if_icmp .ge 30)) rfl Iff.rfl (fun c0 => ?_) (fun c0 => ?_)
  · have h := h.1 c0
    refine x_aload_n (by decide +kernel : am_at co_X11_image 138 = some (1, .aload_n 0)) rfl ?_
    refine x_iload_n (by decide +kernel : am_at co_X11_image 139 = some (1, .iload_n 1)) rfl ?_
    refine x_callV (n := 2) (by decide +kernel : am_at co_X11_image 140 = some (3, .invokevirtual 323)) pq_11_323 pm_X11_paint rfl rfl rfl ob_0 h (x_kv fun M2 h => ?_)
    refine x_aload_n (by decide +kernel : am_at co_X11_image 143 = some (1, .aload_n 0)) rfl ?_
    refine x_getf (by decide +kernel : am_at co_X11_image 144 = some (3, .getfield 101)) pq_11_101 rfl ob_0 ?_
    exact x_iret (by decide +kernel : am_at co_X11_image 147 = some (1, .ireturn)) h
  · have c0 := (Int.not_le.mp c0)
    have h := h.2 c0
    refine x_iload_n (by decide +kernel : am_at co_X11_image 111 = some (1, .iload_n 2)) rfl ?_
    refine x_bipush (by decide +kernel : am_at co_X11_image 112 = some (2, .bipush 53)) ?_
    refine x_icmp (tgt := 138) (by decide +kernel : am_at co_X11_image 114 = some (3, .if_icmp .ge 24)) rfl Iff.rfl (fun c2 => ?_) (fun c2 => ?_)
    · have h := h.1 c2
      refine x_aload_n (by decide +kernel : am_at co_X11_image 138 = some (1, .aload_n 0)) rfl ?_
      refine x_iload_n (by decide +kernel : am_at co_X11_image 139 = some (1, .iload_n 1)) rfl ?_
      refine x_callV (n := 2) (by decide +kernel : am_at co_X11_image 140 = some (3, .invokevirtual 323)) pq_11_323 pm_X11_paint rfl rfl rfl ob_0 h (x_kv fun M4 h => ?_)
      refine x_aload_n (by decide +kernel : am_at co_X11_image 143 = some (1, .aload_n 0)) rfl ?_
      refine x_getf (by decide +kernel : am_at co_X11_image 144 = some (3, .getfield 101)) pq_11_101 rfl ob_0 ?_
      exact x_iret (by decide +kernel : am_at co_X11_image 147 = some (1, .ireturn)) h
    · have c2 := (Int.not_le.mp c2)
      have h := h.2 c2
      refine x_iconst (by decide +kernel : am_at co_X11_image 117 = some (1, .iconst 3)) ?_
      refine x_iload_n (by decide +kernel : am_at co_X11_image 118 = some (1, .iload_n 1)) rfl ?_
      obtain ⟨o4, h⟩ := h
      refine x_imul (by decide +kernel : am_at co_X11_image 119 = some (1, .imul)) o4 ?_
      refine x_aload_n (by decide +kernel : am_at co_X11_image 120 = some (1, .aload_n 0)) rfl ?_
      refine x_getF (by decide +kernel : am_at co_X11_image 121 = some (3, .getfield 98)) pq_11_98 (by decide) rfl ob_0 ?_
      refine x_top2 (show 0 + 150 = 150 from rfl) ?_
      refine x_iload_n (by decide +kernel : am_at co_X11_image 124 = some (1, .iload_n 2)) rfl ?_
      obtain ⟨o5, h⟩ := h
      refine x_iald (by decide +kernel : am_at co_X11_image 125 = some (1, .iaload)) (ia_150 o5.1 o5.2) ?_
      obtain ⟨o6, h⟩ := h
      refine x_iadd (by decide +kernel : am_at co_X11_image 126 = some (1, .iadd)) o6 ?_
      refine x_sipush (by decide +kernel : am_at co_X11_image 127 = some (3, .sipush 251)) ?_
      refine x_irem (by decide +kernel : am_at co_X11_image 130 = some (1, .irem)) (by decide) ?_
      refine x_istore_n (L' := [(2, 0), (0, ((3 * v1) + (M 150 v2)).tmod 251), (0, v2), (3, 0)]) (by decide +kernel : am_at co_X11_image 131 = some (1, .istore_n 1)) rfl ?_
      obtain ⟨o7, h⟩ := h
      refine x_iinc (L' := [(2, 0), (0, ((3 * v1) + (M 150 v2)).tmod 251), (0, v2 + 1), (3, 0)]) (by decide +kernel : am_at co_X11_image 132 = some (3, .iinc 2 1)) rfl o7 rfl ?_
      refine x_goto (tgt := 103) (by decide +kernel : am_at co_X11_image 135 = some (3, .goto (-32))) rfl ?_
      exact am_weak (lk (lk (lk (lk ln)))) h
set_option maxRecDepth 20000 in
theorem bk_X11_octet_0 {d : Nat} {Q : am_Q} {M : am_M} {v1 : Int} (h : ((v1 < 0 → Q (some (0, (-1)), sh_T, M)) ∧ (0 ≤ v1 → ((M 0 15 ≤ v1 → Q (some (0, (-1)), sh_T, M)) ∧ (v1 < M 0 15 → ((53 ≤ v1 → Q (some (0, (-1)), sh_T, M)) ∧ (v1 < 53 → (0 ≤ v1 ∧ v1 < 53) ∧ Q (some (0, M 150 v1), sh_T, M)))))))) : am_g 11 0 co_X11_octet d Q 0 [(2, 0), (0, v1)] [] sh_T M := by
  refine x_iload_n (by decide +kernel : am_at co_X11_octet 0 = some (1, .iload_n 1)) rfl ?_
  refine x_if (tgt := 27) (by decide +kernel : am_at co_X11_octet 1 = some (3, .ifCond .lt 26)) rfl Iff.rfl (fun c0 => ?_) (fun c0 => ?_)
  · have h := h.1 c0
    refine x_iconst (by decide +kernel : am_at co_X11_octet 27 = some (1, .iconst (-1))) ?_
    exact x_iret (by decide +kernel : am_at co_X11_octet 28 = some (1, .ireturn)) h
  · have c0 := (Int.not_lt.mp c0)
    have h := h.2 c0
    refine x_iload_n (by decide +kernel : am_at co_X11_octet 4 = some (1, .iload_n 1)) rfl ?_
    refine x_aload_n (by decide +kernel : am_at co_X11_octet 5 = some (1, .aload_n 0)) rfl ?_
    refine x_getf (by decide +kernel : am_at co_X11_octet 6 = some (3, .getfield 101)) pq_11_101 rfl ob_0 ?_
    refine x_icmp (tgt := 27) (by decide +kernel : am_at co_X11_octet 9 = some (3, .if_icmp .ge 18)) rfl Iff.rfl (fun c1 => ?_) (fun c1 => ?_)
    · have h := h.1 c1
      refine x_iconst (by decide +kernel : am_at co_X11_octet 27 = some (1, .iconst (-1))) ?_
      exact x_iret (by decide +kernel : am_at co_X11_octet 28 = some (1, .ireturn)) h
    · have c1 := (Int.not_le.mp c1)
      have h := h.2 c1
      refine x_iload_n (by decide +kernel : am_at co_X11_octet 12 = some (1, .iload_n 1)) rfl ?_
      refine x_bipush (by decide +kernel : am_at co_X11_octet 13 = some (2, .bipush 53)) ?_
      refine x_icmp (tgt := 27) (by decide +kernel : am_at co_X11_octet 15 = some (3, .if_icmp .ge 12)) rfl Iff.rfl (fun c2 => ?_) (fun c2 => ?_)
      · have h := h.1 c2
        refine x_iconst (by decide +kernel : am_at co_X11_octet 27 = some (1, .iconst (-1))) ?_
        exact x_iret (by decide +kernel : am_at co_X11_octet 28 = some (1, .ireturn)) h
      · have c2 := (Int.not_le.mp c2)
        have h := h.2 c2
        refine x_aload_n (by decide +kernel : am_at co_X11_octet 18 = some (1, .aload_n 0)) rfl ?_
        refine x_getF (by decide +kernel : am_at co_X11_octet 19 = some (3, .getfield 98)) pq_11_98 (by decide) rfl ob_0 ?_
        refine x_top2 (show 0 + 150 = 150 from rfl) ?_
        refine x_iload_n (by decide +kernel : am_at co_X11_octet 22 = some (1, .iload_n 1)) rfl ?_
        obtain ⟨o3, h⟩ := h
        refine x_iald (by decide +kernel : am_at co_X11_octet 23 = some (1, .iaload)) (ia_150 o3.1 o3.2) ?_
        refine x_goto (tgt := 28) (by decide +kernel : am_at co_X11_octet 24 = some (3, .goto 4)) rfl ?_
        exact x_iret (by decide +kernel : am_at co_X11_octet 28 = some (1, .ireturn)) h
set_option maxRecDepth 20000 in
theorem bk_X11_on_0 {d : Nat} {Q : am_Q} {M : am_M} (h : am_cal pg d 166 [(2, 0)] sh_T M (am_c0 sh_T fun x1 M1 => ((x1 = 0 → am_cal pg d 160 [(2, 0), (0, 5)] sh_T M1 (am_c0 sh_T fun x3 M3 => am_cal pg d 91 [(2, 1)] sh_T M3 (am_cv sh_T fun M4 => (x1 = 0 ∨ x1 = 1) ∧ Q (some (0, x1), sh_T, M4)))) ∧ (¬ x1 = 0 → am_g 11 5 co_X11_on d Q 13 [(2, 0), (0, x1), (0, 0), (0, 0), (3, 0)] [] sh_T M1)))) : am_g 11 5 co_X11_on d Q 0 [(2, 0), (3, 0), (3, 0), (3, 0), (3, 0)] [] sh_T M := by
  refine x_aload_n (by decide +kernel : am_at co_X11_on 0 = some (1, .aload_n 0)) rfl ?_
  refine x_callV (n := 1) (by decide +kernel : am_at co_X11_on 1 = some (3, .invokevirtual 326)) pq_11_326 pm_X11_isPicture rfl rfl rfl ob_0 h (x_k0 fun x1 M1 h => ?_)
  refine x_istore_n (L' := [(2, 0), (0, x1), (3, 0), (3, 0), (3, 0)]) (by decide +kernel : am_at co_X11_on 4 = some (1, .istore_n 1)) rfl ?_
  refine x_iload_n (by decide +kernel : am_at co_X11_on 5 = some (1, .iload_n 1)) rfl ?_
  refine x_if (tgt := 116) (by decide +kernel : am_at co_X11_on 6 = some (3, .ifCond .eq 110)) rfl Iff.rfl (fun c1 => ?_) (fun c1 => ?_)
  · have h := h.1 c1
    refine x_aload_n (by decide +kernel : am_at co_X11_on 116 = some (1, .aload_n 0)) rfl ?_
    refine x_iconst (by decide +kernel : am_at co_X11_on 117 = some (1, .iconst 5)) ?_
    refine x_callV (n := 2) (by decide +kernel : am_at co_X11_on 118 = some (3, .invokevirtual 113)) pq_11_113 pm_X11_refuse rfl rfl rfl ob_0 h (x_k0 fun x3 M3 h => ?_)
    refine x_pop0 (by decide +kernel : am_at co_X11_on 121 = some (1, .pop)) ?_
    refine x_aload_n (by decide +kernel : am_at co_X11_on 122 = some (1, .aload_n 0)) rfl ?_
    refine x_getF (by decide +kernel : am_at co_X11_on 123 = some (3, .getfield 10)) pq_11_10 (by decide) rfl ob_0 ?_
    refine x_top2 (show 0 + 1 = 1 from rfl) ?_
    refine x_callV (n := 1) (by decide +kernel : am_at co_X11_on 126 = some (3, .invokevirtual 125)) pq_11_125 pm_X9_wipe rfl rfl rfl ob_1 h (x_kv fun M4 h => ?_)
    refine x_iload_n (by decide +kernel : am_at co_X11_on 129 = some (1, .iload_n 1)) rfl ?_
    exact x_zret (by decide +kernel : am_at co_X11_on 130 = some (1, .ireturn)) h.1 h.2
  · have c1 := c1
    have h := h.2 c1
    refine x_iconst (by decide +kernel : am_at co_X11_on 9 = some (1, .iconst 0)) ?_
    refine x_istore_n (L' := [(2, 0), (0, x1), (0, 0), (3, 0), (3, 0)]) (by decide +kernel : am_at co_X11_on 10 = some (1, .istore_n 2)) rfl ?_
    refine x_iconst (by decide +kernel : am_at co_X11_on 11 = some (1, .iconst 0)) ?_
    refine x_istore_n (L' := [(2, 0), (0, x1), (0, 0), (0, 0), (3, 0)]) (by decide +kernel : am_at co_X11_on 12 = some (1, .istore_n 3)) rfl ?_
    exact am_weak (lk (lk (lk (lk (lk ln))))) h
set_option maxRecDepth 20000 in
theorem bk_X11_on_13 {d : Nat} {Q : am_Q} {M : am_M} {v1 v2 v3 : Int} (h : am_ob sh_T 2 (M 0 4) ∧ am_cal pg d 14 [(2, M 0 4), (0, 1)] sh_T M (am_c0 sh_T fun x2 M2 => ((x2 ≤ v3 → am_cal pg d 1 [(2, 46)] sh_T M2 (am_cv sh_T fun M4 => am_cal pg d 91 [(2, 1)] sh_T M4 (am_cv sh_T fun M5 => (v1 = 0 ∨ v1 = 1) ∧ Q (some (0, v1), sh_T, M5)))) ∧ (v3 < x2 → ((4 ≤ v3 → am_cal pg d 1 [(2, 46)] sh_T M2 (am_cv sh_T fun M7 => am_cal pg d 91 [(2, 1)] sh_T M7 (am_cv sh_T fun M8 => (v1 = 0 ∨ v1 = 1) ∧ Q (some (0, v1), sh_T, M8)))) ∧ (v3 < 4 → (0 ≤ v3 ∧ v3 < 4) ∧ am_cal pg d 92 [(2, 1), (0, v2)] sh_T M2 (am_c0 sh_T fun x10 M10 => am_r (x10 - 1) ∧ am_ob sh_T 7 (37 + 1 + 2 * v3) ∧ am_r (v2 + 1) ∧ am_g 11 5 co_X11_on d Q 59 [(2, 0), (0, v1), (0, v2 + 1), (0, v3), (0, 0)] [] sh_T (am_up M10 (37 + 1 + 2 * v3) 2 (x10 - 1))))))))) : am_g 11 5 co_X11_on d Q 13 [(2, 0), (0, v1), (0, v2), (0, v3), (3, 0)] [] sh_T M := by
  refine x_iload_n (by decide +kernel : am_at co_X11_on 13 = some (1, .iload_n 3)) rfl ?_
  refine x_aload_n (by decide +kernel : am_at co_X11_on 14 = some (1, .aload_n 0)) rfl ?_
  refine x_getf (by decide +kernel : am_at co_X11_on 15 = some (3, .getfield 44)) pq_11_44 rfl ob_0 ?_
  refine x_iconst (by decide +kernel : am_at co_X11_on 18 = some (1, .iconst 1)) ?_
  obtain ⟨o0, h⟩ := h
  refine x_callV (n := 2) (by decide +kernel : am_at co_X11_on 19 = some (3, .invokevirtual 141)) pq_11_141 pm_X2_count rfl rfl rfl o0 h (x_k0 fun x2 M2 h => ?_)
  refine x_icmp (tgt := 106) (by decide +kernel : am_at co_X11_on 22 = some (3, .if_icmp .ge 84)) rfl Iff.rfl (fun c2 => ?_) (fun c2 => ?_)
  · have h := h.1 c2
    refine x_aload_n (by decide +kernel : am_at co_X11_on 106 = some (1, .aload_n 0)) rfl ?_
    refine x_getF (by decide +kernel : am_at co_X11_on 107 = some (3, .getfield 62)) pq_11_62 (by decide) rfl ob_0 ?_
    refine x_top2 (show 0 + 46 = 46 from rfl) ?_
    refine x_callV (n := 1) (by decide +kernel : am_at co_X11_on 110 = some (3, .invokevirtual 132)) pq_11_132 pm_X0_forget rfl rfl rfl ob_46 h (x_kv fun M4 h => ?_)
    refine x_goto (tgt := 122) (by decide +kernel : am_at co_X11_on 113 = some (3, .goto 9)) rfl ?_
    refine x_aload_n (by decide +kernel : am_at co_X11_on 122 = some (1, .aload_n 0)) rfl ?_
    refine x_getF (by decide +kernel : am_at co_X11_on 123 = some (3, .getfield 10)) pq_11_10 (by decide) rfl ob_0 ?_
    refine x_top2 (show 0 + 1 = 1 from rfl) ?_
    refine x_callV (n := 1) (by decide +kernel : am_at co_X11_on 126 = some (3, .invokevirtual 125)) pq_11_125 pm_X9_wipe rfl rfl rfl ob_1 h (x_kv fun M5 h => ?_)
    refine x_iload_n (by decide +kernel : am_at co_X11_on 129 = some (1, .iload_n 1)) rfl ?_
    exact x_zret (by decide +kernel : am_at co_X11_on 130 = some (1, .ireturn)) h.1 h.2
  · have c2 := (Int.not_le.mp c2)
    have h := h.2 c2
    refine x_iload_n (by decide +kernel : am_at co_X11_on 25 = some (1, .iload_n 3)) rfl ?_
    refine x_aload_n (by decide +kernel : am_at co_X11_on 26 = some (1, .aload_n 0)) rfl ?_
    refine x_getF (by decide +kernel : am_at co_X11_on 27 = some (3, .getfield 55)) pq_11_55 (by decide) rfl ob_0 ?_
    refine x_top2 (show 0 + 37 = 37 from rfl) ?_
    refine x_alen (by decide +kernel : am_at co_X11_on 30 = some (1, .arraylength)) (n := 4) rfl ?_
    refine x_top0 (show ((4 : Nat) : Int) = 4 from rfl) ?_
    refine x_icmp (tgt := 106) (by decide +kernel : am_at co_X11_on 31 = some (3, .if_icmp .ge 75)) rfl Iff.rfl (fun c5 => ?_) (fun c5 => ?_)
    · have h := h.1 c5
      refine x_aload_n (by decide +kernel : am_at co_X11_on 106 = some (1, .aload_n 0)) rfl ?_
      refine x_getF (by decide +kernel : am_at co_X11_on 107 = some (3, .getfield 62)) pq_11_62 (by decide) rfl ob_0 ?_
      refine x_top2 (show 0 + 46 = 46 from rfl) ?_
      refine x_callV (n := 1) (by decide +kernel : am_at co_X11_on 110 = some (3, .invokevirtual 132)) pq_11_132 pm_X0_forget rfl rfl rfl ob_46 h (x_kv fun M7 h => ?_)
      refine x_goto (tgt := 122) (by decide +kernel : am_at co_X11_on 113 = some (3, .goto 9)) rfl ?_
      refine x_aload_n (by decide +kernel : am_at co_X11_on 122 = some (1, .aload_n 0)) rfl ?_
      refine x_getF (by decide +kernel : am_at co_X11_on 123 = some (3, .getfield 10)) pq_11_10 (by decide) rfl ob_0 ?_
      refine x_top2 (show 0 + 1 = 1 from rfl) ?_
      refine x_callV (n := 1) (by decide +kernel : am_at co_X11_on 126 = some (3, .invokevirtual 125)) pq_11_125 pm_X9_wipe rfl rfl rfl ob_1 h (x_kv fun M8 h => ?_)
      refine x_iload_n (by decide +kernel : am_at co_X11_on 129 = some (1, .iload_n 1)) rfl ?_
      exact x_zret (by decide +kernel : am_at co_X11_on 130 = some (1, .ireturn)) h.1 h.2
    · have c5 := (Int.not_le.mp c5)
      have h := h.2 c5
      refine x_aload_n (by decide +kernel : am_at co_X11_on 34 = some (1, .aload_n 0)) rfl ?_
      refine x_getF (by decide +kernel : am_at co_X11_on 35 = some (3, .getfield 55)) pq_11_55 (by decide) rfl ob_0 ?_
      refine x_top2 (show 0 + 37 = 37 from rfl) ?_
      refine x_iload_n (by decide +kernel : am_at co_X11_on 38 = some (1, .iload_n 3)) rfl ?_
      obtain ⟨o8, h⟩ := h
      refine x_aald (by decide +kernel : am_at co_X11_on 39 = some (1, .aaload)) (ia_37 o8.1 o8.2) ?_
      refine x_aload_n (by decide +kernel : am_at co_X11_on 40 = some (1, .aload_n 0)) rfl ?_
      refine x_getF (by decide +kernel : am_at co_X11_on 41 = some (3, .getfield 10)) pq_11_10 (by decide) rfl ob_0 ?_
      refine x_top2 (show 0 + 1 = 1 from rfl) ?_
      refine x_iload_n (by decide +kernel : am_at co_X11_on 44 = some (1, .iload_n 2)) rfl ?_
      refine x_callV (n := 2) (by decide +kernel : am_at co_X11_on 45 = some (3, .invokevirtual 307)) pq_11_307 pm_X9_byteAt rfl rfl rfl ob_1 h (x_k0 fun x10 M10 h => ?_)
      refine x_iconst (by decide +kernel : am_at co_X11_on 48 = some (1, .iconst 1)) ?_
      obtain ⟨o10, h⟩ := h
      refine x_isub (by decide +kernel : am_at co_X11_on 49 = some (1, .isub)) o10 ?_
      obtain ⟨o11, h⟩ := h
      refine x_putf0 (by decide +kernel : am_at co_X11_on 50 = some (3, .putfield 177)) pq_11_177 rfl o11 ?_
      obtain ⟨o12, h⟩ := h
      refine x_iinc (L' := [(2, 0), (0, v1), (0, v2 + 1), (0, v3), (3, 0)]) (by decide +kernel : am_at co_X11_on 53 = some (3, .iinc 2 1)) rfl o12 rfl ?_
      refine x_iconst (by decide +kernel : am_at co_X11_on 56 = some (1, .iconst 0)) ?_
      refine x_istore (L' := [(2, 0), (0, v1), (0, v2 + 1), (0, v3), (0, 0)]) (by decide +kernel : am_at co_X11_on 57 = some (2, .istore 4)) rfl ?_
      exact am_weak (lk (lk (lk (lk (lk ln))))) h
set_option maxRecDepth 20000 in
theorem bk_X11_on_59 {d : Nat} {Q : am_Q} {M : am_M} {v1 v2 v3 v4 : Int} (h : am_ob sh_T 2 (M 0 4) ∧ am_cal pg d 14 [(2, M 0 4), (0, 0)] sh_T M (am_c0 sh_T fun x2 M2 => ((x2 ≤ v4 → am_r (v3 + 1) ∧ am_g 11 5 co_X11_on d Q 13 [(2, 0), (0, v1), (0, v2), (0, v3 + 1), (3, 0)] [] sh_T M2) ∧ (v4 < x2 → (0 ≤ v3 ∧ v3 < 4) ∧ am_cal pg d 93 [(2, 1), (0, v2)] sh_T M2 (am_c0 sh_T fun x6 M6 => am_ob sh_T 7 (37 + 1 + 2 * v3) ∧ am_cal pg d 73 [(2, 37 + 1 + 2 * v3), (0, v4), (0, x6)] sh_T M6 (am_cv sh_T fun M8 => am_r (v2 + 2) ∧ am_r (v4 + 1) ∧ am_g 11 5 co_X11_on d Q 59 [(2, 0), (0, v1), (0, v2 + 2), (0, v3), (0, v4 + 1)] [] sh_T M8)))))) : am_g 11 5 co_X11_on d Q 59 [(2, 0), (0, v1), (0, v2), (0, v3), (0, v4)] [] sh_T M := by
  refine x_iload (by decide +kernel : am_at co_X11_on 59 = some (2, .iload 4)) rfl ?_
  refine x_aload_n (by decide +kernel : am_at co_X11_on 61 = some (1, .aload_n 0)) rfl ?_
  refine x_getf (by decide +kernel : am_at co_X11_on 62 = some (3, .getfield 44)) pq_11_44 rfl ob_0 ?_
  refine x_iconst (by decide +kernel : am_at co_X11_on 65 = some (1, .iconst 0)) ?_
  obtain ⟨o0, h⟩ := h
  refine x_callV (n := 2) (by decide +kernel : am_at co_X11_on 66 = some (3, .invokevirtual 141)) pq_11_141 pm_X2_count rfl rfl rfl o0 h (x_k0 fun x2 M2 h => ?_)
  refine x_icmp (tgt := 100) (by decide +kernel : am_at co_X11_on 69 = some (3, .if_icmp .ge 31)) rfl Iff.rfl (fun c2 => ?_) (fun c2 => ?_)
  · have h := h.1 c2
    obtain ⟨o3, h⟩ := h
    refine x_iinc (L' := [(2, 0), (0, v1), (0, v2), (0, v3 + 1), (0, v4)]) (by decide +kernel : am_at co_X11_on 100 = some (3, .iinc 3 1)) rfl o3 rfl ?_
    refine x_goto (tgt := 13) (by decide +kernel : am_at co_X11_on 103 = some (3, .goto (-90))) rfl ?_
    exact am_weak (lk (lk (lk (lk (ld ln))))) h
  · have c2 := (Int.not_le.mp c2)
    have h := h.2 c2
    refine x_aload_n (by decide +kernel : am_at co_X11_on 72 = some (1, .aload_n 0)) rfl ?_
    refine x_getF (by decide +kernel : am_at co_X11_on 73 = some (3, .getfield 55)) pq_11_55 (by decide) rfl ob_0 ?_
    refine x_top2 (show 0 + 37 = 37 from rfl) ?_
    refine x_iload_n (by decide +kernel : am_at co_X11_on 76 = some (1, .iload_n 3)) rfl ?_
    obtain ⟨o4, h⟩ := h
    refine x_aald (by decide +kernel : am_at co_X11_on 77 = some (1, .aaload)) (ia_37 o4.1 o4.2) ?_
    refine x_iload (by decide +kernel : am_at co_X11_on 78 = some (2, .iload 4)) rfl ?_
    refine x_aload_n (by decide +kernel : am_at co_X11_on 80 = some (1, .aload_n 0)) rfl ?_
    refine x_getF (by decide +kernel : am_at co_X11_on 81 = some (3, .getfield 10)) pq_11_10 (by decide) rfl ob_0 ?_
    refine x_top2 (show 0 + 1 = 1 from rfl) ?_
    refine x_iload_n (by decide +kernel : am_at co_X11_on 84 = some (1, .iload_n 2)) rfl ?_
    refine x_callV (n := 2) (by decide +kernel : am_at co_X11_on 85 = some (3, .invokevirtual 329)) pq_11_329 pm_X9_pairAt rfl rfl rfl ob_1 h (x_k0 fun x6 M6 h => ?_)
    obtain ⟨o6, h⟩ := h
    refine x_callV (n := 3) (by decide +kernel : am_at co_X11_on 88 = some (3, .invokevirtual 294)) pq_11_294 pm_X7_put rfl rfl rfl o6 h (x_kv fun M8 h => ?_)
    obtain ⟨o8, h⟩ := h
    refine x_iinc (L' := [(2, 0), (0, v1), (0, v2 + 2), (0, v3), (0, v4)]) (by decide +kernel : am_at co_X11_on 91 = some (3, .iinc 2 2)) rfl o8 rfl ?_
    obtain ⟨o9, h⟩ := h
    refine x_iinc (L' := [(2, 0), (0, v1), (0, v2 + 2), (0, v3), (0, v4 + 1)]) (by decide +kernel : am_at co_X11_on 94 = some (3, .iinc 4 1)) rfl o9 rfl ?_
    refine x_goto (tgt := 59) (by decide +kernel : am_at co_X11_on 97 = some (3, .goto (-38))) rfl ?_
    exact am_weak (lk (lk (lk (lk (lk ln))))) h
