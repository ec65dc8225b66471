/-! blocks (printed) -/
set_option maxRecDepth 20000 in
theorem bk_X12_isSafe_0 {d : Nat} {Q : am_Q} {M : am_M} {v1 v2 v3 : Int} (h : am_cal pg d 224 [(2, 152), (0, v1)] sh_T M (am_c0 sh_T fun x1 M1 => ((x1 = 0 → ((¬ v2 = 0 → ((¬ v2 = 1 → ((¬ v2 = 2 → am_cal pg d 260 [(2, 152), (0, v1), (0, v3)] sh_T M1 (am_c0 sh_T fun x6 M6 => (x6 = 0 ∨ x6 = 1) ∧ Q (some (0, x6), sh_T, M6))) ∧ (v2 = 2 → am_cal pg d 259 [(2, 152), (0, v1), (0, v3)] sh_T M1 (am_c0 sh_T fun x7 M7 => (x7 = 0 ∨ x7 = 1) ∧ Q (some (0, x7), sh_T, M7))))) ∧ (v2 = 1 → am_cal pg d 258 [(2, 152), (0, v1), (0, v3)] sh_T M1 (am_c0 sh_T fun x8 M8 => (x8 = 0 ∨ x8 = 1) ∧ Q (some (0, x8), sh_T, M8))))) ∧ (v2 = 0 → Q (some (0, 0), sh_T, M1)))) ∧ (¬ x1 = 0 → Q (some (0, 1), sh_T, M1))))) : am_g 12 5 co_X12_isSafe d Q 0 [(2, 152), (0, v1), (0, v2), (0, v3)] [] sh_T M := by
  refine x_aload_n (by decide +kernel : am_at co_X12_isSafe 0 = some (1, .aload_n 0)) rfl ?_
  refine x_iload_n (by decide +kernel : am_at co_X12_isSafe 1 = some (1, .iload_n 1)) rfl ?_
  refine x_callV (n := 2) (by decide +kernel : am_at co_X12_isSafe 2 = some (3, .invokevirtual 433)) pq_12_433 pm_X12_isHomeAt rfl rfl rfl ob_152 h (x_k0 fun x1 M1 h => ?_)
  refine x_if (tgt := 10) (by decide +kernel : am_at co_X12_isSafe 5 = some (3, .ifCond .eq 5)) rfl Iff.rfl (fun c1 => ?_) (fun c1 => ?_)
  · have h := h.1 c1
    refine x_iload_n (by decide +kernel : am_at co_X12_isSafe 10 = some (1, .iload_n 2)) rfl ?_
    refine x_if (tgt := 16) (by decide +kernel : am_at co_X12_isSafe 11 = some (3, .ifCond .ne 5)) rfl Iff.rfl (fun c2 => ?_) (fun c2 => ?_)
    · have h := h.1 c2
      refine x_iload_n (by decide +kernel : am_at co_X12_isSafe 16 = some (1, .iload_n 2)) rfl ?_
      refine x_iconst (by decide +kernel : am_at co_X12_isSafe 17 = some (1, .iconst 1)) ?_
      refine x_icmp (tgt := 30) (by decide +kernel : am_at co_X12_isSafe 18 = some (3, .if_icmp .ne 12)) rfl Iff.rfl (fun c3 => ?_) (fun c3 => ?_)
      · have h := h.1 c3
        refine x_iload_n (by decide +kernel : am_at co_X12_isSafe 30 = some (1, .iload_n 2)) rfl ?_
        refine x_iconst (by decide +kernel : am_at co_X12_isSafe 31 = some (1, .iconst 2)) ?_
        refine x_icmp (tgt := 44) (by decide +kernel : am_at co_X12_isSafe 32 = some (3, .if_icmp .ne 12)) rfl Iff.rfl (fun c4 => ?_) (fun c4 => ?_)
        · have h := h.1 c4
          refine x_aload_n (by decide +kernel : am_at co_X12_isSafe 44 = some (1, .aload_n 0)) rfl ?_
          refine x_iload_n (by decide +kernel : am_at co_X12_isSafe 45 = some (1, .iload_n 1)) rfl ?_
          refine x_iload_n (by decide +kernel : am_at co_X12_isSafe 46 = some (1, .iload_n 3)) rfl ?_
          refine x_callV (n := 3) (by decide +kernel : am_at co_X12_isSafe 47 = some (3, .invokevirtual 516)) pq_12_516 pm_X12_isSafeByThree rfl rfl rfl ob_152 h (x_k0 fun x6 M6 h => ?_)
          exact x_zret (by decide +kernel : am_at co_X12_isSafe 50 = some (1, .ireturn)) h.1 h.2
        · have c4 := (Classical.not_not.mp c4)
          have h := h.2 c4
          refine x_aload_n (by decide +kernel : am_at co_X12_isSafe 35 = some (1, .aload_n 0)) rfl ?_
          refine x_iload_n (by decide +kernel : am_at co_X12_isSafe 36 = some (1, .iload_n 1)) rfl ?_
          refine x_iload_n (by decide +kernel : am_at co_X12_isSafe 37 = some (1, .iload_n 3)) rfl ?_
          refine x_callV (n := 3) (by decide +kernel : am_at co_X12_isSafe 38 = some (3, .invokevirtual 513)) pq_12_513 pm_X12_isSafeByTwo rfl rfl rfl ob_152 h (x_k0 fun x7 M7 h => ?_)
          refine x_goto (tgt := 50) (by decide +kernel : am_at co_X12_isSafe 41 = some (3, .goto 9)) rfl ?_
          exact x_zret (by decide +kernel : am_at co_X12_isSafe 50 = some (1, .ireturn)) h.1 h.2
      · have c3 := (Classical.not_not.mp c3)
        have h := h.2 c3
        refine x_aload_n (by decide +kernel : am_at co_X12_isSafe 21 = some (1, .aload_n 0)) rfl ?_
        refine x_iload_n (by decide +kernel : am_at co_X12_isSafe 22 = some (1, .iload_n 1)) rfl ?_
        refine x_iload_n (by decide +kernel : am_at co_X12_isSafe 23 = some (1, .iload_n 3)) rfl ?_
        refine x_callV (n := 3) (by decide +kernel : am_at co_X12_isSafe 24 = some (3, .invokevirtual 510)) pq_12_510 pm_X12_isSafeByOne rfl rfl rfl ob_152 h (x_k0 fun x8 M8 h => ?_)
        refine x_goto (tgt := 50) (by decide +kernel : am_at co_X12_isSafe 27 = some (3, .goto 23)) rfl ?_
        exact x_zret (by decide +kernel : am_at co_X12_isSafe 50 = some (1, .ireturn)) h.1 h.2
    · have c2 := (Classical.not_not.mp c2)
      have h := h.2 c2
      refine x_iconst (by decide +kernel : am_at co_X12_isSafe 14 = some (1, .iconst 0)) ?_
      exact x_zret (by decide +kernel : am_at co_X12_isSafe 15 = some (1, .ireturn)) (by decide) h
  · have c1 := c1
    have h := h.2 c1
    refine x_iconst (by decide +kernel : am_at co_X12_isSafe 8 = some (1, .iconst 1)) ?_
    exact x_zret (by decide +kernel : am_at co_X12_isSafe 9 = some (1, .ireturn)) (by decide) h
set_option maxRecDepth 20000 in
theorem bk_X12_canGo_0 {d : Nat} {Q : am_Q} {M : am_M} {v1 : Int} (h : ((v1 = 0 → Q (some (0, 1), sh_T, M)) ∧ (¬ v1 = 0 → am_cal pg d 211 [(2, 152)] sh_T M (am_c0 sh_T fun x2 M2 => ((x2 ≤ 1 → Q (some (0, 0), sh_T, M2)) ∧ (1 < x2 → Q (some (0, 1), sh_T, M2))))))) : am_g 12 5 co_X12_canGo d Q 0 [(2, 152), (0, v1)] [] sh_T M := by
  refine x_iload_n (by decide +kernel : am_at co_X12_canGo 0 = some (1, .iload_n 1)) rfl ?_
  refine x_if (tgt := 12) (by decide +kernel : am_at co_X12_canGo 1 = some (3, .ifCond .eq 11)) rfl Iff.rfl (fun c0 => ?_) (fun c0 => ?_)
  · have h := h.1 c0
    refine x_iconst (by decide +kernel : am_at co_X12_canGo 12 = some (1, .iconst 1)) ?_
    refine x_goto (tgt := 17) (by decide +kernel : am_at co_X12_canGo 13 = some (3, .goto 4)) rfl ?_
    exact x_zret (by decide +kernel : am_at co_X12_canGo 17 = some (1, .ireturn)) (by decide) h
  · have c0 := c0
    have h := h.2 c0
    refine x_aload_n (by decide +kernel : am_at co_X12_canGo 4 = some (1, .aload_n 0)) rfl ?_
    refine x_callV (n := 1) (by decide +kernel : am_at co_X12_canGo 5 = some (3, .invokevirtual 389)) pq_12_389 pm_X12_dreadMany rfl rfl rfl ob_152 h (x_k0 fun x2 M2 h => ?_)
    refine x_iconst (by decide +kernel : am_at co_X12_canGo 8 = some (1, .iconst 1)) ?_
    refine x_icmp (tgt := 16) (by decide +kernel : am_at co_X12_canGo 9 = some (3, .if_icmp .le 7)) rfl Iff.rfl (fun c2 => ?_) (fun c2 => ?_)
    · have h := h.1 c2
      refine x_iconst (by decide +kernel : am_at co_X12_canGo 16 = some (1, .iconst 0)) ?_
      exact x_zret (by decide +kernel : am_at co_X12_canGo 17 = some (1, .ireturn)) (by decide) h
    · have c2 := (Int.not_le.mp c2)
      have h := h.2 c2
      refine x_iconst (by decide +kernel : am_at co_X12_canGo 12 = some (1, .iconst 1)) ?_
      refine x_goto (tgt := 17) (by decide +kernel : am_at co_X12_canGo 13 = some (3, .goto 4)) rfl ?_
      exact x_zret (by decide +kernel : am_at co_X12_canGo 17 = some (1, .ireturn)) (by decide) h
set_option maxRecDepth 20000 in
theorem bk_X12_answers_0 {d : Nat} {Q : am_Q} {M : am_M} {v1 v2 v3 v4 v5 : Int} (h : am_cal pg d 219 [(2, 152), (0, v1), (0, v2)] sh_T M (am_cv sh_T fun M1 => am_cal pg d 230 [(2, 152), (0, v3)] sh_T M1 (am_c0 sh_T fun x2 M2 => am_cal pg d 228 [(2, 152), (0, v2), (0, v3), (0, x2), (0, v4)] sh_T M2 (am_c0 sh_T fun x3 M3 => am_r (v2 + v5) ∧ (0 ≤ v2 + v5 ∧ v2 + v5 < 1500) ∧ am_cal pg d 216 [(2, 152), (0, 2)] sh_T M3 (am_c0 sh_T fun x6 M6 => am_r ((M3 187 (v2 + v5)) + x6) ∧ am_r (v2 + v5) ∧ ((x3 = (-1) → Q (none, sh_T, (am_up M6 187 (v2 + v5) 999))) ∧ (¬ x3 = (-1) → (((M3 187 (v2 + v5)) + x6 ≤ 999 → Q (none, sh_T, (am_up M6 187 (v2 + v5) ((M3 187 (v2 + v5)) + x6)))) ∧ (999 < (M3 187 (v2 + v5)) + x6 → Q (none, sh_T, (am_up M6 187 (v2 + v5) 999))))))))))) : am_g 12 9 co_X12_answers d Q 0 [(2, 152), (0, v1), (0, v2), (0, v3), (0, v4), (0, v5), (3, 0), (3, 0)] [] sh_T M := by
  refine x_aload_n (by decide +kernel : am_at co_X12_answers 0 = some (1, .aload_n 0)) rfl ?_
  refine x_iload_n (by decide +kernel : am_at co_X12_answers 1 = some (1, .iload_n 1)) rfl ?_
  refine x_iload_n (by decide +kernel : am_at co_X12_answers 2 = some (1, .iload_n 2)) rfl ?_
  refine x_callV (n := 3) (by decide +kernel : am_at co_X12_answers 3 = some (3, .invokevirtual 460)) pq_12_460 pm_X12_laysRow rfl rfl rfl ob_152 h (x_kv fun M1 h => ?_)
  refine x_aload_n (by decide +kernel : am_at co_X12_answers 6 = some (1, .aload_n 0)) rfl ?_
  refine x_iload_n (by decide +kernel : am_at co_X12_answers 7 = some (1, .iload_n 2)) rfl ?_
  refine x_iload_n (by decide +kernel : am_at co_X12_answers 8 = some (1, .iload_n 3)) rfl ?_
  refine x_aload_n (by decide +kernel : am_at co_X12_answers 9 = some (1, .aload_n 0)) rfl ?_
  refine x_iload_n (by decide +kernel : am_at co_X12_answers 10 = some (1, .iload_n 3)) rfl ?_
  refine x_callV (n := 2) (by decide +kernel : am_at co_X12_answers 11 = some (3, .invokevirtual 449)) pq_12_449 pm_X12_guideOf rfl rfl rfl ob_152 h (x_k0 fun x2 M2 h => ?_)
  refine x_iload (by decide +kernel : am_at co_X12_answers 14 = some (2, .iload 4)) rfl ?_
  refine x_callV (n := 5) (by decide +kernel : am_at co_X12_answers 16 = some (3, .invokevirtual 463)) pq_12_463 pm_X12_roomGoes rfl rfl rfl ob_152 h (x_k0 fun x3 M3 h => ?_)
  refine x_istore (L' := [(2, 152), (0, v1), (0, v2), (0, v3), (0, v4), (0, v5), (0, x3), (3, 0)]) (by decide +kernel : am_at co_X12_answers 19 = some (2, .istore 6)) rfl ?_
  refine x_aload_n (by decide +kernel : am_at co_X12_answers 21 = some (1, .aload_n 0)) rfl ?_
  refine x_getF (by decide +kernel : am_at co_X12_answers 22 = some (3, .getfield 118)) pq_12_118 (by decide) rfl ob_152 ?_
  refine x_top2 (show 152 + 35 = 187 from rfl) ?_
  refine x_iload_n (by decide +kernel : am_at co_X12_answers 25 = some (1, .iload_n 2)) rfl ?_
  refine x_iload (by decide +kernel : am_at co_X12_answers 26 = some (2, .iload 5)) rfl ?_
  obtain ⟨o3, h⟩ := h
  refine x_iadd (by decide +kernel : am_at co_X12_answers 28 = some (1, .iadd)) o3 ?_
  obtain ⟨o4, h⟩ := h
  refine x_iald (by decide +kernel : am_at co_X12_answers 29 = some (1, .iaload)) (ia_187 o4.1 o4.2) ?_
  refine x_aload_n (by decide +kernel : am_at co_X12_answers 30 = some (1, .aload_n 0)) rfl ?_
  refine x_iconst (by decide +kernel : am_at co_X12_answers 31 = some (1, .iconst 2)) ?_
  refine x_callV (n := 2) (by decide +kernel : am_at co_X12_answers 32 = some (3, .invokevirtual 401)) pq_12_401 pm_X12_settingOf rfl rfl rfl ob_152 h (x_k0 fun x6 M6 h => ?_)
  obtain ⟨o6, h⟩ := h
  refine x_iadd (by decide +kernel : am_at co_X12_answers 35 = some (1, .iadd)) o6 ?_
  refine x_istore (L' := [(2, 152), (0, v1), (0, v2), (0, v3), (0, v4), (0, v5), (0, x3), (0, (M3 187 (v2 + v5)) + x6)]) (by decide +kernel : am_at co_X12_answers 36 = some (2, .istore 7)) rfl ?_
  refine x_aload_n (by decide +kernel : am_at co_X12_answers 38 = some (1, .aload_n 0)) rfl ?_
  refine x_getF (by decide +kernel : am_at co_X12_answers 39 = some (3, .getfield 118)) pq_12_118 (by decide) rfl ob_152 ?_
  refine x_top2 (show 152 + 35 = 187 from rfl) ?_
  refine x_iload_n (by decide +kernel : am_at co_X12_answers 42 = some (1, .iload_n 2)) rfl ?_
  refine x_iload (by decide +kernel : am_at co_X12_answers 43 = some (2, .iload 5)) rfl ?_
  obtain ⟨o7, h⟩ := h
  refine x_iadd (by decide +kernel : am_at co_X12_answers 45 = some (1, .iadd)) o7 ?_
  refine x_iload (by decide +kernel : am_at co_X12_answers 46 = some (2, .iload 6)) rfl ?_
  refine x_iconst (by decide +kernel : am_at co_X12_answers 48 = some (1, .iconst (-1))) ?_
  refine x_icmp (tgt := 60) (by decide +kernel : am_at co_X12_answers 49 = some (3, .if_icmp .eq 11)) rfl Iff.rfl (fun c8 => ?_) (fun c8 => ?_)
  · have h := h.1 c8
    refine x_sipush (by decide +kernel : am_at co_X12_answers 60 = some (3, .sipush 999)) ?_
    refine x_goto (tgt := 68) (by decide +kernel : am_at co_X12_answers 63 = some (3, .goto 5)) rfl ?_
    refine x_iast (by decide +kernel : am_at co_X12_answers 68 = some (1, .iastore)) (ow_187 o4.1 o4.2) ?_
    exact x_vret (by decide +kernel : am_at co_X12_answers 69 = some (1, .return_)) h
  · have c8 := c8
    have h := h.2 c8
    refine x_iload (by decide +kernel : am_at co_X12_answers 52 = some (2, .iload 7)) rfl ?_
    refine x_sipush (by decide +kernel : am_at co_X12_answers 54 = some (3, .sipush 999)) ?_
    refine x_icmp (tgt := 66) (by decide +kernel : am_at co_X12_answers 57 = some (3, .if_icmp .le 9)) rfl Iff.rfl (fun c9 => ?_) (fun c9 => ?_)
    · have h := h.1 c9
      refine x_iload (by decide +kernel : am_at co_X12_answers 66 = some (2, .iload 7)) rfl ?_
      refine x_iast (by decide +kernel : am_at co_X12_answers 68 = some (1, .iastore)) (ow_187 o4.1 o4.2) ?_
      exact x_vret (by decide +kernel : am_at co_X12_answers 69 = some (1, .return_)) h
    · have c9 := (Int.not_le.mp c9)
      have h := h.2 c9
      refine x_sipush (by decide +kernel : am_at co_X12_answers 60 = some (3, .sipush 999)) ?_
      refine x_goto (tgt := 68) (by decide +kernel : am_at co_X12_answers 63 = some (3, .goto 5)) rfl ?_
      refine x_iast (by decide +kernel : am_at co_X12_answers 68 = some (1, .iastore)) (ow_187 o4.1 o4.2) ?_
      exact x_vret (by decide +kernel : am_at co_X12_answers 69 = some (1, .return_)) h
set_option maxRecDepth 20000 in
theorem bk_X12_isSafeByOne_0 {d : Nat} {Q : am_Q} {M : am_M} {v1 v2 : Int} (h : am_g 12 5 co_X12_isSafeByOne d Q 2 [(2, 152), (0, v1), (0, v2), (0, 0), (3, 0), (3, 0)] [] sh_T M) : am_g 12 5 co_X12_isSafeByOne d Q 0 [(2, 152), (0, v1), (0, v2), (3, 0), (3, 0), (3, 0)] [] sh_T M := by
  refine x_iconst (by decide +kernel : am_at co_X12_isSafeByOne 0 = some (1, .iconst 0)) ?_
  refine x_istore_n (L' := [(2, 152), (0, v1), (0, v2), (0, 0), (3, 0), (3, 0)]) (by decide +kernel : am_at co_X12_isSafeByOne 1 = some (1, .istore_n 3)) rfl ?_
  exact am_weak (lk (lk (lk (lk (lk (lk ln)))))) h
set_option maxRecDepth 20000 in
theorem bk_X12_isSafeByOne_2 {d : Nat} {Q : am_Q} {M : am_M} {v1 v2 v3 : Int} (h : ((2 ≤ v3 → Q (some (0, 0), sh_T, M)) ∧ (v3 < 2 → ((¬ v3 = 1 → am_cal pg d 256 [(2, 152), (0, 0)] sh_T M (am_c0 sh_T fun x3 M3 => am_g 12 5 co_X12_isSafeByOne d Q 26 [(2, 152), (0, v1), (0, v2), (0, v3), (0, x3), (0, 0)] [] sh_T M3)) ∧ (v3 = 1 → am_cal pg d 256 [(2, 152), (0, 1)] sh_T M (am_c0 sh_T fun x4 M4 => am_g 12 5 co_X12_isSafeByOne d Q 26 [(2, 152), (0, v1), (0, v2), (0, v3), (0, x4), (0, 0)] [] sh_T M4)))))) : am_g 12 5 co_X12_isSafeByOne d Q 2 [(2, 152), (0, v1), (0, v2), (0, v3), (3, 0), (3, 0)] [] sh_T M := by
  refine x_iload_n (by decide +kernel : am_at co_X12_isSafeByOne 2 = some (1, .iload_n 3)) rfl ?_
  refine x_iconst (by decide +kernel : am_at co_X12_isSafeByOne 3 = some (1, .iconst 2)) ?_
  refine x_icmp (tgt := 87) (by decide +kernel : am_at co_X12_isSafeByOne 4 = some (3, .if_icmp .ge 83)) rfl Iff.rfl (fun c0 => ?_) (fun c0 => ?_)
  · have h := h.1 c0
    refine x_iconst (by decide +kernel : am_at co_X12_isSafeByOne 87 = some (1, .iconst 0)) ?_
    exact x_zret (by decide +kernel : am_at co_X12_isSafeByOne 88 = some (1, .ireturn)) (by decide) h
  · have c0 := (Int.not_le.mp c0)
    have h := h.2 c0
    refine x_aload_n (by decide +kernel : am_at co_X12_isSafeByOne 7 = some (1, .aload_n 0)) rfl ?_
    refine x_iload_n (by decide +kernel : am_at co_X12_isSafeByOne 8 = some (1, .iload_n 3)) rfl ?_
    refine x_iconst (by decide +kernel : am_at co_X12_isSafeByOne 9 = some (1, .iconst 1)) ?_
    refine x_icmp (tgt := 17) (by decide +kernel : am_at co_X12_isSafeByOne 10 = some (3, .if_icmp .ne 7)) rfl Iff.rfl (fun c1 => ?_) (fun c1 => ?_)
    · have h := h.1 c1
      refine x_iconst (by decide +kernel : am_at co_X12_isSafeByOne 17 = some (1, .iconst 0)) ?_
      refine x_callV (n := 2) (by decide +kernel : am_at co_X12_isSafeByOne 18 = some (3, .invokevirtual 519)) pq_12_519 pm_X12_canGo rfl rfl rfl ob_152 h (x_k0 fun x3 M3 h => ?_)
      refine x_istore (L' := [(2, 152), (0, v1), (0, v2), (0, v3), (0, x3), (3, 0)]) (by decide +kernel : am_at co_X12_isSafeByOne 21 = some (2, .istore 4)) rfl ?_
      refine x_iconst (by decide +kernel : am_at co_X12_isSafeByOne 23 = some (1, .iconst 0)) ?_
      refine x_istore (L' := [(2, 152), (0, v1), (0, v2), (0, v3), (0, x3), (0, 0)]) (by decide +kernel : am_at co_X12_isSafeByOne 24 = some (2, .istore 5)) rfl ?_
      exact am_weak (lk (lk (lk (lk (lk (lk ln)))))) h
    · have c1 := (Classical.not_not.mp c1)
      have h := h.2 c1
      refine x_iconst (by decide +kernel : am_at co_X12_isSafeByOne 13 = some (1, .iconst 1)) ?_
      refine x_goto (tgt := 18) (by decide +kernel : am_at co_X12_isSafeByOne 14 = some (3, .goto 4)) rfl ?_
      refine x_callV (n := 2) (by decide +kernel : am_at co_X12_isSafeByOne 18 = some (3, .invokevirtual 519)) pq_12_519 pm_X12_canGo rfl rfl rfl ob_152 h (x_k0 fun x4 M4 h => ?_)
      refine x_istore (L' := [(2, 152), (0, v1), (0, v2), (0, v3), (0, x4), (3, 0)]) (by decide +kernel : am_at co_X12_isSafeByOne 21 = some (2, .istore 4)) rfl ?_
      refine x_iconst (by decide +kernel : am_at co_X12_isSafeByOne 23 = some (1, .iconst 0)) ?_
      refine x_istore (L' := [(2, 152), (0, v1), (0, v2), (0, v3), (0, x4), (0, 0)]) (by decide +kernel : am_at co_X12_isSafeByOne 24 = some (2, .istore 5)) rfl ?_
      exact am_weak (lk (lk (lk (lk (lk (lk ln)))))) h
set_option maxRecDepth 20000 in
theorem bk_X12_isSafeByOne_26 {d : Nat} {Q : am_Q} {M : am_M} {v1 v2 v3 v4 v5 : Int} (h : am_cal pg d 211 [(2, 152)] sh_T M (am_c0 sh_T fun x1 M1 => ((x1 ≤ v5 → ((v4 = 0 → am_r (v3 + 1) ∧ am_g 12 5 co_X12_isSafeByOne d Q 2 [(2, 152), (0, v1), (0, v2), (0, v3 + 1), (3, 0), (3, 0)] [] sh_T M1) ∧ (¬ v4 = 0 → Q (some (0, 1), sh_T, M1)))) ∧ (v5 < x1 → ((v4 = 0 → am_r (v3 + 1) ∧ am_g 12 5 co_X12_isSafeByOne d Q 2 [(2, 152), (0, v1), (0, v2), (0, v3 + 1), (3, 0), (3, 0)] [] sh_T M1) ∧ (¬ v4 = 0 → ((¬ v3 = 1 → am_cal pg d 257 [(2, 152), (0, v1), (0, 7), (0, v2), (0, 0), (0, v5)] sh_T M1 (am_cv sh_T fun M9 => am_cal pg d 224 [(2, 152), (0, 7)] sh_T M9 (am_c0 sh_T fun x10 M10 => am_r (v5 + 1) ∧ am_g 12 5 co_X12_isSafeByOne d Q 26 [(2, 152), (0, v1), (0, v2), (0, v3), (0, x10), (0, v5 + 1)] [] sh_T M10))) ∧ (v3 = 1 → am_cal pg d 257 [(2, 152), (0, v1), (0, 7), (0, v2), (0, 1), (0, v5)] sh_T M1 (am_cv sh_T fun M12 => am_cal pg d 224 [(2, 152), (0, 7)] sh_T M12 (am_c0 sh_T fun x13 M13 => am_r (v5 + 1) ∧ am_g 12 5 co_X12_isSafeByOne d Q 26 [(2, 152), (0, v1), (0, v2), (0, v3), (0, x13), (0, v5 + 1)] [] sh_T M13)))))))))) : am_g 12 5 co_X12_isSafeByOne d Q 26 [(2, 152), (0, v1), (0, v2), (0, v3), (0, v4), (0, v5)] [] sh_T M := by
  refine x_iload (by decide +kernel : am_at co_X12_isSafeByOne 26 = some (2, .iload 5)) rfl ?_
  refine x_aload_n (by decide +kernel : am_at co_X12_isSafeByOne 28 = some (1, .aload_n 0)) rfl ?_
  refine x_callV (n := 1) (by decide +kernel : am_at co_X12_isSafeByOne 29 = some (3, .invokevirtual 389)) pq_12_389 pm_X12_dreadMany rfl rfl rfl ob_152 h (x_k0 fun x1 M1 h => ?_)
  refine x_icmp (tgt := 74) (by decide +kernel : am_at co_X12_isSafeByOne 32 = some (3, .if_icmp .ge 42)) rfl Iff.rfl (fun c1 => ?_) (fun c1 => ?_)
  · have h := h.1 c1
    refine x_iload (by decide +kernel : am_at co_X12_isSafeByOne 74 = some (2, .iload 4)) rfl ?_
    refine x_if (tgt := 81) (by decide +kernel : am_at co_X12_isSafeByOne 76 = some (3, .ifCond .eq 5)) rfl Iff.rfl (fun c2 => ?_) (fun c2 => ?_)
    · have h := h.1 c2
      obtain ⟨o3, h⟩ := h
      refine x_iinc (L' := [(2, 152), (0, v1), (0, v2), (0, v3 + 1), (0, v4), (0, v5)]) (by decide +kernel : am_at co_X12_isSafeByOne 81 = some (3, .iinc 3 1)) rfl o3 rfl ?_
      refine x_goto (tgt := 2) (by decide +kernel : am_at co_X12_isSafeByOne 84 = some (3, .goto (-82))) rfl ?_
      exact am_weak (lk (lk (lk (lk (ld (ld ln)))))) h
    · have c2 := c2
      have h := h.2 c2
      refine x_iconst (by decide +kernel : am_at co_X12_isSafeByOne 79 = some (1, .iconst 1)) ?_
      exact x_zret (by decide +kernel : am_at co_X12_isSafeByOne 80 = some (1, .ireturn)) (by decide) h
  · have c1 := (Int.not_le.mp c1)
    have h := h.2 c1
    refine x_iload (by decide +kernel : am_at co_X12_isSafeByOne 35 = some (2, .iload 4)) rfl ?_
    refine x_if (tgt := 74) (by decide +kernel : am_at co_X12_isSafeByOne 37 = some (3, .ifCond .eq 37)) rfl Iff.rfl (fun c4 => ?_) (fun c4 => ?_)
    · have h := h.1 c4
      refine x_iload (by decide +kernel : am_at co_X12_isSafeByOne 74 = some (2, .iload 4)) rfl ?_
      refine x_if (tgt := 81) (by decide +kernel : am_at co_X12_isSafeByOne 76 = some (3, .ifCond .eq 5)) rfl Iff.rfl (fun _ => ?_) (fun c5 => absurd c4 c5)
      obtain ⟨o6, h⟩ := h
      refine x_iinc (L' := [(2, 152), (0, v1), (0, v2), (0, v3 + 1), (0, v4), (0, v5)]) (by decide +kernel : am_at co_X12_isSafeByOne 81 = some (3, .iinc 3 1)) rfl o6 rfl ?_
      refine x_goto (tgt := 2) (by decide +kernel : am_at co_X12_isSafeByOne 84 = some (3, .goto (-82))) rfl ?_
      exact am_weak (lk (lk (lk (lk (ld (ld ln)))))) h
    · have c4 := c4
      have h := h.2 c4
      refine x_aload_n (by decide +kernel : am_at co_X12_isSafeByOne 40 = some (1, .aload_n 0)) rfl ?_
      refine x_iload_n (by decide +kernel : am_at co_X12_isSafeByOne 41 = some (1, .iload_n 1)) rfl ?_
      refine x_bipush (by decide +kernel : am_at co_X12_isSafeByOne 42 = some (2, .bipush 7)) ?_
      refine x_iload_n (by decide +kernel : am_at co_X12_isSafeByOne 44 = some (1, .iload_n 2)) rfl ?_
      refine x_iload_n (by decide +kernel : am_at co_X12_isSafeByOne 45 = some (1, .iload_n 3)) rfl ?_
      refine x_iconst (by decide +kernel : am_at co_X12_isSafeByOne 46 = some (1, .iconst 1)) ?_
      refine x_icmp (tgt := 54) (by decide +kernel : am_at co_X12_isSafeByOne 47 = some (3, .if_icmp .ne 7)) rfl Iff.rfl (fun c7 => ?_) (fun c7 => ?_)
      · have h := h.1 c7
        refine x_iconst (by decide +kernel : am_at co_X12_isSafeByOne 54 = some (1, .iconst 0)) ?_
        refine x_iload (by decide +kernel : am_at co_X12_isSafeByOne 55 = some (2, .iload 5)) rfl ?_
        refine x_callV (n := 6) (by decide +kernel : am_at co_X12_isSafeByOne 57 = some (3, .invokevirtual 523)) pq_12_523 pm_X12_answers rfl rfl rfl ob_152 h (x_kv fun M9 h => ?_)
        refine x_aload_n (by decide +kernel : am_at co_X12_isSafeByOne 60 = some (1, .aload_n 0)) rfl ?_
        refine x_bipush (by decide +kernel : am_at co_X12_isSafeByOne 61 = some (2, .bipush 7)) ?_
        refine x_callV (n := 2) (by decide +kernel : am_at co_X12_isSafeByOne 63 = some (3, .invokevirtual 433)) pq_12_433 pm_X12_isHomeAt rfl rfl rfl ob_152 h (x_k0 fun x10 M10 h => ?_)
        refine x_istore (L' := [(2, 152), (0, v1), (0, v2), (0, v3), (0, x10), (0, v5)]) (by decide +kernel : am_at co_X12_isSafeByOne 66 = some (2, .istore 4)) rfl ?_
        obtain ⟨o10, h⟩ := h
        refine x_iinc (L' := [(2, 152), (0, v1), (0, v2), (0, v3), (0, x10), (0, v5 + 1)]) (by decide +kernel : am_at co_X12_isSafeByOne 68 = some (3, .iinc 5 1)) rfl o10 rfl ?_
        refine x_goto (tgt := 26) (by decide +kernel : am_at co_X12_isSafeByOne 71 = some (3, .goto (-45))) rfl ?_
        exact am_weak (lk (lk (lk (lk (lk (lk ln)))))) h
      · have c7 := (Classical.not_not.mp c7)
        have h := h.2 c7
        refine x_iconst (by decide +kernel : am_at co_X12_isSafeByOne 50 = some (1, .iconst 1)) ?_
        refine x_goto (tgt := 55) (by decide +kernel : am_at co_X12_isSafeByOne 51 = some (3, .goto 4)) rfl ?_
        refine x_iload (by decide +kernel : am_at co_X12_isSafeByOne 55 = some (2, .iload 5)) rfl ?_
        refine x_callV (n := 6) (by decide +kernel : am_at co_X12_isSafeByOne 57 = some (3, .invokevirtual 523)) pq_12_523 pm_X12_answers rfl rfl rfl ob_152 h (x_kv fun M12 h => ?_)
        refine x_aload_n (by decide +kernel : am_at co_X12_isSafeByOne 60 = some (1, .aload_n 0)) rfl ?_
        refine x_bipush (by decide +kernel : am_at co_X12_isSafeByOne 61 = some (2, .bipush 7)) ?_
        refine x_callV (n := 2) (by decide +kernel : am_at co_X12_isSafeByOne 63 = some (3, .invokevirtual 433)) pq_12_433 pm_X12_isHomeAt rfl rfl rfl ob_152 h (x_k0 fun x13 M13 h => ?_)
        refine x_istore (L' := [(2, 152), (0, v1), (0, v2), (0, v3), (0, x13), (0, v5)]) (by decide +kernel : am_at co_X12_isSafeByOne 66 = some (2, .istore 4)) rfl ?_
        obtain ⟨o13, h⟩ := h
        refine x_iinc (L' := [(2, 152), (0, v1), (0, v2), (0, v3), (0, x13), (0, v5 + 1)]) (by decide +kernel : am_at co_X12_isSafeByOne 68 = some (3, .iinc 5 1)) rfl o13 rfl ?_
        refine x_goto (tgt := 26) (by decide +kernel : am_at co_X12_isSafeByOne 71 = some (3, .goto (-45))) rfl ?_
        exact am_weak (lk (lk (lk (lk (lk (lk ln)))))) h
set_option maxRecDepth 20000 in
theorem bk_X12_isSafeByTwo_0 {d : Nat} {Q : am_Q} {M : am_M} {v1 v2 : Int} (h : am_g 12 5 co_X12_isSafeByTwo d Q 2 [(2, 152), (0, v1), (0, v2), (0, 0), (3, 0), (3, 0)] [] sh_T M) : am_g 12 5 co_X12_isSafeByTwo d Q 0 [(2, 152), (0, v1), (0, v2), (3, 0), (3, 0), (3, 0)] [] sh_T M := by
  refine x_iconst (by decide +kernel : am_at co_X12_isSafeByTwo 0 = some (1, .iconst 0)) ?_
  refine x_istore_n (L' := [(2, 152), (0, v1), (0, v2), (0, 0), (3, 0), (3, 0)]) (by decide +kernel : am_at co_X12_isSafeByTwo 1 = some (1, .istore_n 3)) rfl ?_
  exact am_weak (lk (lk (lk (lk (lk (lk ln)))))) h
set_option maxRecDepth 20000 in
theorem bk_X12_isSafeByTwo_2 {d : Nat} {Q : am_Q} {M : am_M} {v1 v2 v3 : Int} (h : ((2 ≤ v3 → Q (some (0, 0), sh_T, M)) ∧ (v3 < 2 → ((¬ v3 = 1 → am_cal pg d 256 [(2, 152), (0, 0)] sh_T M (am_c0 sh_T fun x3 M3 => am_g 12 5 co_X12_isSafeByTwo d Q 26 [(2, 152), (0, v1), (0, v2), (0, v3), (0, x3), (0, 0)] [] sh_T M3)) ∧ (v3 = 1 → am_cal pg d 256 [(2, 152), (0, 1)] sh_T M (am_c0 sh_T fun x4 M4 => am_g 12 5 co_X12_isSafeByTwo d Q 26 [(2, 152), (0, v1), (0, v2), (0, v3), (0, x4), (0, 0)] [] sh_T M4)))))) : am_g 12 5 co_X12_isSafeByTwo d Q 2 [(2, 152), (0, v1), (0, v2), (0, v3), (3, 0), (3, 0)] [] sh_T M := by
  refine x_iload_n (by decide +kernel : am_at co_X12_isSafeByTwo 2 = some (1, .iload_n 3)) rfl ?_
  refine x_iconst (by decide +kernel : am_at co_X12_isSafeByTwo 3 = some (1, .iconst 2)) ?_
  refine x_icmp (tgt := 105) (by decide +kernel : am_at co_X12_isSafeByTwo 4 = some (3, .if_icmp .ge 101)) rfl Iff.rfl (fun c0 => ?_) (fun c0 => ?_)
  · have h := h.1 c0
    refine x_iconst (by decide +kernel : am_at co_X12_isSafeByTwo 105 = some (1, .iconst 0)) ?_
    exact x_zret (by decide +kernel : am_at co_X12_isSafeByTwo 106 = some (1, .ireturn)) (by decide) h
  · have c0 := (Int.not_le.mp c0)
    have h := h.2 c0
    refine x_aload_n (by decide +kernel : am_at co_X12_isSafeByTwo 7 = some (1, .aload_n 0)) rfl ?_
    refine x_iload_n (by decide +kernel : am_at co_X12_isSafeByTwo 8 = some (1, .iload_n 3)) rfl ?_
    refine x_iconst (by decide +kernel : am_at co_X12_isSafeByTwo 9 = some (1, .iconst 1)) ?_
    refine x_icmp (tgt := 17) (by decide +kernel : am_at co_X12_isSafeByTwo 10 = some (3, .if_icmp .ne 7)) rfl Iff.rfl (fun c1 => ?_) (fun c1 => ?_)
    · have h := h.1 c1
      refine x_iconst (by decide +kernel : am_at co_X12_isSafeByTwo 17 = some (1, .iconst 0)) ?_
      refine x_callV (n := 2) (by decide +kernel : am_at co_X12_isSafeByTwo 18 = some (3, .invokevirtual 519)) pq_12_519 pm_X12_canGo rfl rfl rfl ob_152 h (x_k0 fun x3 M3 h => ?_)
      refine x_istore (L' := [(2, 152), (0, v1), (0, v2), (0, v3), (0, x3), (3, 0)]) (by decide +kernel : am_at co_X12_isSafeByTwo 21 = some (2, .istore 4)) rfl ?_
      refine x_iconst (by decide +kernel : am_at co_X12_isSafeByTwo 23 = some (1, .iconst 0)) ?_
      refine x_istore (L' := [(2, 152), (0, v1), (0, v2), (0, v3), (0, x3), (0, 0)]) (by decide +kernel : am_at co_X12_isSafeByTwo 24 = some (2, .istore 5)) rfl ?_
      exact am_weak (lk (lk (lk (lk (lk (lk ln)))))) h
    · have c1 := (Classical.not_not.mp c1)
      have h := h.2 c1
      refine x_iconst (by decide +kernel : am_at co_X12_isSafeByTwo 13 = some (1, .iconst 1)) ?_
      refine x_goto (tgt := 18) (by decide +kernel : am_at co_X12_isSafeByTwo 14 = some (3, .goto 4)) rfl ?_
      refine x_callV (n := 2) (by decide +kernel : am_at co_X12_isSafeByTwo 18 = some (3, .invokevirtual 519)) pq_12_519 pm_X12_canGo rfl rfl rfl ob_152 h (x_k0 fun x4 M4 h => ?_)
      refine x_istore (L' := [(2, 152), (0, v1), (0, v2), (0, v3), (0, x4), (3, 0)]) (by decide +kernel : am_at co_X12_isSafeByTwo 21 = some (2, .istore 4)) rfl ?_
      refine x_iconst (by decide +kernel : am_at co_X12_isSafeByTwo 23 = some (1, .iconst 0)) ?_
      refine x_istore (L' := [(2, 152), (0, v1), (0, v2), (0, v3), (0, x4), (0, 0)]) (by decide +kernel : am_at co_X12_isSafeByTwo 24 = some (2, .istore 5)) rfl ?_
      exact am_weak (lk (lk (lk (lk (lk (lk ln)))))) h
set_option maxRecDepth 20000 in
theorem bk_X12_isSafeByTwo_26 {d : Nat} {Q : am_Q} {M : am_M} {v1 v2 v3 v4 v5 : Int} (h : am_cal pg d 211 [(2, 152)] sh_T M (am_c0 sh_T fun x1 M1 => ((x1 ≤ v5 → am_g 12 5 co_X12_isSafeByTwo d Q 92 [(2, 152), (0, v1), (0, v2), (0, v3), (0, v4), (3, 0)] [] sh_T M1) ∧ (v5 < x1 → ((v4 = 0 → am_g 12 5 co_X12_isSafeByTwo d Q 92 [(2, 152), (0, v1), (0, v2), (0, v3), (0, v4), (3, 0)] [] sh_T M1) ∧ (¬ v4 = 0 → ((¬ v3 = 1 → am_cal pg d 257 [(2, 152), (0, v1), (0, 14), (0, v2), (0, 0), (0, v5)] sh_T M1 (am_cv sh_T fun M5 => am_cal pg d 224 [(2, 152), (0, 14)] sh_T M5 (am_c0 sh_T fun x6 M6 => ((¬ x6 = 0 → am_g 12 5 co_X12_isSafeByTwo d Q 79 [(2, 152), (0, v1), (0, v2), (0, v3), (3, 0), (0, v5)] [] sh_T M6) ∧ (x6 = 0 → am_cal pg d 258 [(2, 152), (0, 14), (0, v2)] sh_T M6 (am_c0 sh_T fun x8 M8 => ((x8 = 0 → am_r (v5 + 1) ∧ am_g 12 5 co_X12_isSafeByTwo d Q 26 [(2, 152), (0, v1), (0, v2), (0, v3), (0, 0), (0, v5 + 1)] [] sh_T M8) ∧ (¬ x8 = 0 → am_g 12 5 co_X12_isSafeByTwo d Q 79 [(2, 152), (0, v1), (0, v2), (0, v3), (3, 0), (0, v5)] [] sh_T M8)))))))) ∧ (v3 = 1 → am_cal pg d 257 [(2, 152), (0, v1), (0, 14), (0, v2), (0, 1), (0, v5)] sh_T M1 (am_cv sh_T fun M11 => am_cal pg d 224 [(2, 152), (0, 14)] sh_T M11 (am_c0 sh_T fun x12 M12 => ((¬ x12 = 0 → am_g 12 5 co_X12_isSafeByTwo d Q 79 [(2, 152), (0, v1), (0, v2), (0, v3), (3, 0), (0, v5)] [] sh_T M12) ∧ (x12 = 0 → am_cal pg d 258 [(2, 152), (0, 14), (0, v2)] sh_T M12 (am_c0 sh_T fun x14 M14 => ((x14 = 0 → am_r (v5 + 1) ∧ am_g 12 5 co_X12_isSafeByTwo d Q 26 [(2, 152), (0, v1), (0, v2), (0, v3), (0, 0), (0, v5 + 1)] [] sh_T M14) ∧ (¬ x14 = 0 → am_g 12 5 co_X12_isSafeByTwo d Q 79 [(2, 152), (0, v1), (0, v2), (0, v3), (3, 0), (0, v5)] [] sh_T M14))))))))))))))) : am_g 12 5 co_X12_isSafeByTwo d Q 26 [(2, 152), (0, v1), (0, v2), (0, v3), (0, v4), (0, v5)] [] sh_T M := by
  refine x_iload (by decide +kernel : am_at co_X12_isSafeByTwo 26 = some (2, .iload 5)) rfl ?_
  refine x_aload_n (by decide +kernel : am_at co_X12_isSafeByTwo 28 = some (1, .aload_n 0)) rfl ?_
  refine x_callV (n := 1) (by decide +kernel : am_at co_X12_isSafeByTwo 29 = some (3, .invokevirtual 389)) pq_12_389 pm_X12_dreadMany rfl rfl rfl ob_152 h (x_k0 fun x1 M1 h => ?_)
  refine x_icmp (tgt := 92) (by decide +kernel : am_at co_X12_isSafeByTwo 32 = some (3, .if_icmp .ge 60)) rfl Iff.rfl (fun c1 => ?_) (fun c1 => ?_)
  · have h := h.1 c1
    exact am_weak (lk (lk (lk (lk (lk (ld ln)))))) h
  · have c1 := (Int.not_le.mp c1)
    have h := h.2 c1
    refine x_iload (by decide +kernel : am_at co_X12_isSafeByTwo 35 = some (2, .iload 4)) rfl ?_
    refine x_if (tgt := 92) (by decide +kernel : am_at co_X12_isSafeByTwo 37 = some (3, .ifCond .eq 55)) rfl Iff.rfl (fun c2 => ?_) (fun c2 => ?_)
    · have h := h.1 c2
      exact am_weak (lk (lk (lk (lk (lk (ld ln)))))) h
    · have c2 := c2
      have h := h.2 c2
      refine x_aload_n (by decide +kernel : am_at co_X12_isSafeByTwo 40 = some (1, .aload_n 0)) rfl ?_
      refine x_iload_n (by decide +kernel : am_at co_X12_isSafeByTwo 41 = some (1, .iload_n 1)) rfl ?_
      refine x_bipush (by decide +kernel : am_at co_X12_isSafeByTwo 42 = some (2, .bipush 14)) ?_
      refine x_iload_n (by decide +kernel : am_at co_X12_isSafeByTwo 44 = some (1, .iload_n 2)) rfl ?_
      refine x_iload_n (by decide +kernel : am_at co_X12_isSafeByTwo 45 = some (1, .iload_n 3)) rfl ?_
      refine x_iconst (by decide +kernel : am_at co_X12_isSafeByTwo 46 = some (1, .iconst 1)) ?_
      refine x_icmp (tgt := 54) (by decide +kernel : am_at co_X12_isSafeByTwo 47 = some (3, .if_icmp .ne 7)) rfl Iff.rfl (fun c3 => ?_) (fun c3 => ?_)
      · have h := h.1 c3
        refine x_iconst (by decide +kernel : am_at co_X12_isSafeByTwo 54 = some (1, .iconst 0)) ?_
        refine x_iload (by decide +kernel : am_at co_X12_isSafeByTwo 55 = some (2, .iload 5)) rfl ?_
        refine x_callV (n := 6) (by decide +kernel : am_at co_X12_isSafeByTwo 57 = some (3, .invokevirtual 523)) pq_12_523 pm_X12_answers rfl rfl rfl ob_152 h (x_kv fun M5 h => ?_)
        refine x_aload_n (by decide +kernel : am_at co_X12_isSafeByTwo 60 = some (1, .aload_n 0)) rfl ?_
        refine x_bipush (by decide +kernel : am_at co_X12_isSafeByTwo 61 = some (2, .bipush 14)) ?_
        refine x_callV (n := 2) (by decide +kernel : am_at co_X12_isSafeByTwo 63 = some (3, .invokevirtual 433)) pq_12_433 pm_X12_isHomeAt rfl rfl rfl ob_152 h (x_k0 fun x6 M6 h => ?_)
        refine x_if (tgt := 79) (by decide +kernel : am_at co_X12_isSafeByTwo 66 = some (3, .ifCond .ne 13)) rfl Iff.rfl (fun c6 => ?_) (fun c6 => ?_)
        · have h := h.1 c6
          exact am_weak (lk (lk (lk (lk (ld (lk ln)))))) h
        · have c6 := (Classical.not_not.mp c6)
          have h := h.2 c6
          refine x_aload_n (by decide +kernel : am_at co_X12_isSafeByTwo 69 = some (1, .aload_n 0)) rfl ?_
          refine x_bipush (by decide +kernel : am_at co_X12_isSafeByTwo 70 = some (2, .bipush 14)) ?_
          refine x_iload_n (by decide +kernel : am_at co_X12_isSafeByTwo 72 = some (1, .iload_n 2)) rfl ?_
          refine x_callV (n := 3) (by decide +kernel : am_at co_X12_isSafeByTwo 73 = some (3, .invokevirtual 510)) pq_12_510 pm_X12_isSafeByOne rfl rfl rfl ob_152 h (x_k0 fun x8 M8 h => ?_)
          refine x_if (tgt := 83) (by decide +kernel : am_at co_X12_isSafeByTwo 76 = some (3, .ifCond .eq 7)) rfl Iff.rfl (fun c8 => ?_) (fun c8 => ?_)
          · have h := h.1 c8
            refine x_iconst (by decide +kernel : am_at co_X12_isSafeByTwo 83 = some (1, .iconst 0)) ?_
            refine x_istore (L' := [(2, 152), (0, v1), (0, v2), (0, v3), (0, 0), (0, v5)]) (by decide +kernel : am_at co_X12_isSafeByTwo 84 = some (2, .istore 4)) rfl ?_
            obtain ⟨o9, h⟩ := h
            refine x_iinc (L' := [(2, 152), (0, v1), (0, v2), (0, v3), (0, 0), (0, v5 + 1)]) (by decide +kernel : am_at co_X12_isSafeByTwo 86 = some (3, .iinc 5 1)) rfl o9 rfl ?_
            refine x_goto (tgt := 26) (by decide +kernel : am_at co_X12_isSafeByTwo 89 = some (3, .goto (-63))) rfl ?_
            exact am_weak (lk (lk (lk (lk (lk (lk ln)))))) h
          · have c8 := c8
            have h := h.2 c8
            exact am_weak (lk (lk (lk (lk (ld (lk ln)))))) h
      · have c3 := (Classical.not_not.mp c3)
        have h := h.2 c3
        refine x_iconst (by decide +kernel : am_at co_X12_isSafeByTwo 50 = some (1, .iconst 1)) ?_
        refine x_goto (tgt := 55) (by decide +kernel : am_at co_X12_isSafeByTwo 51 = some (3, .goto 4)) rfl ?_
        refine x_iload (by decide +kernel : am_at co_X12_isSafeByTwo 55 = some (2, .iload 5)) rfl ?_
        refine x_callV (n := 6) (by decide +kernel : am_at co_X12_isSafeByTwo 57 = some (3, .invokevirtual 523)) pq_12_523 pm_X12_answers rfl rfl rfl ob_152 h (x_kv fun M11 h => ?_)
        refine x_aload_n (by decide +kernel : am_at co_X12_isSafeByTwo 60 = some (1, .aload_n 0)) rfl ?_
        refine x_bipush (by decide +kernel : am_at co_X12_isSafeByTwo 61 = some (2, .bipush 14)) ?_
        refine x_callV (n := 2) (by decide +kernel : am_at co_X12_isSafeByTwo 63 = some (3, .invokevirtual 433)) pq_12_433 pm_X12_isHomeAt rfl rfl rfl ob_152 h (x_k0 fun x12 M12 h => ?_)
        refine x_if (tgt := 79) (by decide +kernel : am_at co_X12_isSafeByTwo 66 = some (3, .ifCond .ne 13)) rfl Iff.rfl (fun c12 => ?_) (fun c12 => ?_)
        · have h := h.1 c12
          exact am_weak (lk (lk (lk (lk (ld (lk ln)))))) h
        · have c12 := (Classical.not_not.mp c12)
          have h := h.2 c12
          refine x_aload_n (by decide +kernel : am_at co_X12_isSafeByTwo 69 = some (1, .aload_n 0)) rfl ?_
          refine x_bipush (by decide +kernel : am_at co_X12_isSafeByTwo 70 = some (2, .bipush 14)) ?_
          refine x_iload_n (by decide +kernel : am_at co_X12_isSafeByTwo 72 = some (1, .iload_n 2)) rfl ?_
          refine x_callV (n := 3) (by decide +kernel : am_at co_X12_isSafeByTwo 73 = some (3, .invokevirtual 510)) pq_12_510 pm_X12_isSafeByOne rfl rfl rfl ob_152 h (x_k0 fun x14 M14 h => ?_)
          refine x_if (tgt := 83) (by decide +kernel : am_at co_X12_isSafeByTwo 76 = some (3, .ifCond .eq 7)) rfl Iff.rfl (fun c14 => ?_) (fun c14 => ?_)
          · have h := h.1 c14
            refine x_iconst (by decide +kernel : am_at co_X12_isSafeByTwo 83 = some (1, .iconst 0)) ?_
            refine x_istore (L' := [(2, 152), (0, v1), (0, v2), (0, v3), (0, 0), (0, v5)]) (by decide +kernel : am_at co_X12_isSafeByTwo 84 = some (2, .istore 4)) rfl ?_
            obtain ⟨o15, h⟩ := h
            refine x_iinc (L' := [(2, 152), (0, v1), (0, v2), (0, v3), (0, 0), (0, v5 + 1)]) (by decide +kernel : am_at co_X12_isSafeByTwo 86 = some (3, .iinc 5 1)) rfl o15 rfl ?_
            refine x_goto (tgt := 26) (by decide +kernel : am_at co_X12_isSafeByTwo 89 = some (3, .goto (-63))) rfl ?_
            exact am_weak (lk (lk (lk (lk (lk (lk ln)))))) h
          · have c14 := c14
            have h := h.2 c14
            exact am_weak (lk (lk (lk (lk (ld (lk ln)))))) h
set_option maxRecDepth 20000 in
theorem bk_X12_isSafeByTwo_79 {d : Nat} {Q : am_Q} {M : am_M} {v1 v2 v3 v5 : Int} (h : am_r (v5 + 1) ∧ am_g 12 5 co_X12_isSafeByTwo d Q 26 [(2, 152), (0, v1), (0, v2), (0, v3), (0, 1), (0, v5 + 1)] [] sh_T M) : am_g 12 5 co_X12_isSafeByTwo d Q 79 [(2, 152), (0, v1), (0, v2), (0, v3), (3, 0), (0, v5)] [] sh_T M := by
  refine x_iconst (by decide +kernel : am_at co_X12_isSafeByTwo 79 = some (1, .iconst 1)) ?_
  refine x_goto (tgt := 84) (by decide +kernel : am_at co_X12_isSafeByTwo 80 = some (3, .goto 4)) rfl ?_
  refine x_istore (L' := [(2, 152), (0, v1), (0, v2), (0, v3), (0, 1), (0, v5)]) (by decide +kernel : am_at co_X12_isSafeByTwo 84 = some (2, .istore 4)) rfl ?_
  obtain ⟨o0, h⟩ := h
  refine x_iinc (L' := [(2, 152), (0, v1), (0, v2), (0, v3), (0, 1), (0, v5 + 1)]) (by decide +kernel : am_at co_X12_isSafeByTwo 86 = some (3, .iinc 5 1)) rfl o0 rfl ?_
  refine x_goto (tgt := 26) (by decide +kernel : am_at co_X12_isSafeByTwo 89 = some (3, .goto (-63))) rfl ?_
  exact am_weak (lk (lk (lk (lk (lk (lk ln)))))) h
set_option maxRecDepth 20000 in
theorem bk_X12_isSafeByTwo_92 {d : Nat} {Q : am_Q} {M : am_M} {v1 v2 v3 v4 : Int} (h : ((v4 = 0 → am_r (v3 + 1) ∧ am_g 12 5 co_X12_isSafeByTwo d Q 2 [(2, 152), (0, v1), (0, v2), (0, v3 + 1), (3, 0), (3, 0)] [] sh_T M) ∧ (¬ v4 = 0 → Q (some (0, 1), sh_T, M)))) : am_g 12 5 co_X12_isSafeByTwo d Q 92 [(2, 152), (0, v1), (0, v2), (0, v3), (0, v4), (3, 0)] [] sh_T M := by
  refine x_iload (by decide +kernel : am_at co_X12_isSafeByTwo 92 = some (2, .iload 4)) rfl ?_
  refine x_if (tgt := 99) (by decide +kernel : am_at co_X12_isSafeByTwo 94 = some (3, .ifCond .eq 5)) rfl Iff.rfl (fun c0 => ?_) (fun c0 => ?_)
  · have h := h.1 c0
    obtain ⟨o1, h⟩ := h
    refine x_iinc (L' := [(2, 152), (0, v1), (0, v2), (0, v3 + 1), (0, v4), (3, 0)]) (by decide +kernel : am_at co_X12_isSafeByTwo 99 = some (3, .iinc 3 1)) rfl o1 rfl ?_
    refine x_goto (tgt := 2) (by decide +kernel : am_at co_X12_isSafeByTwo 102 = some (3, .goto (-100))) rfl ?_
    exact am_weak (lk (lk (lk (lk (ld (lk ln)))))) h
  · have c0 := c0
    have h := h.2 c0
    refine x_iconst (by decide +kernel : am_at co_X12_isSafeByTwo 97 = some (1, .iconst 1)) ?_
    exact x_zret (by decide +kernel : am_at co_X12_isSafeByTwo 98 = some (1, .ireturn)) (by decide) h
set_option maxRecDepth 20000 in
theorem bk_X12_isSafeByThree_0 {d : Nat} {Q : am_Q} {M : am_M} {v1 v2 : Int} (h : am_g 12 5 co_X12_isSafeByThree d Q 2 [(2, 152), (0, v1), (0, v2), (0, 0), (3, 0), (3, 0)] [] sh_T M) : am_g 12 5 co_X12_isSafeByThree d Q 0 [(2, 152), (0, v1), (0, v2), (3, 0), (3, 0), (3, 0)] [] sh_T M := by
  refine x_iconst (by decide +kernel : am_at co_X12_isSafeByThree 0 = some (1, .iconst 0)) ?_
  refine x_istore_n (L' := [(2, 152), (0, v1), (0, v2), (0, 0), (3, 0), (3, 0)]) (by decide +kernel : am_at co_X12_isSafeByThree 1 = some (1, .istore_n 3)) rfl ?_
  exact am_weak (lk (lk (lk (lk (lk (lk ln)))))) h
set_option maxRecDepth 20000 in
theorem bk_X12_isSafeByThree_2 {d : Nat} {Q : am_Q} {M : am_M} {v1 v2 v3 : Int} (h : ((2 ≤ v3 → Q (some (0, 0), sh_T, M)) ∧ (v3 < 2 → ((¬ v3 = 1 → am_cal pg d 256 [(2, 152), (0, 0)] sh_T M (am_c0 sh_T fun x3 M3 => am_g 12 5 co_X12_isSafeByThree d Q 26 [(2, 152), (0, v1), (0, v2), (0, v3), (0, x3), (0, 0)] [] sh_T M3)) ∧ (v3 = 1 → am_cal pg d 256 [(2, 152), (0, 1)] sh_T M (am_c0 sh_T fun x4 M4 => am_g 12 5 co_X12_isSafeByThree d Q 26 [(2, 152), (0, v1), (0, v2), (0, v3), (0, x4), (0, 0)] [] sh_T M4)))))) : am_g 12 5 co_X12_isSafeByThree d Q 2 [(2, 152), (0, v1), (0, v2), (0, v3), (3, 0), (3, 0)] [] sh_T M := by
  refine x_iload_n (by decide +kernel : am_at co_X12_isSafeByThree 2 = some (1, .iload_n 3)) rfl ?_
  refine x_iconst (by decide +kernel : am_at co_X12_isSafeByThree 3 = some (1, .iconst 2)) ?_
  refine x_icmp (tgt := 105) (by decide +kernel : am_at co_X12_isSafeByThree 4 = some (3, .if_icmp .ge 101)) rfl Iff.rfl (fun c0 => ?_) (fun c0 => ?_)
  · have h := h.1 c0
    refine x_iconst (by decide +kernel : am_at co_X12_isSafeByThree 105 = some (1, .iconst 0)) ?_
    exact x_zret (by decide +kernel : am_at co_X12_isSafeByThree 106 = some (1, .ireturn)) (by decide) h
  · have c0 := (Int.not_le.mp c0)
    have h := h.2 c0
    refine x_aload_n (by decide +kernel : am_at co_X12_isSafeByThree 7 = some (1, .aload_n 0)) rfl ?_
    refine x_iload_n (by decide +kernel : am_at co_X12_isSafeByThree 8 = some (1, .iload_n 3)) rfl ?_
    refine x_iconst (by decide +kernel : am_at co_X12_isSafeByThree 9 = some (1, .iconst 1)) ?_
    refine x_icmp (tgt := 17) (by decide +kernel : am_at co_X12_isSafeByThree 10 = some (3, .if_icmp .ne 7)) rfl Iff.rfl (fun c1 => ?_) (fun c1 => ?_)
    · have h := h.1 c1
      refine x_iconst (by decide +kernel : am_at co_X12_isSafeByThree 17 = some (1, .iconst 0)) ?_
      refine x_callV (n := 2) (by decide +kernel : am_at co_X12_isSafeByThree 18 = some (3, .invokevirtual 519)) pq_12_519 pm_X12_canGo rfl rfl rfl ob_152 h (x_k0 fun x3 M3 h => ?_)
      refine x_istore (L' := [(2, 152), (0, v1), (0, v2), (0, v3), (0, x3), (3, 0)]) (by decide +kernel : am_at co_X12_isSafeByThree 21 = some (2, .istore 4)) rfl ?_
      refine x_iconst (by decide +kernel : am_at co_X12_isSafeByThree 23 = some (1, .iconst 0)) ?_
      refine x_istore (L' := [(2, 152), (0, v1), (0, v2), (0, v3), (0, x3), (0, 0)]) (by decide +kernel : am_at co_X12_isSafeByThree 24 = some (2, .istore 5)) rfl ?_
      exact am_weak (lk (lk (lk (lk (lk (lk ln)))))) h
    · have c1 := (Classical.not_not.mp c1)
      have h := h.2 c1
      refine x_iconst (by decide +kernel : am_at co_X12_isSafeByThree 13 = some (1, .iconst 1)) ?_
      refine x_goto (tgt := 18) (by decide +kernel : am_at co_X12_isSafeByThree 14 = some (3, .goto 4)) rfl ?_
      refine x_callV (n := 2) (by decide +kernel : am_at co_X12_isSafeByThree 18 = some (3, .invokevirtual 519)) pq_12_519 pm_X12_canGo rfl rfl rfl ob_152 h (x_k0 fun x4 M4 h => ?_)
      refine x_istore (L' := [(2, 152), (0, v1), (0, v2), (0, v3), (0, x4), (3, 0)]) (by decide +kernel : am_at co_X12_isSafeByThree 21 = some (2, .istore 4)) rfl ?_
      refine x_iconst (by decide +kernel : am_at co_X12_isSafeByThree 23 = some (1, .iconst 0)) ?_
      refine x_istore (L' := [(2, 152), (0, v1), (0, v2), (0, v3), (0, x4), (0, 0)]) (by decide +kernel : am_at co_X12_isSafeByThree 24 = some (2, .istore 5)) rfl ?_
      exact am_weak (lk (lk (lk (lk (lk (lk ln)))))) h
set_option maxRecDepth 20000 in
theorem bk_X12_isSafeByThree_26 {d : Nat} {Q : am_Q} {M : am_M} {v1 v2 v3 v4 v5 : Int} (h : am_cal pg d 211 [(2, 152)] sh_T M (am_c0 sh_T fun x1 M1 => ((x1 ≤ v5 → am_g 12 5 co_X12_isSafeByThree d Q 92 [(2, 152), (0, v1), (0, v2), (0, v3), (0, v4), (3, 0)] [] sh_T M1) ∧ (v5 < x1 → ((v4 = 0 → am_g 12 5 co_X12_isSafeByThree d Q 92 [(2, 152), (0, v1), (0, v2), (0, v3), (0, v4), (3, 0)] [] sh_T M1) ∧ (¬ v4 = 0 → ((¬ v3 = 1 → am_cal pg d 257 [(2, 152), (0, v1), (0, 21), (0, v2), (0, 0), (0, v5)] sh_T M1 (am_cv sh_T fun M5 => am_cal pg d 224 [(2, 152), (0, 21)] sh_T M5 (am_c0 sh_T fun x6 M6 => ((¬ x6 = 0 → am_g 12 5 co_X12_isSafeByThree d Q 79 [(2, 152), (0, v1), (0, v2), (0, v3), (3, 0), (0, v5)] [] sh_T M6) ∧ (x6 = 0 → am_cal pg d 259 [(2, 152), (0, 21), (0, v2)] sh_T M6 (am_c0 sh_T fun x8 M8 => ((x8 = 0 → am_r (v5 + 1) ∧ am_g 12 5 co_X12_isSafeByThree d Q 26 [(2, 152), (0, v1), (0, v2), (0, v3), (0, 0), (0, v5 + 1)] [] sh_T M8) ∧ (¬ x8 = 0 → am_g 12 5 co_X12_isSafeByThree d Q 79 [(2, 152), (0, v1), (0, v2), (0, v3), (3, 0), (0, v5)] [] sh_T M8)))))))) ∧ (v3 = 1 → am_cal pg d 257 [(2, 152), (0, v1), (0, 21), (0, v2), (0, 1), (0, v5)] sh_T M1 (am_cv sh_T fun M11 => am_cal pg d 224 [(2, 152), (0, 21)] sh_T M11 (am_c0 sh_T fun x12 M12 => ((¬ x12 = 0 → am_g 12 5 co_X12_isSafeByThree d Q 79 [(2, 152), (0, v1), (0, v2), (0, v3), (3, 0), (0, v5)] [] sh_T M12) ∧ (x12 = 0 → am_cal pg d 259 [(2, 152), (0, 21), (0, v2)] sh_T M12 (am_c0 sh_T fun x14 M14 => ((x14 = 0 → am_r (v5 + 1) ∧ am_g 12 5 co_X12_isSafeByThree d Q 26 [(2, 152), (0, v1), (0, v2), (0, v3), (0, 0), (0, v5 + 1)] [] sh_T M14) ∧ (¬ x14 = 0 → am_g 12 5 co_X12_isSafeByThree d Q 79 [(2, 152), (0, v1), (0, v2), (0, v3), (3, 0), (0, v5)] [] sh_T M14))))))))))))))) : am_g 12 5 co_X12_isSafeByThree d Q 26 [(2, 152), (0, v1), (0, v2), (0, v3), (0, v4), (0, v5)] [] sh_T M := by
  refine x_iload (by decide +kernel : am_at co_X12_isSafeByThree 26 = some (2, .iload 5)) rfl ?_
  refine x_aload_n (by decide +kernel : am_at co_X12_isSafeByThree 28 = some (1, .aload_n 0)) rfl ?_
  refine x_callV (n := 1) (by decide +kernel : am_at co_X12_isSafeByThree 29 = some (3, .invokevirtual 389)) pq_12_389 pm_X12_dreadMany rfl rfl rfl ob_152 h (x_k0 fun x1 M1 h => ?_)
  refine x_icmp (tgt := 92) (by decide +kernel : am_at co_X12_isSafeByThree 32 = some (3, .if_icmp .ge 60)) rfl Iff.rfl (fun c1 => ?_) (fun c1 => ?_)
  · have h := h.1 c1
    exact am_weak (lk (lk (lk (lk (lk (ld ln)))))) h
  · have c1 := (Int.not_le.mp c1)
    have h := h.2 c1
    refine x_iload (by decide +kernel : am_at co_X12_isSafeByThree 35 = some (2, .iload 4)) rfl ?_
    refine x_if (tgt := 92) (by decide +kernel : am_at co_X12_isSafeByThree 37 = some (3, .ifCond .eq 55)) rfl Iff.rfl (fun c2 => ?_) (fun c2 => ?_)
    · have h := h.1 c2
      exact am_weak (lk (lk (lk (lk (lk (ld ln)))))) h
    · have c2 := c2
      have h := h.2 c2
      refine x_aload_n (by decide +kernel : am_at co_X12_isSafeByThree 40 = some (1, .aload_n 0)) rfl ?_
      refine x_iload_n (by decide +kernel : am_at co_X12_isSafeByThree 41 = some (1, .iload_n 1)) rfl ?_
      refine x_bipush (by decide +kernel : am_at co_X12_isSafeByThree 42 = some (2, .bipush 21)) ?_
      refine x_iload_n (by decide +kernel : am_at co_X12_isSafeByThree 44 = some (1, .iload_n 2)) rfl ?_
      refine x_iload_n (by decide +kernel : am_at co_X12_isSafeByThree 45 = some (1, .iload_n 3)) rfl ?_
      refine x_iconst (by decide +kernel : am_at co_X12_isSafeByThree 46 = some (1, .iconst 1)) ?_
      refine x_icmp (tgt := 54) (by decide +kernel : am_at co_X12_isSafeByThree 47 = some (3, .if_icmp .ne 7)) rfl Iff.rfl (fun c3 => ?_) (fun c3 => ?_)
      · have h := h.1 c3
        refine x_iconst (by decide +kernel : am_at co_X12_isSafeByThree 54 = some (1, .iconst 0)) ?_
        refine x_iload (by decide +kernel : am_at co_X12_isSafeByThree 55 = some (2, .iload 5)) rfl ?_
        refine x_callV (n := 6) (by decide +kernel : am_at co_X12_isSafeByThree 57 = some (3, .invokevirtual 523)) pq_12_523 pm_X12_answers rfl rfl rfl ob_152 h (x_kv fun M5 h => ?_)
        refine x_aload_n (by decide +kernel : am_at co_X12_isSafeByThree 60 = some (1, .aload_n 0)) rfl ?_
        refine x_bipush (by decide +kernel : am_at co_X12_isSafeByThree 61 = some (2, .bipush 21)) ?_
        refine x_callV (n := 2) (by decide +kernel : am_at co_X12_isSafeByThree 63 = some (3, .invokevirtual 433)) pq_12_433 pm_X12_isHomeAt rfl rfl rfl ob_152 h (x_k0 fun x6 M6 h => ?_)
        refine x_if (tgt := 79) (by decide +kernel : am_at co_X12_isSafeByThree 66 = some (3, .ifCond .ne 13)) rfl Iff.rfl (fun c6 => ?_) (fun c6 => ?_)
        · have h := h.1 c6
          exact am_weak (lk (lk (lk (lk (ld (lk ln)))))) h
        · have c6 := (Classical.not_not.mp c6)
          have h := h.2 c6
          refine x_aload_n (by decide +kernel : am_at co_X12_isSafeByThree 69 = some (1, .aload_n 0)) rfl ?_
          refine x_bipush (by decide +kernel : am_at co_X12_isSafeByThree 70 = some (2, .bipush 21)) ?_
          refine x_iload_n (by decide +kernel : am_at co_X12_isSafeByThree 72 = some (1, .iload_n 2)) rfl ?_
          refine x_callV (n := 3) (by decide +kernel : am_at co_X12_isSafeByThree 73 = some (3, .invokevirtual 513)) pq_12_513 pm_X12_isSafeByTwo rfl rfl rfl ob_152 h (x_k0 fun x8 M8 h => ?_)
          refine x_if (tgt := 83) (by decide +kernel : am_at co_X12_isSafeByThree 76 = some (3, .ifCond .eq 7)) rfl Iff.rfl (fun c8 => ?_) (fun c8 => ?_)
          · have h := h.1 c8
            refine x_iconst (by decide +kernel : am_at co_X12_isSafeByThree 83 = some (1, .iconst 0)) ?_
            refine x_istore (L' := [(2, 152), (0, v1), (0, v2), (0, v3), (0, 0), (0, v5)]) (by decide +kernel : am_at co_X12_isSafeByThree 84 = some (2, .istore 4)) rfl ?_
            obtain ⟨o9, h⟩ := h
            refine x_iinc (L' := [(2, 152), (0, v1), (0, v2), (0, v3), (0, 0), (0, v5 + 1)]) (by decide +kernel : am_at co_X12_isSafeByThree 86 = some (3, .iinc 5 1)) rfl o9 rfl ?_
            refine x_goto (tgt := 26) (by decide +kernel : am_at co_X12_isSafeByThree 89 = some (3, .goto (-63))) rfl ?_
            exact am_weak (lk (lk (lk (lk (lk (lk ln)))))) h
          · have c8 := c8
            have h := h.2 c8
            exact am_weak (lk (lk (lk (lk (ld (lk ln)))))) h
      · have c3 := (Classical.not_not.mp c3)
        have h := h.2 c3
        refine x_iconst (by decide +kernel : am_at co_X12_isSafeByThree 50 = some (1, .iconst 1)) ?_
        refine x_goto (tgt := 55) (by decide +kernel : am_at co_X12_isSafeByThree 51 = some (3, .goto 4)) rfl ?_
        refine x_iload (by decide +kernel : am_at co_X12_isSafeByThree 55 = some (2, .iload 5)) rfl ?_
        refine x_callV (n := 6) (by decide +kernel : am_at co_X12_isSafeByThree 57 = some (3, .invokevirtual 523)) pq_12_523 pm_X12_answers rfl rfl rfl ob_152 h (x_kv fun M11 h => ?_)
        refine x_aload_n (by decide +kernel : am_at co_X12_isSafeByThree 60 = some (1, .aload_n 0)) rfl ?_
        refine x_bipush (by decide +kernel : am_at co_X12_isSafeByThree 61 = some (2, .bipush 21)) ?_
        refine x_callV (n := 2) (by decide +kernel : am_at co_X12_isSafeByThree 63 = some (3, .invokevirtual 433)) pq_12_433 pm_X12_isHomeAt rfl rfl rfl ob_152 h (x_k0 fun x12 M12 h => ?_)
        refine x_if (tgt := 79) (by decide +kernel : am_at co_X12_isSafeByThree 66 = some (3, .ifCond .ne 13)) rfl Iff.rfl (fun c12 => ?_) (fun c12 => ?_)
        · have h := h.1 c12
          exact am_weak (lk (lk (lk (lk (ld (lk ln)))))) h
        · have c12 := (Classical.not_not.mp c12)
          have h := h.2 c12
          refine x_aload_n (by decide +kernel : am_at co_X12_isSafeByThree 69 = some (1, .aload_n 0)) rfl ?_
          refine x_bipush (by decide +kernel : am_at co_X12_isSafeByThree 70 = some (2, .bipush 21)) ?_
          refine x_iload_n (by decide +kernel : am_at co_X12_isSafeByThree 72 = some (1, .iload_n 2)) rfl ?_
          refine x_callV (n := 3) (by decide +kernel : am_at co_X12_isSafeByThree 73 = some (3, .invokevirtual 513)) pq_12_513 pm_X12_isSafeByTwo rfl rfl rfl ob_152 h (x_k0 fun x14 M14 h => ?_)
          refine x_if (tgt := 83) (by decide +kernel : am_at co_X12_isSafeByThree 76 = some (3, .ifCond .eq 7)) rfl Iff.rfl (fun c14 => ?_) (fun c14 => ?_)
          · have h := h.1 c14
            refine x_iconst (by decide +kernel : am_at co_X12_isSafeByThree 83 = some (1, .iconst 0)) ?_
            refine x_istore (L' := [(2, 152), (0, v1), (0, v2), (0, v3), (0, 0), (0, v5)]) (by decide +kernel : am_at co_X12_isSafeByThree 84 = some (2, .istore 4)) rfl ?_
            obtain ⟨o15, h⟩ := h
            refine x_iinc (L' := [(2, 152), (0, v1), (0, v2), (0, v3), (0, 0), (0, v5 + 1)]) (by decide +kernel : am_at co_X12_isSafeByThree 86 = some (3, .iinc 5 1)) rfl o15 rfl ?_
            refine x_goto (tgt := 26) (by decide +kernel : am_at co_X12_isSafeByThree 89 = some (3, .goto (-63))) rfl ?_
            exact am_weak (lk (lk (lk (lk (lk (lk ln)))))) h
          · have c14 := c14
            have h := h.2 c14
            exact am_weak (lk (lk (lk (lk (ld (lk ln)))))) h
set_option maxRecDepth 20000 in
theorem bk_X12_isSafeByThree_79 {d : Nat} {Q : am_Q} {M : am_M} {v1 v2 v3 v5 : Int} (h : am_r (v5 + 1) ∧ am_g 12 5 co_X12_isSafeByThree d Q 26 [(2, 152), (0, v1), (0, v2), (0, v3), (0, 1), (0, v5 + 1)] [] sh_T M) : am_g 12 5 co_X12_isSafeByThree d Q 79 [(2, 152), (0, v1), (0, v2), (0, v3), (3, 0), (0, v5)] [] sh_T M := by
  refine x_iconst (by decide +kernel : am_at co_X12_isSafeByThree 79 = some (1, .iconst 1)) ?_
  refine x_goto (tgt := 84) (by decide +kernel : am_at co_X12_isSafeByThree 80 = some (3, .goto 4)) rfl ?_
  refine x_istore (L' := [(2, 152), (0, v1), (0, v2), (0, v3), (0, 1), (0, v5)]) (by decide +kernel : am_at co_X12_isSafeByThree 84 = some (2, .istore 4)) rfl ?_
  obtain ⟨o0, h⟩ := h
  refine x_iinc (L' := [(2, 152), (0, v1), (0, v2), (0, v3), (0, 1), (0, v5 + 1)]) (by decide +kernel : am_at co_X12_isSafeByThree 86 = some (3, .iinc 5 1)) rfl o0 rfl ?_
  refine x_goto (tgt := 26) (by decide +kernel : am_at co_X12_isSafeByThree 89 = some (3, .goto (-63))) rfl ?_
  exact am_weak (lk (lk (lk (lk (lk (lk ln)))))) h
set_option maxRecDepth 20000 in
theorem bk_X12_isSafeByThree_92 {d : Nat} {Q : am_Q} {M : am_M} {v1 v2 v3 v4 : Int} (h : ((v4 = 0 → am_r (v3 + 1) ∧ am_g 12 5 co_X12_isSafeByThree d Q 2 [(2, 152), (0, v1), (0, v2), (0, v3 + 1), (3, 0), (3, 0)] [] sh_T M) ∧ (¬ v4 = 0 → Q (some (0, 1), sh_T, M)))) : am_g 12 5 co_X12_isSafeByThree d Q 92 [(2, 152), (0, v1), (0, v2), (0, v3), (0, v4), (3, 0)] [] sh_T M := by
  refine x_iload (by decide +kernel : am_at co_X12_isSafeByThree 92 = some (2, .iload 4)) rfl ?_
  refine x_if (tgt := 99) (by decide +kernel : am_at co_X12_isSafeByThree 94 = some (3, .ifCond .eq 5)) rfl Iff.rfl (fun c0 => ?_) (fun c0 => ?_)
  · have h := h.1 c0
    obtain ⟨o1, h⟩ := h
    refine x_iinc (L' := [(2, 152), (0, v1), (0, v2), (0, v3 + 1), (0, v4), (3, 0)]) (by decide +kernel : am_at co_X12_isSafeByThree 99 = some (3, .iinc 3 1)) rfl o1 rfl ?_
    refine x_goto (tgt := 2) (by decide +kernel : am_at co_X12_isSafeByThree 102 = some (3, .goto (-100))) rfl ?_
    exact am_weak (lk (lk (lk (lk (ld (lk ln)))))) h
  · have c0 := c0
    have h := h.2 c0
    refine x_iconst (by decide +kernel : am_at co_X12_isSafeByThree 97 = some (1, .iconst 1)) ?_
    exact x_zret (by decide +kernel : am_at co_X12_isSafeByThree 98 = some (1, .ireturn)) (by decide) h
set_option maxRecDepth 20000 in
theorem bk_X12_against_0 {d : Nat} {Q : am_Q} {M : am_M} {v1 v2 : Int} (h : am_cal pg d 215 [(2, 152), (0, v1)] sh_T M (am_c0 sh_T fun x1 M1 => ((x1 = 0 → Q (some (0, (-1)), sh_T, M1)) ∧ (¬ x1 = 0 → am_cal pg d 169 [(1, v2), (1, 0), (1, 3)] sh_T M1 (am_c0 sh_T fun x3 M3 => ((¬ x3 = 0 → am_cal pg d 218 [(2, 152), (0, v1), (0, 28)] sh_T M3 (am_cv sh_T fun M5 => am_cal pg d 255 [(2, 152), (0, 28), (0, v2), (0, v1)] sh_T M5 (am_c0 sh_T fun x6 M6 => ((x6 = 0 → Q (some (0, 0), sh_T, M6)) ∧ (¬ x6 = 0 → Q (some (0, 1), sh_T, M6)))))) ∧ (x3 = 0 → Q (some (0, (-1)), sh_T, M3)))))))) : am_g 12 0 co_X12_against d Q 0 [(2, 152), (0, v1), (0, v2)] [] sh_T M := by
  refine x_aload_n (by decide +kernel : am_at co_X12_against 0 = some (1, .aload_n 0)) rfl ?_
  refine x_iload_n (by decide +kernel : am_at co_X12_against 1 = some (1, .iload_n 1)) rfl ?_
  refine x_callV (n := 2) (by decide +kernel : am_at co_X12_against 2 = some (3, .invokevirtual 446)) pq_12_446 pm_X12_isDreamer rfl rfl rfl ob_152 h (x_k0 fun x1 M1 h => ?_)
  refine x_if (tgt := 20) (by decide +kernel : am_at co_X12_against 5 = some (3, .ifCond .eq 15)) rfl Iff.rfl (fun c1 => ?_) (fun c1 => ?_)
  · have h := h.1 c1
    refine x_iconst (by decide +kernel : am_at co_X12_against 20 = some (1, .iconst (-1))) ?_
    exact x_iret (by decide +kernel : am_at co_X12_against 21 = some (1, .ireturn)) h
  · have c1 := c1
    have h := h.2 c1
    refine x_iload_n (by decide +kernel : am_at co_X12_against 8 = some (1, .iload_n 2)) rfl ?_
    refine x_i2l (by decide +kernel : am_at co_X12_against 9 = some (1, .i2l)) ?_
    refine x_lconst (by decide +kernel : am_at co_X12_against 10 = some (1, .lconst 0)) ?_
    refine x_ldc2 (by decide +kernel : am_at co_X12_against 11 = some (3, .ldc2_w 527)) pq_12_527 ?_
    refine x_callS (n := 3) (by decide +kernel : am_at co_X12_against 14 = some (3, .invokestatic 249)) pq_12_249 rfl rfl rfl h (x_k0 fun x3 M3 h => ?_)
    refine x_if (tgt := 22) (by decide +kernel : am_at co_X12_against 17 = some (3, .ifCond .ne 5)) rfl Iff.rfl (fun c3 => ?_) (fun c3 => ?_)
    · have h := h.1 c3
      refine x_aload_n (by decide +kernel : am_at co_X12_against 22 = some (1, .aload_n 0)) rfl ?_
      refine x_iload_n (by decide +kernel : am_at co_X12_against 23 = some (1, .iload_n 1)) rfl ?_
      refine x_bipush (by decide +kernel : am_at co_X12_against 24 = some (2, .bipush 28)) ?_
      refine x_callV (n := 3) (by decide +kernel : am_at co_X12_against 26 = some (3, .invokevirtual 430)) pq_12_430 pm_X12_laysNow rfl rfl rfl ob_152 h (x_kv fun M5 h => ?_)
      refine x_aload_n (by decide +kernel : am_at co_X12_against 29 = some (1, .aload_n 0)) rfl ?_
      refine x_bipush (by decide +kernel : am_at co_X12_against 30 = some (2, .bipush 28)) ?_
      refine x_iload_n (by decide +kernel : am_at co_X12_against 32 = some (1, .iload_n 2)) rfl ?_
      refine x_iload_n (by decide +kernel : am_at co_X12_against 33 = some (1, .iload_n 1)) rfl ?_
      refine x_callV (n := 4) (by decide +kernel : am_at co_X12_against 34 = some (3, .invokevirtual 529)) pq_12_529 pm_X12_isSafe rfl rfl rfl ob_152 h (x_k0 fun x6 M6 h => ?_)
      refine x_if (tgt := 44) (by decide +kernel : am_at co_X12_against 37 = some (3, .ifCond .eq 7)) rfl Iff.rfl (fun c6 => ?_) (fun c6 => ?_)
      · have h := h.1 c6
        refine x_iconst (by decide +kernel : am_at co_X12_against 44 = some (1, .iconst 0)) ?_
        exact x_iret (by decide +kernel : am_at co_X12_against 45 = some (1, .ireturn)) h
      · have c6 := c6
        have h := h.2 c6
        refine x_iconst (by decide +kernel : am_at co_X12_against 40 = some (1, .iconst 1)) ?_
        refine x_goto (tgt := 45) (by decide +kernel : am_at co_X12_against 41 = some (3, .goto 4)) rfl ?_
        exact x_iret (by decide +kernel : am_at co_X12_against 45 = some (1, .ireturn)) h
    · have c3 := (Classical.not_not.mp c3)
      have h := h.2 c3
      refine x_iconst (by decide +kernel : am_at co_X12_against 20 = some (1, .iconst (-1))) ?_
      exact x_iret (by decide +kernel : am_at co_X12_against 21 = some (1, .ireturn)) h
set_option maxRecDepth 20000 in
theorem bk_X12_likely_0 {d : Nat} {Q : am_Q} {M : am_M} {v1 v2 v3 : Int} (h : am_cal pg d 218 [(2, 152), (0, v3), (0, 0)] sh_T M (am_cv sh_T fun M1 => am_g 12 1 co_X12_likely d Q 12 [(2, 152), (0, v1), (0, v2), (0, v3), (1, 1), (3, 0), (0, 0), (3, 0), (3, 0)] [] sh_T M1)) : am_g 12 1 co_X12_likely d Q 0 [(2, 152), (0, v1), (0, v2), (0, v3), (3, 0), (3, 0), (3, 0), (3, 0), (3, 0)] [] sh_T M := by
  refine x_aload_n (by decide +kernel : am_at co_X12_likely 0 = some (1, .aload_n 0)) rfl ?_
  refine x_iload_n (by decide +kernel : am_at co_X12_likely 1 = some (1, .iload_n 3)) rfl ?_
  refine x_iconst (by decide +kernel : am_at co_X12_likely 2 = some (1, .iconst 0)) ?_
  refine x_callV (n := 3) (by decide +kernel : am_at co_X12_likely 3 = some (3, .invokevirtual 430)) pq_12_430 pm_X12_laysNow rfl rfl rfl ob_152 h (x_kv fun M1 h => ?_)
  refine x_lconst (by decide +kernel : am_at co_X12_likely 6 = some (1, .lconst 1)) ?_
  refine x_lstore (L' := [(2, 152), (0, v1), (0, v2), (0, v3), (1, 1), (3, 0), (3, 0), (3, 0), (3, 0)]) (by decide +kernel : am_at co_X12_likely 7 = some (2, .lstore 4)) rfl ?_
  refine x_iconst (by decide +kernel : am_at co_X12_likely 9 = some (1, .iconst 0)) ?_
  refine x_istore (L' := [(2, 152), (0, v1), (0, v2), (0, v3), (1, 1), (3, 0), (0, 0), (3, 0), (3, 0)]) (by decide +kernel : am_at co_X12_likely 10 = some (2, .istore 6)) rfl ?_
  exact am_weak (lk (lk (lk (lk (lk (lk (lk (lk (lk ln))))))))) h
set_option maxRecDepth 20000 in
theorem bk_X12_likely_12 {d : Nat} {Q : am_Q} {M : am_M} {v1 v2 v3 v4 v6 : Int} (h : ((v2 ≤ v6 → am_cal pg d 224 [(2, 152), (0, 0)] sh_T M (am_c0 sh_T fun x2 M2 => ((x2 = 0 → Q (some (1, 0), sh_T, M2)) ∧ (¬ x2 = 0 → Q (some (1, v4), sh_T, M2))))) ∧ (v6 < v2 → ((¬ am_band (am_shr v1 v6) 1 = 1 → am_cal pg d 216 [(2, 152), (0, 1)] sh_T M (am_c0 sh_T fun x5 M5 => am_r (100 - x5) ∧ am_rl (v4 * (100 - x5)) ∧ am_cal pg d 224 [(2, 152), (0, 0)] sh_T M5 (am_c0 sh_T fun x8 M8 => ((x8 = 0 → am_cal pg d 230 [(2, 152), (0, v3)] sh_T M8 (am_c0 sh_T fun x10 M10 => am_cal pg d 228 [(2, 152), (0, 0), (0, v3), (0, x10), (0, 0)] sh_T M10 (am_c0 sh_T fun x11 M11 => am_g 12 1 co_X12_likely d Q 104 [(2, 152), (0, v1), (0, v2), (0, v3), (1, v4 * (100 - x5)), (3, 0), (0, v6), (3, 0), (3, 0)] [] sh_T M11))) ∧ (¬ x8 = 0 → am_g 12 1 co_X12_likely d Q 104 [(2, 152), (0, v1), (0, v2), (0, v3), (1, v4 * (100 - x5)), (3, 0), (0, v6), (3, 0), (3, 0)] [] sh_T M8))))) ∧ (am_band (am_shr v1 v6) 1 = 1 → am_cal pg d 216 [(2, 152), (0, 1)] sh_T M (am_c0 sh_T fun x12 M12 => am_rl (v4 * x12) ∧ am_cal pg d 224 [(2, 152), (0, 0)] sh_T M12 (am_c0 sh_T fun x14 M14 => ((x14 = 0 → am_cal pg d 230 [(2, 152), (0, v3)] sh_T M14 (am_c0 sh_T fun x16 M16 => am_cal pg d 228 [(2, 152), (0, 0), (0, v3), (0, x16), (0, 0)] sh_T M16 (am_c0 sh_T fun x17 M17 => ((x17 = (-1) → am_g 12 1 co_X12_likely d Q 104 [(2, 152), (0, v1), (0, v2), (0, v3), (1, v4 * x12), (3, 0), (0, v6), (3, 0), (3, 0)] [] sh_T M17) ∧ (¬ x17 = (-1) → am_cal pg d 229 [(2, 152), (0, 0)] sh_T M17 (am_cv sh_T fun M19 => am_g 12 1 co_X12_likely d Q 104 [(2, 152), (0, v1), (0, v2), (0, v3), (1, v4 * x12), (3, 0), (0, v6), (3, 0), (3, 0)] [] sh_T M19)))))) ∧ (¬ x14 = 0 → am_g 12 1 co_X12_likely d Q 104 [(2, 152), (0, v1), (0, v2), (0, v3), (1, v4 * x12), (3, 0), (0, v6), (3, 0), (3, 0)] [] sh_T M14))))))))) : am_g 12 1 co_X12_likely d Q 12 [(2, 152), (0, v1), (0, v2), (0, v3), (1, v4), (3, 0), (0, v6), (3, 0), (3, 0)] [] sh_T M := by
  refine x_iload (by decide +kernel : am_at co_X12_likely 12 = some (2, .iload 6)) rfl ?_
  refine x_iload_n (by decide +kernel : am_at co_X12_likely 14 = some (1, .iload_n 2)) rfl ?_
  refine x_icmp (tgt := 110) (by decide +kernel : am_at co_X12_likely 15 = some (3, .if_icmp .ge 95)) rfl Iff.rfl (fun c0 => ?_) (fun c0 => ?_)
  · have h := h.1 c0
    refine x_aload_n (by decide +kernel : am_at co_X12_likely 110 = some (1, .aload_n 0)) rfl ?_
    refine x_iconst (by decide +kernel : am_at co_X12_likely 111 = some (1, .iconst 0)) ?_
    refine x_callV (n := 2) (by decide +kernel : am_at co_X12_likely 112 = some (3, .invokevirtual 433)) pq_12_433 pm_X12_isHomeAt rfl rfl rfl ob_152 h (x_k0 fun x2 M2 h => ?_)
    refine x_if (tgt := 123) (by decide +kernel : am_at co_X12_likely 115 = some (3, .ifCond .eq 8)) rfl Iff.rfl (fun c2 => ?_) (fun c2 => ?_)
    · have h := h.1 c2
      refine x_lconst (by decide +kernel : am_at co_X12_likely 123 = some (1, .lconst 0)) ?_
      exact x_lret (by decide +kernel : am_at co_X12_likely 124 = some (1, .lreturn)) h
    · have c2 := c2
      have h := h.2 c2
      refine x_lload (by decide +kernel : am_at co_X12_likely 118 = some (2, .lload 4)) rfl ?_
      refine x_goto (tgt := 124) (by decide +kernel : am_at co_X12_likely 120 = some (3, .goto 4)) rfl ?_
      exact x_lret (by decide +kernel : am_at co_X12_likely 124 = some (1, .lreturn)) h
  · have c0 := (Int.not_le.mp c0)
    have h := h.2 c0
    refine x_iload_n (by decide +kernel : am_at co_X12_likely 18 = some (1, .iload_n 1)) rfl ?_
    refine x_iload (by decide +kernel : am_at co_X12_likely 19 = some (2, .iload 6)) rfl ?_
    refine x_ishr (by decide +kernel : am_at co_X12_likely 21 = some (1, .ishr)) ?_
    refine x_iconst (by decide +kernel : am_at co_X12_likely 22 = some (1, .iconst 1)) ?_
    refine x_iand (by decide +kernel : am_at co_X12_likely 23 = some (1, .iand)) ?_
    refine x_iconst (by decide +kernel : am_at co_X12_likely 24 = some (1, .iconst 1)) ?_
    refine x_icmp (tgt := 32) (by decide +kernel : am_at co_X12_likely 25 = some (3, .if_icmp .ne 7)) rfl Iff.rfl (fun c3 => ?_) (fun c3 => ?_)
    · have h := h.1 c3
      refine x_iconst (by decide +kernel : am_at co_X12_likely 32 = some (1, .iconst 0)) ?_
      refine x_istore (L' := [(2, 152), (0, v1), (0, v2), (0, v3), (1, v4), (3, 0), (0, v6), (0, 0), (3, 0)]) (by decide +kernel : am_at co_X12_likely 33 = some (2, .istore 7)) rfl ?_
      refine x_lload (by decide +kernel : am_at co_X12_likely 35 = some (2, .lload 4)) rfl ?_
      refine x_iload (by decide +kernel : am_at co_X12_likely 37 = some (2, .iload 7)) rfl ?_
      refine x_if (tgt := 51) (by decide +kernel : am_at co_X12_likely 39 = some (3, .ifCond .eq 12)) rfl Iff.rfl (fun q => ?_) (fun q => absurd (show (0 : Int) = 0 by decide) q)
      refine x_bipush (by decide +kernel : am_at co_X12_likely 51 = some (2, .bipush 100)) ?_
      refine x_aload_n (by decide +kernel : am_at co_X12_likely 53 = some (1, .aload_n 0)) rfl ?_
      refine x_iconst (by decide +kernel : am_at co_X12_likely 54 = some (1, .iconst 1)) ?_
      refine x_callV (n := 2) (by decide +kernel : am_at co_X12_likely 55 = some (3, .invokevirtual 401)) pq_12_401 pm_X12_settingOf rfl rfl rfl ob_152 h (x_k0 fun x5 M5 h => ?_)
      obtain ⟨o5, h⟩ := h
      refine x_isub (by decide +kernel : am_at co_X12_likely 58 = some (1, .isub)) o5 ?_
      refine x_i2l (by decide +kernel : am_at co_X12_likely 59 = some (1, .i2l)) ?_
      obtain ⟨o6, h⟩ := h
      refine x_lmul (by decide +kernel : am_at co_X12_likely 60 = some (1, .lmul)) o6 ?_
      refine x_lstore (L' := [(2, 152), (0, v1), (0, v2), (0, v3), (1, v4 * (100 - x5)), (3, 0), (0, v6), (0, 0), (3, 0)]) (by decide +kernel : am_at co_X12_likely 61 = some (2, .lstore 4)) rfl ?_
      refine x_aload_n (by decide +kernel : am_at co_X12_likely 63 = some (1, .aload_n 0)) rfl ?_
      refine x_iconst (by decide +kernel : am_at co_X12_likely 64 = some (1, .iconst 0)) ?_
      refine x_callV (n := 2) (by decide +kernel : am_at co_X12_likely 65 = some (3, .invokevirtual 433)) pq_12_433 pm_X12_isHomeAt rfl rfl rfl ob_152 h (x_k0 fun x8 M8 h => ?_)
      refine x_if (tgt := 74) (by decide +kernel : am_at co_X12_likely 68 = some (3, .ifCond .eq 6)) rfl Iff.rfl (fun c8 => ?_) (fun c8 => ?_)
      · have h := h.1 c8
        refine x_aload_n (by decide +kernel : am_at co_X12_likely 74 = some (1, .aload_n 0)) rfl ?_
        refine x_iconst (by decide +kernel : am_at co_X12_likely 75 = some (1, .iconst 0)) ?_
        refine x_iload_n (by decide +kernel : am_at co_X12_likely 76 = some (1, .iload_n 3)) rfl ?_
        refine x_aload_n (by decide +kernel : am_at co_X12_likely 77 = some (1, .aload_n 0)) rfl ?_
        refine x_iload_n (by decide +kernel : am_at co_X12_likely 78 = some (1, .iload_n 3)) rfl ?_
        refine x_callV (n := 2) (by decide +kernel : am_at co_X12_likely 79 = some (3, .invokevirtual 449)) pq_12_449 pm_X12_guideOf rfl rfl rfl ob_152 h (x_k0 fun x10 M10 h => ?_)
        refine x_iconst (by decide +kernel : am_at co_X12_likely 82 = some (1, .iconst 0)) ?_
        refine x_callV (n := 5) (by decide +kernel : am_at co_X12_likely 83 = some (3, .invokevirtual 463)) pq_12_463 pm_X12_roomGoes rfl rfl rfl ob_152 h (x_k0 fun x11 M11 h => ?_)
        refine x_istore (L' := [(2, 152), (0, v1), (0, v2), (0, v3), (1, v4 * (100 - x5)), (3, 0), (0, v6), (0, 0), (0, x11)]) (by decide +kernel : am_at co_X12_likely 86 = some (2, .istore 8)) rfl ?_
        refine x_iload (by decide +kernel : am_at co_X12_likely 88 = some (2, .iload 7)) rfl ?_
        refine x_if (tgt := 104) (by decide +kernel : am_at co_X12_likely 90 = some (3, .ifCond .eq 14)) rfl Iff.rfl (fun q => ?_) (fun q => absurd (show (0 : Int) = 0 by decide) q)
        exact am_weak (lk (lk (lk (lk (lk (lk (lk (ld (ld ln))))))))) h
      · have c8 := c8
        have h := h.2 c8
        refine x_goto (tgt := 104) (by decide +kernel : am_at co_X12_likely 71 = some (3, .goto 33)) rfl ?_
        exact am_weak (lk (lk (lk (lk (lk (lk (lk (ld (lk ln))))))))) h
    · have c3 := (Classical.not_not.mp c3)
      have h := h.2 c3
      refine x_iconst (by decide +kernel : am_at co_X12_likely 28 = some (1, .iconst 1)) ?_
      refine x_goto (tgt := 33) (by decide +kernel : am_at co_X12_likely 29 = some (3, .goto 4)) rfl ?_
      refine x_istore (L' := [(2, 152), (0, v1), (0, v2), (0, v3), (1, v4), (3, 0), (0, v6), (0, 1), (3, 0)]) (by decide +kernel : am_at co_X12_likely 33 = some (2, .istore 7)) rfl ?_
      refine x_lload (by decide +kernel : am_at co_X12_likely 35 = some (2, .lload 4)) rfl ?_
      refine x_iload (by decide +kernel : am_at co_X12_likely 37 = some (2, .iload 7)) rfl ?_
      refine x_if (tgt := 51) (by decide +kernel : am_at co_X12_likely 39 = some (3, .ifCond .eq 12)) rfl Iff.rfl (fun q => absurd q (show ¬ ((1 : Int) = 0) by decide)) (fun q => ?_)
      refine x_aload_n (by decide +kernel : am_at co_X12_likely 42 = some (1, .aload_n 0)) rfl ?_
      refine x_iconst (by decide +kernel : am_at co_X12_likely 43 = some (1, .iconst 1)) ?_
      refine x_callV (n := 2) (by decide +kernel : am_at co_X12_likely 44 = some (3, .invokevirtual 401)) pq_12_401 pm_X12_settingOf rfl rfl rfl ob_152 h (x_k0 fun x12 M12 h => ?_)
      refine x_i2l (by decide +kernel : am_at co_X12_likely 47 = some (1, .i2l)) ?_
      refine x_goto (tgt := 60) (by decide +kernel : am_at co_X12_likely 48 = some (3, .goto 12)) rfl ?_
      obtain ⟨o12, h⟩ := h
      refine x_lmul (by decide +kernel : am_at co_X12_likely 60 = some (1, .lmul)) o12 ?_
      refine x_lstore (L' := [(2, 152), (0, v1), (0, v2), (0, v3), (1, v4 * x12), (3, 0), (0, v6), (0, 1), (3, 0)]) (by decide +kernel : am_at co_X12_likely 61 = some (2, .lstore 4)) rfl ?_
      refine x_aload_n (by decide +kernel : am_at co_X12_likely 63 = some (1, .aload_n 0)) rfl ?_
      refine x_iconst (by decide +kernel : am_at co_X12_likely 64 = some (1, .iconst 0)) ?_
      refine x_callV (n := 2) (by decide +kernel : am_at co_X12_likely 65 = some (3, .invokevirtual 433)) pq_12_433 pm_X12_isHomeAt rfl rfl rfl ob_152 h (x_k0 fun x14 M14 h => ?_)
      refine x_if (tgt := 74) (by decide +kernel : am_at co_X12_likely 68 = some (3, .ifCond .eq 6)) rfl Iff.rfl (fun c14 => ?_) (fun c14 => ?_)
      · have h := h.1 c14
        refine x_aload_n (by decide +kernel : am_at co_X12_likely 74 = some (1, .aload_n 0)) rfl ?_
        refine x_iconst (by decide +kernel : am_at co_X12_likely 75 = some (1, .iconst 0)) ?_
        refine x_iload_n (by decide +kernel : am_at co_X12_likely 76 = some (1, .iload_n 3)) rfl ?_
        refine x_aload_n (by decide +kernel : am_at co_X12_likely 77 = some (1, .aload_n 0)) rfl ?_
        refine x_iload_n (by decide +kernel : am_at co_X12_likely 78 = some (1, .iload_n 3)) rfl ?_
        refine x_callV (n := 2) (by decide +kernel : am_at co_X12_likely 79 = some (3, .invokevirtual 449)) pq_12_449 pm_X12_guideOf rfl rfl rfl ob_152 h (x_k0 fun x16 M16 h => ?_)
        refine x_iconst (by decide +kernel : am_at co_X12_likely 82 = some (1, .iconst 0)) ?_
        refine x_callV (n := 5) (by decide +kernel : am_at co_X12_likely 83 = some (3, .invokevirtual 463)) pq_12_463 pm_X12_roomGoes rfl rfl rfl ob_152 h (x_k0 fun x17 M17 h => ?_)
        refine x_istore (L' := [(2, 152), (0, v1), (0, v2), (0, v3), (1, v4 * x12), (3, 0), (0, v6), (0, 1), (0, x17)]) (by decide +kernel : am_at co_X12_likely 86 = some (2, .istore 8)) rfl ?_
        refine x_iload (by decide +kernel : am_at co_X12_likely 88 = some (2, .iload 7)) rfl ?_
        refine x_if (tgt := 104) (by decide +kernel : am_at co_X12_likely 90 = some (3, .ifCond .eq 14)) rfl Iff.rfl (fun q => absurd q (show ¬ ((1 : Int) = 0) by decide)) (fun q => ?_)
        refine x_iload (by decide +kernel : am_at co_X12_likely 93 = some (2, .iload 8)) rfl ?_
        refine x_iconst (by decide +kernel : am_at co_X12_likely 95 = some (1, .iconst (-1))) ?_
        refine x_icmp (tgt := 104) (by decide +kernel : am_at co_X12_likely 96 = some (3, .if_icmp .eq 8)) rfl Iff.rfl (fun c17 => ?_) (fun c17 => ?_)
        · have h := h.1 c17
          exact am_weak (lk (lk (lk (lk (lk (lk (lk (ld (ld ln))))))))) h
        · have c17 := c17
          have h := h.2 c17
          refine x_aload_n (by decide +kernel : am_at co_X12_likely 99 = some (1, .aload_n 0)) rfl ?_
          refine x_iconst (by decide +kernel : am_at co_X12_likely 100 = some (1, .iconst 0)) ?_
          refine x_callV (n := 2) (by decide +kernel : am_at co_X12_likely 101 = some (3, .invokevirtual 532)) pq_12_532 pm_X12_laughs rfl rfl rfl ob_152 h (x_kv fun M19 h => ?_)
          exact am_weak (lk (lk (lk (lk (lk (lk (lk (ld (ld ln))))))))) h
      · have c14 := c14
        have h := h.2 c14
        refine x_goto (tgt := 104) (by decide +kernel : am_at co_X12_likely 71 = some (3, .goto 33)) rfl ?_
        exact am_weak (lk (lk (lk (lk (lk (lk (lk (ld (lk ln))))))))) h
set_option maxRecDepth 20000 in
theorem bk_X12_likely_104 {d : Nat} {Q : am_Q} {M : am_M} {v1 v2 v3 v4 v6 : Int} (h : am_r (v6 + 1) ∧ am_g 12 1 co_X12_likely d Q 12 [(2, 152), (0, v1), (0, v2), (0, v3), (1, v4), (3, 0), (0, v6 + 1), (3, 0), (3, 0)] [] sh_T M) : am_g 12 1 co_X12_likely d Q 104 [(2, 152), (0, v1), (0, v2), (0, v3), (1, v4), (3, 0), (0, v6), (3, 0), (3, 0)] [] sh_T M := by
  obtain ⟨o0, h⟩ := h
  refine x_iinc (L' := [(2, 152), (0, v1), (0, v2), (0, v3), (1, v4), (3, 0), (0, v6 + 1), (3, 0), (3, 0)]) (by decide +kernel : am_at co_X12_likely 104 = some (3, .iinc 6 1)) rfl o0 rfl ?_
  refine x_goto (tgt := 12) (by decide +kernel : am_at co_X12_likely 107 = some (3, .goto (-95))) rfl ?_
  exact am_weak (lk (lk (lk (lk (lk (lk (lk (lk (lk ln))))))))) h
set_option maxRecDepth 20000 in
theorem bk_X12_chance_0 {d : Nat} {Q : am_Q} {M : am_M} {v1 v2 : Int} (h : am_cal pg d 215 [(2, 152), (0, v1)] sh_T M (am_c0 sh_T fun x1 M1 => ((x1 = 0 → Q (some (0, (-1)), sh_T, M1)) ∧ (¬ x1 = 0 → am_cal pg d 169 [(1, v2), (1, 0), (1, 4)] sh_T M1 (am_c0 sh_T fun x3 M3 => ((¬ x3 = 0 → am_g 12 0 co_X12_chance d Q 30 [(2, 152), (0, v1), (0, v2), (1, 0), (3, 0), (1, 1), (3, 0), (0, 0)] [] sh_T M3) ∧ (x3 = 0 → Q (some (0, (-1)), sh_T, M3)))))))) : am_g 12 0 co_X12_chance d Q 0 [(2, 152), (0, v1), (0, v2), (3, 0), (3, 0), (3, 0), (3, 0), (3, 0)] [] sh_T M := by
  refine x_aload_n (by decide +kernel : am_at co_X12_chance 0 = some (1, .aload_n 0)) rfl ?_
  refine x_iload_n (by decide +kernel : am_at co_X12_chance 1 = some (1, .iload_n 1)) rfl ?_
  refine x_callV (n := 2) (by decide +kernel : am_at co_X12_chance 2 = some (3, .invokevirtual 446)) pq_12_446 pm_X12_isDreamer rfl rfl rfl ob_152 h (x_k0 fun x1 M1 h => ?_)
  refine x_if (tgt := 20) (by decide +kernel : am_at co_X12_chance 5 = some (3, .ifCond .eq 15)) rfl Iff.rfl (fun c1 => ?_) (fun c1 => ?_)
  · have h := h.1 c1
    refine x_iconst (by decide +kernel : am_at co_X12_chance 20 = some (1, .iconst (-1))) ?_
    exact x_iret (by decide +kernel : am_at co_X12_chance 21 = some (1, .ireturn)) h
  · have c1 := c1
    have h := h.2 c1
    refine x_iload_n (by decide +kernel : am_at co_X12_chance 8 = some (1, .iload_n 2)) rfl ?_
    refine x_i2l (by decide +kernel : am_at co_X12_chance 9 = some (1, .i2l)) ?_
    refine x_lconst (by decide +kernel : am_at co_X12_chance 10 = some (1, .lconst 0)) ?_
    refine x_ldc2 (by decide +kernel : am_at co_X12_chance 11 = some (3, .ldc2_w 455)) pq_12_455 ?_
    refine x_callS (n := 3) (by decide +kernel : am_at co_X12_chance 14 = some (3, .invokestatic 249)) pq_12_249 rfl rfl rfl h (x_k0 fun x3 M3 h => ?_)
    refine x_if (tgt := 22) (by decide +kernel : am_at co_X12_chance 17 = some (3, .ifCond .ne 5)) rfl Iff.rfl (fun c3 => ?_) (fun c3 => ?_)
    · have h := h.1 c3
      refine x_lconst (by decide +kernel : am_at co_X12_chance 22 = some (1, .lconst 0)) ?_
      refine x_lstore_n (L' := [(2, 152), (0, v1), (0, v2), (1, 0), (3, 0), (3, 0), (3, 0), (3, 0)]) (by decide +kernel : am_at co_X12_chance 23 = some (1, .lstore_n 3)) rfl ?_
      refine x_lconst (by decide +kernel : am_at co_X12_chance 24 = some (1, .lconst 1)) ?_
      refine x_lstore (L' := [(2, 152), (0, v1), (0, v2), (1, 0), (3, 0), (1, 1), (3, 0), (3, 0)]) (by decide +kernel : am_at co_X12_chance 25 = some (2, .lstore 5)) rfl ?_
      refine x_iconst (by decide +kernel : am_at co_X12_chance 27 = some (1, .iconst 0)) ?_
      refine x_istore (L' := [(2, 152), (0, v1), (0, v2), (1, 0), (3, 0), (1, 1), (3, 0), (0, 0)]) (by decide +kernel : am_at co_X12_chance 28 = some (2, .istore 7)) rfl ?_
      exact am_weak (lk (lk (lk (lk (lk (lk (lk (lk ln)))))))) h
    · have c3 := (Classical.not_not.mp c3)
      have h := h.2 c3
      refine x_iconst (by decide +kernel : am_at co_X12_chance 20 = some (1, .iconst (-1))) ?_
      exact x_iret (by decide +kernel : am_at co_X12_chance 21 = some (1, .ireturn)) h
set_option maxRecDepth 20000 in
theorem bk_X12_chance_30 {d : Nat} {Q : am_Q} {M : am_M} {v1 v2 v3 v5 v7 : Int} (h : ((v2 ≤ v7 → am_g 12 0 co_X12_chance d Q 53 [(2, 152), (0, v1), (0, v2), (1, v3), (3, 0), (1, v5), (3, 0), (0, 0)] [] sh_T M) ∧ (v7 < v2 → am_rl (v5 * 100) ∧ am_r (v7 + 1) ∧ am_g 12 0 co_X12_chance d Q 30 [(2, 152), (0, v1), (0, v2), (1, v3), (3, 0), (1, v5 * 100), (3, 0), (0, v7 + 1)] [] sh_T M))) : am_g 12 0 co_X12_chance d Q 30 [(2, 152), (0, v1), (0, v2), (1, v3), (3, 0), (1, v5), (3, 0), (0, v7)] [] sh_T M := by
  refine x_iload (by decide +kernel : am_at co_X12_chance 30 = some (2, .iload 7)) rfl ?_
  refine x_iload_n (by decide +kernel : am_at co_X12_chance 32 = some (1, .iload_n 2)) rfl ?_
  refine x_icmp (tgt := 50) (by decide +kernel : am_at co_X12_chance 33 = some (3, .if_icmp .ge 17)) rfl Iff.rfl (fun c0 => ?_) (fun c0 => ?_)
  · have h := h.1 c0
    refine x_iconst (by decide +kernel : am_at co_X12_chance 50 = some (1, .iconst 0)) ?_
    refine x_istore (L' := [(2, 152), (0, v1), (0, v2), (1, v3), (3, 0), (1, v5), (3, 0), (0, 0)]) (by decide +kernel : am_at co_X12_chance 51 = some (2, .istore 7)) rfl ?_
    exact am_weak (lk (lk (lk (lk (lk (lk (lk (lk ln)))))))) h
  · have c0 := (Int.not_le.mp c0)
    have h := h.2 c0
    refine x_lload (by decide +kernel : am_at co_X12_chance 36 = some (2, .lload 5)) rfl ?_
    refine x_ldc2 (by decide +kernel : am_at co_X12_chance 38 = some (3, .ldc2_w 535)) pq_12_535 ?_
    obtain ⟨o1, h⟩ := h
    refine x_lmul (by decide +kernel : am_at co_X12_chance 41 = some (1, .lmul)) o1 ?_
    refine x_lstore (L' := [(2, 152), (0, v1), (0, v2), (1, v3), (3, 0), (1, v5 * 100), (3, 0), (0, v7)]) (by decide +kernel : am_at co_X12_chance 42 = some (2, .lstore 5)) rfl ?_
    obtain ⟨o2, h⟩ := h
    refine x_iinc (L' := [(2, 152), (0, v1), (0, v2), (1, v3), (3, 0), (1, v5 * 100), (3, 0), (0, v7 + 1)]) (by decide +kernel : am_at co_X12_chance 44 = some (3, .iinc 7 1)) rfl o2 rfl ?_
    refine x_goto (tgt := 30) (by decide +kernel : am_at co_X12_chance 47 = some (3, .goto (-17))) rfl ?_
    exact am_weak (lk (lk (lk (lk (lk (lk (lk (lk ln)))))))) h
set_option maxRecDepth 20000 in
theorem bk_X12_chance_53 {d : Nat} {Q : am_Q} {M : am_M} {v1 v2 v3 v5 v7 : Int} (h : ((am_shl 1 v2 ≤ v7 → am_rl (1000 * v3) ∧ ¬ v5 = 0 ∧ am_rl ((1000 * v3).tdiv v5) ∧ am_r ((1000 * v3).tdiv v5) ∧ Q (some (0, (1000 * v3).tdiv v5), sh_T, M)) ∧ (v7 < am_shl 1 v2 → am_cal pg d 262 [(2, 152), (0, v7), (0, v2), (0, v1)] sh_T M (am_c1 sh_T fun x6 M6 => am_rl (v3 + x6) ∧ am_r (v7 + 1) ∧ am_g 12 0 co_X12_chance d Q 53 [(2, 152), (0, v1), (0, v2), (1, v3 + x6), (3, 0), (1, v5), (3, 0), (0, v7 + 1)] [] sh_T M6)))) : am_g 12 0 co_X12_chance d Q 53 [(2, 152), (0, v1), (0, v2), (1, v3), (3, 0), (1, v5), (3, 0), (0, v7)] [] sh_T M := by
  refine x_iload (by decide +kernel : am_at co_X12_chance 53 = some (2, .iload 7)) rfl ?_
  refine x_iconst (by decide +kernel : am_at co_X12_chance 55 = some (1, .iconst 1)) ?_
  refine x_iload_n (by decide +kernel : am_at co_X12_chance 56 = some (1, .iload_n 2)) rfl ?_
  refine x_ishl (by decide +kernel : am_at co_X12_chance 57 = some (1, .ishl)) ?_
  refine x_icmp (tgt := 78) (by decide +kernel : am_at co_X12_chance 58 = some (3, .if_icmp .ge 20)) rfl Iff.rfl (fun c0 => ?_) (fun c0 => ?_)
  · have h := h.1 c0
    refine x_ldc2 (by decide +kernel : am_at co_X12_chance 78 = some (3, .ldc2_w 541)) pq_12_541 ?_
    refine x_lload_n (by decide +kernel : am_at co_X12_chance 81 = some (1, .lload_n 3)) rfl ?_
    obtain ⟨o1, h⟩ := h
    refine x_lmul (by decide +kernel : am_at co_X12_chance 82 = some (1, .lmul)) o1 ?_
    refine x_lload (by decide +kernel : am_at co_X12_chance 83 = some (2, .lload 5)) rfl ?_
    obtain ⟨o2, h⟩ := h
    obtain ⟨o3, h⟩ := h
    refine x_ldiv (by decide +kernel : am_at co_X12_chance 85 = some (1, .ldiv)) o2 o3 ?_
    obtain ⟨o4, h⟩ := h
    refine x_l2i (by decide +kernel : am_at co_X12_chance 86 = some (1, .l2i)) o4 ?_
    exact x_iret (by decide +kernel : am_at co_X12_chance 87 = some (1, .ireturn)) h
  · have c0 := (Int.not_le.mp c0)
    have h := h.2 c0
    refine x_lload_n (by decide +kernel : am_at co_X12_chance 61 = some (1, .lload_n 3)) rfl ?_
    refine x_aload_n (by decide +kernel : am_at co_X12_chance 62 = some (1, .aload_n 0)) rfl ?_
    refine x_iload (by decide +kernel : am_at co_X12_chance 63 = some (2, .iload 7)) rfl ?_
    refine x_iload_n (by decide +kernel : am_at co_X12_chance 65 = some (1, .iload_n 2)) rfl ?_
    refine x_iload_n (by decide +kernel : am_at co_X12_chance 66 = some (1, .iload_n 1)) rfl ?_
    refine x_callV (n := 4) (by decide +kernel : am_at co_X12_chance 67 = some (3, .invokevirtual 537)) pq_12_537 pm_X12_likely rfl rfl rfl ob_152 h (x_k1 fun x6 M6 h => ?_)
    obtain ⟨o6, h⟩ := h
    refine x_ladd (by decide +kernel : am_at co_X12_chance 70 = some (1, .ladd)) o6 ?_
    refine x_lstore_n (L' := [(2, 152), (0, v1), (0, v2), (1, v3 + x6), (3, 0), (1, v5), (3, 0), (0, v7)]) (by decide +kernel : am_at co_X12_chance 71 = some (1, .lstore_n 3)) rfl ?_
    obtain ⟨o7, h⟩ := h
    refine x_iinc (L' := [(2, 152), (0, v1), (0, v2), (1, v3 + x6), (3, 0), (1, v5), (3, 0), (0, v7 + 1)]) (by decide +kernel : am_at co_X12_chance 72 = some (3, .iinc 7 1)) rfl o7 rfl ?_
    refine x_goto (tgt := 53) (by decide +kernel : am_at co_X12_chance 75 = some (3, .goto (-22))) rfl ?_
    exact am_weak (lk (lk (lk (lk (lk (lk (lk (lk ln)))))))) h
set_option maxRecDepth 20000 in
theorem bk_X12_keeps_0 {d : Nat} {Q : am_Q} {M : am_M} (h : am_r ((M 152 59) + 1) ∧ am_g 12 9 co_X12_keeps d Q 15 [(2, 152), (0, 0)] [] sh_T (am_up M 152 59 (((M 152 59) + 1).tmod 20))) : am_g 12 9 co_X12_keeps d Q 0 [(2, 152), (3, 0)] [] sh_T M := by
  refine x_aload_n (by decide +kernel : am_at co_X12_keeps 0 = some (1, .aload_n 0)) rfl ?_
  refine x_aload_n (by decide +kernel : am_at co_X12_keeps 1 = some (1, .aload_n 0)) rfl ?_
  refine x_getf (by decide +kernel : am_at co_X12_keeps 2 = some (3, .getfield 543)) pq_12_543 rfl ob_152 ?_
  refine x_iconst (by decide +kernel : am_at co_X12_keeps 5 = some (1, .iconst 1)) ?_
  obtain ⟨o0, h⟩ := h
  refine x_iadd (by decide +kernel : am_at co_X12_keeps 6 = some (1, .iadd)) o0 ?_
  refine x_bipush (by decide +kernel : am_at co_X12_keeps 7 = some (2, .bipush 20)) ?_
  refine x_irem (by decide +kernel : am_at co_X12_keeps 9 = some (1, .irem)) (by decide) ?_
  refine x_putf0 (by decide +kernel : am_at co_X12_keeps 10 = some (3, .putfield 543)) pq_12_543 rfl ob_152 ?_
  refine x_iconst (by decide +kernel : am_at co_X12_keeps 13 = some (1, .iconst 0)) ?_
  refine x_istore_n (L' := [(2, 152), (0, 0)]) (by decide +kernel : am_at co_X12_keeps 14 = some (1, .istore_n 1)) rfl ?_
  exact am_weak (lk (lk ln)) h
set_option maxRecDepth 20000 in
theorem bk_X12_keeps_15 {d : Nat} {Q : am_Q} {M : am_M} {v1 : Int} (h : ((28 ≤ v1 → ((20 ≤ M 152 58 → Q (none, sh_T, M)) ∧ (M 152 58 < 20 → am_r ((M 152 58) + 1) ∧ Q (none, sh_T, (am_up M 152 58 ((M 152 58) + 1)))))) ∧ (v1 < 28 → am_r (28 * (M 152 59)) ∧ am_r ((28 * (M 152 59)) + v1) ∧ (0 ≤ v1 ∧ v1 < 28) ∧ (0 ≤ (28 * (M 152 59)) + v1 ∧ (28 * (M 152 59)) + v1 < 560) ∧ am_r (v1 + 1) ∧ am_g 12 9 co_X12_keeps d Q 15 [(2, 152), (0, v1 + 1)] [] sh_T (am_up M 191 ((28 * (M 152 59)) + v1) (M 186 v1))))) : am_g 12 9 co_X12_keeps d Q 15 [(2, 152), (0, v1)] [] sh_T M := by
  refine x_iload_n (by decide +kernel : am_at co_X12_keeps 15 = some (1, .iload_n 1)) rfl ?_
  refine x_bipush (by decide +kernel : am_at co_X12_keeps 16 = some (2, .bipush 28)) ?_
  refine x_icmp (tgt := 47) (by decide +kernel : am_at co_X12_keeps 18 = some (3, .if_icmp .ge 29)) rfl Iff.rfl (fun c0 => ?_) (fun c0 => ?_)
  · have h := h.1 c0
    refine x_aload_n (by decide +kernel : am_at co_X12_keeps 47 = some (1, .aload_n 0)) rfl ?_
    refine x_getf (by decide +kernel : am_at co_X12_keeps 48 = some (3, .getfield 337)) pq_12_337 rfl ob_152 ?_
    refine x_bipush (by decide +kernel : am_at co_X12_keeps 51 = some (2, .bipush 20)) ?_
    refine x_icmp (tgt := 66) (by decide +kernel : am_at co_X12_keeps 53 = some (3, .if_icmp .ge 13)) rfl Iff.rfl (fun c1 => ?_) (fun c1 => ?_)
    · have h := h.1 c1
      exact x_vret (by decide +kernel : am_at co_X12_keeps 66 = some (1, .return_)) h
    · have c1 := (Int.not_le.mp c1)
      have h := h.2 c1
      refine x_aload_n (by decide +kernel : am_at co_X12_keeps 56 = some (1, .aload_n 0)) rfl ?_
      refine x_dup2' (by decide +kernel : am_at co_X12_keeps 57 = some (1, .dup)) ?_
      refine x_getf (by decide +kernel : am_at co_X12_keeps 58 = some (3, .getfield 337)) pq_12_337 rfl ob_152 ?_
      refine x_iconst (by decide +kernel : am_at co_X12_keeps 61 = some (1, .iconst 1)) ?_
      obtain ⟨o2, h⟩ := h
      refine x_iadd (by decide +kernel : am_at co_X12_keeps 62 = some (1, .iadd)) o2 ?_
      refine x_putf0 (by decide +kernel : am_at co_X12_keeps 63 = some (3, .putfield 337)) pq_12_337 rfl ob_152 ?_
      exact x_vret (by decide +kernel : am_at co_X12_keeps 66 = some (1, .return_)) h
  · have c0 := (Int.not_le.mp c0)
    have h := h.2 c0
    refine x_aload_n (by decide +kernel : am_at co_X12_keeps 21 = some (1, .aload_n 0)) rfl ?_
    refine x_getF (by decide +kernel : am_at co_X12_keeps 22 = some (3, .getfield 130)) pq_12_130 (by decide) rfl ob_152 ?_
    refine x_top2 (show 152 + 39 = 191 from rfl) ?_
    refine x_bipush (by decide +kernel : am_at co_X12_keeps 25 = some (2, .bipush 28)) ?_
    refine x_aload_n (by decide +kernel : am_at co_X12_keeps 27 = some (1, .aload_n 0)) rfl ?_
    refine x_getf (by decide +kernel : am_at co_X12_keeps 28 = some (3, .getfield 543)) pq_12_543 rfl ob_152 ?_
    obtain ⟨o3, h⟩ := h
    refine x_imul (by decide +kernel : am_at co_X12_keeps 31 = some (1, .imul)) o3 ?_
    refine x_iload_n (by decide +kernel : am_at co_X12_keeps 32 = some (1, .iload_n 1)) rfl ?_
    obtain ⟨o4, h⟩ := h
    refine x_iadd (by decide +kernel : am_at co_X12_keeps 33 = some (1, .iadd)) o4 ?_
    refine x_aload_n (by decide +kernel : am_at co_X12_keeps 34 = some (1, .aload_n 0)) rfl ?_
    refine x_getF (by decide +kernel : am_at co_X12_keeps 35 = some (3, .getfield 115)) pq_12_115 (by decide) rfl ob_152 ?_
    refine x_top2 (show 152 + 34 = 186 from rfl) ?_
    refine x_iload_n (by decide +kernel : am_at co_X12_keeps 38 = some (1, .iload_n 1)) rfl ?_
    obtain ⟨o5, h⟩ := h
    refine x_iald (by decide +kernel : am_at co_X12_keeps 39 = some (1, .iaload)) (ia_186 o5.1 o5.2) ?_
    obtain ⟨o6, h⟩ := h
    refine x_iast (by decide +kernel : am_at co_X12_keeps 40 = some (1, .iastore)) (ow_191 o6.1 o6.2) ?_
    obtain ⟨o7, h⟩ := h
    refine x_iinc (L' := [(2, 152), (0, v1 + 1)]) (by decide +kernel : am_at co_X12_keeps 41 = some (3, .iinc 1 1)) rfl o7 rfl ?_
    refine x_goto (tgt := 15) (by decide +kernel : am_at co_X12_keeps 44 = some (3, .goto (-29))) rfl ?_
    exact am_weak (lk (lk ln)) h
set_option maxRecDepth 20000 in
theorem bk_X12_undo_0 {d : Nat} {Q : am_Q} {M : am_M} (h : ((¬ M 152 58 = 0 → am_g 12 5 co_X12_undo d Q 21 [(2, 152), (0, 0)] [] sh_T M) ∧ (M 152 58 = 0 → am_r ((M 154 3) + 1) ∧ Q (some (0, 0), sh_T, (am_up M 154 3 ((M 154 3) + 1)))))) : am_g 12 5 co_X12_undo d Q 0 [(2, 152), (3, 0)] [] sh_T M := by
  refine x_aload_n (by decide +kernel : am_at co_X12_undo 0 = some (1, .aload_n 0)) rfl ?_
  refine x_getf (by decide +kernel : am_at co_X12_undo 1 = some (3, .getfield 337)) pq_12_337 rfl ob_152 ?_
  refine x_if (tgt := 19) (by decide +kernel : am_at co_X12_undo 4 = some (3, .ifCond .ne 15)) rfl Iff.rfl (fun c0 => ?_) (fun c0 => ?_)
  · have h := h.1 c0
    refine x_iconst (by decide +kernel : am_at co_X12_undo 19 = some (1, .iconst 0)) ?_
    refine x_istore_n (L' := [(2, 152), (0, 0)]) (by decide +kernel : am_at co_X12_undo 20 = some (1, .istore_n 1)) rfl ?_
    exact am_weak (lk (lk ln)) h
  · have c0 := (Classical.not_not.mp c0)
    have h := h.2 c0
    refine x_aload_n (by decide +kernel : am_at co_X12_undo 7 = some (1, .aload_n 0)) rfl ?_
    refine x_getF (by decide +kernel : am_at co_X12_undo 8 = some (3, .getfield 17)) pq_12_17 (by decide) rfl ob_152 ?_
    refine x_top2 (show 152 + 2 = 154 from rfl) ?_
    refine x_iconst (by decide +kernel : am_at co_X12_undo 11 = some (1, .iconst 3)) ?_
    refine x_dup2 (by decide +kernel : am_at co_X12_undo 12 = some (1, .dup2)) ?_
    refine x_iald (by decide +kernel : am_at co_X12_undo 13 = some (1, .iaload)) (ia_154 (by decide) (by decide)) ?_
    refine x_iconst (by decide +kernel : am_at co_X12_undo 14 = some (1, .iconst 1)) ?_
    obtain ⟨o1, h⟩ := h
    refine x_iadd (by decide +kernel : am_at co_X12_undo 15 = some (1, .iadd)) o1 ?_
    refine x_iast (by decide +kernel : am_at co_X12_undo 16 = some (1, .iastore)) (ow_154 (by decide) (by decide)) ?_
    refine x_iconst (by decide +kernel : am_at co_X12_undo 17 = some (1, .iconst 0)) ?_
    exact x_zret (by decide +kernel : am_at co_X12_undo 18 = some (1, .ireturn)) (by decide) h
set_option maxRecDepth 20000 in
theorem bk_X12_undo_21 {d : Nat} {Q : am_Q} {M : am_M} {v1 : Int} (h : ((28 ≤ v1 → am_r ((M 152 59) + 20) ∧ am_r (((M 152 59) + 20) - 1) ∧ am_r ((M 152 58) - 1) ∧ Q (some (0, 1), sh_T, (am_up (am_up M 152 59 ((((M 152 59) + 20) - 1).tmod 20)) 152 58 ((M 152 58) - 1)))) ∧ (v1 < 28 → am_r (28 * (M 152 59)) ∧ am_r ((28 * (M 152 59)) + v1) ∧ (0 ≤ (28 * (M 152 59)) + v1 ∧ (28 * (M 152 59)) + v1 < 560) ∧ (0 ≤ v1 ∧ v1 < 28) ∧ am_r (v1 + 1) ∧ am_g 12 5 co_X12_undo d Q 21 [(2, 152), (0, v1 + 1)] [] sh_T (am_up M 186 v1 (M 191 ((28 * (M 152 59)) + v1)))))) : am_g 12 5 co_X12_undo d Q 21 [(2, 152), (0, v1)] [] sh_T M := by
  refine x_iload_n (by decide +kernel : am_at co_X12_undo 21 = some (1, .iload_n 1)) rfl ?_
  refine x_bipush (by decide +kernel : am_at co_X12_undo 22 = some (2, .bipush 28)) ?_
  refine x_icmp (tgt := 53) (by decide +kernel : am_at co_X12_undo 24 = some (3, .if_icmp .ge 29)) rfl Iff.rfl (fun c0 => ?_) (fun c0 => ?_)
  · have h := h.1 c0
    refine x_aload_n (by decide +kernel : am_at co_X12_undo 53 = some (1, .aload_n 0)) rfl ?_
    refine x_aload_n (by decide +kernel : am_at co_X12_undo 54 = some (1, .aload_n 0)) rfl ?_
    refine x_getf (by decide +kernel : am_at co_X12_undo 55 = some (3, .getfield 543)) pq_12_543 rfl ob_152 ?_
    refine x_bipush (by decide +kernel : am_at co_X12_undo 58 = some (2, .bipush 20)) ?_
    obtain ⟨o1, h⟩ := h
    refine x_iadd (by decide +kernel : am_at co_X12_undo 60 = some (1, .iadd)) o1 ?_
    refine x_iconst (by decide +kernel : am_at co_X12_undo 61 = some (1, .iconst 1)) ?_
    obtain ⟨o2, h⟩ := h
    refine x_isub (by decide +kernel : am_at co_X12_undo 62 = some (1, .isub)) o2 ?_
    refine x_bipush (by decide +kernel : am_at co_X12_undo 63 = some (2, .bipush 20)) ?_
    refine x_irem (by decide +kernel : am_at co_X12_undo 65 = some (1, .irem)) (by decide) ?_
    refine x_putf0 (by decide +kernel : am_at co_X12_undo 66 = some (3, .putfield 543)) pq_12_543 rfl ob_152 ?_
    refine x_aload_n (by decide +kernel : am_at co_X12_undo 69 = some (1, .aload_n 0)) rfl ?_
    refine x_dup2' (by decide +kernel : am_at co_X12_undo 70 = some (1, .dup)) ?_
    refine x_getf (by decide +kernel : am_at co_X12_undo 71 = some (3, .getfield 337)) pq_12_337 rfl ob_152 ?_
    refine x_top0 (show (am_up M 152 59 ((((M 152 59) + 20) - 1).tmod 20)) 152 58 = M 152 58 from by first | rfl | simp [am_up]) ?_
    refine x_iconst (by decide +kernel : am_at co_X12_undo 74 = some (1, .iconst 1)) ?_
    obtain ⟨o3, h⟩ := h
    refine x_isub (by decide +kernel : am_at co_X12_undo 75 = some (1, .isub)) o3 ?_
    refine x_putf0 (by decide +kernel : am_at co_X12_undo 76 = some (3, .putfield 337)) pq_12_337 rfl ob_152 ?_
    refine x_iconst (by decide +kernel : am_at co_X12_undo 79 = some (1, .iconst 1)) ?_
    exact x_zret (by decide +kernel : am_at co_X12_undo 80 = some (1, .ireturn)) (by decide) h
  · have c0 := (Int.not_le.mp c0)
    have h := h.2 c0
    refine x_aload_n (by decide +kernel : am_at co_X12_undo 27 = some (1, .aload_n 0)) rfl ?_
    refine x_getF (by decide +kernel : am_at co_X12_undo 28 = some (3, .getfield 115)) pq_12_115 (by decide) rfl ob_152 ?_
    refine x_top2 (show 152 + 34 = 186 from rfl) ?_
    refine x_iload_n (by decide +kernel : am_at co_X12_undo 31 = some (1, .iload_n 1)) rfl ?_
    refine x_aload_n (by decide +kernel : am_at co_X12_undo 32 = some (1, .aload_n 0)) rfl ?_
    refine x_getF (by decide +kernel : am_at co_X12_undo 33 = some (3, .getfield 130)) pq_12_130 (by decide) rfl ob_152 ?_
    refine x_top2 (show 152 + 39 = 191 from rfl) ?_
    refine x_bipush (by decide +kernel : am_at co_X12_undo 36 = some (2, .bipush 28)) ?_
    refine x_aload_n (by decide +kernel : am_at co_X12_undo 38 = some (1, .aload_n 0)) rfl ?_
    refine x_getf (by decide +kernel : am_at co_X12_undo 39 = some (3, .getfield 543)) pq_12_543 rfl ob_152 ?_
    obtain ⟨o4, h⟩ := h
    refine x_imul (by decide +kernel : am_at co_X12_undo 42 = some (1, .imul)) o4 ?_
    refine x_iload_n (by decide +kernel : am_at co_X12_undo 43 = some (1, .iload_n 1)) rfl ?_
    obtain ⟨o5, h⟩ := h
    refine x_iadd (by decide +kernel : am_at co_X12_undo 44 = some (1, .iadd)) o5 ?_
    obtain ⟨o6, h⟩ := h
    refine x_iald (by decide +kernel : am_at co_X12_undo 45 = some (1, .iaload)) (ia_191 o6.1 o6.2) ?_
    obtain ⟨o7, h⟩ := h
    refine x_iast (by decide +kernel : am_at co_X12_undo 46 = some (1, .iastore)) (ow_186 o7.1 o7.2) ?_
    obtain ⟨o8, h⟩ := h
    refine x_iinc (L' := [(2, 152), (0, v1 + 1)]) (by decide +kernel : am_at co_X12_undo 47 = some (3, .iinc 1 1)) rfl o8 rfl ?_
    refine x_goto (tgt := 21) (by decide +kernel : am_at co_X12_undo 50 = some (3, .goto (-29))) rfl ?_
    exact am_weak (lk (lk ln)) h
set_option maxRecDepth 20000 in
theorem bk_X12_refuses_0 {d : Nat} {Q : am_Q} {M : am_M} (h : am_r ((M 154 2) + 1) ∧ Q (some (0, (-1)), sh_T, (am_up M 154 2 ((M 154 2) + 1)))) : am_g 12 0 co_X12_refuses d Q 0 [(2, 152)] [] sh_T M := by
  refine x_aload_n (by decide +kernel : am_at co_X12_refuses 0 = some (1, .aload_n 0)) rfl ?_
  refine x_getF (by decide +kernel : am_at co_X12_refuses 1 = some (3, .getfield 17)) pq_12_17 (by decide) rfl ob_152 ?_
  refine x_top2 (show 152 + 2 = 154 from rfl) ?_
  refine x_iconst (by decide +kernel : am_at co_X12_refuses 4 = some (1, .iconst 2)) ?_
  refine x_dup2 (by decide +kernel : am_at co_X12_refuses 5 = some (1, .dup2)) ?_
  refine x_iald (by decide +kernel : am_at co_X12_refuses 6 = some (1, .iaload)) (ia_154 (by decide) (by decide)) ?_
  refine x_iconst (by decide +kernel : am_at co_X12_refuses 7 = some (1, .iconst 1)) ?_
  obtain ⟨o0, h⟩ := h
  refine x_iadd (by decide +kernel : am_at co_X12_refuses 8 = some (1, .iadd)) o0 ?_
  refine x_iast (by decide +kernel : am_at co_X12_refuses 9 = some (1, .iastore)) (ow_154 (by decide) (by decide)) ?_
  refine x_iconst (by decide +kernel : am_at co_X12_refuses 10 = some (1, .iconst (-1))) ?_
  exact x_iret (by decide +kernel : am_at co_X12_refuses 11 = some (1, .ireturn)) h
set_option maxRecDepth 20000 in
theorem bk_X12_meet_0 {d : Nat} {Q : am_Q} {M : am_M} {v1 v2 : Int} (h : am_cal pg d 215 [(2, 152), (0, v1)] sh_T M (am_c0 sh_T fun x1 M1 => ((x1 = 0 → am_cal pg d 266 [(2, 152)] sh_T M1 (am_c0 sh_T fun x3 M3 => Q (some (0, x3), sh_T, M3))) ∧ (¬ x1 = 0 → am_cal pg d 256 [(2, 152), (0, v2)] sh_T M1 (am_c0 sh_T fun x4 M4 => ((¬ x4 = 0 → am_cal pg d 218 [(2, 152), (0, v1), (0, 0)] sh_T M4 (am_cv sh_T fun M6 => am_cal pg d 224 [(2, 152), (0, 0)] sh_T M6 (am_c0 sh_T fun x7 M7 => ((x7 = 0 → am_cal pg d 264 [(2, 152)] sh_T M7 (am_cv sh_T fun M9 => am_cal pg d 230 [(2, 152), (0, v1)] sh_T M9 (am_c0 sh_T fun x10 M10 => am_cal pg d 228 [(2, 152), (0, 0), (0, v1), (0, x10), (0, v2)] sh_T M10 (am_c0 sh_T fun x11 M11 => am_cal pg d 220 [(2, 152), (0, v1), (0, 0)] sh_T M11 (am_cv sh_T fun M12 => Q (some (0, x11), sh_T, M12)))))) ∧ (¬ x7 = 0 → am_cal pg d 266 [(2, 152)] sh_T M7 (am_c0 sh_T fun x13 M13 => Q (some (0, x13), sh_T, M13))))))) ∧ (x4 = 0 → am_cal pg d 266 [(2, 152)] sh_T M4 (am_c0 sh_T fun x14 M14 => Q (some (0, x14), sh_T, M14))))))))) : am_g 12 0 co_X12_meet d Q 0 [(2, 152), (0, v1), (0, v2), (3, 0)] [] sh_T M := by
  refine x_aload_n (by decide +kernel : am_at co_X12_meet 0 = some (1, .aload_n 0)) rfl ?_
  refine x_iload_n (by decide +kernel : am_at co_X12_meet 1 = some (1, .iload_n 1)) rfl ?_
  refine x_callV (n := 2) (by decide +kernel : am_at co_X12_meet 2 = some (3, .invokevirtual 446)) pq_12_446 pm_X12_isDreamer rfl rfl rfl ob_152 h (x_k0 fun x1 M1 h => ?_)
  refine x_if (tgt := 16) (by decide +kernel : am_at co_X12_meet 5 = some (3, .ifCond .eq 11)) rfl Iff.rfl (fun c1 => ?_) (fun c1 => ?_)
  · have h := h.1 c1
    refine x_aload_n (by decide +kernel : am_at co_X12_meet 16 = some (1, .aload_n 0)) rfl ?_
    refine x_callV (n := 1) (by decide +kernel : am_at co_X12_meet 17 = some (3, .invokevirtual 546)) pq_12_546 pm_X12_refuses rfl rfl rfl ob_152 h (x_k0 fun x3 M3 h => ?_)
    exact x_iret (by decide +kernel : am_at co_X12_meet 20 = some (1, .ireturn)) h
  · have c1 := c1
    have h := h.2 c1
    refine x_aload_n (by decide +kernel : am_at co_X12_meet 8 = some (1, .aload_n 0)) rfl ?_
    refine x_iload_n (by decide +kernel : am_at co_X12_meet 9 = some (1, .iload_n 2)) rfl ?_
    refine x_callV (n := 2) (by decide +kernel : am_at co_X12_meet 10 = some (3, .invokevirtual 519)) pq_12_519 pm_X12_canGo rfl rfl rfl ob_152 h (x_k0 fun x4 M4 h => ?_)
    refine x_if (tgt := 21) (by decide +kernel : am_at co_X12_meet 13 = some (3, .ifCond .ne 8)) rfl Iff.rfl (fun c4 => ?_) (fun c4 => ?_)
    · have h := h.1 c4
      refine x_aload_n (by decide +kernel : am_at co_X12_meet 21 = some (1, .aload_n 0)) rfl ?_
      refine x_iload_n (by decide +kernel : am_at co_X12_meet 22 = some (1, .iload_n 1)) rfl ?_
      refine x_iconst (by decide +kernel : am_at co_X12_meet 23 = some (1, .iconst 0)) ?_
      refine x_callV (n := 3) (by decide +kernel : am_at co_X12_meet 24 = some (3, .invokevirtual 430)) pq_12_430 pm_X12_laysNow rfl rfl rfl ob_152 h (x_kv fun M6 h => ?_)
      refine x_aload_n (by decide +kernel : am_at co_X12_meet 27 = some (1, .aload_n 0)) rfl ?_
      refine x_iconst (by decide +kernel : am_at co_X12_meet 28 = some (1, .iconst 0)) ?_
      refine x_callV (n := 2) (by decide +kernel : am_at co_X12_meet 29 = some (3, .invokevirtual 433)) pq_12_433 pm_X12_isHomeAt rfl rfl rfl ob_152 h (x_k0 fun x7 M7 h => ?_)
      refine x_if (tgt := 40) (by decide +kernel : am_at co_X12_meet 32 = some (3, .ifCond .eq 8)) rfl Iff.rfl (fun c7 => ?_) (fun c7 => ?_)
      · have h := h.1 c7
        refine x_aload_n (by decide +kernel : am_at co_X12_meet 40 = some (1, .aload_n 0)) rfl ?_
        refine x_callV (n := 1) (by decide +kernel : am_at co_X12_meet 41 = some (3, .invokevirtual 549)) pq_12_549 pm_X12_keeps rfl rfl rfl ob_152 h (x_kv fun M9 h => ?_)
        refine x_aload_n (by decide +kernel : am_at co_X12_meet 44 = some (1, .aload_n 0)) rfl ?_
        refine x_iconst (by decide +kernel : am_at co_X12_meet 45 = some (1, .iconst 0)) ?_
        refine x_iload_n (by decide +kernel : am_at co_X12_meet 46 = some (1, .iload_n 1)) rfl ?_
        refine x_aload_n (by decide +kernel : am_at co_X12_meet 47 = some (1, .aload_n 0)) rfl ?_
        refine x_iload_n (by decide +kernel : am_at co_X12_meet 48 = some (1, .iload_n 1)) rfl ?_
        refine x_callV (n := 2) (by decide +kernel : am_at co_X12_meet 49 = some (3, .invokevirtual 449)) pq_12_449 pm_X12_guideOf rfl rfl rfl ob_152 h (x_k0 fun x10 M10 h => ?_)
        refine x_iload_n (by decide +kernel : am_at co_X12_meet 52 = some (1, .iload_n 2)) rfl ?_
        refine x_callV (n := 5) (by decide +kernel : am_at co_X12_meet 53 = some (3, .invokevirtual 463)) pq_12_463 pm_X12_roomGoes rfl rfl rfl ob_152 h (x_k0 fun x11 M11 h => ?_)
        refine x_istore_n (L' := [(2, 152), (0, v1), (0, v2), (0, x11)]) (by decide +kernel : am_at co_X12_meet 56 = some (1, .istore_n 3)) rfl ?_
        refine x_aload_n (by decide +kernel : am_at co_X12_meet 57 = some (1, .aload_n 0)) rfl ?_
        refine x_iload_n (by decide +kernel : am_at co_X12_meet 58 = some (1, .iload_n 1)) rfl ?_
        refine x_iconst (by decide +kernel : am_at co_X12_meet 59 = some (1, .iconst 0)) ?_
        refine x_callV (n := 3) (by decide +kernel : am_at co_X12_meet 60 = some (3, .invokevirtual 552)) pq_12_552 pm_X12_isNow rfl rfl rfl ob_152 h (x_kv fun M12 h => ?_)
        refine x_iload_n (by decide +kernel : am_at co_X12_meet 63 = some (1, .iload_n 3)) rfl ?_
        exact x_iret (by decide +kernel : am_at co_X12_meet 64 = some (1, .ireturn)) h
      · have c7 := c7
        have h := h.2 c7
        refine x_aload_n (by decide +kernel : am_at co_X12_meet 35 = some (1, .aload_n 0)) rfl ?_
        refine x_callV (n := 1) (by decide +kernel : am_at co_X12_meet 36 = some (3, .invokevirtual 546)) pq_12_546 pm_X12_refuses rfl rfl rfl ob_152 h (x_k0 fun x13 M13 h => ?_)
        exact x_iret (by decide +kernel : am_at co_X12_meet 39 = some (1, .ireturn)) h
    · have c4 := (Classical.not_not.mp c4)
      have h := h.2 c4
      refine x_aload_n (by decide +kernel : am_at co_X12_meet 16 = some (1, .aload_n 0)) rfl ?_
      refine x_callV (n := 1) (by decide +kernel : am_at co_X12_meet 17 = some (3, .invokevirtual 546)) pq_12_546 pm_X12_refuses rfl rfl rfl ob_152 h (x_k0 fun x14 M14 h => ?_)
      exact x_iret (by decide +kernel : am_at co_X12_meet 20 = some (1, .ireturn)) h
set_option maxRecDepth 20000 in
theorem bk_X12_day_0 {d : Nat} {Q : am_Q} {M : am_M} {v1 v2 : Int} (h : am_cal pg d 215 [(2, 152), (0, v1)] sh_T M (am_c0 sh_T fun x1 M1 => ((x1 = 0 → am_cal pg d 266 [(2, 152)] sh_T M1 (am_c0 sh_T fun x3 M3 => Q (some (0, x3), sh_T, M3))) ∧ (¬ x1 = 0 → am_cal pg d 214 [(2, 152), (0, v2)] sh_T M1 (am_c0 sh_T fun x4 M4 => ((¬ x4 = 0 → am_cal pg d 264 [(2, 152)] sh_T M4 (am_cv sh_T fun M6 => am_cal pg d 218 [(2, 152), (0, v1), (0, 0)] sh_T M6 (am_cv sh_T fun M7 => am_cal pg d 227 [(2, 152), (0, 2), (0, 0), (0, v2), (0, v1)] sh_T M7 (am_c0 sh_T fun x8 M8 => (0 ≤ v2 ∧ v2 < 1500) ∧ am_cal pg d 220 [(2, 152), (0, v1), (0, 0)] sh_T (am_up M8 187 v2 x8) (am_cv sh_T fun M10 => Q (some (0, M10 187 v2), sh_T, M10)))))) ∧ (x4 = 0 → am_cal pg d 266 [(2, 152)] sh_T M4 (am_c0 sh_T fun x11 M11 => Q (some (0, x11), sh_T, M11))))))))) : am_g 12 0 co_X12_day d Q 0 [(2, 152), (0, v1), (0, v2)] [] sh_T M := by
  refine x_aload_n (by decide +kernel : am_at co_X12_day 0 = some (1, .aload_n 0)) rfl ?_
  refine x_iload_n (by decide +kernel : am_at co_X12_day 1 = some (1, .iload_n 1)) rfl ?_
  refine x_callV (n := 2) (by decide +kernel : am_at co_X12_day 2 = some (3, .invokevirtual 446)) pq_12_446 pm_X12_isDreamer rfl rfl rfl ob_152 h (x_k0 fun x1 M1 h => ?_)
  refine x_if (tgt := 16) (by decide +kernel : am_at co_X12_day 5 = some (3, .ifCond .eq 11)) rfl Iff.rfl (fun c1 => ?_) (fun c1 => ?_)
  · have h := h.1 c1
    refine x_aload_n (by decide +kernel : am_at co_X12_day 16 = some (1, .aload_n 0)) rfl ?_
    refine x_callV (n := 1) (by decide +kernel : am_at co_X12_day 17 = some (3, .invokevirtual 546)) pq_12_546 pm_X12_refuses rfl rfl rfl ob_152 h (x_k0 fun x3 M3 h => ?_)
    exact x_iret (by decide +kernel : am_at co_X12_day 20 = some (1, .ireturn)) h
  · have c1 := c1
    have h := h.2 c1
    refine x_aload_n (by decide +kernel : am_at co_X12_day 8 = some (1, .aload_n 0)) rfl ?_
    refine x_iload_n (by decide +kernel : am_at co_X12_day 9 = some (1, .iload_n 2)) rfl ?_
    refine x_callV (n := 2) (by decide +kernel : am_at co_X12_day 10 = some (3, .invokevirtual 452)) pq_12_452 pm_X12_isDread rfl rfl rfl ob_152 h (x_k0 fun x4 M4 h => ?_)
    refine x_if (tgt := 21) (by decide +kernel : am_at co_X12_day 13 = some (3, .ifCond .ne 8)) rfl Iff.rfl (fun c4 => ?_) (fun c4 => ?_)
    · have h := h.1 c4
      refine x_aload_n (by decide +kernel : am_at co_X12_day 21 = some (1, .aload_n 0)) rfl ?_
      refine x_callV (n := 1) (by decide +kernel : am_at co_X12_day 22 = some (3, .invokevirtual 549)) pq_12_549 pm_X12_keeps rfl rfl rfl ob_152 h (x_kv fun M6 h => ?_)
      refine x_aload_n (by decide +kernel : am_at co_X12_day 25 = some (1, .aload_n 0)) rfl ?_
      refine x_iload_n (by decide +kernel : am_at co_X12_day 26 = some (1, .iload_n 1)) rfl ?_
      refine x_iconst (by decide +kernel : am_at co_X12_day 27 = some (1, .iconst 0)) ?_
      refine x_callV (n := 3) (by decide +kernel : am_at co_X12_day 28 = some (3, .invokevirtual 430)) pq_12_430 pm_X12_laysNow rfl rfl rfl ob_152 h (x_kv fun M7 h => ?_)
      refine x_aload_n (by decide +kernel : am_at co_X12_day 31 = some (1, .aload_n 0)) rfl ?_
      refine x_getF (by decide +kernel : am_at co_X12_day 32 = some (3, .getfield 118)) pq_12_118 (by decide) rfl ob_152 ?_
      refine x_top2 (show 152 + 35 = 187 from rfl) ?_
      refine x_iload_n (by decide +kernel : am_at co_X12_day 35 = some (1, .iload_n 2)) rfl ?_
      refine x_aload_n (by decide +kernel : am_at co_X12_day 36 = some (1, .aload_n 0)) rfl ?_
      refine x_iconst (by decide +kernel : am_at co_X12_day 37 = some (1, .iconst 2)) ?_
      refine x_iconst (by decide +kernel : am_at co_X12_day 38 = some (1, .iconst 0)) ?_
      refine x_iload_n (by decide +kernel : am_at co_X12_day 39 = some (1, .iload_n 2)) rfl ?_
      refine x_iload_n (by decide +kernel : am_at co_X12_day 40 = some (1, .iload_n 1)) rfl ?_
      refine x_callV (n := 5) (by decide +kernel : am_at co_X12_day 41 = some (3, .invokevirtual 426)) pq_12_426 pm_X12_made rfl rfl rfl ob_152 h (x_k0 fun x8 M8 h => ?_)
      obtain ⟨o8, h⟩ := h
      refine x_iast (by decide +kernel : am_at co_X12_day 44 = some (1, .iastore)) (ow_187 o8.1 o8.2) ?_
      refine x_aload_n (by decide +kernel : am_at co_X12_day 45 = some (1, .aload_n 0)) rfl ?_
      refine x_iload_n (by decide +kernel : am_at co_X12_day 46 = some (1, .iload_n 1)) rfl ?_
      refine x_iconst (by decide +kernel : am_at co_X12_day 47 = some (1, .iconst 0)) ?_
      refine x_callV (n := 3) (by decide +kernel : am_at co_X12_day 48 = some (3, .invokevirtual 552)) pq_12_552 pm_X12_isNow rfl rfl rfl ob_152 h (x_kv fun M10 h => ?_)
      refine x_aload_n (by decide +kernel : am_at co_X12_day 51 = some (1, .aload_n 0)) rfl ?_
      refine x_getF (by decide +kernel : am_at co_X12_day 52 = some (3, .getfield 118)) pq_12_118 (by decide) rfl ob_152 ?_
      refine x_top2 (show 152 + 35 = 187 from rfl) ?_
      refine x_iload_n (by decide +kernel : am_at co_X12_day 55 = some (1, .iload_n 2)) rfl ?_
      refine x_iald (by decide +kernel : am_at co_X12_day 56 = some (1, .iaload)) (ia_187 o8.1 o8.2) ?_
      exact x_iret (by decide +kernel : am_at co_X12_day 57 = some (1, .ireturn)) h
    · have c4 := (Classical.not_not.mp c4)
      have h := h.2 c4
      refine x_aload_n (by decide +kernel : am_at co_X12_day 16 = some (1, .aload_n 0)) rfl ?_
      refine x_callV (n := 1) (by decide +kernel : am_at co_X12_day 17 = some (3, .invokevirtual 546)) pq_12_546 pm_X12_refuses rfl rfl rfl ob_152 h (x_k0 fun x11 M11 h => ?_)
      exact x_iret (by decide +kernel : am_at co_X12_day 20 = some (1, .ireturn)) h
set_option maxRecDepth 20000 in
theorem bk_X12_take_0 {d : Nat} {Q : am_Q} {M : am_M} {v1 v2 : Int} (h : am_cal pg d 215 [(2, 152), (0, v1)] sh_T M (am_c0 sh_T fun x1 M1 => ((x1 = 0 → am_r ((M1 154 2) + 1) ∧ Q (some (0, 0), sh_T, (am_up M1 154 2 ((M1 154 2) + 1)))) ∧ (¬ x1 = 0 → am_cal pg d 213 [(2, 152)] sh_T M1 (am_c0 sh_T fun x4 M4 => am_r (x4 - 1) ∧ am_cal pg d 169 [(1, v2), (1, (-1)), (1, x4 - 1)] sh_T M4 (am_c0 sh_T fun x6 M6 => ((x6 = 0 → am_r ((M6 154 2) + 1) ∧ Q (some (0, 0), sh_T, (am_up M6 154 2 ((M6 154 2) + 1)))) ∧ (¬ x6 = 0 → am_cal pg d 230 [(2, 152), (0, v1)] sh_T M6 (am_c0 sh_T fun x9 M9 => ((¬ x9 = v2 → am_cal pg d 264 [(2, 152)] sh_T M9 (am_cv sh_T fun M11 => am_r (7 * v1) ∧ (0 ≤ 7 * v1 ∧ 7 * v1 < 28) ∧ Q (some (0, 1), sh_T, (am_up M11 186 (7 * v1) v2)))) ∧ (x9 = v2 → am_r ((M9 154 2) + 1) ∧ Q (some (0, 0), sh_T, (am_up M9 154 2 ((M9 154 2) + 1)))))))))))))) : am_g 12 5 co_X12_take d Q 0 [(2, 152), (0, v1), (0, v2)] [] sh_T M := by
  refine x_aload_n (by decide +kernel : am_at co_X12_take 0 = some (1, .aload_n 0)) rfl ?_
  refine x_iload_n (by decide +kernel : am_at co_X12_take 1 = some (1, .iload_n 1)) rfl ?_
  refine x_callV (n := 2) (by decide +kernel : am_at co_X12_take 2 = some (3, .invokevirtual 446)) pq_12_446 pm_X12_isDreamer rfl rfl rfl ob_152 h (x_k0 fun x1 M1 h => ?_)
  refine x_if (tgt := 35) (by decide +kernel : am_at co_X12_take 5 = some (3, .ifCond .eq 30)) rfl Iff.rfl (fun c1 => ?_) (fun c1 => ?_)
  · have h := h.1 c1
    refine x_aload_n (by decide +kernel : am_at co_X12_take 35 = some (1, .aload_n 0)) rfl ?_
    refine x_getF (by decide +kernel : am_at co_X12_take 36 = some (3, .getfield 17)) pq_12_17 (by decide) rfl ob_152 ?_
    refine x_top2 (show 152 + 2 = 154 from rfl) ?_
    refine x_iconst (by decide +kernel : am_at co_X12_take 39 = some (1, .iconst 2)) ?_
    refine x_dup2 (by decide +kernel : am_at co_X12_take 40 = some (1, .dup2)) ?_
    refine x_iald (by decide +kernel : am_at co_X12_take 41 = some (1, .iaload)) (ia_154 (by decide) (by decide)) ?_
    refine x_iconst (by decide +kernel : am_at co_X12_take 42 = some (1, .iconst 1)) ?_
    obtain ⟨o2, h⟩ := h
    refine x_iadd (by decide +kernel : am_at co_X12_take 43 = some (1, .iadd)) o2 ?_
    refine x_iast (by decide +kernel : am_at co_X12_take 44 = some (1, .iastore)) (ow_154 (by decide) (by decide)) ?_
    refine x_iconst (by decide +kernel : am_at co_X12_take 45 = some (1, .iconst 0)) ?_
    exact x_zret (by decide +kernel : am_at co_X12_take 46 = some (1, .ireturn)) (by decide) h
  · have c1 := c1
    have h := h.2 c1
    refine x_iload_n (by decide +kernel : am_at co_X12_take 8 = some (1, .iload_n 2)) rfl ?_
    refine x_i2l (by decide +kernel : am_at co_X12_take 9 = some (1, .i2l)) ?_
    refine x_ldc2 (by decide +kernel : am_at co_X12_take 10 = some (3, .ldc2_w 555)) pq_12_555 ?_
    refine x_aload_n (by decide +kernel : am_at co_X12_take 13 = some (1, .aload_n 0)) rfl ?_
    refine x_callV (n := 1) (by decide +kernel : am_at co_X12_take 14 = some (3, .invokevirtual 436)) pq_12_436 pm_X12_guideMany rfl rfl rfl ob_152 h (x_k0 fun x4 M4 h => ?_)
    refine x_iconst (by decide +kernel : am_at co_X12_take 17 = some (1, .iconst 1)) ?_
    obtain ⟨o4, h⟩ := h
    refine x_isub (by decide +kernel : am_at co_X12_take 18 = some (1, .isub)) o4 ?_
    refine x_i2l (by decide +kernel : am_at co_X12_take 19 = some (1, .i2l)) ?_
    refine x_callS (n := 3) (by decide +kernel : am_at co_X12_take 20 = some (3, .invokestatic 249)) pq_12_249 rfl rfl rfl h (x_k0 fun x6 M6 h => ?_)
    refine x_if (tgt := 35) (by decide +kernel : am_at co_X12_take 23 = some (3, .ifCond .eq 12)) rfl Iff.rfl (fun c6 => ?_) (fun c6 => ?_)
    · have h := h.1 c6
      refine x_aload_n (by decide +kernel : am_at co_X12_take 35 = some (1, .aload_n 0)) rfl ?_
      refine x_getF (by decide +kernel : am_at co_X12_take 36 = some (3, .getfield 17)) pq_12_17 (by decide) rfl ob_152 ?_
      refine x_top2 (show 152 + 2 = 154 from rfl) ?_
      refine x_iconst (by decide +kernel : am_at co_X12_take 39 = some (1, .iconst 2)) ?_
      refine x_dup2 (by decide +kernel : am_at co_X12_take 40 = some (1, .dup2)) ?_
      refine x_iald (by decide +kernel : am_at co_X12_take 41 = some (1, .iaload)) (ia_154 (by decide) (by decide)) ?_
      refine x_iconst (by decide +kernel : am_at co_X12_take 42 = some (1, .iconst 1)) ?_
      obtain ⟨o7, h⟩ := h
      refine x_iadd (by decide +kernel : am_at co_X12_take 43 = some (1, .iadd)) o7 ?_
      refine x_iast (by decide +kernel : am_at co_X12_take 44 = some (1, .iastore)) (ow_154 (by decide) (by decide)) ?_
      refine x_iconst (by decide +kernel : am_at co_X12_take 45 = some (1, .iconst 0)) ?_
      exact x_zret (by decide +kernel : am_at co_X12_take 46 = some (1, .ireturn)) (by decide) h
    · have c6 := c6
      have h := h.2 c6
      refine x_aload_n (by decide +kernel : am_at co_X12_take 26 = some (1, .aload_n 0)) rfl ?_
      refine x_iload_n (by decide +kernel : am_at co_X12_take 27 = some (1, .iload_n 1)) rfl ?_
      refine x_callV (n := 2) (by decide +kernel : am_at co_X12_take 28 = some (3, .invokevirtual 449)) pq_12_449 pm_X12_guideOf rfl rfl rfl ob_152 h (x_k0 fun x9 M9 h => ?_)
      refine x_iload_n (by decide +kernel : am_at co_X12_take 31 = some (1, .iload_n 2)) rfl ?_
      refine x_icmp (tgt := 47) (by decide +kernel : am_at co_X12_take 32 = some (3, .if_icmp .ne 15)) rfl Iff.rfl (fun c9 => ?_) (fun c9 => ?_)
      · have h := h.1 c9
        refine x_aload_n (by decide +kernel : am_at co_X12_take 47 = some (1, .aload_n 0)) rfl ?_
        refine x_callV (n := 1) (by decide +kernel : am_at co_X12_take 48 = some (3, .invokevirtual 549)) pq_12_549 pm_X12_keeps rfl rfl rfl ob_152 h (x_kv fun M11 h => ?_)
        refine x_aload_n (by decide +kernel : am_at co_X12_take 51 = some (1, .aload_n 0)) rfl ?_
        refine x_getF (by decide +kernel : am_at co_X12_take 52 = some (3, .getfield 115)) pq_12_115 (by decide) rfl ob_152 ?_
        refine x_top2 (show 152 + 34 = 186 from rfl) ?_
        refine x_bipush (by decide +kernel : am_at co_X12_take 55 = some (2, .bipush 7)) ?_
        refine x_iload_n (by decide +kernel : am_at co_X12_take 57 = some (1, .iload_n 1)) rfl ?_
        obtain ⟨o11, h⟩ := h
        refine x_imul (by decide +kernel : am_at co_X12_take 58 = some (1, .imul)) o11 ?_
        refine x_iload_n (by decide +kernel : am_at co_X12_take 59 = some (1, .iload_n 2)) rfl ?_
        obtain ⟨o12, h⟩ := h
        refine x_iast (by decide +kernel : am_at co_X12_take 60 = some (1, .iastore)) (ow_186 o12.1 o12.2) ?_
        refine x_iconst (by decide +kernel : am_at co_X12_take 61 = some (1, .iconst 1)) ?_
        exact x_zret (by decide +kernel : am_at co_X12_take 62 = some (1, .ireturn)) (by decide) h
      · have c9 := (Classical.not_not.mp c9)
        have h := h.2 c9
        refine x_aload_n (by decide +kernel : am_at co_X12_take 35 = some (1, .aload_n 0)) rfl ?_
        refine x_getF (by decide +kernel : am_at co_X12_take 36 = some (3, .getfield 17)) pq_12_17 (by decide) rfl ob_152 ?_
        refine x_top2 (show 152 + 2 = 154 from rfl) ?_
        refine x_iconst (by decide +kernel : am_at co_X12_take 39 = some (1, .iconst 2)) ?_
        refine x_dup2 (by decide +kernel : am_at co_X12_take 40 = some (1, .dup2)) ?_
        refine x_iald (by decide +kernel : am_at co_X12_take 41 = some (1, .iaload)) (ia_154 (by decide) (by decide)) ?_
        refine x_iconst (by decide +kernel : am_at co_X12_take 42 = some (1, .iconst 1)) ?_
        obtain ⟨o13, h⟩ := h
        refine x_iadd (by decide +kernel : am_at co_X12_take 43 = some (1, .iadd)) o13 ?_
        refine x_iast (by decide +kernel : am_at co_X12_take 44 = some (1, .iastore)) (ow_154 (by decide) (by decide)) ?_
        refine x_iconst (by decide +kernel : am_at co_X12_take 45 = some (1, .iconst 0)) ?_
        exact x_zret (by decide +kernel : am_at co_X12_take 46 = some (1, .ireturn)) (by decide) h
set_option maxRecDepth 20000 in
theorem bk_X12_set_0 {d : Nat} {Q : am_Q} {M : am_M} {v1 v2 v3 : Int} (h : am_cal pg d 215 [(2, 152), (0, v1)] sh_T M (am_c0 sh_T fun x1 M1 => ((x1 = 0 → am_cal pg d 266 [(2, 152)] sh_T M1 (am_c0 sh_T fun x3 M3 => Q (some (0, x3), sh_T, M3))) ∧ (¬ x1 = 0 → am_cal pg d 214 [(2, 152), (0, v2)] sh_T M1 (am_c0 sh_T fun x4 M4 => ((x4 = 0 → am_cal pg d 266 [(2, 152)] sh_T M4 (am_c0 sh_T fun x6 M6 => Q (some (0, x6), sh_T, M6))) ∧ (¬ x4 = 0 → am_cal pg d 169 [(1, v3), (1, 0), (1, 999)] sh_T M4 (am_c0 sh_T fun x7 M7 => ((¬ x7 = 0 → am_cal pg d 264 [(2, 152)] sh_T M7 (am_cv sh_T fun M9 => am_cal pg d 217 [(2, 152), (0, v1), (0, v2)] sh_T M9 (am_c0 sh_T fun x10 M10 => am_r (7 * v1) ∧ am_r ((7 * v1) + 1) ∧ am_r (((7 * v1) + 1) + v2) ∧ (0 ≤ ((7 * v1) + 1) + v2 ∧ ((7 * v1) + 1) + v2 < 28) ∧ Q (some (0, x10), sh_T, (am_up M10 186 (((7 * v1) + 1) + v2) v3))))) ∧ (x7 = 0 → am_cal pg d 266 [(2, 152)] sh_T M7 (am_c0 sh_T fun x15 M15 => Q (some (0, x15), sh_T, M15)))))))))))) : am_g 12 0 co_X12_set d Q 0 [(2, 152), (0, v1), (0, v2), (0, v3), (3, 0)] [] sh_T M := by
  refine x_aload_n (by decide +kernel : am_at co_X12_set 0 = some (1, .aload_n 0)) rfl ?_
  refine x_iload_n (by decide +kernel : am_at co_X12_set 1 = some (1, .iload_n 1)) rfl ?_
  refine x_callV (n := 2) (by decide +kernel : am_at co_X12_set 2 = some (3, .invokevirtual 446)) pq_12_446 pm_X12_isDreamer rfl rfl rfl ob_152 h (x_k0 fun x1 M1 h => ?_)
  refine x_if (tgt := 28) (by decide +kernel : am_at co_X12_set 5 = some (3, .ifCond .eq 23)) rfl Iff.rfl (fun c1 => ?_) (fun c1 => ?_)
  · have h := h.1 c1
    refine x_aload_n (by decide +kernel : am_at co_X12_set 28 = some (1, .aload_n 0)) rfl ?_
    refine x_callV (n := 1) (by decide +kernel : am_at co_X12_set 29 = some (3, .invokevirtual 546)) pq_12_546 pm_X12_refuses rfl rfl rfl ob_152 h (x_k0 fun x3 M3 h => ?_)
    exact x_iret (by decide +kernel : am_at co_X12_set 32 = some (1, .ireturn)) h
  · have c1 := c1
    have h := h.2 c1
    refine x_aload_n (by decide +kernel : am_at co_X12_set 8 = some (1, .aload_n 0)) rfl ?_
    refine x_iload_n (by decide +kernel : am_at co_X12_set 9 = some (1, .iload_n 2)) rfl ?_
    refine x_callV (n := 2) (by decide +kernel : am_at co_X12_set 10 = some (3, .invokevirtual 452)) pq_12_452 pm_X12_isDread rfl rfl rfl ob_152 h (x_k0 fun x4 M4 h => ?_)
    refine x_if (tgt := 28) (by decide +kernel : am_at co_X12_set 13 = some (3, .ifCond .eq 15)) rfl Iff.rfl (fun c4 => ?_) (fun c4 => ?_)
    · have h := h.1 c4
      refine x_aload_n (by decide +kernel : am_at co_X12_set 28 = some (1, .aload_n 0)) rfl ?_
      refine x_callV (n := 1) (by decide +kernel : am_at co_X12_set 29 = some (3, .invokevirtual 546)) pq_12_546 pm_X12_refuses rfl rfl rfl ob_152 h (x_k0 fun x6 M6 h => ?_)
      exact x_iret (by decide +kernel : am_at co_X12_set 32 = some (1, .ireturn)) h
    · have c4 := c4
      have h := h.2 c4
      refine x_iload_n (by decide +kernel : am_at co_X12_set 16 = some (1, .iload_n 3)) rfl ?_
      refine x_i2l (by decide +kernel : am_at co_X12_set 17 = some (1, .i2l)) ?_
      refine x_lconst (by decide +kernel : am_at co_X12_set 18 = some (1, .lconst 0)) ?_
      refine x_ldc2 (by decide +kernel : am_at co_X12_set 19 = some (3, .ldc2_w 421)) pq_12_421 ?_
      refine x_callS (n := 3) (by decide +kernel : am_at co_X12_set 22 = some (3, .invokestatic 249)) pq_12_249 rfl rfl rfl h (x_k0 fun x7 M7 h => ?_)
      refine x_if (tgt := 33) (by decide +kernel : am_at co_X12_set 25 = some (3, .ifCond .ne 8)) rfl Iff.rfl (fun c7 => ?_) (fun c7 => ?_)
      · have h := h.1 c7
        refine x_aload_n (by decide +kernel : am_at co_X12_set 33 = some (1, .aload_n 0)) rfl ?_
        refine x_callV (n := 1) (by decide +kernel : am_at co_X12_set 34 = some (3, .invokevirtual 549)) pq_12_549 pm_X12_keeps rfl rfl rfl ob_152 h (x_kv fun M9 h => ?_)
        refine x_aload_n (by decide +kernel : am_at co_X12_set 37 = some (1, .aload_n 0)) rfl ?_
        refine x_iload_n (by decide +kernel : am_at co_X12_set 38 = some (1, .iload_n 1)) rfl ?_
        refine x_iload_n (by decide +kernel : am_at co_X12_set 39 = some (1, .iload_n 2)) rfl ?_
        refine x_callV (n := 3) (by decide +kernel : am_at co_X12_set 40 = some (3, .invokevirtual 395)) pq_12_395 pm_X12_weightOf rfl rfl rfl ob_152 h (x_k0 fun x10 M10 h => ?_)
        refine x_istore (L' := [(2, 152), (0, v1), (0, v2), (0, v3), (0, x10)]) (by decide +kernel : am_at co_X12_set 43 = some (2, .istore 4)) rfl ?_
        refine x_aload_n (by decide +kernel : am_at co_X12_set 45 = some (1, .aload_n 0)) rfl ?_
        refine x_getF (by decide +kernel : am_at co_X12_set 46 = some (3, .getfield 115)) pq_12_115 (by decide) rfl ob_152 ?_
        refine x_top2 (show 152 + 34 = 186 from rfl) ?_
        refine x_bipush (by decide +kernel : am_at co_X12_set 49 = some (2, .bipush 7)) ?_
        refine x_iload_n (by decide +kernel : am_at co_X12_set 51 = some (1, .iload_n 1)) rfl ?_
        obtain ⟨o10, h⟩ := h
        refine x_imul (by decide +kernel : am_at co_X12_set 52 = some (1, .imul)) o10 ?_
        refine x_iconst (by decide +kernel : am_at co_X12_set 53 = some (1, .iconst 1)) ?_
        obtain ⟨o11, h⟩ := h
        refine x_iadd (by decide +kernel : am_at co_X12_set 54 = some (1, .iadd)) o11 ?_
        refine x_iload_n (by decide +kernel : am_at co_X12_set 55 = some (1, .iload_n 2)) rfl ?_
        obtain ⟨o12, h⟩ := h
        refine x_iadd (by decide +kernel : am_at co_X12_set 56 = some (1, .iadd)) o12 ?_
        refine x_iload_n (by decide +kernel : am_at co_X12_set 57 = some (1, .iload_n 3)) rfl ?_
        obtain ⟨o13, h⟩ := h
        refine x_iast (by decide +kernel : am_at co_X12_set 58 = some (1, .iastore)) (ow_186 o13.1 o13.2) ?_
        refine x_iload (by decide +kernel : am_at co_X12_set 59 = some (2, .iload 4)) rfl ?_
        exact x_iret (by decide +kernel : am_at co_X12_set 61 = some (1, .ireturn)) h
      · have c7 := (Classical.not_not.mp c7)
        have h := h.2 c7
        refine x_aload_n (by decide +kernel : am_at co_X12_set 28 = some (1, .aload_n 0)) rfl ?_
        refine x_callV (n := 1) (by decide +kernel : am_at co_X12_set 29 = some (3, .invokevirtual 546)) pq_12_546 pm_X12_refuses rfl rfl rfl ob_152 h (x_k0 fun x15 M15 h => ?_)
        exact x_iret (by decide +kernel : am_at co_X12_set 32 = some (1, .ireturn)) h
