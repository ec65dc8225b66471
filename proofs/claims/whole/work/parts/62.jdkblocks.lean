/-! the JDK's own methods: blocks, entries (printed by wip/whole/jblocks.py) -/
set_option maxRecDepth 20000 in
theorem bk_J6_bitCount_0f7a4_0 {d : Nat} {Q : am_Q} {M : am_M} {v0 : Int} (h : am_r (v0 - (am_band (am_ushr v0 1) 1431655765)) ∧ am_r ((am_band (v0 - (am_band (am_ushr v0 1) 1431655765)) 858993459) + (am_band (am_ushr (v0 - (am_band (am_ushr v0 1) 1431655765)) 2) 858993459)) ∧ am_r (((am_band (v0 - (am_band (am_ushr v0 1) 1431655765)) 858993459) + (am_band (am_ushr (v0 - (am_band (am_ushr v0 1) 1431655765)) 2) 858993459)) + (am_ushr ((am_band (v0 - (am_band (am_ushr v0 1) 1431655765)) 858993459) + (am_band (am_ushr (v0 - (am_band (am_ushr v0 1) 1431655765)) 2) 858993459)) 4)) ∧ am_r ((am_band (((am_band (v0 - (am_band (am_ushr v0 1) 1431655765)) 858993459) + (am_band (am_ushr (v0 - (am_band (am_ushr v0 1) 1431655765)) 2) 858993459)) + (am_ushr ((am_band (v0 - (am_band (am_ushr v0 1) 1431655765)) 858993459) + (am_band (am_ushr (v0 - (am_band (am_ushr v0 1) 1431655765)) 2) 858993459)) 4)) 252645135) + (am_ushr (am_band (((am_band (v0 - (am_band (am_ushr v0 1) 1431655765)) 858993459) + (am_band (am_ushr (v0 - (am_band (am_ushr v0 1) 1431655765)) 2) 858993459)) + (am_ushr ((am_band (v0 - (am_band (am_ushr v0 1) 1431655765)) 858993459) + (am_band (am_ushr (v0 - (am_band (am_ushr v0 1) 1431655765)) 2) 858993459)) 4)) 252645135) 8)) ∧ am_r (((am_band (((am_band (v0 - (am_band (am_ushr v0 1) 1431655765)) 858993459) + (am_band (am_ushr (v0 - (am_band (am_ushr v0 1) 1431655765)) 2) 858993459)) + (am_ushr ((am_band (v0 - (am_band (am_ushr v0 1) 1431655765)) 858993459) + (am_band (am_ushr (v0 - (am_band (am_ushr v0 1) 1431655765)) 2) 858993459)) 4)) 252645135) + (am_ushr (am_band (((am_band (v0 - (am_band (am_ushr v0 1) 1431655765)) 858993459) + (am_band (am_ushr (v0 - (am_band (am_ushr v0 1) 1431655765)) 2) 858993459)) + (am_ushr ((am_band (v0 - (am_band (am_ushr v0 1) 1431655765)) 858993459) + (am_band (am_ushr (v0 - (am_band (am_ushr v0 1) 1431655765)) 2) 858993459)) 4)) 252645135) 8)) + (am_ushr ((am_band (((am_band (v0 - (am_band (am_ushr v0 1) 1431655765)) 858993459) + (am_band (am_ushr (v0 - (am_band (am_ushr v0 1) 1431655765)) 2) 858993459)) + (am_ushr ((am_band (v0 - (am_band (am_ushr v0 1) 1431655765)) 858993459) + (am_band (am_ushr (v0 - (am_band (am_ushr v0 1) 1431655765)) 2) 858993459)) 4)) 252645135) + (am_ushr (am_band (((am_band (v0 - (am_band (am_ushr v0 1) 1431655765)) 858993459) + (am_band (am_ushr (v0 - (am_band (am_ushr v0 1) 1431655765)) 2) 858993459)) + (am_ushr ((am_band (v0 - (am_band (am_ushr v0 1) 1431655765)) 858993459) + (am_band (am_ushr (v0 - (am_band (am_ushr v0 1) 1431655765)) 2) 858993459)) 4)) 252645135) 8)) 16)) ∧ Q (some (0, am_band (((am_band (((am_band (v0 - (am_band (am_ushr v0 1) 1431655765)) 858993459) + (am_band (am_ushr (v0 - (am_band (am_ushr v0 1) 1431655765)) 2) 858993459)) + (am_ushr ((am_band (v0 - (am_band (am_ushr v0 1) 1431655765)) 858993459) + (am_band (am_ushr (v0 - (am_band (am_ushr v0 1) 1431655765)) 2) 858993459)) 4)) 252645135) + (am_ushr (am_band (((am_band (v0 - (am_band (am_ushr v0 1) 1431655765)) 858993459) + (am_band (am_ushr (v0 - (am_band (am_ushr v0 1) 1431655765)) 2) 858993459)) + (am_ushr ((am_band (v0 - (am_band (am_ushr v0 1) 1431655765)) 858993459) + (am_band (am_ushr (v0 - (am_band (am_ushr v0 1) 1431655765)) 2) 858993459)) 4)) 252645135) 8)) + (am_ushr ((am_band (((am_band (v0 - (am_band (am_ushr v0 1) 1431655765)) 858993459) + (am_band (am_ushr (v0 - (am_band (am_ushr v0 1) 1431655765)) 2) 858993459)) + (am_ushr ((am_band (v0 - (am_band (am_ushr v0 1) 1431655765)) 858993459) + (am_band (am_ushr (v0 - (am_band (am_ushr v0 1) 1431655765)) 2) 858993459)) 4)) 252645135) + (am_ushr (am_band (((am_band (v0 - (am_band (am_ushr v0 1) 1431655765)) 858993459) + (am_band (am_ushr (v0 - (am_band (am_ushr v0 1) 1431655765)) 2) 858993459)) + (am_ushr ((am_band (v0 - (am_band (am_ushr v0 1) 1431655765)) 858993459) + (am_band (am_ushr (v0 - (am_band (am_ushr v0 1) 1431655765)) 2) 858993459)) 4)) 252645135) 8)) 16)) 63), sh_T, M)) : am_g 15 0 co_J6_bitCount_0f7a4 d Q 0 [(0, v0)] [] sh_T M := by
  refine x_iload_n (by decide +kernel : am_at co_J6_bitCount_0f7a4 0 = some (1, .iload_n 0)) rfl ?_
  refine x_iload_n (by decide +kernel : am_at co_J6_bitCount_0f7a4 1 = some (1, .iload_n 0)) rfl ?_
  refine x_iconst (by decide +kernel : am_at co_J6_bitCount_0f7a4 2 = some (1, .iconst 1)) ?_
  refine x_iushr (by decide +kernel : am_at co_J6_bitCount_0f7a4 3 = some (1, .iushr)) ?_
  refine x_ldc_w (by decide +kernel : am_at co_J6_bitCount_0f7a4 4 = some (3, .ldc_w 265)) pq_15_265 ?_
  refine x_iand (by decide +kernel : am_at co_J6_bitCount_0f7a4 7 = some (1, .iand)) ?_
  obtain ⟨o0, h⟩ := h
  refine x_isub (by decide +kernel : am_at co_J6_bitCount_0f7a4 8 = some (1, .isub)) o0 ?_
  refine x_istore_n (L' := [(0, v0 - (am_band (am_ushr v0 1) 1431655765))]) (by decide +kernel : am_at co_J6_bitCount_0f7a4 9 = some (1, .istore_n 0)) rfl ?_
  refine x_iload_n (by decide +kernel : am_at co_J6_bitCount_0f7a4 10 = some (1, .iload_n 0)) rfl ?_
  refine x_ldc_w (by decide +kernel : am_at co_J6_bitCount_0f7a4 11 = some (3, .ldc_w 266)) pq_15_266 ?_
  refine x_iand (by decide +kernel : am_at co_J6_bitCount_0f7a4 14 = some (1, .iand)) ?_
  refine x_iload_n (by decide +kernel : am_at co_J6_bitCount_0f7a4 15 = some (1, .iload_n 0)) rfl ?_
  refine x_iconst (by decide +kernel : am_at co_J6_bitCount_0f7a4 16 = some (1, .iconst 2)) ?_
  refine x_iushr (by decide +kernel : am_at co_J6_bitCount_0f7a4 17 = some (1, .iushr)) ?_
  refine x_ldc_w (by decide +kernel : am_at co_J6_bitCount_0f7a4 18 = some (3, .ldc_w 266)) pq_15_266 ?_
  refine x_iand (by decide +kernel : am_at co_J6_bitCount_0f7a4 21 = some (1, .iand)) ?_
  obtain ⟨o1, h⟩ := h
  refine x_iadd (by decide +kernel : am_at co_J6_bitCount_0f7a4 22 = some (1, .iadd)) o1 ?_
  refine x_istore_n (L' := [(0, (am_band (v0 - (am_band (am_ushr v0 1) 1431655765)) 858993459) + (am_band (am_ushr (v0 - (am_band (am_ushr v0 1) 1431655765)) 2) 858993459))]) (by decide +kernel : am_at co_J6_bitCount_0f7a4 23 = some (1, .istore_n 0)) rfl ?_
  refine x_iload_n (by decide +kernel : am_at co_J6_bitCount_0f7a4 24 = some (1, .iload_n 0)) rfl ?_
  refine x_iload_n (by decide +kernel : am_at co_J6_bitCount_0f7a4 25 = some (1, .iload_n 0)) rfl ?_
  refine x_iconst (by decide +kernel : am_at co_J6_bitCount_0f7a4 26 = some (1, .iconst 4)) ?_
  refine x_iushr (by decide +kernel : am_at co_J6_bitCount_0f7a4 27 = some (1, .iushr)) ?_
  obtain ⟨o2, h⟩ := h
  refine x_iadd (by decide +kernel : am_at co_J6_bitCount_0f7a4 28 = some (1, .iadd)) o2 ?_
  refine x_ldc_w (by decide +kernel : am_at co_J6_bitCount_0f7a4 29 = some (3, .ldc_w 267)) pq_15_267 ?_
  refine x_iand (by decide +kernel : am_at co_J6_bitCount_0f7a4 32 = some (1, .iand)) ?_
  refine x_istore_n (L' := [(0, am_band (((am_band (v0 - (am_band (am_ushr v0 1) 1431655765)) 858993459) + (am_band (am_ushr (v0 - (am_band (am_ushr v0 1) 1431655765)) 2) 858993459)) + (am_ushr ((am_band (v0 - (am_band (am_ushr v0 1) 1431655765)) 858993459) + (am_band (am_ushr (v0 - (am_band (am_ushr v0 1) 1431655765)) 2) 858993459)) 4)) 252645135)]) (by decide +kernel : am_at co_J6_bitCount_0f7a4 33 = some (1, .istore_n 0)) rfl ?_
  refine x_iload_n (by decide +kernel : am_at co_J6_bitCount_0f7a4 34 = some (1, .iload_n 0)) rfl ?_
  refine x_iload_n (by decide +kernel : am_at co_J6_bitCount_0f7a4 35 = some (1, .iload_n 0)) rfl ?_
  refine x_bipush (by decide +kernel : am_at co_J6_bitCount_0f7a4 36 = some (2, .bipush 8)) ?_
  refine x_iushr (by decide +kernel : am_at co_J6_bitCount_0f7a4 38 = some (1, .iushr)) ?_
  obtain ⟨o3, h⟩ := h
  refine x_iadd (by decide +kernel : am_at co_J6_bitCount_0f7a4 39 = some (1, .iadd)) o3 ?_
  refine x_istore_n (L' := [(0, (am_band (((am_band (v0 - (am_band (am_ushr v0 1) 1431655765)) 858993459) + (am_band (am_ushr (v0 - (am_band (am_ushr v0 1) 1431655765)) 2) 858993459)) + (am_ushr ((am_band (v0 - (am_band (am_ushr v0 1) 1431655765)) 858993459) + (am_band (am_ushr (v0 - (am_band (am_ushr v0 1) 1431655765)) 2) 858993459)) 4)) 252645135) + (am_ushr (am_band (((am_band (v0 - (am_band (am_ushr v0 1) 1431655765)) 858993459) + (am_band (am_ushr (v0 - (am_band (am_ushr v0 1) 1431655765)) 2) 858993459)) + (am_ushr ((am_band (v0 - (am_band (am_ushr v0 1) 1431655765)) 858993459) + (am_band (am_ushr (v0 - (am_band (am_ushr v0 1) 1431655765)) 2) 858993459)) 4)) 252645135) 8))]) (by decide +kernel : am_at co_J6_bitCount_0f7a4 40 = some (1, .istore_n 0)) rfl ?_
  refine x_iload_n (by decide +kernel : am_at co_J6_bitCount_0f7a4 41 = some (1, .iload_n 0)) rfl ?_
  refine x_iload_n (by decide +kernel : am_at co_J6_bitCount_0f7a4 42 = some (1, .iload_n 0)) rfl ?_
  refine x_bipush (by decide +kernel : am_at co_J6_bitCount_0f7a4 43 = some (2, .bipush 16)) ?_
  refine x_iushr (by decide +kernel : am_at co_J6_bitCount_0f7a4 45 = some (1, .iushr)) ?_
  obtain ⟨o4, h⟩ := h
  refine x_iadd (by decide +kernel : am_at co_J6_bitCount_0f7a4 46 = some (1, .iadd)) o4 ?_
  refine x_istore_n (L' := [(0, ((am_band (((am_band (v0 - (am_band (am_ushr v0 1) 1431655765)) 858993459) + (am_band (am_ushr (v0 - (am_band (am_ushr v0 1) 1431655765)) 2) 858993459)) + (am_ushr ((am_band (v0 - (am_band (am_ushr v0 1) 1431655765)) 858993459) + (am_band (am_ushr (v0 - (am_band (am_ushr v0 1) 1431655765)) 2) 858993459)) 4)) 252645135) + (am_ushr (am_band (((am_band (v0 - (am_band (am_ushr v0 1) 1431655765)) 858993459) + (am_band (am_ushr (v0 - (am_band (am_ushr v0 1) 1431655765)) 2) 858993459)) + (am_ushr ((am_band (v0 - (am_band (am_ushr v0 1) 1431655765)) 858993459) + (am_band (am_ushr (v0 - (am_band (am_ushr v0 1) 1431655765)) 2) 858993459)) 4)) 252645135) 8)) + (am_ushr ((am_band (((am_band (v0 - (am_band (am_ushr v0 1) 1431655765)) 858993459) + (am_band (am_ushr (v0 - (am_band (am_ushr v0 1) 1431655765)) 2) 858993459)) + (am_ushr ((am_band (v0 - (am_band (am_ushr v0 1) 1431655765)) 858993459) + (am_band (am_ushr (v0 - (am_band (am_ushr v0 1) 1431655765)) 2) 858993459)) 4)) 252645135) + (am_ushr (am_band (((am_band (v0 - (am_band (am_ushr v0 1) 1431655765)) 858993459) + (am_band (am_ushr (v0 - (am_band (am_ushr v0 1) 1431655765)) 2) 858993459)) + (am_ushr ((am_band (v0 - (am_band (am_ushr v0 1) 1431655765)) 858993459) + (am_band (am_ushr (v0 - (am_band (am_ushr v0 1) 1431655765)) 2) 858993459)) 4)) 252645135) 8)) 16))]) (by decide +kernel : am_at co_J6_bitCount_0f7a4 47 = some (1, .istore_n 0)) rfl ?_
  refine x_iload_n (by decide +kernel : am_at co_J6_bitCount_0f7a4 48 = some (1, .iload_n 0)) rfl ?_
  refine x_bipush (by decide +kernel : am_at co_J6_bitCount_0f7a4 49 = some (2, .bipush 63)) ?_
  refine x_iand (by decide +kernel : am_at co_J6_bitCount_0f7a4 51 = some (1, .iand)) ?_
  exact x_iret (by decide +kernel : am_at co_J6_bitCount_0f7a4 52 = some (1, .ireturn)) h

theorem en_J6_bitCount_0f7a4 {d : Nat} {Q : am_Q} {M : am_M} {v0 : Int} (h : am_g 15 0 co_J6_bitCount_0f7a4 d Q 0 [(0, v0)] [] sh_T M) : am_cal pg (d + 1) 314 [(0, v0)] sh_T M Q := am_cal_of pm_J6_bitCount_0f7a4 rfl (Nat.le_of_ble_eq_true rfl) h
set_option maxRecDepth 20000 in
theorem bk_J9_floorDiv_7cf53_0 {d : Nat} {Q : am_Q} {M : am_M} {v0 v1 : Int} (h : ¬ v1 = 0 ∧ am_r (v0.tdiv v1) ∧ ((0 ≤ am_bxor v0 v1 → Q (some (0, v0.tdiv v1), sh_T, M)) ∧ (am_bxor v0 v1 < 0 → am_r ((v0.tdiv v1) * v1) ∧ (((v0.tdiv v1) * v1 = v0 → Q (some (0, v0.tdiv v1), sh_T, M)) ∧ (¬ (v0.tdiv v1) * v1 = v0 → am_r ((v0.tdiv v1) - 1) ∧ Q (some (0, (v0.tdiv v1) - 1), sh_T, M)))))) : am_g 14 0 co_J9_floorDiv_7cf53 d Q 0 [(0, v0), (0, v1), (3, 0)] [] sh_T M := by
  refine x_iload_n (by decide +kernel : am_at co_J9_floorDiv_7cf53 0 = some (1, .iload_n 0)) rfl ?_
  refine x_iload_n (by decide +kernel : am_at co_J9_floorDiv_7cf53 1 = some (1, .iload_n 1)) rfl ?_
  obtain ⟨o0, h⟩ := h
  obtain ⟨o1, h⟩ := h
  refine x_idiv (by decide +kernel : am_at co_J9_floorDiv_7cf53 2 = some (1, .idiv)) o0 o1 ?_
  refine x_istore_n (L' := [(0, v0), (0, v1), (0, v0.tdiv v1)]) (by decide +kernel : am_at co_J9_floorDiv_7cf53 3 = some (1, .istore_n 2)) rfl ?_
  refine x_iload_n (by decide +kernel : am_at co_J9_floorDiv_7cf53 4 = some (1, .iload_n 0)) rfl ?_
  refine x_iload_n (by decide +kernel : am_at co_J9_floorDiv_7cf53 5 = some (1, .iload_n 1)) rfl ?_
  refine x_ixor (by decide +kernel : am_at co_J9_floorDiv_7cf53 6 = some (1, .ixor)) ?_
  refine x_if (tgt := 21) (by decide +kernel : am_at co_J9_floorDiv_7cf53 7 = some (3, .ifCond .ge 14)) rfl Iff.rfl (fun c2 => ?_) (fun c2 => ?_)
  · have h := h.1 c2
    refine x_iload_n (by decide +kernel : am_at co_J9_floorDiv_7cf53 21 = some (1, .iload_n 2)) rfl ?_
    exact x_iret (by decide +kernel : am_at co_J9_floorDiv_7cf53 22 = some (1, .ireturn)) h
  · have c2 := (Int.not_le.mp c2)
    have h := h.2 c2
    refine x_iload_n (by decide +kernel : am_at co_J9_floorDiv_7cf53 10 = some (1, .iload_n 2)) rfl ?_
    refine x_iload_n (by decide +kernel : am_at co_J9_floorDiv_7cf53 11 = some (1, .iload_n 1)) rfl ?_
    obtain ⟨o3, h⟩ := h
    refine x_imul (by decide +kernel : am_at co_J9_floorDiv_7cf53 12 = some (1, .imul)) o3 ?_
    refine x_iload_n (by decide +kernel : am_at co_J9_floorDiv_7cf53 13 = some (1, .iload_n 0)) rfl ?_
    refine x_icmp (tgt := 21) (by decide +kernel : am_at co_J9_floorDiv_7cf53 14 = some (3, .if_icmp .eq 7)) rfl Iff.rfl (fun c4 => ?_) (fun c4 => ?_)
    · have h := h.1 c4
      refine x_iload_n (by decide +kernel : am_at co_J9_floorDiv_7cf53 21 = some (1, .iload_n 2)) rfl ?_
      exact x_iret (by decide +kernel : am_at co_J9_floorDiv_7cf53 22 = some (1, .ireturn)) h
    · have c4 := c4
      have h := h.2 c4
      refine x_iload_n (by decide +kernel : am_at co_J9_floorDiv_7cf53 17 = some (1, .iload_n 2)) rfl ?_
      refine x_iconst (by decide +kernel : am_at co_J9_floorDiv_7cf53 18 = some (1, .iconst 1)) ?_
      obtain ⟨o5, h⟩ := h
      refine x_isub (by decide +kernel : am_at co_J9_floorDiv_7cf53 19 = some (1, .isub)) o5 ?_
      exact x_iret (by decide +kernel : am_at co_J9_floorDiv_7cf53 20 = some (1, .ireturn)) h

theorem en_J9_floorDiv_7cf53 {d : Nat} {Q : am_Q} {M : am_M} {v0 v1 : Int} (h : am_g 14 0 co_J9_floorDiv_7cf53 d Q 0 [(0, v0), (0, v1), (3, 0)] [] sh_T M) : am_cal pg (d + 1) 315 [(0, v0), (0, v1)] sh_T M Q := am_cal_of pm_J9_floorDiv_7cf53 rfl (Nat.le_of_ble_eq_true rfl) h
set_option maxRecDepth 20000 in
theorem bk_J9_max_7cf53_0 {d : Nat} {Q : am_Q} {M : am_M} {v0 v1 : Int} (h : ((v0 < v1 → Q (some (0, v1), sh_T, M)) ∧ (v1 ≤ v0 → Q (some (0, v0), sh_T, M)))) : am_g 14 0 co_J9_max_7cf53 d Q 0 [(0, v0), (0, v1)] [] sh_T M := by
  refine x_iload_n (by decide +kernel : am_at co_J9_max_7cf53 0 = some (1, .iload_n 0)) rfl ?_
  refine x_iload_n (by decide +kernel : am_at co_J9_max_7cf53 1 = some (1, .iload_n 1)) rfl ?_
  refine x_icmp (tgt := 9) (by decide +kernel : am_at co_J9_max_7cf53 2 = some (3, .if_icmp .lt 7)) rfl Iff.rfl (fun c0 => ?_) (fun c0 => ?_)
  · have h := h.1 c0
    refine x_iload_n (by decide +kernel : am_at co_J9_max_7cf53 9 = some (1, .iload_n 1)) rfl ?_
    exact x_iret (by decide +kernel : am_at co_J9_max_7cf53 10 = some (1, .ireturn)) h
  · have c0 := (Int.not_lt.mp c0)
    have h := h.2 c0
    refine x_iload_n (by decide +kernel : am_at co_J9_max_7cf53 5 = some (1, .iload_n 0)) rfl ?_
    refine x_goto (tgt := 10) (by decide +kernel : am_at co_J9_max_7cf53 6 = some (3, .goto 4)) rfl ?_
    exact x_iret (by decide +kernel : am_at co_J9_max_7cf53 10 = some (1, .ireturn)) h

theorem en_J9_max_7cf53 {d : Nat} {Q : am_Q} {M : am_M} {v0 v1 : Int} (h : am_g 14 0 co_J9_max_7cf53 d Q 0 [(0, v0), (0, v1)] [] sh_T M) : am_cal pg (d + 1) 316 [(0, v0), (0, v1)] sh_T M Q := am_cal_of pm_J9_max_7cf53 rfl (Nat.le_of_ble_eq_true rfl) h
set_option maxRecDepth 20000 in
theorem bk_J9_max_f86c9_0 {d : Nat} {Q : am_Q} {M : am_M} {v0 v2 : Int} (h : ((v0 < v2 → Q (some (1, v2), sh_T, M)) ∧ (v2 ≤ v0 → Q (some (1, v0), sh_T, M)))) : am_g 14 1 co_J9_max_f86c9 d Q 0 [(1, v0), (3, 0), (1, v2), (3, 0)] [] sh_T M := by
  refine x_lload_n (by decide +kernel : am_at co_J9_max_f86c9 0 = some (1, .lload_n 0)) rfl ?_
  refine x_lload_n (by decide +kernel : am_at co_J9_max_f86c9 1 = some (1, .lload_n 2)) rfl ?_
  refine x_lif (tgt := 10) (by decide +kernel : am_at co_J9_max_f86c9 2 = some (1, .lcmp)) (by decide +kernel : am_at co_J9_max_f86c9 3 = some (3, .ifCond .lt 7)) rfl Iff.rfl (fun c0 => ?_) (fun c0 => ?_)
  · have h := h.1 c0
    refine x_lload_n (by decide +kernel : am_at co_J9_max_f86c9 10 = some (1, .lload_n 2)) rfl ?_
    exact x_lret (by decide +kernel : am_at co_J9_max_f86c9 11 = some (1, .lreturn)) h
  · have c0 := (Int.not_lt.mp c0)
    have h := h.2 c0
    refine x_lload_n (by decide +kernel : am_at co_J9_max_f86c9 6 = some (1, .lload_n 0)) rfl ?_
    refine x_goto (tgt := 11) (by decide +kernel : am_at co_J9_max_f86c9 7 = some (3, .goto 4)) rfl ?_
    exact x_lret (by decide +kernel : am_at co_J9_max_f86c9 11 = some (1, .lreturn)) h

theorem en_J9_max_f86c9 {d : Nat} {Q : am_Q} {M : am_M} {v0 v2 : Int} (h : am_g 14 1 co_J9_max_f86c9 d Q 0 [(1, v0), (3, 0), (1, v2), (3, 0)] [] sh_T M) : am_cal pg (d + 1) 317 [(1, v0), (1, v2)] sh_T M Q := am_cal_of pm_J9_max_f86c9 rfl (Nat.le_of_ble_eq_true rfl) h
set_option maxRecDepth 20000 in
theorem bk_J9_min_7cf53_0 {d : Nat} {Q : am_Q} {M : am_M} {v0 v1 : Int} (h : ((v1 < v0 → Q (some (0, v1), sh_T, M)) ∧ (v0 ≤ v1 → Q (some (0, v0), sh_T, M)))) : am_g 14 0 co_J9_min_7cf53 d Q 0 [(0, v0), (0, v1)] [] sh_T M := by
  refine x_iload_n (by decide +kernel : am_at co_J9_min_7cf53 0 = some (1, .iload_n 0)) rfl ?_
  refine x_iload_n (by decide +kernel : am_at co_J9_min_7cf53 1 = some (1, .iload_n 1)) rfl ?_
  refine x_icmp (tgt := 9) (by decide +kernel : am_at co_J9_min_7cf53 2 = some (3, .if_icmp .gt 7)) rfl Iff.rfl (fun c0 => ?_) (fun c0 => ?_)
  · have h := h.1 c0
    refine x_iload_n (by decide +kernel : am_at co_J9_min_7cf53 9 = some (1, .iload_n 1)) rfl ?_
    exact x_iret (by decide +kernel : am_at co_J9_min_7cf53 10 = some (1, .ireturn)) h
  · have c0 := (Int.not_lt.mp c0)
    have h := h.2 c0
    refine x_iload_n (by decide +kernel : am_at co_J9_min_7cf53 5 = some (1, .iload_n 0)) rfl ?_
    refine x_goto (tgt := 10) (by decide +kernel : am_at co_J9_min_7cf53 6 = some (3, .goto 4)) rfl ?_
    exact x_iret (by decide +kernel : am_at co_J9_min_7cf53 10 = some (1, .ireturn)) h

theorem en_J9_min_7cf53 {d : Nat} {Q : am_Q} {M : am_M} {v0 v1 : Int} (h : am_g 14 0 co_J9_min_7cf53 d Q 0 [(0, v0), (0, v1)] [] sh_T M) : am_cal pg (d + 1) 318 [(0, v0), (0, v1)] sh_T M Q := am_cal_of pm_J9_min_7cf53 rfl (Nat.le_of_ble_eq_true rfl) h
set_option maxRecDepth 20000 in
theorem bk_J9_min_f86c9_0 {d : Nat} {Q : am_Q} {M : am_M} {v0 v2 : Int} (h : ((v2 < v0 → Q (some (1, v2), sh_T, M)) ∧ (v0 ≤ v2 → Q (some (1, v0), sh_T, M)))) : am_g 14 1 co_J9_min_f86c9 d Q 0 [(1, v0), (3, 0), (1, v2), (3, 0)] [] sh_T M := by
  refine x_lload_n (by decide +kernel : am_at co_J9_min_f86c9 0 = some (1, .lload_n 0)) rfl ?_
  refine x_lload_n (by decide +kernel : am_at co_J9_min_f86c9 1 = some (1, .lload_n 2)) rfl ?_
  refine x_lif (tgt := 10) (by decide +kernel : am_at co_J9_min_f86c9 2 = some (1, .lcmp)) (by decide +kernel : am_at co_J9_min_f86c9 3 = some (3, .ifCond .gt 7)) rfl Iff.rfl (fun c0 => ?_) (fun c0 => ?_)
  · have h := h.1 c0
    refine x_lload_n (by decide +kernel : am_at co_J9_min_f86c9 10 = some (1, .lload_n 2)) rfl ?_
    exact x_lret (by decide +kernel : am_at co_J9_min_f86c9 11 = some (1, .lreturn)) h
  · have c0 := (Int.not_lt.mp c0)
    have h := h.2 c0
    refine x_lload_n (by decide +kernel : am_at co_J9_min_f86c9 6 = some (1, .lload_n 0)) rfl ?_
    refine x_goto (tgt := 11) (by decide +kernel : am_at co_J9_min_f86c9 7 = some (3, .goto 4)) rfl ?_
    exact x_lret (by decide +kernel : am_at co_J9_min_f86c9 11 = some (1, .lreturn)) h

theorem en_J9_min_f86c9 {d : Nat} {Q : am_Q} {M : am_M} {v0 v2 : Int} (h : am_g 14 1 co_J9_min_f86c9 d Q 0 [(1, v0), (3, 0), (1, v2), (3, 0)] [] sh_T M) : am_cal pg (d + 1) 319 [(1, v0), (1, v2)] sh_T M Q := am_cal_of pm_J9_min_f86c9 rfl (Nat.le_of_ble_eq_true rfl) h
