/-! blocks (printed) -/
set_option maxRecDepth 20000 in
theorem bk_X0_takeBack_0 {d : Nat} {Q : am_Q} {M : am_M} {v1 : Int} (h : ((0 < M 46 1 → am_r ((M 46 1) - 1) ∧ am_r ((M 46 2) - 1) ∧ am_cal pg d 316 [(0, (M 46 2) - 1), (0, 0)] sh_T (am_up M 46 1 ((M 46 1) - 1)) (am_c0 sh_T fun x4 M4 => ((20 ≤ M4 46 1 → Q (none, sh_T, (am_up M4 46 2 x4))) ∧ (M4 46 1 < 20 → (0 ≤ M4 46 1 ∧ M4 46 1 < 20) ∧ am_ob sh_T 7 (47 + 1 + 2 * (M4 46 1)) ∧ (((am_up M4 46 2 x4) (47 + 1 + 2 * (M4 46 1)) 1 < 0 → Q (none, sh_T, (am_up M4 46 2 x4))) ∧ (0 ≤ (am_up M4 46 2 x4) (47 + 1 + 2 * (M4 46 1)) 1 → ∃ n8 : Nat, am_alen pg sh_T v1 = some n8 ∧ (((n8 : Int) ≤ (am_up M4 46 2 x4) (47 + 1 + 2 * (M4 46 1)) 1 → Q (none, sh_T, (am_up M4 46 2 x4))) ∧ ((am_up M4 46 2 x4) (47 + 1 + 2 * (M4 46 1)) 1 < (n8 : Int) → am_in pg sh_T 4 v1 ((am_up M4 46 2 x4) (47 + 1 + 2 * (M4 46 1)) 1) ∧ am_ob sh_T 7 (v1 + 1 + 2 * ((am_up M4 46 2 x4) (47 + 1 + 2 * (M4 46 1)) 1)) ∧ am_cal pg d 71 [(2, v1 + 1 + 2 * ((am_up M4 46 2 x4) (47 + 1 + 2 * (M4 46 1)) 1)), (2, 47 + 1 + 2 * (M4 46 1))] sh_T (am_up M4 46 2 x4) (am_cv sh_T fun M13 => Q (none, sh_T, M13)))))))))) ∧ (M 46 1 ≤ 0 → am_r ((M 46 2) - 1) ∧ am_cal pg d 316 [(0, (M 46 2) - 1), (0, 0)] sh_T (am_up M 46 1 19) (am_c0 sh_T fun x15 M15 => ((20 ≤ M15 46 1 → Q (none, sh_T, (am_up M15 46 2 x15))) ∧ (M15 46 1 < 20 → (0 ≤ M15 46 1 ∧ M15 46 1 < 20) ∧ am_ob sh_T 7 (47 + 1 + 2 * (M15 46 1)) ∧ (((am_up M15 46 2 x15) (47 + 1 + 2 * (M15 46 1)) 1 < 0 → Q (none, sh_T, (am_up M15 46 2 x15))) ∧ (0 ≤ (am_up M15 46 2 x15) (47 + 1 + 2 * (M15 46 1)) 1 → ∃ n19 : Nat, am_alen pg sh_T v1 = some n19 ∧ (((n19 : Int) ≤ (am_up M15 46 2 x15) (47 + 1 + 2 * (M15 46 1)) 1 → Q (none, sh_T, (am_up M15 46 2 x15))) ∧ ((am_up M15 46 2 x15) (47 + 1 + 2 * (M15 46 1)) 1 < (n19 : Int) → am_in pg sh_T 4 v1 ((am_up M15 46 2 x15) (47 + 1 + 2 * (M15 46 1)) 1) ∧ am_ob sh_T 7 (v1 + 1 + 2 * ((am_up M15 46 2 x15) (47 + 1 + 2 * (M15 46 1)) 1)) ∧ am_cal pg d 71 [(2, v1 + 1 + 2 * ((am_up M15 46 2 x15) (47 + 1 + 2 * (M15 46 1)) 1)), (2, 47 + 1 + 2 * (M15 46 1))] sh_T (am_up M15 46 2 x15) (am_cv sh_T fun M24 => Q (none, sh_T, M24)))))))))))) : am_g 0 9 co_X0_takeBack d Q 0 [(2, 46), (2, v1), (3, 0)] [] sh_T M := by
  refine x_aload_n (by decide +kernel : am_at co_X0_takeBack 0 = some (1, .aload_n 0)) rfl ?_
  refine x_aload_n (by decide +kernel : am_at co_X0_takeBack 1 = some (1, .aload_n 0)) rfl ?_
  refine x_getf (by decide +kernel : am_at co_X0_takeBack 2 = some (3, .getfield 19)) pq_0_19 rfl ob_46 ?_
  refine x_if (tgt := 13) (by decide +kernel : am_at co_X0_takeBack 5 = some (3, .ifCond .gt 8)) rfl Iff.rfl (fun c0 => ?_) (fun c0 => ?_)
  · have h := h.1 c0
    refine x_aload_n (by decide +kernel : am_at co_X0_takeBack 13 = some (1, .aload_n 0)) rfl ?_
    refine x_getf (by decide +kernel : am_at co_X0_takeBack 14 = some (3, .getfield 19)) pq_0_19 rfl ob_46 ?_
    refine x_iconst (by decide +kernel : am_at co_X0_takeBack 17 = some (1, .iconst 1)) ?_
    obtain ⟨o1, h⟩ := h
    refine x_isub (by decide +kernel : am_at co_X0_takeBack 18 = some (1, .isub)) o1 ?_
    refine x_putf0 (by decide +kernel : am_at co_X0_takeBack 19 = some (3, .putfield 19)) pq_0_19 rfl ob_46 ?_
    refine x_aload_n (by decide +kernel : am_at co_X0_takeBack 22 = some (1, .aload_n 0)) rfl ?_
    refine x_aload_n (by decide +kernel : am_at co_X0_takeBack 23 = some (1, .aload_n 0)) rfl ?_
    refine x_getf (by decide +kernel : am_at co_X0_takeBack 24 = some (3, .getfield 23)) pq_0_23 rfl ob_46 ?_
    refine x_top0 (show (am_up M 46 1 ((M 46 1) - 1)) 46 2 = M 46 2 from by first | rfl | simp [am_up]) ?_
    refine x_iconst (by decide +kernel : am_at co_X0_takeBack 27 = some (1, .iconst 1)) ?_
    obtain ⟨o2, h⟩ := h
    refine x_isub (by decide +kernel : am_at co_X0_takeBack 28 = some (1, .isub)) o2 ?_
    refine x_iconst (by decide +kernel : am_at co_X0_takeBack 29 = some (1, .iconst 0)) ?_
    refine x_callS (n := 2) (by decide +kernel : am_at co_X0_takeBack 30 = some (3, .invokestatic 38)) pq_0_38 rfl rfl rfl h (x_k0 fun x4 M4 h => ?_)
    refine x_putf0 (by decide +kernel : am_at co_X0_takeBack 33 = some (3, .putfield 23)) pq_0_23 rfl ob_46 ?_
    refine x_aload_n (by decide +kernel : am_at co_X0_takeBack 36 = some (1, .aload_n 0)) rfl ?_
    refine x_getf (by decide +kernel : am_at co_X0_takeBack 37 = some (3, .getfield 19)) pq_0_19 rfl ob_46 ?_
    refine x_top0 (show (am_up M4 46 2 x4) 46 1 = M4 46 1 from by first | rfl | simp [am_up]) ?_
    refine x_aload_n (by decide +kernel : am_at co_X0_takeBack 40 = some (1, .aload_n 0)) rfl ?_
    refine x_getF (by decide +kernel : am_at co_X0_takeBack 41 = some (3, .getfield 13)) pq_0_13 (by decide) rfl ob_46 ?_
    refine x_top2 (show 46 + 1 = 47 from rfl) ?_
    refine x_alen (by decide +kernel : am_at co_X0_takeBack 44 = some (1, .arraylength)) (n := 20) rfl ?_
    refine x_top0 (show ((20 : Nat) : Int) = 20 from rfl) ?_
    refine x_icmp (tgt := 86) (by decide +kernel : am_at co_X0_takeBack 45 = some (3, .if_icmp .ge 41)) rfl Iff.rfl (fun c4 => ?_) (fun c4 => ?_)
    · have h := h.1 c4
      exact x_vret (by decide +kernel : am_at co_X0_takeBack 86 = some (1, .return_)) h
    · have c4 := (Int.not_le.mp c4)
      have h := h.2 c4
      refine x_aload_n (by decide +kernel : am_at co_X0_takeBack 48 = some (1, .aload_n 0)) rfl ?_
      refine x_getF (by decide +kernel : am_at co_X0_takeBack 49 = some (3, .getfield 13)) pq_0_13 (by decide) rfl ob_46 ?_
      refine x_top2 (show 46 + 1 = 47 from rfl) ?_
      refine x_aload_n (by decide +kernel : am_at co_X0_takeBack 52 = some (1, .aload_n 0)) rfl ?_
      refine x_getf (by decide +kernel : am_at co_X0_takeBack 53 = some (3, .getfield 19)) pq_0_19 rfl ob_46 ?_
      refine x_top0 (show (am_up M4 46 2 x4) 46 1 = M4 46 1 from by first | rfl | simp [am_up]) ?_
      obtain ⟨o5, h⟩ := h
      refine x_aald (by decide +kernel : am_at co_X0_takeBack 56 = some (1, .aaload)) (ia_47 o5.1 o5.2) ?_
      obtain ⟨o6, h⟩ := h
      refine x_getf (by decide +kernel : am_at co_X0_takeBack 57 = some (3, .getfield 41)) pq_0_41 rfl o6 ?_
      refine x_istore_n (L' := [(2, 46), (2, v1), (0, (am_up M4 46 2 x4) (47 + 1 + 2 * (M4 46 1)) 1)]) (by decide +kernel : am_at co_X0_takeBack 60 = some (1, .istore_n 2)) rfl ?_
      refine x_iload_n (by decide +kernel : am_at co_X0_takeBack 61 = some (1, .iload_n 2)) rfl ?_
      refine x_if (tgt := 86) (by decide +kernel : am_at co_X0_takeBack 62 = some (3, .ifCond .lt 24)) rfl Iff.rfl (fun c7 => ?_) (fun c7 => ?_)
      · have h := h.1 c7
        exact x_vret (by decide +kernel : am_at co_X0_takeBack 86 = some (1, .return_)) h
      · have c7 := (Int.not_lt.mp c7)
        have h := h.2 c7
        refine x_iload_n (by decide +kernel : am_at co_X0_takeBack 65 = some (1, .iload_n 2)) rfl ?_
        refine x_aload_n (by decide +kernel : am_at co_X0_takeBack 66 = some (1, .aload_n 1)) rfl ?_
        obtain ⟨n8, o8, h⟩ := h
        refine x_alen (by decide +kernel : am_at co_X0_takeBack 67 = some (1, .arraylength)) o8 ?_
        refine x_icmp (tgt := 86) (by decide +kernel : am_at co_X0_takeBack 68 = some (3, .if_icmp .ge 18)) rfl Iff.rfl (fun c9 => ?_) (fun c9 => ?_)
        · have h := h.1 c9
          exact x_vret (by decide +kernel : am_at co_X0_takeBack 86 = some (1, .return_)) h
        · have c9 := (Int.not_le.mp c9)
          have h := h.2 c9
          refine x_aload_n (by decide +kernel : am_at co_X0_takeBack 71 = some (1, .aload_n 1)) rfl ?_
          refine x_iload_n (by decide +kernel : am_at co_X0_takeBack 72 = some (1, .iload_n 2)) rfl ?_
          obtain ⟨o10, h⟩ := h
          refine x_aald (by decide +kernel : am_at co_X0_takeBack 73 = some (1, .aaload)) (o10) ?_
          refine x_aload_n (by decide +kernel : am_at co_X0_takeBack 74 = some (1, .aload_n 0)) rfl ?_
          refine x_getF (by decide +kernel : am_at co_X0_takeBack 75 = some (3, .getfield 13)) pq_0_13 (by decide) rfl ob_46 ?_
          refine x_top2 (show 46 + 1 = 47 from rfl) ?_
          refine x_aload_n (by decide +kernel : am_at co_X0_takeBack 78 = some (1, .aload_n 0)) rfl ?_
          refine x_getf (by decide +kernel : am_at co_X0_takeBack 79 = some (3, .getfield 19)) pq_0_19 rfl ob_46 ?_
          refine x_top0 (show (am_up M4 46 2 x4) 46 1 = M4 46 1 from by first | rfl | simp [am_up]) ?_
          refine x_aald (by decide +kernel : am_at co_X0_takeBack 82 = some (1, .aaload)) (ia_47 o5.1 o5.2) ?_
          obtain ⟨o11, h⟩ := h
          refine x_callV (n := 2) (by decide +kernel : am_at co_X0_takeBack 83 = some (3, .invokevirtual 26)) pq_0_26 pm_X7_copy rfl rfl rfl o11 h (x_kv fun M13 h => ?_)
          exact x_vret (by decide +kernel : am_at co_X0_takeBack 86 = some (1, .return_)) h
  · have c0 := (Int.not_lt.mp c0)
    have h := h.2 c0
    refine x_bipush (by decide +kernel : am_at co_X0_takeBack 8 = some (2, .bipush 19)) ?_
    refine x_goto (tgt := 19) (by decide +kernel : am_at co_X0_takeBack 10 = some (3, .goto 9)) rfl ?_
    refine x_putf0 (by decide +kernel : am_at co_X0_takeBack 19 = some (3, .putfield 19)) pq_0_19 rfl ob_46 ?_
    refine x_aload_n (by decide +kernel : am_at co_X0_takeBack 22 = some (1, .aload_n 0)) rfl ?_
    refine x_aload_n (by decide +kernel : am_at co_X0_takeBack 23 = some (1, .aload_n 0)) rfl ?_
    refine x_getf (by decide +kernel : am_at co_X0_takeBack 24 = some (3, .getfield 23)) pq_0_23 rfl ob_46 ?_
    refine x_top0 (show (am_up M 46 1 19) 46 2 = M 46 2 from by first | rfl | simp [am_up]) ?_
    refine x_iconst (by decide +kernel : am_at co_X0_takeBack 27 = some (1, .iconst 1)) ?_
    obtain ⟨o13, h⟩ := h
    refine x_isub (by decide +kernel : am_at co_X0_takeBack 28 = some (1, .isub)) o13 ?_
    refine x_iconst (by decide +kernel : am_at co_X0_takeBack 29 = some (1, .iconst 0)) ?_
    refine x_callS (n := 2) (by decide +kernel : am_at co_X0_takeBack 30 = some (3, .invokestatic 38)) pq_0_38 rfl rfl rfl h (x_k0 fun x15 M15 h => ?_)
    refine x_putf0 (by decide +kernel : am_at co_X0_takeBack 33 = some (3, .putfield 23)) pq_0_23 rfl ob_46 ?_
    refine x_aload_n (by decide +kernel : am_at co_X0_takeBack 36 = some (1, .aload_n 0)) rfl ?_
    refine x_getf (by decide +kernel : am_at co_X0_takeBack 37 = some (3, .getfield 19)) pq_0_19 rfl ob_46 ?_
    refine x_top0 (show (am_up M15 46 2 x15) 46 1 = M15 46 1 from by first | rfl | simp [am_up]) ?_
    refine x_aload_n (by decide +kernel : am_at co_X0_takeBack 40 = some (1, .aload_n 0)) rfl ?_
    refine x_getF (by decide +kernel : am_at co_X0_takeBack 41 = some (3, .getfield 13)) pq_0_13 (by decide) rfl ob_46 ?_
    refine x_top2 (show 46 + 1 = 47 from rfl) ?_
    refine x_alen (by decide +kernel : am_at co_X0_takeBack 44 = some (1, .arraylength)) (n := 20) rfl ?_
    refine x_top0 (show ((20 : Nat) : Int) = 20 from rfl) ?_
    refine x_icmp (tgt := 86) (by decide +kernel : am_at co_X0_takeBack 45 = some (3, .if_icmp .ge 41)) rfl Iff.rfl (fun c15 => ?_) (fun c15 => ?_)
    · have h := h.1 c15
      exact x_vret (by decide +kernel : am_at co_X0_takeBack 86 = some (1, .return_)) h
    · have c15 := (Int.not_le.mp c15)
      have h := h.2 c15
      refine x_aload_n (by decide +kernel : am_at co_X0_takeBack 48 = some (1, .aload_n 0)) rfl ?_
      refine x_getF (by decide +kernel : am_at co_X0_takeBack 49 = some (3, .getfield 13)) pq_0_13 (by decide) rfl ob_46 ?_
      refine x_top2 (show 46 + 1 = 47 from rfl) ?_
      refine x_aload_n (by decide +kernel : am_at co_X0_takeBack 52 = some (1, .aload_n 0)) rfl ?_
      refine x_getf (by decide +kernel : am_at co_X0_takeBack 53 = some (3, .getfield 19)) pq_0_19 rfl ob_46 ?_
      refine x_top0 (show (am_up M15 46 2 x15) 46 1 = M15 46 1 from by first | rfl | simp [am_up]) ?_
      obtain ⟨o16, h⟩ := h
      refine x_aald (by decide +kernel : am_at co_X0_takeBack 56 = some (1, .aaload)) (ia_47 o16.1 o16.2) ?_
      obtain ⟨o17, h⟩ := h
      refine x_getf (by decide +kernel : am_at co_X0_takeBack 57 = some (3, .getfield 41)) pq_0_41 rfl o17 ?_
      refine x_istore_n (L' := [(2, 46), (2, v1), (0, (am_up M15 46 2 x15) (47 + 1 + 2 * (M15 46 1)) 1)]) (by decide +kernel : am_at co_X0_takeBack 60 = some (1, .istore_n 2)) rfl ?_
      refine x_iload_n (by decide +kernel : am_at co_X0_takeBack 61 = some (1, .iload_n 2)) rfl ?_
      refine x_if (tgt := 86) (by decide +kernel : am_at co_X0_takeBack 62 = some (3, .ifCond .lt 24)) rfl Iff.rfl (fun c18 => ?_) (fun c18 => ?_)
      · have h := h.1 c18
        exact x_vret (by decide +kernel : am_at co_X0_takeBack 86 = some (1, .return_)) h
      · have c18 := (Int.not_lt.mp c18)
        have h := h.2 c18
        refine x_iload_n (by decide +kernel : am_at co_X0_takeBack 65 = some (1, .iload_n 2)) rfl ?_
        refine x_aload_n (by decide +kernel : am_at co_X0_takeBack 66 = some (1, .aload_n 1)) rfl ?_
        obtain ⟨n19, o19, h⟩ := h
        refine x_alen (by decide +kernel : am_at co_X0_takeBack 67 = some (1, .arraylength)) o19 ?_
        refine x_icmp (tgt := 86) (by decide +kernel : am_at co_X0_takeBack 68 = some (3, .if_icmp .ge 18)) rfl Iff.rfl (fun c20 => ?_) (fun c20 => ?_)
        · have h := h.1 c20
          exact x_vret (by decide +kernel : am_at co_X0_takeBack 86 = some (1, .return_)) h
        · have c20 := (Int.not_le.mp c20)
          have h := h.2 c20
          refine x_aload_n (by decide +kernel : am_at co_X0_takeBack 71 = some (1, .aload_n 1)) rfl ?_
          refine x_iload_n (by decide +kernel : am_at co_X0_takeBack 72 = some (1, .iload_n 2)) rfl ?_
          obtain ⟨o21, h⟩ := h
          refine x_aald (by decide +kernel : am_at co_X0_takeBack 73 = some (1, .aaload)) (o21) ?_
          refine x_aload_n (by decide +kernel : am_at co_X0_takeBack 74 = some (1, .aload_n 0)) rfl ?_
          refine x_getF (by decide +kernel : am_at co_X0_takeBack 75 = some (3, .getfield 13)) pq_0_13 (by decide) rfl ob_46 ?_
          refine x_top2 (show 46 + 1 = 47 from rfl) ?_
          refine x_aload_n (by decide +kernel : am_at co_X0_takeBack 78 = some (1, .aload_n 0)) rfl ?_
          refine x_getf (by decide +kernel : am_at co_X0_takeBack 79 = some (3, .getfield 19)) pq_0_19 rfl ob_46 ?_
          refine x_top0 (show (am_up M15 46 2 x15) 46 1 = M15 46 1 from by first | rfl | simp [am_up]) ?_
          refine x_aald (by decide +kernel : am_at co_X0_takeBack 82 = some (1, .aaload)) (ia_47 o16.1 o16.2) ?_
          obtain ⟨o22, h⟩ := h
          refine x_callV (n := 2) (by decide +kernel : am_at co_X0_takeBack 83 = some (3, .invokevirtual 26)) pq_0_26 pm_X7_copy rfl rfl rfl o22 h (x_kv fun M24 h => ?_)
          exact x_vret (by decide +kernel : am_at co_X0_takeBack 86 = some (1, .return_)) h
set_option maxRecDepth 20000 in
theorem bk_X1_go_0 {d : Nat} {Q : am_Q} {M : am_M} {v1 v2 : Int} (h : am_cal pg d 71 [(2, 91), (2, v2)] sh_T M (am_cv sh_T fun M1 => am_cal pg d 79 [(2, 91), (2, 89), (0, 0)] sh_T M1 (am_cv sh_T fun M2 => am_ob sh_T 2 v1 ∧ am_cal pg d 31 [(2, v1), (2, 91)] sh_T (am_up M2 88 2 0) (am_c0 sh_T fun x4 M4 => (x4 = 0 ∨ x4 = 1) ∧ am_g 1 9 co_X1_go d Q 39 [(2, 88), (2, v1), (3, 0), (0, 0)] [] sh_T (am_up M4 88 3 x4))))) : am_g 1 9 co_X1_go d Q 0 [(2, 88), (2, v1), (2, v2), (3, 0)] [] sh_T M := by
  refine x_aload_n (by decide +kernel : am_at co_X1_go 0 = some (1, .aload_n 0)) rfl ?_
  refine x_getF (by decide +kernel : am_at co_X1_go 1 = some (3, .getfield 29)) pq_1_29 (by decide) rfl ob_88 ?_
  refine x_top2 (show 88 + 3 = 91 from rfl) ?_
  refine x_aload_n (by decide +kernel : am_at co_X1_go 4 = some (1, .aload_n 2)) rfl ?_
  refine x_callV (n := 2) (by decide +kernel : am_at co_X1_go 5 = some (3, .invokevirtual 36)) pq_1_36 pm_X7_copy rfl rfl rfl ob_91 h (x_kv fun M1 h => ?_)
  refine x_aload_n (by decide +kernel : am_at co_X1_go 8 = some (1, .aload_n 0)) rfl ?_
  refine x_getF (by decide +kernel : am_at co_X1_go 9 = some (3, .getfield 29)) pq_1_29 (by decide) rfl ob_88 ?_
  refine x_top2 (show 88 + 3 = 91 from rfl) ?_
  refine x_aload_n (by decide +kernel : am_at co_X1_go 12 = some (1, .aload_n 0)) rfl ?_
  refine x_getF (by decide +kernel : am_at co_X1_go 13 = some (3, .getfield 9)) pq_1_9 (by decide) rfl ob_88 ?_
  refine x_top2 (show 88 + 1 = 89 from rfl) ?_
  refine x_iconst (by decide +kernel : am_at co_X1_go 16 = some (1, .iconst 0)) ?_
  refine x_callV (n := 3) (by decide +kernel : am_at co_X1_go 17 = some (3, .invokevirtual 40)) pq_1_40 pm_X7_writeTo rfl rfl rfl ob_91 h (x_kv fun M2 h => ?_)
  refine x_aload_n (by decide +kernel : am_at co_X1_go 20 = some (1, .aload_n 0)) rfl ?_
  refine x_iconst (by decide +kernel : am_at co_X1_go 21 = some (1, .iconst 0)) ?_
  refine x_putf0 (by decide +kernel : am_at co_X1_go 22 = some (3, .putfield 18)) pq_1_18 rfl ob_88 ?_
  refine x_aload_n (by decide +kernel : am_at co_X1_go 25 = some (1, .aload_n 0)) rfl ?_
  refine x_aload_n (by decide +kernel : am_at co_X1_go 26 = some (1, .aload_n 1)) rfl ?_
  refine x_aload_n (by decide +kernel : am_at co_X1_go 27 = some (1, .aload_n 0)) rfl ?_
  refine x_getF (by decide +kernel : am_at co_X1_go 28 = some (3, .getfield 29)) pq_1_29 (by decide) rfl ob_88 ?_
  refine x_top2 (show 88 + 3 = 91 from rfl) ?_
  obtain ⟨o2, h⟩ := h
  refine x_callV (n := 2) (by decide +kernel : am_at co_X1_go 31 = some (3, .invokevirtual 44)) pq_1_44 pm_X2_isHome rfl rfl rfl o2 h (x_k0 fun x4 M4 h => ?_)
  obtain ⟨o4, h⟩ := h
  refine x_putf5 (by decide +kernel : am_at co_X1_go 34 = some (3, .putfield 22)) pq_1_22 rfl ob_88 o4 ?_
  refine x_iconst (by decide +kernel : am_at co_X1_go 37 = some (1, .iconst 0)) ?_
  refine x_istore_n (L' := [(2, 88), (2, v1), (2, v2), (0, 0)]) (by decide +kernel : am_at co_X1_go 38 = some (1, .istore_n 3)) rfl ?_
  exact am_weak (lk (lk (ld (lk ln)))) h
set_option maxRecDepth 20000 in
theorem bk_X1_go_39 {d : Nat} {Q : am_Q} {M : am_M} {v1 v3 : Int} (h : ((200 ≤ v3 → Q (none, sh_T, M)) ∧ (v3 < 200 → ((¬ M 88 3 = 0 → Q (none, sh_T, M)) ∧ (M 88 3 = 0 → am_ob sh_T 2 v1 ∧ am_cal pg d 34 [(2, v1), (2, 91), (0, 0)] sh_T M (am_c0 sh_T fun x4 M4 => (0 ≤ v3 ∧ v3 < 200) ∧ am_r (v3 + 1) ∧ am_r ((v3 + 1) * 6) ∧ am_cal pg d 79 [(2, 91), (2, 89), (0, (v3 + 1) * 6)] sh_T (am_up (am_up M4 90 v3 x4) 88 2 (v3 + 1)) (am_cv sh_T fun M8 => am_cal pg d 31 [(2, v1), (2, 91)] sh_T M8 (am_c0 sh_T fun x9 M9 => (x9 = 0 ∨ x9 = 1) ∧ am_r (v3 + 1) ∧ am_g 1 9 co_X1_go d Q 39 [(2, 88), (2, v1), (3, 0), (0, v3 + 1)] [] sh_T (am_up M9 88 3 x9))))))))) : am_g 1 9 co_X1_go d Q 39 [(2, 88), (2, v1), (3, 0), (0, v3)] [] sh_T M := by
  refine x_iload_n (by decide +kernel : am_at co_X1_go 39 = some (1, .iload_n 3)) rfl ?_
  refine x_sipush (by decide +kernel : am_at co_X1_go 40 = some (3, .sipush 200)) ?_
  refine x_icmp (tgt := 111) (by decide +kernel : am_at co_X1_go 43 = some (3, .if_icmp .ge 68)) rfl Iff.rfl (fun c0 => ?_) (fun c0 => ?_)
  · have h := h.1 c0
    exact x_vret (by decide +kernel : am_at co_X1_go 111 = some (1, .return_)) h
  · have c0 := (Int.not_le.mp c0)
    have h := h.2 c0
    refine x_aload_n (by decide +kernel : am_at co_X1_go 46 = some (1, .aload_n 0)) rfl ?_
    refine x_getf (by decide +kernel : am_at co_X1_go 47 = some (3, .getfield 22)) pq_1_22 rfl ob_88 ?_
    refine x_if (tgt := 111) (by decide +kernel : am_at co_X1_go 50 = some (3, .ifCond .ne 61)) rfl Iff.rfl (fun c1 => ?_) (fun c1 => ?_)
    · have h := h.1 c1
      exact x_vret (by decide +kernel : am_at co_X1_go 111 = some (1, .return_)) h
    · have c1 := (Classical.not_not.mp c1)
      have h := h.2 c1
      refine x_aload_n (by decide +kernel : am_at co_X1_go 53 = some (1, .aload_n 0)) rfl ?_
      refine x_getF (by decide +kernel : am_at co_X1_go 54 = some (3, .getfield 15)) pq_1_15 (by decide) rfl ob_88 ?_
      refine x_top2 (show 88 + 2 = 90 from rfl) ?_
      refine x_iload_n (by decide +kernel : am_at co_X1_go 57 = some (1, .iload_n 3)) rfl ?_
      refine x_aload_n (by decide +kernel : am_at co_X1_go 58 = some (1, .aload_n 1)) rfl ?_
      refine x_aload_n (by decide +kernel : am_at co_X1_go 59 = some (1, .aload_n 0)) rfl ?_
      refine x_getF (by decide +kernel : am_at co_X1_go 60 = some (3, .getfield 29)) pq_1_29 (by decide) rfl ob_88 ?_
      refine x_top2 (show 88 + 3 = 91 from rfl) ?_
      refine x_iconst (by decide +kernel : am_at co_X1_go 63 = some (1, .iconst 0)) ?_
      obtain ⟨o2, h⟩ := h
      refine x_callV (n := 3) (by decide +kernel : am_at co_X1_go 64 = some (3, .invokevirtual 49)) pq_1_49 pm_X2_enter rfl rfl rfl o2 h (x_k0 fun x4 M4 h => ?_)
      obtain ⟨o4, h⟩ := h
      refine x_iast (by decide +kernel : am_at co_X1_go 67 = some (1, .iastore)) (ow_90 o4.1 o4.2) ?_
      refine x_aload_n (by decide +kernel : am_at co_X1_go 68 = some (1, .aload_n 0)) rfl ?_
      refine x_iload_n (by decide +kernel : am_at co_X1_go 69 = some (1, .iload_n 3)) rfl ?_
      refine x_iconst (by decide +kernel : am_at co_X1_go 70 = some (1, .iconst 1)) ?_
      obtain ⟨o5, h⟩ := h
      refine x_iadd (by decide +kernel : am_at co_X1_go 71 = some (1, .iadd)) o5 ?_
      refine x_putf0 (by decide +kernel : am_at co_X1_go 72 = some (3, .putfield 18)) pq_1_18 rfl ob_88 ?_
      refine x_aload_n (by decide +kernel : am_at co_X1_go 75 = some (1, .aload_n 0)) rfl ?_
      refine x_getF (by decide +kernel : am_at co_X1_go 76 = some (3, .getfield 29)) pq_1_29 (by decide) rfl ob_88 ?_
      refine x_top2 (show 88 + 3 = 91 from rfl) ?_
      refine x_aload_n (by decide +kernel : am_at co_X1_go 79 = some (1, .aload_n 0)) rfl ?_
      refine x_getF (by decide +kernel : am_at co_X1_go 80 = some (3, .getfield 9)) pq_1_9 (by decide) rfl ob_88 ?_
      refine x_top2 (show 88 + 1 = 89 from rfl) ?_
      refine x_aload_n (by decide +kernel : am_at co_X1_go 83 = some (1, .aload_n 0)) rfl ?_
      refine x_getf (by decide +kernel : am_at co_X1_go 84 = some (3, .getfield 18)) pq_1_18 rfl ob_88 ?_
      refine x_top0 (show (am_up (am_up M4 90 v3 x4) 88 2 (v3 + 1)) 88 2 = v3 + 1 from by first | rfl | simp [am_up]) ?_
      refine x_bipush (by decide +kernel : am_at co_X1_go 87 = some (2, .bipush 6)) ?_
      obtain ⟨o6, h⟩ := h
      refine x_imul (by decide +kernel : am_at co_X1_go 89 = some (1, .imul)) o6 ?_
      refine x_callV (n := 3) (by decide +kernel : am_at co_X1_go 90 = some (3, .invokevirtual 40)) pq_1_40 pm_X7_writeTo rfl rfl rfl ob_91 h (x_kv fun M8 h => ?_)
      refine x_aload_n (by decide +kernel : am_at co_X1_go 93 = some (1, .aload_n 0)) rfl ?_
      refine x_aload_n (by decide +kernel : am_at co_X1_go 94 = some (1, .aload_n 1)) rfl ?_
      refine x_aload_n (by decide +kernel : am_at co_X1_go 95 = some (1, .aload_n 0)) rfl ?_
      refine x_getF (by decide +kernel : am_at co_X1_go 96 = some (3, .getfield 29)) pq_1_29 (by decide) rfl ob_88 ?_
      refine x_top2 (show 88 + 3 = 91 from rfl) ?_
      refine x_callV (n := 2) (by decide +kernel : am_at co_X1_go 99 = some (3, .invokevirtual 44)) pq_1_44 pm_X2_isHome rfl rfl rfl o2 h (x_k0 fun x9 M9 h => ?_)
      obtain ⟨o9, h⟩ := h
      refine x_putf5 (by decide +kernel : am_at co_X1_go 102 = some (3, .putfield 22)) pq_1_22 rfl ob_88 o9 ?_
      obtain ⟨o10, h⟩ := h
      refine x_iinc (L' := [(2, 88), (2, v1), (3, 0), (0, v3 + 1)]) (by decide +kernel : am_at co_X1_go 105 = some (3, .iinc 3 1)) rfl o10 rfl ?_
      refine x_goto (tgt := 39) (by decide +kernel : am_at co_X1_go 108 = some (3, .goto (-69))) rfl ?_
      exact am_weak (lk (lk (lk (lk ln)))) h
set_option maxRecDepth 20000 in
theorem bk_X1_dreadIn_0 {d : Nat} {Q : am_Q} {M : am_M} {v1 : Int} (h : ((v1 < 0 → Q (some (0, (-1)), sh_T, M)) ∧ (0 ≤ v1 → ((M 88 2 ≤ v1 → Q (some (0, (-1)), sh_T, M)) ∧ (v1 < M 88 2 → ((200 ≤ v1 → Q (some (0, (-1)), sh_T, M)) ∧ (v1 < 200 → (0 ≤ v1 ∧ v1 < 200) ∧ Q (some (0, M 90 v1), sh_T, M)))))))) : am_g 1 0 co_X1_dreadIn d Q 0 [(2, 88), (0, v1)] [] sh_T M := by
  refine x_iload_n (by decide +kernel : am_at co_X1_dreadIn 0 = some (1, .iload_n 1)) rfl ?_
  refine x_if (tgt := 28) (by decide +kernel : am_at co_X1_dreadIn 1 = some (3, .ifCond .lt 27)) rfl Iff.rfl (fun c0 => ?_) (fun c0 => ?_)
  · have h := h.1 c0
    refine x_iconst (by decide +kernel : am_at co_X1_dreadIn 28 = some (1, .iconst (-1))) ?_
    exact x_iret (by decide +kernel : am_at co_X1_dreadIn 29 = some (1, .ireturn)) h
  · have c0 := (Int.not_lt.mp c0)
    have h := h.2 c0
    refine x_iload_n (by decide +kernel : am_at co_X1_dreadIn 4 = some (1, .iload_n 1)) rfl ?_
    refine x_aload_n (by decide +kernel : am_at co_X1_dreadIn 5 = some (1, .aload_n 0)) rfl ?_
    refine x_getf (by decide +kernel : am_at co_X1_dreadIn 6 = some (3, .getfield 18)) pq_1_18 rfl ob_88 ?_
    refine x_icmp (tgt := 28) (by decide +kernel : am_at co_X1_dreadIn 9 = some (3, .if_icmp .ge 19)) rfl Iff.rfl (fun c1 => ?_) (fun c1 => ?_)
    · have h := h.1 c1
      refine x_iconst (by decide +kernel : am_at co_X1_dreadIn 28 = some (1, .iconst (-1))) ?_
      exact x_iret (by decide +kernel : am_at co_X1_dreadIn 29 = some (1, .ireturn)) h
    · have c1 := (Int.not_le.mp c1)
      have h := h.2 c1
      refine x_iload_n (by decide +kernel : am_at co_X1_dreadIn 12 = some (1, .iload_n 1)) rfl ?_
      refine x_sipush (by decide +kernel : am_at co_X1_dreadIn 13 = some (3, .sipush 200)) ?_
      refine x_icmp (tgt := 28) (by decide +kernel : am_at co_X1_dreadIn 16 = some (3, .if_icmp .ge 12)) rfl Iff.rfl (fun c2 => ?_) (fun c2 => ?_)
      · have h := h.1 c2
        refine x_iconst (by decide +kernel : am_at co_X1_dreadIn 28 = some (1, .iconst (-1))) ?_
        exact x_iret (by decide +kernel : am_at co_X1_dreadIn 29 = some (1, .ireturn)) h
      · have c2 := (Int.not_le.mp c2)
        have h := h.2 c2
        refine x_aload_n (by decide +kernel : am_at co_X1_dreadIn 19 = some (1, .aload_n 0)) rfl ?_
        refine x_getF (by decide +kernel : am_at co_X1_dreadIn 20 = some (3, .getfield 15)) pq_1_15 (by decide) rfl ob_88 ?_
        refine x_top2 (show 88 + 2 = 90 from rfl) ?_
        refine x_iload_n (by decide +kernel : am_at co_X1_dreadIn 23 = some (1, .iload_n 1)) rfl ?_
        obtain ⟨o3, h⟩ := h
        refine x_iald (by decide +kernel : am_at co_X1_dreadIn 24 = some (1, .iaload)) (ia_90 o3.1 o3.2) ?_
        refine x_goto (tgt := 29) (by decide +kernel : am_at co_X1_dreadIn 25 = some (3, .goto 4)) rfl ?_
        exact x_iret (by decide +kernel : am_at co_X1_dreadIn 29 = some (1, .ireturn)) h
set_option maxRecDepth 20000 in
theorem bk_X1_weightAt_0 {d : Nat} {Q : am_Q} {M : am_M} {v1 v2 : Int} (h : am_r (v1 * 6) ∧ am_r ((v1 * 6) + v2) ∧ (((v1 * 6) + v2 < 0 → Q (some (0, 0), sh_T, M)) ∧ (0 ≤ (v1 * 6) + v2 → ((1206 ≤ (v1 * 6) + v2 → Q (some (0, 0), sh_T, M)) ∧ ((v1 * 6) + v2 < 1206 → (0 ≤ (v1 * 6) + v2 ∧ (v1 * 6) + v2 < 1206) ∧ Q (some (0, M 89 ((v1 * 6) + v2)), sh_T, M)))))) : am_g 1 0 co_X1_weightAt d Q 0 [(2, 88), (0, v1), (0, v2), (3, 0)] [] sh_T M := by
  refine x_iload_n (by decide +kernel : am_at co_X1_weightAt 0 = some (1, .iload_n 1)) rfl ?_
  refine x_bipush (by decide +kernel : am_at co_X1_weightAt 1 = some (2, .bipush 6)) ?_
  obtain ⟨o0, h⟩ := h
  refine x_imul (by decide +kernel : am_at co_X1_weightAt 3 = some (1, .imul)) o0 ?_
  refine x_iload_n (by decide +kernel : am_at co_X1_weightAt 4 = some (1, .iload_n 2)) rfl ?_
  obtain ⟨o1, h⟩ := h
  refine x_iadd (by decide +kernel : am_at co_X1_weightAt 5 = some (1, .iadd)) o1 ?_
  refine x_istore_n (L' := [(2, 88), (0, v1), (0, v2), (0, (v1 * 6) + v2)]) (by decide +kernel : am_at co_X1_weightAt 6 = some (1, .istore_n 3)) rfl ?_
  refine x_iload_n (by decide +kernel : am_at co_X1_weightAt 7 = some (1, .iload_n 3)) rfl ?_
  refine x_if (tgt := 29) (by decide +kernel : am_at co_X1_weightAt 8 = some (3, .ifCond .lt 21)) rfl Iff.rfl (fun c2 => ?_) (fun c2 => ?_)
  · have h := h.1 c2
    refine x_iconst (by decide +kernel : am_at co_X1_weightAt 29 = some (1, .iconst 0)) ?_
    exact x_iret (by decide +kernel : am_at co_X1_weightAt 30 = some (1, .ireturn)) h
  · have c2 := (Int.not_lt.mp c2)
    have h := h.2 c2
    refine x_iload_n (by decide +kernel : am_at co_X1_weightAt 11 = some (1, .iload_n 3)) rfl ?_
    refine x_aload_n (by decide +kernel : am_at co_X1_weightAt 12 = some (1, .aload_n 0)) rfl ?_
    refine x_getF (by decide +kernel : am_at co_X1_weightAt 13 = some (3, .getfield 9)) pq_1_9 (by decide) rfl ob_88 ?_
    refine x_top2 (show 88 + 1 = 89 from rfl) ?_
    refine x_alen (by decide +kernel : am_at co_X1_weightAt 16 = some (1, .arraylength)) (n := 1206) rfl ?_
    refine x_top0 (show ((1206 : Nat) : Int) = 1206 from rfl) ?_
    refine x_icmp (tgt := 29) (by decide +kernel : am_at co_X1_weightAt 17 = some (3, .if_icmp .ge 12)) rfl Iff.rfl (fun c3 => ?_) (fun c3 => ?_)
    · have h := h.1 c3
      refine x_iconst (by decide +kernel : am_at co_X1_weightAt 29 = some (1, .iconst 0)) ?_
      exact x_iret (by decide +kernel : am_at co_X1_weightAt 30 = some (1, .ireturn)) h
    · have c3 := (Int.not_le.mp c3)
      have h := h.2 c3
      refine x_aload_n (by decide +kernel : am_at co_X1_weightAt 20 = some (1, .aload_n 0)) rfl ?_
      refine x_getF (by decide +kernel : am_at co_X1_weightAt 21 = some (3, .getfield 9)) pq_1_9 (by decide) rfl ob_88 ?_
      refine x_top2 (show 88 + 1 = 89 from rfl) ?_
      refine x_iload_n (by decide +kernel : am_at co_X1_weightAt 24 = some (1, .iload_n 3)) rfl ?_
      obtain ⟨o4, h⟩ := h
      refine x_iald (by decide +kernel : am_at co_X1_weightAt 25 = some (1, .iaload)) (ia_89 o4.1 o4.2) ?_
      refine x_goto (tgt := 30) (by decide +kernel : am_at co_X1_weightAt 26 = some (3, .goto 4)) rfl ?_
      exact x_iret (by decide +kernel : am_at co_X1_weightAt 30 = some (1, .ireturn)) h
set_option maxRecDepth 20000 in
theorem bk_X1_firstLike_0 {d : Nat} {Q : am_Q} {M : am_M} {v1 : Int} (h : am_g 1 0 co_X1_firstLike d Q 2 [(2, 88), (0, v1), (0, 0), (3, 0), (3, 0)] [] sh_T M) : am_g 1 0 co_X1_firstLike d Q 0 [(2, 88), (0, v1), (3, 0), (3, 0), (3, 0)] [] sh_T M := by
  refine x_iconst (by decide +kernel : am_at co_X1_firstLike 0 = some (1, .iconst 0)) ?_
  refine x_istore_n (L' := [(2, 88), (0, v1), (0, 0), (3, 0), (3, 0)]) (by decide +kernel : am_at co_X1_firstLike 1 = some (1, .istore_n 2)) rfl ?_
  exact am_weak (lk (lk (lk (lk (lk ln))))) h
set_option maxRecDepth 20000 in
theorem bk_X1_firstLike_2 {d : Nat} {Q : am_Q} {M : am_M} {v1 v2 : Int} (h : ((v1 ≤ v2 → Q (some (0, v1), sh_T, M)) ∧ (v2 < v1 → am_g 1 0 co_X1_firstLike d Q 12 [(2, 88), (0, v1), (0, v2), (0, 1), (0, 0)] [] sh_T M))) : am_g 1 0 co_X1_firstLike d Q 2 [(2, 88), (0, v1), (0, v2), (3, 0), (3, 0)] [] sh_T M := by
  refine x_iload_n (by decide +kernel : am_at co_X1_firstLike 2 = some (1, .iload_n 2)) rfl ?_
  refine x_iload_n (by decide +kernel : am_at co_X1_firstLike 3 = some (1, .iload_n 1)) rfl ?_
  refine x_icmp (tgt := 64) (by decide +kernel : am_at co_X1_firstLike 4 = some (3, .if_icmp .ge 60)) rfl Iff.rfl (fun c0 => ?_) (fun c0 => ?_)
  · have h := h.1 c0
    refine x_iload_n (by decide +kernel : am_at co_X1_firstLike 64 = some (1, .iload_n 1)) rfl ?_
    exact x_iret (by decide +kernel : am_at co_X1_firstLike 65 = some (1, .ireturn)) h
  · have c0 := (Int.not_le.mp c0)
    have h := h.2 c0
    refine x_iconst (by decide +kernel : am_at co_X1_firstLike 7 = some (1, .iconst 1)) ?_
    refine x_istore_n (L' := [(2, 88), (0, v1), (0, v2), (0, 1), (3, 0)]) (by decide +kernel : am_at co_X1_firstLike 8 = some (1, .istore_n 3)) rfl ?_
    refine x_iconst (by decide +kernel : am_at co_X1_firstLike 9 = some (1, .iconst 0)) ?_
    refine x_istore (L' := [(2, 88), (0, v1), (0, v2), (0, 1), (0, 0)]) (by decide +kernel : am_at co_X1_firstLike 10 = some (2, .istore 4)) rfl ?_
    exact am_weak (lk (lk (lk (lk (lk ln))))) h
set_option maxRecDepth 20000 in
theorem bk_X1_firstLike_12 {d : Nat} {Q : am_Q} {M : am_M} {v1 v2 v3 v4 : Int} (h : ((6 ≤ v4 → ((v3 = 0 → am_r (v2 + 1) ∧ am_g 1 0 co_X1_firstLike d Q 2 [(2, 88), (0, v1), (0, v2 + 1), (3, 0), (3, 0)] [] sh_T M) ∧ (¬ v3 = 0 → Q (some (0, v2), sh_T, M)))) ∧ (v4 < 6 → ((v3 = 0 → am_r (v2 + 1) ∧ am_g 1 0 co_X1_firstLike d Q 2 [(2, 88), (0, v1), (0, v2 + 1), (3, 0), (3, 0)] [] sh_T M) ∧ (¬ v3 = 0 → am_cal pg d 7 [(2, 88), (0, v2), (0, v4)] sh_T M (am_c0 sh_T fun x7 M7 => am_cal pg d 7 [(2, 88), (0, v1), (0, v4)] sh_T M7 (am_c0 sh_T fun x8 M8 => ((¬ x7 = x8 → am_r (v4 + 1) ∧ am_g 1 0 co_X1_firstLike d Q 12 [(2, 88), (0, v1), (0, v2), (0, 0), (0, v4 + 1)] [] sh_T M8) ∧ (x7 = x8 → am_r (v4 + 1) ∧ am_g 1 0 co_X1_firstLike d Q 12 [(2, 88), (0, v1), (0, v2), (0, 1), (0, v4 + 1)] [] sh_T M8))))))))) : am_g 1 0 co_X1_firstLike d Q 12 [(2, 88), (0, v1), (0, v2), (0, v3), (0, v4)] [] sh_T M := by
  refine x_iload (by decide +kernel : am_at co_X1_firstLike 12 = some (2, .iload 4)) rfl ?_
  refine x_bipush (by decide +kernel : am_at co_X1_firstLike 14 = some (2, .bipush 6)) ?_
  refine x_icmp (tgt := 52) (by decide +kernel : am_at co_X1_firstLike 16 = some (3, .if_icmp .ge 36)) rfl Iff.rfl (fun c0 => ?_) (fun c0 => ?_)
  · have h := h.1 c0
    refine x_iload_n (by decide +kernel : am_at co_X1_firstLike 52 = some (1, .iload_n 3)) rfl ?_
    refine x_if (tgt := 58) (by decide +kernel : am_at co_X1_firstLike 53 = some (3, .ifCond .eq 5)) rfl Iff.rfl (fun c1 => ?_) (fun c1 => ?_)
    · have h := h.1 c1
      obtain ⟨o2, h⟩ := h
      refine x_iinc (L' := [(2, 88), (0, v1), (0, v2 + 1), (0, v3), (0, v4)]) (by decide +kernel : am_at co_X1_firstLike 58 = some (3, .iinc 2 1)) rfl o2 rfl ?_
      refine x_goto (tgt := 2) (by decide +kernel : am_at co_X1_firstLike 61 = some (3, .goto (-59))) rfl ?_
      exact am_weak (lk (lk (lk (ld (ld ln))))) h
    · have c1 := c1
      have h := h.2 c1
      refine x_iload_n (by decide +kernel : am_at co_X1_firstLike 56 = some (1, .iload_n 2)) rfl ?_
      exact x_iret (by decide +kernel : am_at co_X1_firstLike 57 = some (1, .ireturn)) h
  · have c0 := (Int.not_le.mp c0)
    have h := h.2 c0
    refine x_iload_n (by decide +kernel : am_at co_X1_firstLike 19 = some (1, .iload_n 3)) rfl ?_
    refine x_if (tgt := 52) (by decide +kernel : am_at co_X1_firstLike 20 = some (3, .ifCond .eq 32)) rfl Iff.rfl (fun c3 => ?_) (fun c3 => ?_)
    · have h := h.1 c3
      refine x_iload_n (by decide +kernel : am_at co_X1_firstLike 52 = some (1, .iload_n 3)) rfl ?_
      refine x_if (tgt := 58) (by decide +kernel : am_at co_X1_firstLike 53 = some (3, .ifCond .eq 5)) rfl Iff.rfl (fun _ => ?_) (fun c4 => absurd c3 c4)
      obtain ⟨o5, h⟩ := h
      refine x_iinc (L' := [(2, 88), (0, v1), (0, v2 + 1), (0, v3), (0, v4)]) (by decide +kernel : am_at co_X1_firstLike 58 = some (3, .iinc 2 1)) rfl o5 rfl ?_
      refine x_goto (tgt := 2) (by decide +kernel : am_at co_X1_firstLike 61 = some (3, .goto (-59))) rfl ?_
      exact am_weak (lk (lk (lk (ld (ld ln))))) h
    · have c3 := c3
      have h := h.2 c3
      refine x_aload_n (by decide +kernel : am_at co_X1_firstLike 23 = some (1, .aload_n 0)) rfl ?_
      refine x_iload_n (by decide +kernel : am_at co_X1_firstLike 24 = some (1, .iload_n 2)) rfl ?_
      refine x_iload (by decide +kernel : am_at co_X1_firstLike 25 = some (2, .iload 4)) rfl ?_
      refine x_callV (n := 3) (by decide +kernel : am_at co_X1_firstLike 27 = some (3, .invokevirtual 53)) pq_1_53 pm_X1_weightAt rfl rfl rfl ob_88 h (x_k0 fun x7 M7 h => ?_)
      refine x_aload_n (by decide +kernel : am_at co_X1_firstLike 30 = some (1, .aload_n 0)) rfl ?_
      refine x_iload_n (by decide +kernel : am_at co_X1_firstLike 31 = some (1, .iload_n 1)) rfl ?_
      refine x_iload (by decide +kernel : am_at co_X1_firstLike 32 = some (2, .iload 4)) rfl ?_
      refine x_callV (n := 3) (by decide +kernel : am_at co_X1_firstLike 34 = some (3, .invokevirtual 53)) pq_1_53 pm_X1_weightAt rfl rfl rfl ob_88 h (x_k0 fun x8 M8 h => ?_)
      refine x_icmp (tgt := 44) (by decide +kernel : am_at co_X1_firstLike 37 = some (3, .if_icmp .ne 7)) rfl Iff.rfl (fun c8 => ?_) (fun c8 => ?_)
      · have h := h.1 c8
        refine x_iconst (by decide +kernel : am_at co_X1_firstLike 44 = some (1, .iconst 0)) ?_
        refine x_istore_n (L' := [(2, 88), (0, v1), (0, v2), (0, 0), (0, v4)]) (by decide +kernel : am_at co_X1_firstLike 45 = some (1, .istore_n 3)) rfl ?_
        obtain ⟨o9, h⟩ := h
        refine x_iinc (L' := [(2, 88), (0, v1), (0, v2), (0, 0), (0, v4 + 1)]) (by decide +kernel : am_at co_X1_firstLike 46 = some (3, .iinc 4 1)) rfl o9 rfl ?_
        refine x_goto (tgt := 12) (by decide +kernel : am_at co_X1_firstLike 49 = some (3, .goto (-37))) rfl ?_
        exact am_weak (lk (lk (lk (lk (lk ln))))) h
      · have c8 := (Classical.not_not.mp c8)
        have h := h.2 c8
        refine x_iconst (by decide +kernel : am_at co_X1_firstLike 40 = some (1, .iconst 1)) ?_
        refine x_goto (tgt := 45) (by decide +kernel : am_at co_X1_firstLike 41 = some (3, .goto 4)) rfl ?_
        refine x_istore_n (L' := [(2, 88), (0, v1), (0, v2), (0, 1), (0, v4)]) (by decide +kernel : am_at co_X1_firstLike 45 = some (1, .istore_n 3)) rfl ?_
        obtain ⟨o10, h⟩ := h
        refine x_iinc (L' := [(2, 88), (0, v1), (0, v2), (0, 1), (0, v4 + 1)]) (by decide +kernel : am_at co_X1_firstLike 46 = some (3, .iinc 4 1)) rfl o10 rfl ?_
        refine x_goto (tgt := 12) (by decide +kernel : am_at co_X1_firstLike 49 = some (3, .goto (-37))) rfl ?_
        exact am_weak (lk (lk (lk (lk (lk ln))))) h
set_option maxRecDepth 20000 in
theorem bk_X1_goTogether_0 {d : Nat} {Q : am_Q} {M : am_M} {v1 v2 v3 : Int} (h : am_cal pg d 71 [(2, 91), (2, v2)] sh_T M (am_cv sh_T fun M1 => am_cal pg d 71 [(2, 93), (2, v3)] sh_T M1 (am_cv sh_T fun M2 => am_ob sh_T 2 v1 ∧ am_cal pg d 31 [(2, v1), (2, 91)] sh_T (am_up M2 88 2 0) (am_c0 sh_T fun x4 M4 => ((x4 = 0 → am_g 1 0 co_X1_goTogether d Q 55 [(2, 88), (2, v1), (3, 0), (3, 0), (0, 0), (3, 0)] [] sh_T (am_up M4 88 3 0)) ∧ (¬ x4 = 0 → am_cal pg d 31 [(2, v1), (2, 93)] sh_T M4 (am_c0 sh_T fun x6 M6 => ((x6 = 0 → am_g 1 0 co_X1_goTogether d Q 55 [(2, 88), (2, v1), (3, 0), (3, 0), (0, 0), (3, 0)] [] sh_T (am_up M6 88 3 0)) ∧ (¬ x6 = 0 → am_g 1 0 co_X1_goTogether d Q 55 [(2, 88), (2, v1), (3, 0), (3, 0), (0, 0), (3, 0)] [] sh_T (am_up M6 88 3 1)))))))))) : am_g 1 0 co_X1_goTogether d Q 0 [(2, 88), (2, v1), (2, v2), (2, v3), (3, 0), (3, 0)] [] sh_T M := by
  refine x_aload_n (by decide +kernel : am_at co_X1_goTogether 0 = some (1, .aload_n 0)) rfl ?_
  refine x_getF (by decide +kernel : am_at co_X1_goTogether 1 = some (3, .getfield 29)) pq_1_29 (by decide) rfl ob_88 ?_
  refine x_top2 (show 88 + 3 = 91 from rfl) ?_
  refine x_aload_n (by decide +kernel : am_at co_X1_goTogether 4 = some (1, .aload_n 2)) rfl ?_
  refine x_callV (n := 2) (by decide +kernel : am_at co_X1_goTogether 5 = some (3, .invokevirtual 36)) pq_1_36 pm_X7_copy rfl rfl rfl ob_91 h (x_kv fun M1 h => ?_)
  refine x_aload_n (by decide +kernel : am_at co_X1_goTogether 8 = some (1, .aload_n 0)) rfl ?_
  refine x_getF (by decide +kernel : am_at co_X1_goTogether 9 = some (3, .getfield 33)) pq_1_33 (by decide) rfl ob_88 ?_
  refine x_top2 (show 88 + 5 = 93 from rfl) ?_
  refine x_aload_n (by decide +kernel : am_at co_X1_goTogether 12 = some (1, .aload_n 3)) rfl ?_
  refine x_callV (n := 2) (by decide +kernel : am_at co_X1_goTogether 13 = some (3, .invokevirtual 36)) pq_1_36 pm_X7_copy rfl rfl rfl ob_93 h (x_kv fun M2 h => ?_)
  refine x_aload_n (by decide +kernel : am_at co_X1_goTogether 16 = some (1, .aload_n 0)) rfl ?_
  refine x_iconst (by decide +kernel : am_at co_X1_goTogether 17 = some (1, .iconst 0)) ?_
  refine x_putf0 (by decide +kernel : am_at co_X1_goTogether 18 = some (3, .putfield 18)) pq_1_18 rfl ob_88 ?_
  refine x_aload_n (by decide +kernel : am_at co_X1_goTogether 21 = some (1, .aload_n 0)) rfl ?_
  refine x_aload_n (by decide +kernel : am_at co_X1_goTogether 22 = some (1, .aload_n 1)) rfl ?_
  refine x_aload_n (by decide +kernel : am_at co_X1_goTogether 23 = some (1, .aload_n 0)) rfl ?_
  refine x_getF (by decide +kernel : am_at co_X1_goTogether 24 = some (3, .getfield 29)) pq_1_29 (by decide) rfl ob_88 ?_
  refine x_top2 (show 88 + 3 = 91 from rfl) ?_
  obtain ⟨o2, h⟩ := h
  refine x_callV (n := 2) (by decide +kernel : am_at co_X1_goTogether 27 = some (3, .invokevirtual 44)) pq_1_44 pm_X2_isHome rfl rfl rfl o2 h (x_k0 fun x4 M4 h => ?_)
  refine x_if (tgt := 48) (by decide +kernel : am_at co_X1_goTogether 30 = some (3, .ifCond .eq 18)) rfl Iff.rfl (fun c4 => ?_) (fun c4 => ?_)
  · have h := h.1 c4
    refine x_iconst (by decide +kernel : am_at co_X1_goTogether 48 = some (1, .iconst 0)) ?_
    refine x_putf5 (by decide +kernel : am_at co_X1_goTogether 49 = some (3, .putfield 22)) pq_1_22 rfl ob_88 (by decide) ?_
    refine x_iconst (by decide +kernel : am_at co_X1_goTogether 52 = some (1, .iconst 0)) ?_
    refine x_istore (L' := [(2, 88), (2, v1), (2, v2), (2, v3), (0, 0), (3, 0)]) (by decide +kernel : am_at co_X1_goTogether 53 = some (2, .istore 4)) rfl ?_
    exact am_weak (lk (lk (ld (ld (lk (lk ln)))))) h
  · have c4 := c4
    have h := h.2 c4
    refine x_aload_n (by decide +kernel : am_at co_X1_goTogether 33 = some (1, .aload_n 1)) rfl ?_
    refine x_aload_n (by decide +kernel : am_at co_X1_goTogether 34 = some (1, .aload_n 0)) rfl ?_
    refine x_getF (by decide +kernel : am_at co_X1_goTogether 35 = some (3, .getfield 33)) pq_1_33 (by decide) rfl ob_88 ?_
    refine x_top2 (show 88 + 5 = 93 from rfl) ?_
    refine x_callV (n := 2) (by decide +kernel : am_at co_X1_goTogether 38 = some (3, .invokevirtual 44)) pq_1_44 pm_X2_isHome rfl rfl rfl o2 h (x_k0 fun x6 M6 h => ?_)
    refine x_if (tgt := 48) (by decide +kernel : am_at co_X1_goTogether 41 = some (3, .ifCond .eq 7)) rfl Iff.rfl (fun c6 => ?_) (fun c6 => ?_)
    · have h := h.1 c6
      refine x_iconst (by decide +kernel : am_at co_X1_goTogether 48 = some (1, .iconst 0)) ?_
      refine x_putf5 (by decide +kernel : am_at co_X1_goTogether 49 = some (3, .putfield 22)) pq_1_22 rfl ob_88 (by decide) ?_
      refine x_iconst (by decide +kernel : am_at co_X1_goTogether 52 = some (1, .iconst 0)) ?_
      refine x_istore (L' := [(2, 88), (2, v1), (2, v2), (2, v3), (0, 0), (3, 0)]) (by decide +kernel : am_at co_X1_goTogether 53 = some (2, .istore 4)) rfl ?_
      exact am_weak (lk (lk (ld (ld (lk (lk ln)))))) h
    · have c6 := c6
      have h := h.2 c6
      refine x_iconst (by decide +kernel : am_at co_X1_goTogether 44 = some (1, .iconst 1)) ?_
      refine x_goto (tgt := 49) (by decide +kernel : am_at co_X1_goTogether 45 = some (3, .goto 4)) rfl ?_
      refine x_putf5 (by decide +kernel : am_at co_X1_goTogether 49 = some (3, .putfield 22)) pq_1_22 rfl ob_88 (by decide) ?_
      refine x_iconst (by decide +kernel : am_at co_X1_goTogether 52 = some (1, .iconst 0)) ?_
      refine x_istore (L' := [(2, 88), (2, v1), (2, v2), (2, v3), (0, 0), (3, 0)]) (by decide +kernel : am_at co_X1_goTogether 53 = some (2, .istore 4)) rfl ?_
      exact am_weak (lk (lk (ld (ld (lk (lk ln)))))) h
set_option maxRecDepth 20000 in
theorem bk_X1_goTogether_55 {d : Nat} {Q : am_Q} {M : am_M} {v1 v4 : Int} (h : ((200 ≤ v4 → am_g 1 0 co_X1_goTogether d Q 171 [(2, 88), (3, 0), (3, 0), (3, 0), (3, 0), (3, 0)] [] sh_T M) ∧ (v4 < 200 → ((¬ M 88 3 = 0 → am_g 1 0 co_X1_goTogether d Q 171 [(2, 88), (3, 0), (3, 0), (3, 0), (3, 0), (3, 0)] [] sh_T M) ∧ (M 88 3 = 0 → am_cal pg d 10 [(2, 88), (2, v1)] sh_T M (am_c0 sh_T fun x3 M3 => (0 ≤ v4 ∧ v4 < 200) ∧ am_r (v4 + 1) ∧ am_ob sh_T 2 v1 ∧ am_cal pg d 32 [(2, v1), (2, 91), (0, x3), (0, 0)] sh_T (am_up (am_up M3 90 v4 x3) 88 2 (v4 + 1)) (am_c0 sh_T fun x7 M7 => am_cal pg d 73 [(2, 91), (0, x3), (0, x7)] sh_T M7 (am_cv sh_T fun M8 => am_cal pg d 32 [(2, v1), (2, 93), (0, x3), (0, 0)] sh_T M8 (am_c0 sh_T fun x9 M9 => am_cal pg d 73 [(2, 93), (0, x3), (0, x9)] sh_T M9 (am_cv sh_T fun M10 => am_cal pg d 31 [(2, v1), (2, 91)] sh_T M10 (am_c0 sh_T fun x11 M11 => ((x11 = 0 → am_r (v4 + 1) ∧ am_g 1 0 co_X1_goTogether d Q 55 [(2, 88), (2, v1), (3, 0), (3, 0), (0, v4 + 1), (3, 0)] [] sh_T (am_up M11 88 3 0)) ∧ (¬ x11 = 0 → am_cal pg d 31 [(2, v1), (2, 93)] sh_T M11 (am_c0 sh_T fun x14 M14 => ((x14 = 0 → am_r (v4 + 1) ∧ am_g 1 0 co_X1_goTogether d Q 55 [(2, 88), (2, v1), (3, 0), (3, 0), (0, v4 + 1), (3, 0)] [] sh_T (am_up M14 88 3 0)) ∧ (¬ x14 = 0 → am_r (v4 + 1) ∧ am_g 1 0 co_X1_goTogether d Q 55 [(2, 88), (2, v1), (3, 0), (3, 0), (0, v4 + 1), (3, 0)] [] sh_T (am_up M14 88 3 1))))))))))))))))) : am_g 1 0 co_X1_goTogether d Q 55 [(2, 88), (2, v1), (3, 0), (3, 0), (0, v4), (3, 0)] [] sh_T M := by
  refine x_iload (by decide +kernel : am_at co_X1_goTogether 55 = some (2, .iload 4)) rfl ?_
  refine x_sipush (by decide +kernel : am_at co_X1_goTogether 57 = some (3, .sipush 200)) ?_
  refine x_icmp (tgt := 171) (by decide +kernel : am_at co_X1_goTogether 60 = some (3, .if_icmp .ge 111)) rfl Iff.rfl (fun c0 => ?_) (fun c0 => ?_)
  · have h := h.1 c0
    exact am_weak (lk (ld (lk (lk (ld (lk ln)))))) h
  · have c0 := (Int.not_le.mp c0)
    have h := h.2 c0
    refine x_aload_n (by decide +kernel : am_at co_X1_goTogether 63 = some (1, .aload_n 0)) rfl ?_
    refine x_getf (by decide +kernel : am_at co_X1_goTogether 64 = some (3, .getfield 22)) pq_1_22 rfl ob_88 ?_
    refine x_if (tgt := 171) (by decide +kernel : am_at co_X1_goTogether 67 = some (3, .ifCond .ne 104)) rfl Iff.rfl (fun c1 => ?_) (fun c1 => ?_)
    · have h := h.1 c1
      exact am_weak (lk (ld (lk (lk (ld (lk ln)))))) h
    · have c1 := (Classical.not_not.mp c1)
      have h := h.2 c1
      refine x_aload_n (by decide +kernel : am_at co_X1_goTogether 70 = some (1, .aload_n 0)) rfl ?_
      refine x_aload_n (by decide +kernel : am_at co_X1_goTogether 71 = some (1, .aload_n 1)) rfl ?_
      refine x_callV (n := 2) (by decide +kernel : am_at co_X1_goTogether 72 = some (3, .invokevirtual 57)) pq_1_57 pm_X1_heaviestOfBoth rfl rfl rfl ob_88 h (x_k0 fun x3 M3 h => ?_)
      refine x_istore (L' := [(2, 88), (2, v1), (3, 0), (3, 0), (0, v4), (0, x3)]) (by decide +kernel : am_at co_X1_goTogether 75 = some (2, .istore 5)) rfl ?_
      refine x_aload_n (by decide +kernel : am_at co_X1_goTogether 77 = some (1, .aload_n 0)) rfl ?_
      refine x_getF (by decide +kernel : am_at co_X1_goTogether 78 = some (3, .getfield 15)) pq_1_15 (by decide) rfl ob_88 ?_
      refine x_top2 (show 88 + 2 = 90 from rfl) ?_
      refine x_iload (by decide +kernel : am_at co_X1_goTogether 81 = some (2, .iload 4)) rfl ?_
      refine x_iload (by decide +kernel : am_at co_X1_goTogether 83 = some (2, .iload 5)) rfl ?_
      obtain ⟨o3, h⟩ := h
      refine x_iast (by decide +kernel : am_at co_X1_goTogether 85 = some (1, .iastore)) (ow_90 o3.1 o3.2) ?_
      refine x_aload_n (by decide +kernel : am_at co_X1_goTogether 86 = some (1, .aload_n 0)) rfl ?_
      refine x_iload (by decide +kernel : am_at co_X1_goTogether 87 = some (2, .iload 4)) rfl ?_
      refine x_iconst (by decide +kernel : am_at co_X1_goTogether 89 = some (1, .iconst 1)) ?_
      obtain ⟨o4, h⟩ := h
      refine x_iadd (by decide +kernel : am_at co_X1_goTogether 90 = some (1, .iadd)) o4 ?_
      refine x_putf0 (by decide +kernel : am_at co_X1_goTogether 91 = some (3, .putfield 18)) pq_1_18 rfl ob_88 ?_
      refine x_aload_n (by decide +kernel : am_at co_X1_goTogether 94 = some (1, .aload_n 0)) rfl ?_
      refine x_getF (by decide +kernel : am_at co_X1_goTogether 95 = some (3, .getfield 29)) pq_1_29 (by decide) rfl ob_88 ?_
      refine x_top2 (show 88 + 3 = 91 from rfl) ?_
      refine x_iload (by decide +kernel : am_at co_X1_goTogether 98 = some (2, .iload 5)) rfl ?_
      refine x_aload_n (by decide +kernel : am_at co_X1_goTogether 100 = some (1, .aload_n 1)) rfl ?_
      refine x_aload_n (by decide +kernel : am_at co_X1_goTogether 101 = some (1, .aload_n 0)) rfl ?_
      refine x_getF (by decide +kernel : am_at co_X1_goTogether 102 = some (3, .getfield 29)) pq_1_29 (by decide) rfl ob_88 ?_
      refine x_top2 (show 88 + 3 = 91 from rfl) ?_
      refine x_iload (by decide +kernel : am_at co_X1_goTogether 105 = some (2, .iload 5)) rfl ?_
      refine x_iconst (by decide +kernel : am_at co_X1_goTogether 107 = some (1, .iconst 0)) ?_
      obtain ⟨o5, h⟩ := h
      refine x_callV (n := 4) (by decide +kernel : am_at co_X1_goTogether 108 = some (3, .invokevirtual 61)) pq_1_61 pm_X2_becomes rfl rfl rfl o5 h (x_k0 fun x7 M7 h => ?_)
      refine x_callV (n := 3) (by decide +kernel : am_at co_X1_goTogether 111 = some (3, .invokevirtual 65)) pq_1_65 pm_X7_put rfl rfl rfl ob_91 h (x_kv fun M8 h => ?_)
      refine x_aload_n (by decide +kernel : am_at co_X1_goTogether 114 = some (1, .aload_n 0)) rfl ?_
      refine x_getF (by decide +kernel : am_at co_X1_goTogether 115 = some (3, .getfield 33)) pq_1_33 (by decide) rfl ob_88 ?_
      refine x_top2 (show 88 + 5 = 93 from rfl) ?_
      refine x_iload (by decide +kernel : am_at co_X1_goTogether 118 = some (2, .iload 5)) rfl ?_
      refine x_aload_n (by decide +kernel : am_at co_X1_goTogether 120 = some (1, .aload_n 1)) rfl ?_
      refine x_aload_n (by decide +kernel : am_at co_X1_goTogether 121 = some (1, .aload_n 0)) rfl ?_
      refine x_getF (by decide +kernel : am_at co_X1_goTogether 122 = some (3, .getfield 33)) pq_1_33 (by decide) rfl ob_88 ?_
      refine x_top2 (show 88 + 5 = 93 from rfl) ?_
      refine x_iload (by decide +kernel : am_at co_X1_goTogether 125 = some (2, .iload 5)) rfl ?_
      refine x_iconst (by decide +kernel : am_at co_X1_goTogether 127 = some (1, .iconst 0)) ?_
      refine x_callV (n := 4) (by decide +kernel : am_at co_X1_goTogether 128 = some (3, .invokevirtual 61)) pq_1_61 pm_X2_becomes rfl rfl rfl o5 h (x_k0 fun x9 M9 h => ?_)
      refine x_callV (n := 3) (by decide +kernel : am_at co_X1_goTogether 131 = some (3, .invokevirtual 65)) pq_1_65 pm_X7_put rfl rfl rfl ob_93 h (x_kv fun M10 h => ?_)
      refine x_aload_n (by decide +kernel : am_at co_X1_goTogether 134 = some (1, .aload_n 0)) rfl ?_
      refine x_aload_n (by decide +kernel : am_at co_X1_goTogether 135 = some (1, .aload_n 1)) rfl ?_
      refine x_aload_n (by decide +kernel : am_at co_X1_goTogether 136 = some (1, .aload_n 0)) rfl ?_
      refine x_getF (by decide +kernel : am_at co_X1_goTogether 137 = some (3, .getfield 29)) pq_1_29 (by decide) rfl ob_88 ?_
      refine x_top2 (show 88 + 3 = 91 from rfl) ?_
      refine x_callV (n := 2) (by decide +kernel : am_at co_X1_goTogether 140 = some (3, .invokevirtual 44)) pq_1_44 pm_X2_isHome rfl rfl rfl o5 h (x_k0 fun x11 M11 h => ?_)
      refine x_if (tgt := 161) (by decide +kernel : am_at co_X1_goTogether 143 = some (3, .ifCond .eq 18)) rfl Iff.rfl (fun c11 => ?_) (fun c11 => ?_)
      · have h := h.1 c11
        refine x_iconst (by decide +kernel : am_at co_X1_goTogether 161 = some (1, .iconst 0)) ?_
        refine x_putf5 (by decide +kernel : am_at co_X1_goTogether 162 = some (3, .putfield 22)) pq_1_22 rfl ob_88 (by decide) ?_
        obtain ⟨o12, h⟩ := h
        refine x_iinc (L' := [(2, 88), (2, v1), (3, 0), (3, 0), (0, v4 + 1), (0, x3)]) (by decide +kernel : am_at co_X1_goTogether 165 = some (3, .iinc 4 1)) rfl o12 rfl ?_
        refine x_goto (tgt := 55) (by decide +kernel : am_at co_X1_goTogether 168 = some (3, .goto (-113))) rfl ?_
        exact am_weak (lk (lk (lk (lk (lk (ld ln)))))) h
      · have c11 := c11
        have h := h.2 c11
        refine x_aload_n (by decide +kernel : am_at co_X1_goTogether 146 = some (1, .aload_n 1)) rfl ?_
        refine x_aload_n (by decide +kernel : am_at co_X1_goTogether 147 = some (1, .aload_n 0)) rfl ?_
        refine x_getF (by decide +kernel : am_at co_X1_goTogether 148 = some (3, .getfield 33)) pq_1_33 (by decide) rfl ob_88 ?_
        refine x_top2 (show 88 + 5 = 93 from rfl) ?_
        refine x_callV (n := 2) (by decide +kernel : am_at co_X1_goTogether 151 = some (3, .invokevirtual 44)) pq_1_44 pm_X2_isHome rfl rfl rfl o5 h (x_k0 fun x14 M14 h => ?_)
        refine x_if (tgt := 161) (by decide +kernel : am_at co_X1_goTogether 154 = some (3, .ifCond .eq 7)) rfl Iff.rfl (fun c14 => ?_) (fun c14 => ?_)
        · have h := h.1 c14
          refine x_iconst (by decide +kernel : am_at co_X1_goTogether 161 = some (1, .iconst 0)) ?_
          refine x_putf5 (by decide +kernel : am_at co_X1_goTogether 162 = some (3, .putfield 22)) pq_1_22 rfl ob_88 (by decide) ?_
          obtain ⟨o15, h⟩ := h
          refine x_iinc (L' := [(2, 88), (2, v1), (3, 0), (3, 0), (0, v4 + 1), (0, x3)]) (by decide +kernel : am_at co_X1_goTogether 165 = some (3, .iinc 4 1)) rfl o15 rfl ?_
          refine x_goto (tgt := 55) (by decide +kernel : am_at co_X1_goTogether 168 = some (3, .goto (-113))) rfl ?_
          exact am_weak (lk (lk (lk (lk (lk (ld ln)))))) h
        · have c14 := c14
          have h := h.2 c14
          refine x_iconst (by decide +kernel : am_at co_X1_goTogether 157 = some (1, .iconst 1)) ?_
          refine x_goto (tgt := 162) (by decide +kernel : am_at co_X1_goTogether 158 = some (3, .goto 4)) rfl ?_
          refine x_putf5 (by decide +kernel : am_at co_X1_goTogether 162 = some (3, .putfield 22)) pq_1_22 rfl ob_88 (by decide) ?_
          obtain ⟨o16, h⟩ := h
          refine x_iinc (L' := [(2, 88), (2, v1), (3, 0), (3, 0), (0, v4 + 1), (0, x3)]) (by decide +kernel : am_at co_X1_goTogether 165 = some (3, .iinc 4 1)) rfl o16 rfl ?_
          refine x_goto (tgt := 55) (by decide +kernel : am_at co_X1_goTogether 168 = some (3, .goto (-113))) rfl ?_
          exact am_weak (lk (lk (lk (lk (lk (ld ln)))))) h
set_option maxRecDepth 20000 in
theorem bk_X1_goTogether_171 {d : Nat} {Q : am_Q} {M : am_M} (h : ((M 88 3 = 0 → Q (some (0, (-1)), sh_T, M)) ∧ (¬ M 88 3 = 0 → Q (some (0, M 88 2), sh_T, M)))) : am_g 1 0 co_X1_goTogether d Q 171 [(2, 88), (3, 0), (3, 0), (3, 0), (3, 0), (3, 0)] [] sh_T M := by
  refine x_aload_n (by decide +kernel : am_at co_X1_goTogether 171 = some (1, .aload_n 0)) rfl ?_
  refine x_getf (by decide +kernel : am_at co_X1_goTogether 172 = some (3, .getfield 22)) pq_1_22 rfl ob_88 ?_
  refine x_if (tgt := 185) (by decide +kernel : am_at co_X1_goTogether 175 = some (3, .ifCond .eq 10)) rfl Iff.rfl (fun c0 => ?_) (fun c0 => ?_)
  · have h := h.1 c0
    refine x_iconst (by decide +kernel : am_at co_X1_goTogether 185 = some (1, .iconst (-1))) ?_
    exact x_iret (by decide +kernel : am_at co_X1_goTogether 186 = some (1, .ireturn)) h
  · have c0 := c0
    have h := h.2 c0
    refine x_aload_n (by decide +kernel : am_at co_X1_goTogether 178 = some (1, .aload_n 0)) rfl ?_
    refine x_getf (by decide +kernel : am_at co_X1_goTogether 179 = some (3, .getfield 18)) pq_1_18 rfl ob_88 ?_
    refine x_goto (tgt := 186) (by decide +kernel : am_at co_X1_goTogether 182 = some (3, .goto 4)) rfl ?_
    exact x_iret (by decide +kernel : am_at co_X1_goTogether 186 = some (1, .ireturn)) h
set_option maxRecDepth 20000 in
theorem bk_X1_heaviestOfBoth_0 {d : Nat} {Q : am_Q} {M : am_M} {v1 : Int} (h : am_g 1 0 co_X1_heaviestOfBoth d Q 7 [(2, 88), (2, v1), (0, (-1)), (0, (-1)), (0, 0), (3, 0)] [] sh_T M) : am_g 1 0 co_X1_heaviestOfBoth d Q 0 [(2, 88), (2, v1), (3, 0), (3, 0), (3, 0), (3, 0)] [] sh_T M := by
  refine x_iconst (by decide +kernel : am_at co_X1_heaviestOfBoth 0 = some (1, .iconst (-1))) ?_
  refine x_istore_n (L' := [(2, 88), (2, v1), (0, (-1)), (3, 0), (3, 0), (3, 0)]) (by decide +kernel : am_at co_X1_heaviestOfBoth 1 = some (1, .istore_n 2)) rfl ?_
  refine x_iconst (by decide +kernel : am_at co_X1_heaviestOfBoth 2 = some (1, .iconst (-1))) ?_
  refine x_istore_n (L' := [(2, 88), (2, v1), (0, (-1)), (0, (-1)), (3, 0), (3, 0)]) (by decide +kernel : am_at co_X1_heaviestOfBoth 3 = some (1, .istore_n 3)) rfl ?_
  refine x_iconst (by decide +kernel : am_at co_X1_heaviestOfBoth 4 = some (1, .iconst 0)) ?_
  refine x_istore (L' := [(2, 88), (2, v1), (0, (-1)), (0, (-1)), (0, 0), (3, 0)]) (by decide +kernel : am_at co_X1_heaviestOfBoth 5 = some (2, .istore 4)) rfl ?_
  exact am_weak (lk (lk (lk (lk (lk (lk ln)))))) h
set_option maxRecDepth 20000 in
theorem bk_X1_heaviestOfBoth_7 {d : Nat} {Q : am_Q} {M : am_M} {v1 v2 v3 v4 : Int} (h : am_ob sh_T 2 v1 ∧ am_cal pg d 14 [(2, v1), (0, 0)] sh_T M (am_c0 sh_T fun x2 M2 => ((x2 ≤ v4 → Q (some (0, v2), sh_T, M2)) ∧ (v4 < x2 → am_cal pg d 72 [(2, 91), (0, v4)] sh_T M2 (am_c0 sh_T fun x4 M4 => am_cal pg d 72 [(2, 93), (0, v4)] sh_T M4 (am_c0 sh_T fun x5 M5 => am_r (x4 + x5) ∧ ((x4 + x5 ≤ v3 → am_r (v4 + 1) ∧ am_g 1 0 co_X1_heaviestOfBoth d Q 7 [(2, 88), (2, v1), (0, v2), (0, v3), (0, v4 + 1), (3, 0)] [] sh_T M5) ∧ (v3 < x4 + x5 → am_r (v4 + 1) ∧ am_g 1 0 co_X1_heaviestOfBoth d Q 7 [(2, 88), (2, v1), (0, v4), (0, x4 + x5), (0, v4 + 1), (3, 0)] [] sh_T M5)))))))) : am_g 1 0 co_X1_heaviestOfBoth d Q 7 [(2, 88), (2, v1), (0, v2), (0, v3), (0, v4), (3, 0)] [] sh_T M := by
  refine x_iload (by decide +kernel : am_at co_X1_heaviestOfBoth 7 = some (2, .iload 4)) rfl ?_
  refine x_aload_n (by decide +kernel : am_at co_X1_heaviestOfBoth 9 = some (1, .aload_n 1)) rfl ?_
  refine x_iconst (by decide +kernel : am_at co_X1_heaviestOfBoth 10 = some (1, .iconst 0)) ?_
  obtain ⟨o0, h⟩ := h
  refine x_callV (n := 2) (by decide +kernel : am_at co_X1_heaviestOfBoth 11 = some (3, .invokevirtual 69)) pq_1_69 pm_X2_count rfl rfl rfl o0 h (x_k0 fun x2 M2 h => ?_)
  refine x_icmp (tgt := 56) (by decide +kernel : am_at co_X1_heaviestOfBoth 14 = some (3, .if_icmp .ge 42)) rfl Iff.rfl (fun c2 => ?_) (fun c2 => ?_)
  · have h := h.1 c2
    refine x_iload_n (by decide +kernel : am_at co_X1_heaviestOfBoth 56 = some (1, .iload_n 2)) rfl ?_
    exact x_iret (by decide +kernel : am_at co_X1_heaviestOfBoth 57 = some (1, .ireturn)) h
  · have c2 := (Int.not_le.mp c2)
    have h := h.2 c2
    refine x_aload_n (by decide +kernel : am_at co_X1_heaviestOfBoth 17 = some (1, .aload_n 0)) rfl ?_
    refine x_getF (by decide +kernel : am_at co_X1_heaviestOfBoth 18 = some (3, .getfield 29)) pq_1_29 (by decide) rfl ob_88 ?_
    refine x_top2 (show 88 + 3 = 91 from rfl) ?_
    refine x_iload (by decide +kernel : am_at co_X1_heaviestOfBoth 21 = some (2, .iload 4)) rfl ?_
    refine x_callV (n := 2) (by decide +kernel : am_at co_X1_heaviestOfBoth 23 = some (3, .invokevirtual 72)) pq_1_72 pm_X7_at rfl rfl rfl ob_91 h (x_k0 fun x4 M4 h => ?_)
    refine x_aload_n (by decide +kernel : am_at co_X1_heaviestOfBoth 26 = some (1, .aload_n 0)) rfl ?_
    refine x_getF (by decide +kernel : am_at co_X1_heaviestOfBoth 27 = some (3, .getfield 33)) pq_1_33 (by decide) rfl ob_88 ?_
    refine x_top2 (show 88 + 5 = 93 from rfl) ?_
    refine x_iload (by decide +kernel : am_at co_X1_heaviestOfBoth 30 = some (2, .iload 4)) rfl ?_
    refine x_callV (n := 2) (by decide +kernel : am_at co_X1_heaviestOfBoth 32 = some (3, .invokevirtual 72)) pq_1_72 pm_X7_at rfl rfl rfl ob_93 h (x_k0 fun x5 M5 h => ?_)
    obtain ⟨o5, h⟩ := h
    refine x_iadd (by decide +kernel : am_at co_X1_heaviestOfBoth 35 = some (1, .iadd)) o5 ?_
    refine x_istore (L' := [(2, 88), (2, v1), (0, v2), (0, v3), (0, v4), (0, x4 + x5)]) (by decide +kernel : am_at co_X1_heaviestOfBoth 36 = some (2, .istore 5)) rfl ?_
    refine x_iload (by decide +kernel : am_at co_X1_heaviestOfBoth 38 = some (2, .iload 5)) rfl ?_
    refine x_iload_n (by decide +kernel : am_at co_X1_heaviestOfBoth 40 = some (1, .iload_n 3)) rfl ?_
    refine x_icmp (tgt := 50) (by decide +kernel : am_at co_X1_heaviestOfBoth 41 = some (3, .if_icmp .le 9)) rfl Iff.rfl (fun c6 => ?_) (fun c6 => ?_)
    · have h := h.1 c6
      obtain ⟨o7, h⟩ := h
      refine x_iinc (L' := [(2, 88), (2, v1), (0, v2), (0, v3), (0, v4 + 1), (0, x4 + x5)]) (by decide +kernel : am_at co_X1_heaviestOfBoth 50 = some (3, .iinc 4 1)) rfl o7 rfl ?_
      refine x_goto (tgt := 7) (by decide +kernel : am_at co_X1_heaviestOfBoth 53 = some (3, .goto (-46))) rfl ?_
      exact am_weak (lk (lk (lk (lk (lk (ld ln)))))) h
    · have c6 := (Int.not_le.mp c6)
      have h := h.2 c6
      refine x_iload (by decide +kernel : am_at co_X1_heaviestOfBoth 44 = some (2, .iload 4)) rfl ?_
      refine x_istore_n (L' := [(2, 88), (2, v1), (0, v4), (0, v3), (0, v4), (0, x4 + x5)]) (by decide +kernel : am_at co_X1_heaviestOfBoth 46 = some (1, .istore_n 2)) rfl ?_
      refine x_iload (by decide +kernel : am_at co_X1_heaviestOfBoth 47 = some (2, .iload 5)) rfl ?_
      refine x_istore_n (L' := [(2, 88), (2, v1), (0, v4), (0, x4 + x5), (0, v4), (0, x4 + x5)]) (by decide +kernel : am_at co_X1_heaviestOfBoth 49 = some (1, .istore_n 3)) rfl ?_
      obtain ⟨o8, h⟩ := h
      refine x_iinc (L' := [(2, 88), (2, v1), (0, v4), (0, x4 + x5), (0, v4 + 1), (0, x4 + x5)]) (by decide +kernel : am_at co_X1_heaviestOfBoth 50 = some (3, .iinc 4 1)) rfl o8 rfl ?_
      refine x_goto (tgt := 7) (by decide +kernel : am_at co_X1_heaviestOfBoth 53 = some (3, .goto (-46))) rfl ?_
      exact am_weak (lk (lk (lk (lk (lk (ld ln)))))) h
set_option maxRecDepth 20000 in
theorem bk_X1_follows_0 {d : Nat} {Q : am_Q} {M : am_M} {v1 v2 v3 v4 v5 v6 : Int} (h : am_cal pg d 71 [(2, 91), (2, v2)] sh_T M (am_cv sh_T fun M1 => am_cal pg d 73 [(2, 91), (0, v3), (0, v4)] sh_T M1 (am_cv sh_T fun M2 => am_g 1 5 co_X1_follows d Q 24 [(2, 88), (2, v1), (3, 0), (3, 0), (3, 0), (2, v5), (0, v6), (0, 1), (0, 0)] [] sh_T M2))) : am_g 1 5 co_X1_follows d Q 0 [(2, 88), (2, v1), (2, v2), (0, v3), (0, v4), (2, v5), (0, v6), (3, 0), (3, 0)] [] sh_T M := by
  refine x_aload_n (by decide +kernel : am_at co_X1_follows 0 = some (1, .aload_n 0)) rfl ?_
  refine x_getF (by decide +kernel : am_at co_X1_follows 1 = some (3, .getfield 29)) pq_1_29 (by decide) rfl ob_88 ?_
  refine x_top2 (show 88 + 3 = 91 from rfl) ?_
  refine x_aload_n (by decide +kernel : am_at co_X1_follows 4 = some (1, .aload_n 2)) rfl ?_
  refine x_callV (n := 2) (by decide +kernel : am_at co_X1_follows 5 = some (3, .invokevirtual 36)) pq_1_36 pm_X7_copy rfl rfl rfl ob_91 h (x_kv fun M1 h => ?_)
  refine x_aload_n (by decide +kernel : am_at co_X1_follows 8 = some (1, .aload_n 0)) rfl ?_
  refine x_getF (by decide +kernel : am_at co_X1_follows 9 = some (3, .getfield 29)) pq_1_29 (by decide) rfl ob_88 ?_
  refine x_top2 (show 88 + 3 = 91 from rfl) ?_
  refine x_iload_n (by decide +kernel : am_at co_X1_follows 12 = some (1, .iload_n 3)) rfl ?_
  refine x_iload (by decide +kernel : am_at co_X1_follows 13 = some (2, .iload 4)) rfl ?_
  refine x_callV (n := 3) (by decide +kernel : am_at co_X1_follows 15 = some (3, .invokevirtual 65)) pq_1_65 pm_X7_put rfl rfl rfl ob_91 h (x_kv fun M2 h => ?_)
  refine x_iconst (by decide +kernel : am_at co_X1_follows 18 = some (1, .iconst 1)) ?_
  refine x_istore (L' := [(2, 88), (2, v1), (2, v2), (0, v3), (0, v4), (2, v5), (0, v6), (0, 1), (3, 0)]) (by decide +kernel : am_at co_X1_follows 19 = some (2, .istore 7)) rfl ?_
  refine x_iconst (by decide +kernel : am_at co_X1_follows 21 = some (1, .iconst 0)) ?_
  refine x_istore (L' := [(2, 88), (2, v1), (2, v2), (0, v3), (0, v4), (2, v5), (0, v6), (0, 1), (0, 0)]) (by decide +kernel : am_at co_X1_follows 22 = some (2, .istore 8)) rfl ?_
  exact am_weak (lk (lk (ld (ld (ld (lk (lk (lk (lk ln))))))))) h
set_option maxRecDepth 20000 in
theorem bk_X1_follows_24 {d : Nat} {Q : am_Q} {M : am_M} {v1 v5 v6 v7 v8 : Int} (h : ((v6 ≤ v8 → (v7 = 0 ∨ v7 = 1) ∧ Q (some (0, v7), sh_T, M)) ∧ (v8 < v6 → ∃ n1 : Nat, am_alen pg sh_T v5 = some n1 ∧ (((n1 : Int) ≤ v8 → (v7 = 0 ∨ v7 = 1) ∧ Q (some (0, v7), sh_T, M)) ∧ (v8 < (n1 : Int) → ((v7 = 0 → (v7 = 0 ∨ v7 = 1) ∧ Q (some (0, v7), sh_T, M)) ∧ (¬ v7 = 0 → am_ob sh_T 2 v1 ∧ am_cal pg d 34 [(2, v1), (2, 91), (0, 0)] sh_T M (am_c0 sh_T fun x6 M6 => am_in pg sh_T 1 v5 v8 ∧ ((¬ x6 = M6 v5 v8 → am_r (v8 + 1) ∧ am_g 1 5 co_X1_follows d Q 24 [(2, 88), (2, v1), (3, 0), (3, 0), (3, 0), (2, v5), (0, v6), (0, 0), (0, v8 + 1)] [] sh_T M6) ∧ (x6 = M6 v5 v8 → am_r (v8 + 1) ∧ am_g 1 5 co_X1_follows d Q 24 [(2, 88), (2, v1), (3, 0), (3, 0), (3, 0), (2, v5), (0, v6), (0, 1), (0, v8 + 1)] [] sh_T M6)))))))))) : am_g 1 5 co_X1_follows d Q 24 [(2, 88), (2, v1), (3, 0), (3, 0), (3, 0), (2, v5), (0, v6), (0, v7), (0, v8)] [] sh_T M := by
  refine x_iload (by decide +kernel : am_at co_X1_follows 24 = some (2, .iload 8)) rfl ?_
  refine x_iload (by decide +kernel : am_at co_X1_follows 26 = some (2, .iload 6)) rfl ?_
  refine x_icmp (tgt := 74) (by decide +kernel : am_at co_X1_follows 28 = some (3, .if_icmp .ge 46)) rfl Iff.rfl (fun c0 => ?_) (fun c0 => ?_)
  · have h := h.1 c0
    refine x_iload (by decide +kernel : am_at co_X1_follows 74 = some (2, .iload 7)) rfl ?_
    exact x_zret (by decide +kernel : am_at co_X1_follows 76 = some (1, .ireturn)) h.1 h.2
  · have c0 := (Int.not_le.mp c0)
    have h := h.2 c0
    refine x_iload (by decide +kernel : am_at co_X1_follows 31 = some (2, .iload 8)) rfl ?_
    refine x_aload (by decide +kernel : am_at co_X1_follows 33 = some (2, .aload 5)) rfl ?_
    obtain ⟨n1, o1, h⟩ := h
    refine x_alen (by decide +kernel : am_at co_X1_follows 35 = some (1, .arraylength)) o1 ?_
    refine x_icmp (tgt := 74) (by decide +kernel : am_at co_X1_follows 36 = some (3, .if_icmp .ge 38)) rfl Iff.rfl (fun c2 => ?_) (fun c2 => ?_)
    · have h := h.1 c2
      refine x_iload (by decide +kernel : am_at co_X1_follows 74 = some (2, .iload 7)) rfl ?_
      exact x_zret (by decide +kernel : am_at co_X1_follows 76 = some (1, .ireturn)) h.1 h.2
    · have c2 := (Int.not_le.mp c2)
      have h := h.2 c2
      refine x_iload (by decide +kernel : am_at co_X1_follows 39 = some (2, .iload 7)) rfl ?_
      refine x_if (tgt := 74) (by decide +kernel : am_at co_X1_follows 41 = some (3, .ifCond .eq 33)) rfl Iff.rfl (fun c3 => ?_) (fun c3 => ?_)
      · have h := h.1 c3
        refine x_iload (by decide +kernel : am_at co_X1_follows 74 = some (2, .iload 7)) rfl ?_
        exact x_zret (by decide +kernel : am_at co_X1_follows 76 = some (1, .ireturn)) h.1 h.2
      · have c3 := c3
        have h := h.2 c3
        refine x_aload_n (by decide +kernel : am_at co_X1_follows 44 = some (1, .aload_n 1)) rfl ?_
        refine x_aload_n (by decide +kernel : am_at co_X1_follows 45 = some (1, .aload_n 0)) rfl ?_
        refine x_getF (by decide +kernel : am_at co_X1_follows 46 = some (3, .getfield 29)) pq_1_29 (by decide) rfl ob_88 ?_
        refine x_top2 (show 88 + 3 = 91 from rfl) ?_
        refine x_iconst (by decide +kernel : am_at co_X1_follows 49 = some (1, .iconst 0)) ?_
        obtain ⟨o4, h⟩ := h
        refine x_callV (n := 3) (by decide +kernel : am_at co_X1_follows 50 = some (3, .invokevirtual 49)) pq_1_49 pm_X2_enter rfl rfl rfl o4 h (x_k0 fun x6 M6 h => ?_)
        refine x_aload (by decide +kernel : am_at co_X1_follows 53 = some (2, .aload 5)) rfl ?_
        refine x_iload (by decide +kernel : am_at co_X1_follows 55 = some (2, .iload 8)) rfl ?_
        obtain ⟨o6, h⟩ := h
        refine x_iald (by decide +kernel : am_at co_X1_follows 57 = some (1, .iaload)) (o6) ?_
        refine x_icmp (tgt := 65) (by decide +kernel : am_at co_X1_follows 58 = some (3, .if_icmp .ne 7)) rfl Iff.rfl (fun c7 => ?_) (fun c7 => ?_)
        · have h := h.1 c7
          refine x_iconst (by decide +kernel : am_at co_X1_follows 65 = some (1, .iconst 0)) ?_
          refine x_istore (L' := [(2, 88), (2, v1), (3, 0), (3, 0), (3, 0), (2, v5), (0, v6), (0, 0), (0, v8)]) (by decide +kernel : am_at co_X1_follows 66 = some (2, .istore 7)) rfl ?_
          obtain ⟨o8, h⟩ := h
          refine x_iinc (L' := [(2, 88), (2, v1), (3, 0), (3, 0), (3, 0), (2, v5), (0, v6), (0, 0), (0, v8 + 1)]) (by decide +kernel : am_at co_X1_follows 68 = some (3, .iinc 8 1)) rfl o8 rfl ?_
          refine x_goto (tgt := 24) (by decide +kernel : am_at co_X1_follows 71 = some (3, .goto (-47))) rfl ?_
          exact am_weak (lk (lk (lk (lk (lk (lk (lk (lk (lk ln))))))))) h
        · have c7 := (Classical.not_not.mp c7)
          have h := h.2 c7
          refine x_iconst (by decide +kernel : am_at co_X1_follows 61 = some (1, .iconst 1)) ?_
          refine x_goto (tgt := 66) (by decide +kernel : am_at co_X1_follows 62 = some (3, .goto 4)) rfl ?_
          refine x_istore (L' := [(2, 88), (2, v1), (3, 0), (3, 0), (3, 0), (2, v5), (0, v6), (0, 1), (0, v8)]) (by decide +kernel : am_at co_X1_follows 66 = some (2, .istore 7)) rfl ?_
          obtain ⟨o9, h⟩ := h
          refine x_iinc (L' := [(2, 88), (2, v1), (3, 0), (3, 0), (3, 0), (2, v5), (0, v6), (0, 1), (0, v8 + 1)]) (by decide +kernel : am_at co_X1_follows 68 = some (3, .iinc 8 1)) rfl o9 rfl ?_
          refine x_goto (tgt := 24) (by decide +kernel : am_at co_X1_follows 71 = some (3, .goto (-47))) rfl ?_
          exact am_weak (lk (lk (lk (lk (lk (lk (lk (lk (lk ln))))))))) h
set_option maxRecDepth 20000 in
theorem bk_X2_clear_0 {d : Nat} {Q : am_Q} {M : am_M} {v0 : Int} (h : am_g 2 9 co_X2_clear d Q 2 [(2, v0), (0, 0)] [] sh_T M) : am_g 2 9 co_X2_clear d Q 0 [(2, v0), (3, 0)] [] sh_T M := by
  refine x_iconst (by decide +kernel : am_at co_X2_clear 0 = some (1, .iconst 0)) ?_
  refine x_istore_n (L' := [(2, v0), (0, 0)]) (by decide +kernel : am_at co_X2_clear 1 = some (1, .istore_n 1)) rfl ?_
  exact am_weak (lk (lk ln)) h
set_option maxRecDepth 20000 in
theorem bk_X2_clear_2 {d : Nat} {Q : am_Q} {M : am_M} {v0 v1 : Int} (h : am_ob sh_T 2 v0 ∧ ∃ n1 : Nat, am_alen pg sh_T (v0 + 2) = some n1 ∧ (((n1 : Int) ≤ v1 → am_g 2 9 co_X2_clear d Q 26 [(2, v0), (0, 0)] [] sh_T M) ∧ (v1 < (n1 : Int) → am_own sh_T 1 (v0 + 2) v1 ∧ am_r (v1 + 1) ∧ am_g 2 9 co_X2_clear d Q 2 [(2, v0), (0, v1 + 1)] [] sh_T (am_up M (v0 + 2) v1 0)))) : am_g 2 9 co_X2_clear d Q 2 [(2, v0), (0, v1)] [] sh_T M := by
  refine x_iload_n (by decide +kernel : am_at co_X2_clear 2 = some (1, .iload_n 1)) rfl ?_
  refine x_aload_n (by decide +kernel : am_at co_X2_clear 3 = some (1, .aload_n 0)) rfl ?_
  obtain ⟨o0, h⟩ := h
  refine x_getF (by decide +kernel : am_at co_X2_clear 4 = some (3, .getfield 15)) pq_2_15 (by decide) rfl o0 ?_
  obtain ⟨n1, o1, h⟩ := h
  refine x_alen (by decide +kernel : am_at co_X2_clear 7 = some (1, .arraylength)) o1 ?_
  refine x_icmp (tgt := 24) (by decide +kernel : am_at co_X2_clear 8 = some (3, .if_icmp .ge 16)) rfl Iff.rfl (fun c2 => ?_) (fun c2 => ?_)
  · have h := h.1 c2
    refine x_iconst (by decide +kernel : am_at co_X2_clear 24 = some (1, .iconst 0)) ?_
    refine x_istore_n (L' := [(2, v0), (0, 0)]) (by decide +kernel : am_at co_X2_clear 25 = some (1, .istore_n 1)) rfl ?_
    exact am_weak (lk (lk ln)) h
  · have c2 := (Int.not_le.mp c2)
    have h := h.2 c2
    refine x_aload_n (by decide +kernel : am_at co_X2_clear 11 = some (1, .aload_n 0)) rfl ?_
    refine x_getF (by decide +kernel : am_at co_X2_clear 12 = some (3, .getfield 15)) pq_2_15 (by decide) rfl o0 ?_
    refine x_iload_n (by decide +kernel : am_at co_X2_clear 15 = some (1, .iload_n 1)) rfl ?_
    refine x_iconst (by decide +kernel : am_at co_X2_clear 16 = some (1, .iconst 0)) ?_
    obtain ⟨o3, h⟩ := h
    refine x_iast (by decide +kernel : am_at co_X2_clear 17 = some (1, .iastore)) (o3) ?_
    obtain ⟨o4, h⟩ := h
    refine x_iinc (L' := [(2, v0), (0, v1 + 1)]) (by decide +kernel : am_at co_X2_clear 18 = some (3, .iinc 1 1)) rfl o4 rfl ?_
    refine x_goto (tgt := 2) (by decide +kernel : am_at co_X2_clear 21 = some (3, .goto (-19))) rfl ?_
    exact am_weak (lk (lk ln)) h
set_option maxRecDepth 20000 in
theorem bk_X2_clear_26 {d : Nat} {Q : am_Q} {M : am_M} {v0 v1 : Int} (h : am_ob sh_T 2 v0 ∧ ∃ n1 : Nat, am_alen pg sh_T (v0 + 4) = some n1 ∧ (((n1 : Int) ≤ v1 → am_g 2 9 co_X2_clear d Q 50 [(2, v0), (0, 0)] [] sh_T M) ∧ (v1 < (n1 : Int) → am_own sh_T 1 (v0 + 4) v1 ∧ am_r (v1 + 1) ∧ am_g 2 9 co_X2_clear d Q 26 [(2, v0), (0, v1 + 1)] [] sh_T (am_up M (v0 + 4) v1 0)))) : am_g 2 9 co_X2_clear d Q 26 [(2, v0), (0, v1)] [] sh_T M := by
  refine x_iload_n (by decide +kernel : am_at co_X2_clear 26 = some (1, .iload_n 1)) rfl ?_
  refine x_aload_n (by decide +kernel : am_at co_X2_clear 27 = some (1, .aload_n 0)) rfl ?_
  obtain ⟨o0, h⟩ := h
  refine x_getF (by decide +kernel : am_at co_X2_clear 28 = some (3, .getfield 21)) pq_2_21 (by decide) rfl o0 ?_
  obtain ⟨n1, o1, h⟩ := h
  refine x_alen (by decide +kernel : am_at co_X2_clear 31 = some (1, .arraylength)) o1 ?_
  refine x_icmp (tgt := 48) (by decide +kernel : am_at co_X2_clear 32 = some (3, .if_icmp .ge 16)) rfl Iff.rfl (fun c2 => ?_) (fun c2 => ?_)
  · have h := h.1 c2
    refine x_iconst (by decide +kernel : am_at co_X2_clear 48 = some (1, .iconst 0)) ?_
    refine x_istore_n (L' := [(2, v0), (0, 0)]) (by decide +kernel : am_at co_X2_clear 49 = some (1, .istore_n 1)) rfl ?_
    exact am_weak (lk (lk ln)) h
  · have c2 := (Int.not_le.mp c2)
    have h := h.2 c2
    refine x_aload_n (by decide +kernel : am_at co_X2_clear 35 = some (1, .aload_n 0)) rfl ?_
    refine x_getF (by decide +kernel : am_at co_X2_clear 36 = some (3, .getfield 21)) pq_2_21 (by decide) rfl o0 ?_
    refine x_iload_n (by decide +kernel : am_at co_X2_clear 39 = some (1, .iload_n 1)) rfl ?_
    refine x_iconst (by decide +kernel : am_at co_X2_clear 40 = some (1, .iconst 0)) ?_
    obtain ⟨o3, h⟩ := h
    refine x_iast (by decide +kernel : am_at co_X2_clear 41 = some (1, .iastore)) (o3) ?_
    obtain ⟨o4, h⟩ := h
    refine x_iinc (L' := [(2, v0), (0, v1 + 1)]) (by decide +kernel : am_at co_X2_clear 42 = some (3, .iinc 1 1)) rfl o4 rfl ?_
    refine x_goto (tgt := 26) (by decide +kernel : am_at co_X2_clear 45 = some (3, .goto (-19))) rfl ?_
    exact am_weak (lk (lk ln)) h
set_option maxRecDepth 20000 in
theorem bk_X2_clear_50 {d : Nat} {Q : am_Q} {M : am_M} {v0 v1 : Int} (h : ((3 ≤ v1 → am_ob sh_T 2 v0 ∧ am_ob sh_T 6 (v0 + 6) ∧ am_cal pg d 60 [(2, v0 + 6)] sh_T (am_up (am_up (am_up M v0 5 0) v0 6 0) v0 7 0) (am_cv sh_T fun M4 => Q (none, sh_T, M4))) ∧ (v1 < 3 → am_ob sh_T 2 v0 ∧ am_own sh_T 1 (v0 + 11) v1 ∧ am_own sh_T 1 (v0 + 12) v1 ∧ am_r (v1 + 1) ∧ am_g 2 9 co_X2_clear d Q 50 [(2, v0), (0, v1 + 1)] [] sh_T (am_up (am_up M (v0 + 11) v1 0) (v0 + 12) v1 0)))) : am_g 2 9 co_X2_clear d Q 50 [(2, v0), (0, v1)] [] sh_T M := by
  refine x_iload_n (by decide +kernel : am_at co_X2_clear 50 = some (1, .iload_n 1)) rfl ?_
  refine x_iconst (by decide +kernel : am_at co_X2_clear 51 = some (1, .iconst 3)) ?_
  refine x_icmp (tgt := 75) (by decide +kernel : am_at co_X2_clear 52 = some (3, .if_icmp .ge 23)) rfl Iff.rfl (fun c0 => ?_) (fun c0 => ?_)
  · have h := h.1 c0
    refine x_aload_n (by decide +kernel : am_at co_X2_clear 75 = some (1, .aload_n 0)) rfl ?_
    refine x_iconst (by decide +kernel : am_at co_X2_clear 76 = some (1, .iconst 0)) ?_
    obtain ⟨o1, h⟩ := h
    refine x_putf0 (by decide +kernel : am_at co_X2_clear 77 = some (3, .putfield 27)) pq_2_27 rfl o1 ?_
    refine x_aload_n (by decide +kernel : am_at co_X2_clear 80 = some (1, .aload_n 0)) rfl ?_
    refine x_iconst (by decide +kernel : am_at co_X2_clear 81 = some (1, .iconst 0)) ?_
    refine x_putf0 (by decide +kernel : am_at co_X2_clear 82 = some (3, .putfield 31)) pq_2_31 rfl o1 ?_
    refine x_aload_n (by decide +kernel : am_at co_X2_clear 85 = some (1, .aload_n 0)) rfl ?_
    refine x_iconst (by decide +kernel : am_at co_X2_clear 86 = some (1, .iconst 0)) ?_
    refine x_putf0 (by decide +kernel : am_at co_X2_clear 87 = some (3, .putfield 34)) pq_2_34 rfl o1 ?_
    refine x_aload_n (by decide +kernel : am_at co_X2_clear 90 = some (1, .aload_n 0)) rfl ?_
    refine x_getF (by decide +kernel : am_at co_X2_clear 91 = some (3, .getfield 40)) pq_2_40 (by decide) rfl o1 ?_
    obtain ⟨o2, h⟩ := h
    refine x_callV (n := 1) (by decide +kernel : am_at co_X2_clear 94 = some (3, .invokevirtual 50)) pq_2_50 pm_X6_clear rfl rfl rfl o2 h (x_kv fun M4 h => ?_)
    exact x_vret (by decide +kernel : am_at co_X2_clear 97 = some (1, .return_)) h
  · have c0 := (Int.not_le.mp c0)
    have h := h.2 c0
    refine x_aload_n (by decide +kernel : am_at co_X2_clear 55 = some (1, .aload_n 0)) rfl ?_
    obtain ⟨o4, h⟩ := h
    refine x_getF (by decide +kernel : am_at co_X2_clear 56 = some (3, .getfield 44)) pq_2_44 (by decide) rfl o4 ?_
    refine x_iload_n (by decide +kernel : am_at co_X2_clear 59 = some (1, .iload_n 1)) rfl ?_
    refine x_iconst (by decide +kernel : am_at co_X2_clear 60 = some (1, .iconst 0)) ?_
    obtain ⟨o5, h⟩ := h
    refine x_iast (by decide +kernel : am_at co_X2_clear 61 = some (1, .iastore)) (o5) ?_
    refine x_aload_n (by decide +kernel : am_at co_X2_clear 62 = some (1, .aload_n 0)) rfl ?_
    refine x_getF (by decide +kernel : am_at co_X2_clear 63 = some (3, .getfield 47)) pq_2_47 (by decide) rfl o4 ?_
    refine x_iload_n (by decide +kernel : am_at co_X2_clear 66 = some (1, .iload_n 1)) rfl ?_
    refine x_iconst (by decide +kernel : am_at co_X2_clear 67 = some (1, .iconst 0)) ?_
    obtain ⟨o6, h⟩ := h
    refine x_iast (by decide +kernel : am_at co_X2_clear 68 = some (1, .iastore)) (o6) ?_
    obtain ⟨o7, h⟩ := h
    refine x_iinc (L' := [(2, v0), (0, v1 + 1)]) (by decide +kernel : am_at co_X2_clear 69 = some (3, .iinc 1 1)) rfl o7 rfl ?_
    refine x_goto (tgt := 50) (by decide +kernel : am_at co_X2_clear 72 = some (3, .goto (-22))) rfl ?_
    exact am_weak (lk (lk ln)) h
set_option maxRecDepth 20000 in
theorem bk_X2_count_0 {d : Nat} {Q : am_Q} {M : am_M} {v0 v1 : Int} (h : ((v1 < 0 → Q (some (0, 0), sh_T, M)) ∧ (0 ≤ v1 → am_ob sh_T 2 v0 ∧ ∃ n2 : Nat, am_alen pg sh_T (v0 + 2) = some n2 ∧ (((n2 : Int) ≤ v1 → Q (some (0, 0), sh_T, M)) ∧ (v1 < (n2 : Int) → am_in pg sh_T 1 (v0 + 2) v1 ∧ Q (some (0, M (v0 + 2) v1), sh_T, M)))))) : am_g 2 0 co_X2_count d Q 0 [(2, v0), (0, v1)] [] sh_T M := by
  refine x_iload_n (by decide +kernel : am_at co_X2_count 0 = some (1, .iload_n 1)) rfl ?_
  refine x_if (tgt := 22) (by decide +kernel : am_at co_X2_count 1 = some (3, .ifCond .lt 21)) rfl Iff.rfl (fun c0 => ?_) (fun c0 => ?_)
  · have h := h.1 c0
    refine x_iconst (by decide +kernel : am_at co_X2_count 22 = some (1, .iconst 0)) ?_
    exact x_iret (by decide +kernel : am_at co_X2_count 23 = some (1, .ireturn)) h
  · have c0 := (Int.not_lt.mp c0)
    have h := h.2 c0
    refine x_iload_n (by decide +kernel : am_at co_X2_count 4 = some (1, .iload_n 1)) rfl ?_
    refine x_aload_n (by decide +kernel : am_at co_X2_count 5 = some (1, .aload_n 0)) rfl ?_
    obtain ⟨o1, h⟩ := h
    refine x_getF (by decide +kernel : am_at co_X2_count 6 = some (3, .getfield 15)) pq_2_15 (by decide) rfl o1 ?_
    obtain ⟨n2, o2, h⟩ := h
    refine x_alen (by decide +kernel : am_at co_X2_count 9 = some (1, .arraylength)) o2 ?_
    refine x_icmp (tgt := 22) (by decide +kernel : am_at co_X2_count 10 = some (3, .if_icmp .ge 12)) rfl Iff.rfl (fun c3 => ?_) (fun c3 => ?_)
    · have h := h.1 c3
      refine x_iconst (by decide +kernel : am_at co_X2_count 22 = some (1, .iconst 0)) ?_
      exact x_iret (by decide +kernel : am_at co_X2_count 23 = some (1, .ireturn)) h
    · have c3 := (Int.not_le.mp c3)
      have h := h.2 c3
      refine x_aload_n (by decide +kernel : am_at co_X2_count 13 = some (1, .aload_n 0)) rfl ?_
      refine x_getF (by decide +kernel : am_at co_X2_count 14 = some (3, .getfield 15)) pq_2_15 (by decide) rfl o1 ?_
      refine x_iload_n (by decide +kernel : am_at co_X2_count 17 = some (1, .iload_n 1)) rfl ?_
      obtain ⟨o4, h⟩ := h
      refine x_iald (by decide +kernel : am_at co_X2_count 18 = some (1, .iaload)) (o4) ?_
      refine x_goto (tgt := 23) (by decide +kernel : am_at co_X2_count 19 = some (3, .goto 4)) rfl ?_
      exact x_iret (by decide +kernel : am_at co_X2_count 23 = some (1, .ireturn)) h
set_option maxRecDepth 20000 in
theorem bk_X2_isThere_0 {d : Nat} {Q : am_Q} {M : am_M} {v0 v1 v2 : Int} (h : ((v2 < 0 → Q (some (0, 0), sh_T, M)) ∧ (0 ≤ v2 → am_ob sh_T 2 v0 ∧ am_cal pg d 14 [(2, v0), (0, v1)] sh_T M (am_c0 sh_T fun x3 M3 => ((x3 ≤ v2 → Q (some (0, 0), sh_T, M3)) ∧ (v2 < x3 → Q (some (0, 1), sh_T, M3))))))) : am_g 2 5 co_X2_isThere d Q 0 [(2, v0), (0, v1), (0, v2)] [] sh_T M := by
  refine x_iload_n (by decide +kernel : am_at co_X2_isThere 0 = some (1, .iload_n 2)) rfl ?_
  refine x_if (tgt := 17) (by decide +kernel : am_at co_X2_isThere 1 = some (3, .ifCond .lt 16)) rfl Iff.rfl (fun c0 => ?_) (fun c0 => ?_)
  · have h := h.1 c0
    refine x_iconst (by decide +kernel : am_at co_X2_isThere 17 = some (1, .iconst 0)) ?_
    exact x_zret (by decide +kernel : am_at co_X2_isThere 18 = some (1, .ireturn)) (by decide) h
  · have c0 := (Int.not_lt.mp c0)
    have h := h.2 c0
    refine x_iload_n (by decide +kernel : am_at co_X2_isThere 4 = some (1, .iload_n 2)) rfl ?_
    refine x_aload_n (by decide +kernel : am_at co_X2_isThere 5 = some (1, .aload_n 0)) rfl ?_
    refine x_iload_n (by decide +kernel : am_at co_X2_isThere 6 = some (1, .iload_n 1)) rfl ?_
    obtain ⟨o1, h⟩ := h
    refine x_callV (n := 2) (by decide +kernel : am_at co_X2_isThere 7 = some (3, .invokevirtual 53)) pq_2_53 pm_X2_count rfl rfl rfl o1 h (x_k0 fun x3 M3 h => ?_)
    refine x_icmp (tgt := 17) (by decide +kernel : am_at co_X2_isThere 10 = some (3, .if_icmp .ge 7)) rfl Iff.rfl (fun c3 => ?_) (fun c3 => ?_)
    · have h := h.1 c3
      refine x_iconst (by decide +kernel : am_at co_X2_isThere 17 = some (1, .iconst 0)) ?_
      exact x_zret (by decide +kernel : am_at co_X2_isThere 18 = some (1, .ireturn)) (by decide) h
    · have c3 := (Int.not_le.mp c3)
      have h := h.2 c3
      refine x_iconst (by decide +kernel : am_at co_X2_isThere 13 = some (1, .iconst 1)) ?_
      refine x_goto (tgt := 18) (by decide +kernel : am_at co_X2_isThere 14 = some (3, .goto 4)) rfl ?_
      exact x_zret (by decide +kernel : am_at co_X2_isThere 18 = some (1, .ireturn)) (by decide) h
set_option maxRecDepth 20000 in
theorem bk_X2_isFull_0 {d : Nat} {Q : am_Q} {M : am_M} {v0 v1 : Int} (h : ((v1 < 0 → Q (some (0, 1), sh_T, M)) ∧ (0 ≤ v1 → ((3 ≤ v1 → Q (some (0, 1), sh_T, M)) ∧ (v1 < 3 → am_ob sh_T 2 v0 ∧ am_cal pg d 14 [(2, v0), (0, v1)] sh_T M (am_c0 sh_T fun x4 M4 => am_r (v1 + 1) ∧ (0 ≤ v1 + 1 ∧ v1 + 1 < 4) ∧ (0 ≤ v1 ∧ v1 < 4) ∧ am_r ((M4 2000000 (v1 + 1)) - (M4 2000000 v1)) ∧ ((x4 < (M4 2000000 (v1 + 1)) - (M4 2000000 v1) → Q (some (0, 0), sh_T, M4)) ∧ ((M4 2000000 (v1 + 1)) - (M4 2000000 v1) ≤ x4 → Q (some (0, 1), sh_T, M4))))))))) : am_g 2 5 co_X2_isFull d Q 0 [(2, v0), (0, v1)] [] sh_T M := by
  refine x_iload_n (by decide +kernel : am_at co_X2_isFull 0 = some (1, .iload_n 1)) rfl ?_
  refine x_if (tgt := 30) (by decide +kernel : am_at co_X2_isFull 1 = some (3, .ifCond .lt 29)) rfl Iff.rfl (fun c0 => ?_) (fun c0 => ?_)
  · have h := h.1 c0
    refine x_iconst (by decide +kernel : am_at co_X2_isFull 30 = some (1, .iconst 1)) ?_
    refine x_goto (tgt := 35) (by decide +kernel : am_at co_X2_isFull 31 = some (3, .goto 4)) rfl ?_
    exact x_zret (by decide +kernel : am_at co_X2_isFull 35 = some (1, .ireturn)) (by decide) h
  · have c0 := (Int.not_lt.mp c0)
    have h := h.2 c0
    refine x_iload_n (by decide +kernel : am_at co_X2_isFull 4 = some (1, .iload_n 1)) rfl ?_
    refine x_iconst (by decide +kernel : am_at co_X2_isFull 5 = some (1, .iconst 3)) ?_
    refine x_icmp (tgt := 30) (by decide +kernel : am_at co_X2_isFull 6 = some (3, .if_icmp .ge 24)) rfl Iff.rfl (fun c1 => ?_) (fun c1 => ?_)
    · have h := h.1 c1
      refine x_iconst (by decide +kernel : am_at co_X2_isFull 30 = some (1, .iconst 1)) ?_
      refine x_goto (tgt := 35) (by decide +kernel : am_at co_X2_isFull 31 = some (3, .goto 4)) rfl ?_
      exact x_zret (by decide +kernel : am_at co_X2_isFull 35 = some (1, .ireturn)) (by decide) h
    · have c1 := (Int.not_le.mp c1)
      have h := h.2 c1
      refine x_aload_n (by decide +kernel : am_at co_X2_isFull 9 = some (1, .aload_n 0)) rfl ?_
      refine x_iload_n (by decide +kernel : am_at co_X2_isFull 10 = some (1, .iload_n 1)) rfl ?_
      obtain ⟨o2, h⟩ := h
      refine x_callV (n := 2) (by decide +kernel : am_at co_X2_isFull 11 = some (3, .invokevirtual 53)) pq_2_53 pm_X2_count rfl rfl rfl o2 h (x_k0 fun x4 M4 h => ?_)
      refine x_gets (by decide +kernel : am_at co_X2_isFull 14 = some (3, .getstatic 57)) pq_2_57 ?_
      refine x_iload_n (by decide +kernel : am_at co_X2_isFull 17 = some (1, .iload_n 1)) rfl ?_
      refine x_iconst (by decide +kernel : am_at co_X2_isFull 18 = some (1, .iconst 1)) ?_
      obtain ⟨o4, h⟩ := h
      refine x_iadd (by decide +kernel : am_at co_X2_isFull 19 = some (1, .iadd)) o4 ?_
      obtain ⟨o5, h⟩ := h
      refine x_iald (by decide +kernel : am_at co_X2_isFull 20 = some (1, .iaload)) (ia_2000000 o5.1 o5.2) ?_
      refine x_gets (by decide +kernel : am_at co_X2_isFull 21 = some (3, .getstatic 57)) pq_2_57 ?_
      refine x_iload_n (by decide +kernel : am_at co_X2_isFull 24 = some (1, .iload_n 1)) rfl ?_
      obtain ⟨o6, h⟩ := h
      refine x_iald (by decide +kernel : am_at co_X2_isFull 25 = some (1, .iaload)) (ia_2000000 o6.1 o6.2) ?_
      obtain ⟨o7, h⟩ := h
      refine x_isub (by decide +kernel : am_at co_X2_isFull 26 = some (1, .isub)) o7 ?_
      refine x_icmp (tgt := 34) (by decide +kernel : am_at co_X2_isFull 27 = some (3, .if_icmp .lt 7)) rfl Iff.rfl (fun c8 => ?_) (fun c8 => ?_)
      · have h := h.1 c8
        refine x_iconst (by decide +kernel : am_at co_X2_isFull 34 = some (1, .iconst 0)) ?_
        exact x_zret (by decide +kernel : am_at co_X2_isFull 35 = some (1, .ireturn)) (by decide) h
      · have c8 := (Int.not_lt.mp c8)
        have h := h.2 c8
        refine x_iconst (by decide +kernel : am_at co_X2_isFull 30 = some (1, .iconst 1)) ?_
        refine x_goto (tgt := 35) (by decide +kernel : am_at co_X2_isFull 31 = some (3, .goto 4)) rfl ?_
        exact x_zret (by decide +kernel : am_at co_X2_isFull 35 = some (1, .ireturn)) (by decide) h
set_option maxRecDepth 20000 in
theorem bk_X2_placeOf_0 {d : Nat} {Q : am_Q} {M : am_M} {v0 v1 v2 : Int} (h : ((v1 < 0 → Q (some (0, (-1)), sh_T, M)) ∧ (0 ≤ v1 → ((3 ≤ v1 → Q (some (0, (-1)), sh_T, M)) ∧ (v1 < 3 → (0 ≤ v1 ∧ v1 < 4) ∧ am_r ((M 2000000 v1) + v2) ∧ Q (some (0, (M 2000000 v1) + v2), sh_T, M)))))) : am_g 2 0 co_X2_placeOf d Q 0 [(2, v0), (0, v1), (0, v2)] [] sh_T M := by
  refine x_iload_n (by decide +kernel : am_at co_X2_placeOf 0 = some (1, .iload_n 1)) rfl ?_
  refine x_if (tgt := 19) (by decide +kernel : am_at co_X2_placeOf 1 = some (3, .ifCond .lt 18)) rfl Iff.rfl (fun c0 => ?_) (fun c0 => ?_)
  · have h := h.1 c0
    refine x_iconst (by decide +kernel : am_at co_X2_placeOf 19 = some (1, .iconst (-1))) ?_
    exact x_iret (by decide +kernel : am_at co_X2_placeOf 20 = some (1, .ireturn)) h
  · have c0 := (Int.not_lt.mp c0)
    have h := h.2 c0
    refine x_iload_n (by decide +kernel : am_at co_X2_placeOf 4 = some (1, .iload_n 1)) rfl ?_
    refine x_iconst (by decide +kernel : am_at co_X2_placeOf 5 = some (1, .iconst 3)) ?_
    refine x_icmp (tgt := 19) (by decide +kernel : am_at co_X2_placeOf 6 = some (3, .if_icmp .ge 13)) rfl Iff.rfl (fun c1 => ?_) (fun c1 => ?_)
    · have h := h.1 c1
      refine x_iconst (by decide +kernel : am_at co_X2_placeOf 19 = some (1, .iconst (-1))) ?_
      exact x_iret (by decide +kernel : am_at co_X2_placeOf 20 = some (1, .ireturn)) h
    · have c1 := (Int.not_le.mp c1)
      have h := h.2 c1
      refine x_gets (by decide +kernel : am_at co_X2_placeOf 9 = some (3, .getstatic 57)) pq_2_57 ?_
      refine x_iload_n (by decide +kernel : am_at co_X2_placeOf 12 = some (1, .iload_n 1)) rfl ?_
      obtain ⟨o2, h⟩ := h
      refine x_iald (by decide +kernel : am_at co_X2_placeOf 13 = some (1, .iaload)) (ia_2000000 o2.1 o2.2) ?_
      refine x_iload_n (by decide +kernel : am_at co_X2_placeOf 14 = some (1, .iload_n 2)) rfl ?_
      obtain ⟨o3, h⟩ := h
      refine x_iadd (by decide +kernel : am_at co_X2_placeOf 15 = some (1, .iadd)) o3 ?_
      refine x_goto (tgt := 20) (by decide +kernel : am_at co_X2_placeOf 16 = some (3, .goto 4)) rfl ?_
      exact x_iret (by decide +kernel : am_at co_X2_placeOf 20 = some (1, .ireturn)) h
set_option maxRecDepth 20000 in
theorem bk_X2_letterAt_0 {d : Nat} {Q : am_Q} {M : am_M} {v0 v1 v2 : Int} (h : am_r (v1 * 6) ∧ am_r ((v1 * 6) + v2) ∧ (((v1 * 6) + v2 < 0 → Q (some (0, 0), sh_T, M)) ∧ (0 ≤ (v1 * 6) + v2 → am_ob sh_T 2 v0 ∧ ∃ n4 : Nat, am_alen pg sh_T (v0 + 1) = some n4 ∧ (((n4 : Int) ≤ (v1 * 6) + v2 → Q (some (0, 0), sh_T, M)) ∧ ((v1 * 6) + v2 < (n4 : Int) → am_in pg sh_T 1 (v0 + 1) ((v1 * 6) + v2) ∧ Q (some (0, M (v0 + 1) ((v1 * 6) + v2)), sh_T, M)))))) : am_g 2 0 co_X2_letterAt d Q 0 [(2, v0), (0, v1), (0, v2), (3, 0)] [] sh_T M := by
  refine x_iload_n (by decide +kernel : am_at co_X2_letterAt 0 = some (1, .iload_n 1)) rfl ?_
  refine x_bipush (by decide +kernel : am_at co_X2_letterAt 1 = some (2, .bipush 6)) ?_
  obtain ⟨o0, h⟩ := h
  refine x_imul (by decide +kernel : am_at co_X2_letterAt 3 = some (1, .imul)) o0 ?_
  refine x_iload_n (by decide +kernel : am_at co_X2_letterAt 4 = some (1, .iload_n 2)) rfl ?_
  obtain ⟨o1, h⟩ := h
  refine x_iadd (by decide +kernel : am_at co_X2_letterAt 5 = some (1, .iadd)) o1 ?_
  refine x_istore_n (L' := [(2, v0), (0, v1), (0, v2), (0, (v1 * 6) + v2)]) (by decide +kernel : am_at co_X2_letterAt 6 = some (1, .istore_n 3)) rfl ?_
  refine x_iload_n (by decide +kernel : am_at co_X2_letterAt 7 = some (1, .iload_n 3)) rfl ?_
  refine x_if (tgt := 29) (by decide +kernel : am_at co_X2_letterAt 8 = some (3, .ifCond .lt 21)) rfl Iff.rfl (fun c2 => ?_) (fun c2 => ?_)
  · have h := h.1 c2
    refine x_iconst (by decide +kernel : am_at co_X2_letterAt 29 = some (1, .iconst 0)) ?_
    exact x_iret (by decide +kernel : am_at co_X2_letterAt 30 = some (1, .ireturn)) h
  · have c2 := (Int.not_lt.mp c2)
    have h := h.2 c2
    refine x_iload_n (by decide +kernel : am_at co_X2_letterAt 11 = some (1, .iload_n 3)) rfl ?_
    refine x_aload_n (by decide +kernel : am_at co_X2_letterAt 12 = some (1, .aload_n 0)) rfl ?_
    obtain ⟨o3, h⟩ := h
    refine x_getF (by decide +kernel : am_at co_X2_letterAt 13 = some (3, .getfield 9)) pq_2_9 (by decide) rfl o3 ?_
    obtain ⟨n4, o4, h⟩ := h
    refine x_alen (by decide +kernel : am_at co_X2_letterAt 16 = some (1, .arraylength)) o4 ?_
    refine x_icmp (tgt := 29) (by decide +kernel : am_at co_X2_letterAt 17 = some (3, .if_icmp .ge 12)) rfl Iff.rfl (fun c5 => ?_) (fun c5 => ?_)
    · have h := h.1 c5
      refine x_iconst (by decide +kernel : am_at co_X2_letterAt 29 = some (1, .iconst 0)) ?_
      exact x_iret (by decide +kernel : am_at co_X2_letterAt 30 = some (1, .ireturn)) h
    · have c5 := (Int.not_le.mp c5)
      have h := h.2 c5
      refine x_aload_n (by decide +kernel : am_at co_X2_letterAt 20 = some (1, .aload_n 0)) rfl ?_
      refine x_getF (by decide +kernel : am_at co_X2_letterAt 21 = some (3, .getfield 9)) pq_2_9 (by decide) rfl o3 ?_
      refine x_iload_n (by decide +kernel : am_at co_X2_letterAt 24 = some (1, .iload_n 3)) rfl ?_
      obtain ⟨o6, h⟩ := h
      refine x_iald (by decide +kernel : am_at co_X2_letterAt 25 = some (1, .iaload)) (o6) ?_
      refine x_goto (tgt := 30) (by decide +kernel : am_at co_X2_letterAt 26 = some (3, .goto 4)) rfl ?_
      exact x_iret (by decide +kernel : am_at co_X2_letterAt 30 = some (1, .ireturn)) h
set_option maxRecDepth 20000 in
theorem bk_X2_giveName_0 {d : Nat} {Q : am_Q} {M : am_M} {v0 v1 v2 : Int} (h : am_ob sh_T 2 v0 ∧ am_cal pg d 16 [(2, v0), (0, v1)] sh_T M (am_c0 sh_T fun x2 M2 => ((x2 = 0 → am_in pg sh_T 1 (v0 + 2) v1 ∧ am_cal pg d 17 [(2, v0), (0, v1), (0, M2 (v0 + 2) v1)] sh_T M2 (am_c0 sh_T fun x5 M5 => am_r (x5 * 6) ∧ am_g 2 0 co_X2_giveName d Q 31 [(2, v0), (0, v1), (2, v2), (0, M2 (v0 + 2) v1), (0, x5 * 6), (0, 0)] [] sh_T M5)) ∧ (¬ x2 = 0 → Q (some (0, (-1)), sh_T, M2))))) : am_g 2 0 co_X2_giveName d Q 0 [(2, v0), (0, v1), (2, v2), (3, 0), (3, 0), (3, 0)] [] sh_T M := by
  refine x_aload_n (by decide +kernel : am_at co_X2_giveName 0 = some (1, .aload_n 0)) rfl ?_
  refine x_iload_n (by decide +kernel : am_at co_X2_giveName 1 = some (1, .iload_n 1)) rfl ?_
  obtain ⟨o0, h⟩ := h
  refine x_callV (n := 2) (by decide +kernel : am_at co_X2_giveName 2 = some (3, .invokevirtual 60)) pq_2_60 pm_X2_isFull rfl rfl rfl o0 h (x_k0 fun x2 M2 h => ?_)
  refine x_if (tgt := 10) (by decide +kernel : am_at co_X2_giveName 5 = some (3, .ifCond .eq 5)) rfl Iff.rfl (fun c2 => ?_) (fun c2 => ?_)
  · have h := h.1 c2
    refine x_aload_n (by decide +kernel : am_at co_X2_giveName 10 = some (1, .aload_n 0)) rfl ?_
    refine x_getF (by decide +kernel : am_at co_X2_giveName 11 = some (3, .getfield 15)) pq_2_15 (by decide) rfl o0 ?_
    refine x_iload_n (by decide +kernel : am_at co_X2_giveName 14 = some (1, .iload_n 1)) rfl ?_
    obtain ⟨o3, h⟩ := h
    refine x_iald (by decide +kernel : am_at co_X2_giveName 15 = some (1, .iaload)) (o3) ?_
    refine x_istore_n (L' := [(2, v0), (0, v1), (2, v2), (0, M2 (v0 + 2) v1), (3, 0), (3, 0)]) (by decide +kernel : am_at co_X2_giveName 16 = some (1, .istore_n 3)) rfl ?_
    refine x_aload_n (by decide +kernel : am_at co_X2_giveName 17 = some (1, .aload_n 0)) rfl ?_
    refine x_iload_n (by decide +kernel : am_at co_X2_giveName 18 = some (1, .iload_n 1)) rfl ?_
    refine x_iload_n (by decide +kernel : am_at co_X2_giveName 19 = some (1, .iload_n 3)) rfl ?_
    refine x_callV (n := 3) (by decide +kernel : am_at co_X2_giveName 20 = some (3, .invokevirtual 64)) pq_2_64 pm_X2_placeOf rfl rfl rfl o0 h (x_k0 fun x5 M5 h => ?_)
    refine x_bipush (by decide +kernel : am_at co_X2_giveName 23 = some (2, .bipush 6)) ?_
    obtain ⟨o5, h⟩ := h
    refine x_imul (by decide +kernel : am_at co_X2_giveName 25 = some (1, .imul)) o5 ?_
    refine x_istore (L' := [(2, v0), (0, v1), (2, v2), (0, M2 (v0 + 2) v1), (0, x5 * 6), (3, 0)]) (by decide +kernel : am_at co_X2_giveName 26 = some (2, .istore 4)) rfl ?_
    refine x_iconst (by decide +kernel : am_at co_X2_giveName 28 = some (1, .iconst 0)) ?_
    refine x_istore (L' := [(2, v0), (0, v1), (2, v2), (0, M2 (v0 + 2) v1), (0, x5 * 6), (0, 0)]) (by decide +kernel : am_at co_X2_giveName 29 = some (2, .istore 5)) rfl ?_
    exact am_weak (lk (lk (lk (lk (lk (lk ln)))))) h
  · have c2 := c2
    have h := h.2 c2
    refine x_iconst (by decide +kernel : am_at co_X2_giveName 8 = some (1, .iconst (-1))) ?_
    exact x_iret (by decide +kernel : am_at co_X2_giveName 9 = some (1, .ireturn)) h
set_option maxRecDepth 20000 in
theorem bk_X2_giveName_31 {d : Nat} {Q : am_Q} {M : am_M} {v0 v1 v2 v3 v4 v5 : Int} (h : ((6 ≤ v5 → am_ob sh_T 2 v0 ∧ am_in pg sh_T 1 (v0 + 2) v1 ∧ am_r ((M (v0 + 2) v1) + 1) ∧ am_own sh_T 1 (v0 + 2) v1 ∧ Q (some (0, v3), sh_T, (am_up M (v0 + 2) v1 ((M (v0 + 2) v1) + 1)))) ∧ (v5 < 6 → ((v4 < 0 → am_r (v5 + 1) ∧ am_g 2 0 co_X2_giveName d Q 31 [(2, v0), (0, v1), (2, v2), (0, v3), (0, v4), (0, v5 + 1)] [] sh_T M) ∧ (0 ≤ v4 → am_r (v4 + v5) ∧ am_ob sh_T 2 v0 ∧ ∃ n9 : Nat, am_alen pg sh_T (v0 + 1) = some n9 ∧ (((n9 : Int) ≤ v4 + v5 → am_r (v5 + 1) ∧ am_g 2 0 co_X2_giveName d Q 31 [(2, v0), (0, v1), (2, v2), (0, v3), (0, v4), (0, v5 + 1)] [] sh_T M) ∧ (v4 + v5 < (n9 : Int) → am_r (v4 + v5) ∧ am_ob sh_T 9 v2 ∧ ((M v2 7 ≤ v5 → am_own sh_T 1 (v0 + 1) (v4 + v5) ∧ am_r (v5 + 1) ∧ am_g 2 0 co_X2_giveName d Q 31 [(2, v0), (0, v1), (2, v2), (0, v3), (0, v4), (0, v5 + 1)] [] sh_T (am_up M (v0 + 1) (v4 + v5) 0)) ∧ (v5 < M v2 7 → am_r ((M v2 6) + v5) ∧ am_cal pg d 92 [(2, v2), (0, (M v2 6) + v5)] sh_T M (am_c0 sh_T fun x19 M19 => am_r (x19 - 97) ∧ am_r ((x19 - 97) + 1) ∧ am_own sh_T 1 (v0 + 1) (v4 + v5) ∧ am_r (v5 + 1) ∧ am_g 2 0 co_X2_giveName d Q 31 [(2, v0), (0, v1), (2, v2), (0, v3), (0, v4), (0, v5 + 1)] [] sh_T (am_up M19 (v0 + 1) (v4 + v5) ((x19 - 97) + 1)))))))))))) : am_g 2 0 co_X2_giveName d Q 31 [(2, v0), (0, v1), (2, v2), (0, v3), (0, v4), (0, v5)] [] sh_T M := by
  refine x_iload (by decide +kernel : am_at co_X2_giveName 31 = some (2, .iload 5)) rfl ?_
  refine x_bipush (by decide +kernel : am_at co_X2_giveName 33 = some (2, .bipush 6)) ?_
  refine x_icmp (tgt := 101) (by decide +kernel : am_at co_X2_giveName 35 = some (3, .if_icmp .ge 66)) rfl Iff.rfl (fun c0 => ?_) (fun c0 => ?_)
  · have h := h.1 c0
    refine x_aload_n (by decide +kernel : am_at co_X2_giveName 101 = some (1, .aload_n 0)) rfl ?_
    obtain ⟨o1, h⟩ := h
    refine x_getF (by decide +kernel : am_at co_X2_giveName 102 = some (3, .getfield 15)) pq_2_15 (by decide) rfl o1 ?_
    refine x_iload_n (by decide +kernel : am_at co_X2_giveName 105 = some (1, .iload_n 1)) rfl ?_
    refine x_dup2 (by decide +kernel : am_at co_X2_giveName 106 = some (1, .dup2)) ?_
    obtain ⟨o2, h⟩ := h
    refine x_iald (by decide +kernel : am_at co_X2_giveName 107 = some (1, .iaload)) (o2) ?_
    refine x_iconst (by decide +kernel : am_at co_X2_giveName 108 = some (1, .iconst 1)) ?_
    obtain ⟨o3, h⟩ := h
    refine x_iadd (by decide +kernel : am_at co_X2_giveName 109 = some (1, .iadd)) o3 ?_
    obtain ⟨o4, h⟩ := h
    refine x_iast (by decide +kernel : am_at co_X2_giveName 110 = some (1, .iastore)) (o4) ?_
    refine x_iload_n (by decide +kernel : am_at co_X2_giveName 111 = some (1, .iload_n 3)) rfl ?_
    exact x_iret (by decide +kernel : am_at co_X2_giveName 112 = some (1, .ireturn)) h
  · have c0 := (Int.not_le.mp c0)
    have h := h.2 c0
    refine x_iload (by decide +kernel : am_at co_X2_giveName 38 = some (2, .iload 4)) rfl ?_
    refine x_if (tgt := 95) (by decide +kernel : am_at co_X2_giveName 40 = some (3, .ifCond .lt 55)) rfl Iff.rfl (fun c5 => ?_) (fun c5 => ?_)
    · have h := h.1 c5
      obtain ⟨o6, h⟩ := h
      refine x_iinc (L' := [(2, v0), (0, v1), (2, v2), (0, v3), (0, v4), (0, v5 + 1)]) (by decide +kernel : am_at co_X2_giveName 95 = some (3, .iinc 5 1)) rfl o6 rfl ?_
      refine x_goto (tgt := 31) (by decide +kernel : am_at co_X2_giveName 98 = some (3, .goto (-67))) rfl ?_
      exact am_weak (lk (lk (lk (lk (lk (lk ln)))))) h
    · have c5 := (Int.not_lt.mp c5)
      have h := h.2 c5
      refine x_iload (by decide +kernel : am_at co_X2_giveName 43 = some (2, .iload 4)) rfl ?_
      refine x_iload (by decide +kernel : am_at co_X2_giveName 45 = some (2, .iload 5)) rfl ?_
      obtain ⟨o7, h⟩ := h
      refine x_iadd (by decide +kernel : am_at co_X2_giveName 47 = some (1, .iadd)) o7 ?_
      refine x_aload_n (by decide +kernel : am_at co_X2_giveName 48 = some (1, .aload_n 0)) rfl ?_
      obtain ⟨o8, h⟩ := h
      refine x_getF (by decide +kernel : am_at co_X2_giveName 49 = some (3, .getfield 9)) pq_2_9 (by decide) rfl o8 ?_
      obtain ⟨n9, o9, h⟩ := h
      refine x_alen (by decide +kernel : am_at co_X2_giveName 52 = some (1, .arraylength)) o9 ?_
      refine x_icmp (tgt := 95) (by decide +kernel : am_at co_X2_giveName 53 = some (3, .if_icmp .ge 42)) rfl Iff.rfl (fun c10 => ?_) (fun c10 => ?_)
      · have h := h.1 c10
        obtain ⟨o11, h⟩ := h
        refine x_iinc (L' := [(2, v0), (0, v1), (2, v2), (0, v3), (0, v4), (0, v5 + 1)]) (by decide +kernel : am_at co_X2_giveName 95 = some (3, .iinc 5 1)) rfl o11 rfl ?_
        refine x_goto (tgt := 31) (by decide +kernel : am_at co_X2_giveName 98 = some (3, .goto (-67))) rfl ?_
        exact am_weak (lk (lk (lk (lk (lk (lk ln)))))) h
      · have c10 := (Int.not_le.mp c10)
        have h := h.2 c10
        refine x_aload_n (by decide +kernel : am_at co_X2_giveName 56 = some (1, .aload_n 0)) rfl ?_
        refine x_getF (by decide +kernel : am_at co_X2_giveName 57 = some (3, .getfield 9)) pq_2_9 (by decide) rfl o8 ?_
        refine x_iload (by decide +kernel : am_at co_X2_giveName 60 = some (2, .iload 4)) rfl ?_
        refine x_iload (by decide +kernel : am_at co_X2_giveName 62 = some (2, .iload 5)) rfl ?_
        obtain ⟨o12, h⟩ := h
        refine x_iadd (by decide +kernel : am_at co_X2_giveName 64 = some (1, .iadd)) o12 ?_
        refine x_iload (by decide +kernel : am_at co_X2_giveName 65 = some (2, .iload 5)) rfl ?_
        refine x_aload_n (by decide +kernel : am_at co_X2_giveName 67 = some (1, .aload_n 2)) rfl ?_
        obtain ⟨o13, h⟩ := h
        refine x_getf (by decide +kernel : am_at co_X2_giveName 68 = some (3, .getfield 68)) pq_2_68 rfl o13 ?_
        refine x_icmp (tgt := 93) (by decide +kernel : am_at co_X2_giveName 71 = some (3, .if_icmp .ge 22)) rfl Iff.rfl (fun c14 => ?_) (fun c14 => ?_)
        · have h := h.1 c14
          refine x_iconst (by decide +kernel : am_at co_X2_giveName 93 = some (1, .iconst 0)) ?_
          obtain ⟨o15, h⟩ := h
          refine x_iast (by decide +kernel : am_at co_X2_giveName 94 = some (1, .iastore)) (o15) ?_
          obtain ⟨o16, h⟩ := h
          refine x_iinc (L' := [(2, v0), (0, v1), (2, v2), (0, v3), (0, v4), (0, v5 + 1)]) (by decide +kernel : am_at co_X2_giveName 95 = some (3, .iinc 5 1)) rfl o16 rfl ?_
          refine x_goto (tgt := 31) (by decide +kernel : am_at co_X2_giveName 98 = some (3, .goto (-67))) rfl ?_
          exact am_weak (lk (lk (lk (lk (lk (lk ln)))))) h
        · have c14 := (Int.not_le.mp c14)
          have h := h.2 c14
          refine x_aload_n (by decide +kernel : am_at co_X2_giveName 74 = some (1, .aload_n 2)) rfl ?_
          refine x_aload_n (by decide +kernel : am_at co_X2_giveName 75 = some (1, .aload_n 2)) rfl ?_
          refine x_getf (by decide +kernel : am_at co_X2_giveName 76 = some (3, .getfield 73)) pq_2_73 rfl o13 ?_
          refine x_iload (by decide +kernel : am_at co_X2_giveName 79 = some (2, .iload 5)) rfl ?_
          obtain ⟨o17, h⟩ := h
          refine x_iadd (by decide +kernel : am_at co_X2_giveName 81 = some (1, .iadd)) o17 ?_
          refine x_callV (n := 2) (by decide +kernel : am_at co_X2_giveName 82 = some (3, .invokevirtual 76)) pq_2_76 pm_X9_byteAt rfl rfl rfl o13 h (x_k0 fun x19 M19 h => ?_)
          refine x_bipush (by decide +kernel : am_at co_X2_giveName 85 = some (2, .bipush 97)) ?_
          obtain ⟨o19, h⟩ := h
          refine x_isub (by decide +kernel : am_at co_X2_giveName 87 = some (1, .isub)) o19 ?_
          refine x_iconst (by decide +kernel : am_at co_X2_giveName 88 = some (1, .iconst 1)) ?_
          obtain ⟨o20, h⟩ := h
          refine x_iadd (by decide +kernel : am_at co_X2_giveName 89 = some (1, .iadd)) o20 ?_
          refine x_goto (tgt := 94) (by decide +kernel : am_at co_X2_giveName 90 = some (3, .goto 4)) rfl ?_
          obtain ⟨o21, h⟩ := h
          refine x_iast (by decide +kernel : am_at co_X2_giveName 94 = some (1, .iastore)) (o21) ?_
          obtain ⟨o22, h⟩ := h
          refine x_iinc (L' := [(2, v0), (0, v1), (2, v2), (0, v3), (0, v4), (0, v5 + 1)]) (by decide +kernel : am_at co_X2_giveName 95 = some (3, .iinc 5 1)) rfl o22 rfl ?_
          refine x_goto (tgt := 31) (by decide +kernel : am_at co_X2_giveName 98 = some (3, .goto (-67))) rfl ?_
          exact am_weak (lk (lk (lk (lk (lk (lk ln)))))) h
set_option maxRecDepth 20000 in
theorem bk_X2_findName_0 {d : Nat} {Q : am_Q} {M : am_M} {v0 v1 v2 : Int} (h : am_g 2 0 co_X2_findName d Q 2 [(2, v0), (0, v1), (2, v2), (0, 0), (3, 0), (3, 0), (3, 0)] [] sh_T M) : am_g 2 0 co_X2_findName d Q 0 [(2, v0), (0, v1), (2, v2), (3, 0), (3, 0), (3, 0), (3, 0)] [] sh_T M := by
  refine x_iconst (by decide +kernel : am_at co_X2_findName 0 = some (1, .iconst 0)) ?_
  refine x_istore_n (L' := [(2, v0), (0, v1), (2, v2), (0, 0), (3, 0), (3, 0), (3, 0)]) (by decide +kernel : am_at co_X2_findName 1 = some (1, .istore_n 3)) rfl ?_
  exact am_weak (lk (lk (lk (lk (lk (lk (lk ln))))))) h
set_option maxRecDepth 20000 in
theorem bk_X2_findName_2 {d : Nat} {Q : am_Q} {M : am_M} {v0 v1 v2 v3 : Int} (h : am_ob sh_T 2 v0 ∧ am_cal pg d 14 [(2, v0), (0, v1)] sh_T M (am_c0 sh_T fun x2 M2 => ((x2 ≤ v3 → Q (some (0, (-1)), sh_T, M2)) ∧ (v3 < x2 → am_g 2 0 co_X2_findName d Q 17 [(2, v0), (0, v1), (2, v2), (0, v3), (0, 1), (0, 0), (3, 0)] [] sh_T M2)))) : am_g 2 0 co_X2_findName d Q 2 [(2, v0), (0, v1), (2, v2), (0, v3), (3, 0), (3, 0), (3, 0)] [] sh_T M := by
  refine x_iload_n (by decide +kernel : am_at co_X2_findName 2 = some (1, .iload_n 3)) rfl ?_
  refine x_aload_n (by decide +kernel : am_at co_X2_findName 3 = some (1, .aload_n 0)) rfl ?_
  refine x_iload_n (by decide +kernel : am_at co_X2_findName 4 = some (1, .iload_n 1)) rfl ?_
  obtain ⟨o0, h⟩ := h
  refine x_callV (n := 2) (by decide +kernel : am_at co_X2_findName 5 = some (3, .invokevirtual 53)) pq_2_53 pm_X2_count rfl rfl rfl o0 h (x_k0 fun x2 M2 h => ?_)
  refine x_icmp (tgt := 103) (by decide +kernel : am_at co_X2_findName 8 = some (3, .if_icmp .ge 95)) rfl Iff.rfl (fun c2 => ?_) (fun c2 => ?_)
  · have h := h.1 c2
    refine x_iconst (by decide +kernel : am_at co_X2_findName 103 = some (1, .iconst (-1))) ?_
    exact x_iret (by decide +kernel : am_at co_X2_findName 104 = some (1, .ireturn)) h
  · have c2 := (Int.not_le.mp c2)
    have h := h.2 c2
    refine x_iconst (by decide +kernel : am_at co_X2_findName 11 = some (1, .iconst 1)) ?_
    refine x_istore (L' := [(2, v0), (0, v1), (2, v2), (0, v3), (0, 1), (3, 0), (3, 0)]) (by decide +kernel : am_at co_X2_findName 12 = some (2, .istore 4)) rfl ?_
    refine x_iconst (by decide +kernel : am_at co_X2_findName 14 = some (1, .iconst 0)) ?_
    refine x_istore (L' := [(2, v0), (0, v1), (2, v2), (0, v3), (0, 1), (0, 0), (3, 0)]) (by decide +kernel : am_at co_X2_findName 15 = some (2, .istore 5)) rfl ?_
    exact am_weak (lk (lk (lk (lk (lk (lk (lk ln))))))) h
set_option maxRecDepth 20000 in
theorem bk_X2_findName_17 {d : Nat} {Q : am_Q} {M : am_M} {v0 v1 v2 v3 v4 v5 : Int} (h : ((6 ≤ v5 → ((v4 = 0 → am_r (v3 + 1) ∧ am_g 2 0 co_X2_findName d Q 2 [(2, v0), (0, v1), (2, v2), (0, v3 + 1), (3, 0), (3, 0), (3, 0)] [] sh_T M) ∧ (¬ v4 = 0 → Q (some (0, v3), sh_T, M)))) ∧ (v5 < 6 → am_ob sh_T 9 v2 ∧ ((M v2 7 ≤ v5 → ((v4 = 0 → am_r (v5 + 1) ∧ am_g 2 0 co_X2_findName d Q 17 [(2, v0), (0, v1), (2, v2), (0, v3), (0, 0), (0, v5 + 1), (3, 0)] [] sh_T M) ∧ (¬ v4 = 0 → am_ob sh_T 2 v0 ∧ am_cal pg d 17 [(2, v0), (0, v1), (0, v3)] sh_T M (am_c0 sh_T fun x9 M9 => am_cal pg d 18 [(2, v0), (0, x9), (0, v5)] sh_T M9 (am_c0 sh_T fun x10 M10 => ((¬ 0 = x10 → am_r (v5 + 1) ∧ am_g 2 0 co_X2_findName d Q 17 [(2, v0), (0, v1), (2, v2), (0, v3), (0, 0), (0, v5 + 1), (3, 0)] [] sh_T M10) ∧ (0 = x10 → am_r (v5 + 1) ∧ am_g 2 0 co_X2_findName d Q 17 [(2, v0), (0, v1), (2, v2), (0, v3), (0, 1), (0, v5 + 1), (3, 0)] [] sh_T M10))))))) ∧ (v5 < M v2 7 → am_r ((M v2 6) + v5) ∧ am_cal pg d 92 [(2, v2), (0, (M v2 6) + v5)] sh_T M (am_c0 sh_T fun x15 M15 => am_r (x15 - 97) ∧ am_r ((x15 - 97) + 1) ∧ ((v4 = 0 → am_r (v5 + 1) ∧ am_g 2 0 co_X2_findName d Q 17 [(2, v0), (0, v1), (2, v2), (0, v3), (0, 0), (0, v5 + 1), (3, 0)] [] sh_T M15) ∧ (¬ v4 = 0 → am_ob sh_T 2 v0 ∧ am_cal pg d 17 [(2, v0), (0, v1), (0, v3)] sh_T M15 (am_c0 sh_T fun x21 M21 => am_cal pg d 18 [(2, v0), (0, x21), (0, v5)] sh_T M21 (am_c0 sh_T fun x22 M22 => ((¬ (x15 - 97) + 1 = x22 → am_r (v5 + 1) ∧ am_g 2 0 co_X2_findName d Q 17 [(2, v0), (0, v1), (2, v2), (0, v3), (0, 0), (0, v5 + 1), (3, 0)] [] sh_T M22) ∧ ((x15 - 97) + 1 = x22 → am_r (v5 + 1) ∧ am_g 2 0 co_X2_findName d Q 17 [(2, v0), (0, v1), (2, v2), (0, v3), (0, 1), (0, v5 + 1), (3, 0)] [] sh_T M22)))))))))))) : am_g 2 0 co_X2_findName d Q 17 [(2, v0), (0, v1), (2, v2), (0, v3), (0, v4), (0, v5), (3, 0)] [] sh_T M := by
  refine x_iload (by decide +kernel : am_at co_X2_findName 17 = some (2, .iload 5)) rfl ?_
  refine x_bipush (by decide +kernel : am_at co_X2_findName 19 = some (2, .bipush 6)) ?_
  refine x_icmp (tgt := 90) (by decide +kernel : am_at co_X2_findName 21 = some (3, .if_icmp .ge 69)) rfl Iff.rfl (fun c0 => ?_) (fun c0 => ?_)
  · have h := h.1 c0
    refine x_iload (by decide +kernel : am_at co_X2_findName 90 = some (2, .iload 4)) rfl ?_
    refine x_if (tgt := 97) (by decide +kernel : am_at co_X2_findName 92 = some (3, .ifCond .eq 5)) rfl Iff.rfl (fun c1 => ?_) (fun c1 => ?_)
    · have h := h.1 c1
      obtain ⟨o2, h⟩ := h
      refine x_iinc (L' := [(2, v0), (0, v1), (2, v2), (0, v3 + 1), (0, v4), (0, v5), (3, 0)]) (by decide +kernel : am_at co_X2_findName 97 = some (3, .iinc 3 1)) rfl o2 rfl ?_
      refine x_goto (tgt := 2) (by decide +kernel : am_at co_X2_findName 100 = some (3, .goto (-98))) rfl ?_
      exact am_weak (lk (lk (lk (lk (ld (ld (lk ln))))))) h
    · have c1 := c1
      have h := h.2 c1
      refine x_iload_n (by decide +kernel : am_at co_X2_findName 95 = some (1, .iload_n 3)) rfl ?_
      exact x_iret (by decide +kernel : am_at co_X2_findName 96 = some (1, .ireturn)) h
  · have c0 := (Int.not_le.mp c0)
    have h := h.2 c0
    refine x_iload (by decide +kernel : am_at co_X2_findName 24 = some (2, .iload 5)) rfl ?_
    refine x_aload_n (by decide +kernel : am_at co_X2_findName 26 = some (1, .aload_n 2)) rfl ?_
    obtain ⟨o3, h⟩ := h
    refine x_getf (by decide +kernel : am_at co_X2_findName 27 = some (3, .getfield 68)) pq_2_68 rfl o3 ?_
    refine x_icmp (tgt := 52) (by decide +kernel : am_at co_X2_findName 30 = some (3, .if_icmp .ge 22)) rfl Iff.rfl (fun c4 => ?_) (fun c4 => ?_)
    · have h := h.1 c4
      refine x_iconst (by decide +kernel : am_at co_X2_findName 52 = some (1, .iconst 0)) ?_
      refine x_istore (L' := [(2, v0), (0, v1), (2, v2), (0, v3), (0, v4), (0, v5), (0, 0)]) (by decide +kernel : am_at co_X2_findName 53 = some (2, .istore 6)) rfl ?_
      refine x_iload (by decide +kernel : am_at co_X2_findName 55 = some (2, .iload 4)) rfl ?_
      refine x_if (tgt := 81) (by decide +kernel : am_at co_X2_findName 57 = some (3, .ifCond .eq 24)) rfl Iff.rfl (fun c5 => ?_) (fun c5 => ?_)
      · have h := h.1 c5
        refine x_iconst (by decide +kernel : am_at co_X2_findName 81 = some (1, .iconst 0)) ?_
        refine x_istore (L' := [(2, v0), (0, v1), (2, v2), (0, v3), (0, 0), (0, v5), (0, 0)]) (by decide +kernel : am_at co_X2_findName 82 = some (2, .istore 4)) rfl ?_
        obtain ⟨o6, h⟩ := h
        refine x_iinc (L' := [(2, v0), (0, v1), (2, v2), (0, v3), (0, 0), (0, v5 + 1), (0, 0)]) (by decide +kernel : am_at co_X2_findName 84 = some (3, .iinc 5 1)) rfl o6 rfl ?_
        refine x_goto (tgt := 17) (by decide +kernel : am_at co_X2_findName 87 = some (3, .goto (-70))) rfl ?_
        exact am_weak (lk (lk (lk (lk (lk (lk (ld ln))))))) h
      · have c5 := c5
        have h := h.2 c5
        refine x_iload (by decide +kernel : am_at co_X2_findName 60 = some (2, .iload 6)) rfl ?_
        refine x_aload_n (by decide +kernel : am_at co_X2_findName 62 = some (1, .aload_n 0)) rfl ?_
        refine x_aload_n (by decide +kernel : am_at co_X2_findName 63 = some (1, .aload_n 0)) rfl ?_
        refine x_iload_n (by decide +kernel : am_at co_X2_findName 64 = some (1, .iload_n 1)) rfl ?_
        refine x_iload_n (by decide +kernel : am_at co_X2_findName 65 = some (1, .iload_n 3)) rfl ?_
        obtain ⟨o7, h⟩ := h
        refine x_callV (n := 3) (by decide +kernel : am_at co_X2_findName 66 = some (3, .invokevirtual 64)) pq_2_64 pm_X2_placeOf rfl rfl rfl o7 h (x_k0 fun x9 M9 h => ?_)
        refine x_iload (by decide +kernel : am_at co_X2_findName 69 = some (2, .iload 5)) rfl ?_
        refine x_callV (n := 3) (by decide +kernel : am_at co_X2_findName 71 = some (3, .invokevirtual 79)) pq_2_79 pm_X2_letterAt rfl rfl rfl o7 h (x_k0 fun x10 M10 h => ?_)
        refine x_icmp (tgt := 81) (by decide +kernel : am_at co_X2_findName 74 = some (3, .if_icmp .ne 7)) rfl Iff.rfl (fun c10 => ?_) (fun c10 => ?_)
        · have h := h.1 c10
          refine x_iconst (by decide +kernel : am_at co_X2_findName 81 = some (1, .iconst 0)) ?_
          refine x_istore (L' := [(2, v0), (0, v1), (2, v2), (0, v3), (0, 0), (0, v5), (0, 0)]) (by decide +kernel : am_at co_X2_findName 82 = some (2, .istore 4)) rfl ?_
          obtain ⟨o11, h⟩ := h
          refine x_iinc (L' := [(2, v0), (0, v1), (2, v2), (0, v3), (0, 0), (0, v5 + 1), (0, 0)]) (by decide +kernel : am_at co_X2_findName 84 = some (3, .iinc 5 1)) rfl o11 rfl ?_
          refine x_goto (tgt := 17) (by decide +kernel : am_at co_X2_findName 87 = some (3, .goto (-70))) rfl ?_
          exact am_weak (lk (lk (lk (lk (lk (lk (ld ln))))))) h
        · have c10 := (Classical.not_not.mp c10)
          have h := h.2 c10
          refine x_iconst (by decide +kernel : am_at co_X2_findName 77 = some (1, .iconst 1)) ?_
          refine x_goto (tgt := 82) (by decide +kernel : am_at co_X2_findName 78 = some (3, .goto 4)) rfl ?_
          refine x_istore (L' := [(2, v0), (0, v1), (2, v2), (0, v3), (0, 1), (0, v5), (0, 0)]) (by decide +kernel : am_at co_X2_findName 82 = some (2, .istore 4)) rfl ?_
          obtain ⟨o12, h⟩ := h
          refine x_iinc (L' := [(2, v0), (0, v1), (2, v2), (0, v3), (0, 1), (0, v5 + 1), (0, 0)]) (by decide +kernel : am_at co_X2_findName 84 = some (3, .iinc 5 1)) rfl o12 rfl ?_
          refine x_goto (tgt := 17) (by decide +kernel : am_at co_X2_findName 87 = some (3, .goto (-70))) rfl ?_
          exact am_weak (lk (lk (lk (lk (lk (lk (ld ln))))))) h
    · have c4 := (Int.not_le.mp c4)
      have h := h.2 c4
      refine x_aload_n (by decide +kernel : am_at co_X2_findName 33 = some (1, .aload_n 2)) rfl ?_
      refine x_aload_n (by decide +kernel : am_at co_X2_findName 34 = some (1, .aload_n 2)) rfl ?_
      refine x_getf (by decide +kernel : am_at co_X2_findName 35 = some (3, .getfield 73)) pq_2_73 rfl o3 ?_
      refine x_iload (by decide +kernel : am_at co_X2_findName 38 = some (2, .iload 5)) rfl ?_
      obtain ⟨o13, h⟩ := h
      refine x_iadd (by decide +kernel : am_at co_X2_findName 40 = some (1, .iadd)) o13 ?_
      refine x_callV (n := 2) (by decide +kernel : am_at co_X2_findName 41 = some (3, .invokevirtual 76)) pq_2_76 pm_X9_byteAt rfl rfl rfl o3 h (x_k0 fun x15 M15 h => ?_)
      refine x_bipush (by decide +kernel : am_at co_X2_findName 44 = some (2, .bipush 97)) ?_
      obtain ⟨o15, h⟩ := h
      refine x_isub (by decide +kernel : am_at co_X2_findName 46 = some (1, .isub)) o15 ?_
      refine x_iconst (by decide +kernel : am_at co_X2_findName 47 = some (1, .iconst 1)) ?_
      obtain ⟨o16, h⟩ := h
      refine x_iadd (by decide +kernel : am_at co_X2_findName 48 = some (1, .iadd)) o16 ?_
      refine x_goto (tgt := 53) (by decide +kernel : am_at co_X2_findName 49 = some (3, .goto 4)) rfl ?_
      refine x_istore (L' := [(2, v0), (0, v1), (2, v2), (0, v3), (0, v4), (0, v5), (0, (x15 - 97) + 1)]) (by decide +kernel : am_at co_X2_findName 53 = some (2, .istore 6)) rfl ?_
      refine x_iload (by decide +kernel : am_at co_X2_findName 55 = some (2, .iload 4)) rfl ?_
      refine x_if (tgt := 81) (by decide +kernel : am_at co_X2_findName 57 = some (3, .ifCond .eq 24)) rfl Iff.rfl (fun c17 => ?_) (fun c17 => ?_)
      · have h := h.1 c17
        refine x_iconst (by decide +kernel : am_at co_X2_findName 81 = some (1, .iconst 0)) ?_
        refine x_istore (L' := [(2, v0), (0, v1), (2, v2), (0, v3), (0, 0), (0, v5), (0, (x15 - 97) + 1)]) (by decide +kernel : am_at co_X2_findName 82 = some (2, .istore 4)) rfl ?_
        obtain ⟨o18, h⟩ := h
        refine x_iinc (L' := [(2, v0), (0, v1), (2, v2), (0, v3), (0, 0), (0, v5 + 1), (0, (x15 - 97) + 1)]) (by decide +kernel : am_at co_X2_findName 84 = some (3, .iinc 5 1)) rfl o18 rfl ?_
        refine x_goto (tgt := 17) (by decide +kernel : am_at co_X2_findName 87 = some (3, .goto (-70))) rfl ?_
        exact am_weak (lk (lk (lk (lk (lk (lk (ld ln))))))) h
      · have c17 := c17
        have h := h.2 c17
        refine x_iload (by decide +kernel : am_at co_X2_findName 60 = some (2, .iload 6)) rfl ?_
        refine x_aload_n (by decide +kernel : am_at co_X2_findName 62 = some (1, .aload_n 0)) rfl ?_
        refine x_aload_n (by decide +kernel : am_at co_X2_findName 63 = some (1, .aload_n 0)) rfl ?_
        refine x_iload_n (by decide +kernel : am_at co_X2_findName 64 = some (1, .iload_n 1)) rfl ?_
        refine x_iload_n (by decide +kernel : am_at co_X2_findName 65 = some (1, .iload_n 3)) rfl ?_
        obtain ⟨o19, h⟩ := h
        refine x_callV (n := 3) (by decide +kernel : am_at co_X2_findName 66 = some (3, .invokevirtual 64)) pq_2_64 pm_X2_placeOf rfl rfl rfl o19 h (x_k0 fun x21 M21 h => ?_)
        refine x_iload (by decide +kernel : am_at co_X2_findName 69 = some (2, .iload 5)) rfl ?_
        refine x_callV (n := 3) (by decide +kernel : am_at co_X2_findName 71 = some (3, .invokevirtual 79)) pq_2_79 pm_X2_letterAt rfl rfl rfl o19 h (x_k0 fun x22 M22 h => ?_)
        refine x_icmp (tgt := 81) (by decide +kernel : am_at co_X2_findName 74 = some (3, .if_icmp .ne 7)) rfl Iff.rfl (fun c22 => ?_) (fun c22 => ?_)
        · have h := h.1 c22
          refine x_iconst (by decide +kernel : am_at co_X2_findName 81 = some (1, .iconst 0)) ?_
          refine x_istore (L' := [(2, v0), (0, v1), (2, v2), (0, v3), (0, 0), (0, v5), (0, (x15 - 97) + 1)]) (by decide +kernel : am_at co_X2_findName 82 = some (2, .istore 4)) rfl ?_
          obtain ⟨o23, h⟩ := h
          refine x_iinc (L' := [(2, v0), (0, v1), (2, v2), (0, v3), (0, 0), (0, v5 + 1), (0, (x15 - 97) + 1)]) (by decide +kernel : am_at co_X2_findName 84 = some (3, .iinc 5 1)) rfl o23 rfl ?_
          refine x_goto (tgt := 17) (by decide +kernel : am_at co_X2_findName 87 = some (3, .goto (-70))) rfl ?_
          exact am_weak (lk (lk (lk (lk (lk (lk (ld ln))))))) h
        · have c22 := (Classical.not_not.mp c22)
          have h := h.2 c22
          refine x_iconst (by decide +kernel : am_at co_X2_findName 77 = some (1, .iconst 1)) ?_
          refine x_goto (tgt := 82) (by decide +kernel : am_at co_X2_findName 78 = some (3, .goto 4)) rfl ?_
          refine x_istore (L' := [(2, v0), (0, v1), (2, v2), (0, v3), (0, 1), (0, v5), (0, (x15 - 97) + 1)]) (by decide +kernel : am_at co_X2_findName 82 = some (2, .istore 4)) rfl ?_
          obtain ⟨o24, h⟩ := h
          refine x_iinc (L' := [(2, v0), (0, v1), (2, v2), (0, v3), (0, 1), (0, v5 + 1), (0, (x15 - 97) + 1)]) (by decide +kernel : am_at co_X2_findName 84 = some (3, .iinc 5 1)) rfl o24 rfl ?_
          refine x_goto (tgt := 17) (by decide +kernel : am_at co_X2_findName 87 = some (3, .goto (-70))) rfl ?_
          exact am_weak (lk (lk (lk (lk (lk (lk (ld ln))))))) h
set_option maxRecDepth 20000 in
theorem bk_X2_brave_0 {d : Nat} {Q : am_Q} {M : am_M} {v0 v1 v2 : Int} (h : ((v1 < 0 → Q (none, sh_T, M)) ∧ (0 ≤ v1 → am_ob sh_T 2 v0 ∧ ∃ n2 : Nat, am_alen pg sh_T (v0 + 3) = some n2 ∧ (((n2 : Int) ≤ v1 → Q (none, sh_T, M)) ∧ (v1 < (n2 : Int) → am_own sh_T 1 (v0 + 3) v1 ∧ Q (none, sh_T, (am_up M (v0 + 3) v1 v2))))))) : am_g 2 9 co_X2_brave d Q 0 [(2, v0), (0, v1), (0, v2)] [] sh_T M := by
  refine x_iload_n (by decide +kernel : am_at co_X2_brave 0 = some (1, .iload_n 1)) rfl ?_
  refine x_if (tgt := 20) (by decide +kernel : am_at co_X2_brave 1 = some (3, .ifCond .lt 19)) rfl Iff.rfl (fun c0 => ?_) (fun c0 => ?_)
  · have h := h.1 c0
    exact x_vret (by decide +kernel : am_at co_X2_brave 20 = some (1, .return_)) h
  · have c0 := (Int.not_lt.mp c0)
    have h := h.2 c0
    refine x_iload_n (by decide +kernel : am_at co_X2_brave 4 = some (1, .iload_n 1)) rfl ?_
    refine x_aload_n (by decide +kernel : am_at co_X2_brave 5 = some (1, .aload_n 0)) rfl ?_
    obtain ⟨o1, h⟩ := h
    refine x_getF (by decide +kernel : am_at co_X2_brave 6 = some (3, .getfield 18)) pq_2_18 (by decide) rfl o1 ?_
    obtain ⟨n2, o2, h⟩ := h
    refine x_alen (by decide +kernel : am_at co_X2_brave 9 = some (1, .arraylength)) o2 ?_
    refine x_icmp (tgt := 20) (by decide +kernel : am_at co_X2_brave 10 = some (3, .if_icmp .ge 10)) rfl Iff.rfl (fun c3 => ?_) (fun c3 => ?_)
    · have h := h.1 c3
      exact x_vret (by decide +kernel : am_at co_X2_brave 20 = some (1, .return_)) h
    · have c3 := (Int.not_le.mp c3)
      have h := h.2 c3
      refine x_aload_n (by decide +kernel : am_at co_X2_brave 13 = some (1, .aload_n 0)) rfl ?_
      refine x_getF (by decide +kernel : am_at co_X2_brave 14 = some (3, .getfield 18)) pq_2_18 (by decide) rfl o1 ?_
      refine x_iload_n (by decide +kernel : am_at co_X2_brave 17 = some (1, .iload_n 1)) rfl ?_
      refine x_iload_n (by decide +kernel : am_at co_X2_brave 18 = some (1, .iload_n 2)) rfl ?_
      obtain ⟨o4, h⟩ := h
      refine x_iast (by decide +kernel : am_at co_X2_brave 19 = some (1, .iastore)) (o4) ?_
      exact x_vret (by decide +kernel : am_at co_X2_brave 20 = some (1, .return_)) h
set_option maxRecDepth 20000 in
theorem bk_X2_fear_0 {d : Nat} {Q : am_Q} {M : am_M} {v0 v1 v2 v3 : Int} (h : am_r (v1 * 6) ∧ am_r ((v1 * 6) + v2) ∧ ((v1 < 0 → Q (none, sh_T, M)) ∧ (0 ≤ v1 → ((v2 < 0 → Q (none, sh_T, M)) ∧ (0 ≤ v2 → ((6 ≤ v2 → Q (none, sh_T, M)) ∧ (v2 < 6 → am_ob sh_T 2 v0 ∧ ∃ n6 : Nat, am_alen pg sh_T (v0 + 4) = some n6 ∧ (((n6 : Int) ≤ (v1 * 6) + v2 → Q (none, sh_T, M)) ∧ ((v1 * 6) + v2 < (n6 : Int) → am_own sh_T 1 (v0 + 4) ((v1 * 6) + v2) ∧ Q (none, sh_T, (am_up M (v0 + 4) ((v1 * 6) + v2) v3))))))))))) : am_g 2 9 co_X2_fear d Q 0 [(2, v0), (0, v1), (0, v2), (0, v3), (3, 0)] [] sh_T M := by
  refine x_iload_n (by decide +kernel : am_at co_X2_fear 0 = some (1, .iload_n 1)) rfl ?_
  refine x_bipush (by decide +kernel : am_at co_X2_fear 1 = some (2, .bipush 6)) ?_
  obtain ⟨o0, h⟩ := h
  refine x_imul (by decide +kernel : am_at co_X2_fear 3 = some (1, .imul)) o0 ?_
  refine x_iload_n (by decide +kernel : am_at co_X2_fear 4 = some (1, .iload_n 2)) rfl ?_
  obtain ⟨o1, h⟩ := h
  refine x_iadd (by decide +kernel : am_at co_X2_fear 5 = some (1, .iadd)) o1 ?_
  refine x_istore (L' := [(2, v0), (0, v1), (0, v2), (0, v3), (0, (v1 * 6) + v2)]) (by decide +kernel : am_at co_X2_fear 6 = some (2, .istore 4)) rfl ?_
  refine x_iload_n (by decide +kernel : am_at co_X2_fear 8 = some (1, .iload_n 1)) rfl ?_
  refine x_if (tgt := 40) (by decide +kernel : am_at co_X2_fear 9 = some (3, .ifCond .lt 31)) rfl Iff.rfl (fun c2 => ?_) (fun c2 => ?_)
  · have h := h.1 c2
    exact x_vret (by decide +kernel : am_at co_X2_fear 40 = some (1, .return_)) h
  · have c2 := (Int.not_lt.mp c2)
    have h := h.2 c2
    refine x_iload_n (by decide +kernel : am_at co_X2_fear 12 = some (1, .iload_n 2)) rfl ?_
    refine x_if (tgt := 40) (by decide +kernel : am_at co_X2_fear 13 = some (3, .ifCond .lt 27)) rfl Iff.rfl (fun c3 => ?_) (fun c3 => ?_)
    · have h := h.1 c3
      exact x_vret (by decide +kernel : am_at co_X2_fear 40 = some (1, .return_)) h
    · have c3 := (Int.not_lt.mp c3)
      have h := h.2 c3
      refine x_iload_n (by decide +kernel : am_at co_X2_fear 16 = some (1, .iload_n 2)) rfl ?_
      refine x_bipush (by decide +kernel : am_at co_X2_fear 17 = some (2, .bipush 6)) ?_
      refine x_icmp (tgt := 40) (by decide +kernel : am_at co_X2_fear 19 = some (3, .if_icmp .ge 21)) rfl Iff.rfl (fun c4 => ?_) (fun c4 => ?_)
      · have h := h.1 c4
        exact x_vret (by decide +kernel : am_at co_X2_fear 40 = some (1, .return_)) h
      · have c4 := (Int.not_le.mp c4)
        have h := h.2 c4
        refine x_iload (by decide +kernel : am_at co_X2_fear 22 = some (2, .iload 4)) rfl ?_
        refine x_aload_n (by decide +kernel : am_at co_X2_fear 24 = some (1, .aload_n 0)) rfl ?_
        obtain ⟨o5, h⟩ := h
        refine x_getF (by decide +kernel : am_at co_X2_fear 25 = some (3, .getfield 21)) pq_2_21 (by decide) rfl o5 ?_
        obtain ⟨n6, o6, h⟩ := h
        refine x_alen (by decide +kernel : am_at co_X2_fear 28 = some (1, .arraylength)) o6 ?_
        refine x_icmp (tgt := 40) (by decide +kernel : am_at co_X2_fear 29 = some (3, .if_icmp .ge 11)) rfl Iff.rfl (fun c7 => ?_) (fun c7 => ?_)
        · have h := h.1 c7
          exact x_vret (by decide +kernel : am_at co_X2_fear 40 = some (1, .return_)) h
        · have c7 := (Int.not_le.mp c7)
          have h := h.2 c7
          refine x_aload_n (by decide +kernel : am_at co_X2_fear 32 = some (1, .aload_n 0)) rfl ?_
          refine x_getF (by decide +kernel : am_at co_X2_fear 33 = some (3, .getfield 21)) pq_2_21 (by decide) rfl o5 ?_
          refine x_iload (by decide +kernel : am_at co_X2_fear 36 = some (2, .iload 4)) rfl ?_
          refine x_iload_n (by decide +kernel : am_at co_X2_fear 38 = some (1, .iload_n 3)) rfl ?_
          obtain ⟨o8, h⟩ := h
          refine x_iast (by decide +kernel : am_at co_X2_fear 39 = some (1, .iastore)) (o8) ?_
          exact x_vret (by decide +kernel : am_at co_X2_fear 40 = some (1, .return_)) h
