/-! blocks (printed) -/
set_option maxRecDepth 20000 in
theorem bk_X6_pop_0 {d : Nat} {Q : am_Q} {M : am_M} {v0 : Int} (h : am_ob sh_T 6 v0 ∧ ((M v0 3 ≤ 0 → Q (some (0, 0), sh_T, M)) ∧ (0 < M v0 3 → ∃ n2 : Nat, am_alen pg sh_T (v0 + 2) = some n2 ∧ ((M v0 3 ≤ (n2 : Int) → am_r ((M v0 3) - 1) ∧ am_in pg sh_T 1 (v0 + 2) ((M v0 3) - 1) ∧ Q (some (0, (am_up M v0 3 ((M v0 3) - 1)) (v0 + 2) ((M v0 3) - 1)), sh_T, (am_up M v0 3 ((M v0 3) - 1)))) ∧ ((n2 : Int) < M v0 3 → Q (some (0, 0), sh_T, M)))))) : am_g 6 0 co_X6_pop d Q 0 [(2, v0)] [] sh_T M := by
  refine x_aload_n (by decide +kernel : am_at co_X6_pop 0 = some (1, .aload_n 0)) rfl ?_
  obtain ⟨o0, h⟩ := h
  refine x_getf (by decide +kernel : am_at co_X6_pop 1 = some (3, .getfield 22)) pq_6_22 rfl o0 ?_
  refine x_if (tgt := 19) (by decide +kernel : am_at co_X6_pop 4 = some (3, .ifCond .le 15)) rfl Iff.rfl (fun c1 => ?_) (fun c1 => ?_)
  · have h := h.1 c1
    refine x_iconst (by decide +kernel : am_at co_X6_pop 19 = some (1, .iconst 0)) ?_
    exact x_iret (by decide +kernel : am_at co_X6_pop 20 = some (1, .ireturn)) h
  · have c1 := (Int.not_le.mp c1)
    have h := h.2 c1
    refine x_aload_n (by decide +kernel : am_at co_X6_pop 7 = some (1, .aload_n 0)) rfl ?_
    refine x_getf (by decide +kernel : am_at co_X6_pop 8 = some (3, .getfield 22)) pq_6_22 rfl o0 ?_
    refine x_aload_n (by decide +kernel : am_at co_X6_pop 11 = some (1, .aload_n 0)) rfl ?_
    refine x_getF (by decide +kernel : am_at co_X6_pop 12 = some (3, .getfield 19)) pq_6_19 (by decide) rfl o0 ?_
    obtain ⟨n2, o2, h⟩ := h
    refine x_alen (by decide +kernel : am_at co_X6_pop 15 = some (1, .arraylength)) o2 ?_
    refine x_icmp (tgt := 21) (by decide +kernel : am_at co_X6_pop 16 = some (3, .if_icmp .le 5)) rfl Iff.rfl (fun c3 => ?_) (fun c3 => ?_)
    · have h := h.1 c3
      refine x_aload_n (by decide +kernel : am_at co_X6_pop 21 = some (1, .aload_n 0)) rfl ?_
      refine x_dup2' (by decide +kernel : am_at co_X6_pop 22 = some (1, .dup)) ?_
      refine x_getf (by decide +kernel : am_at co_X6_pop 23 = some (3, .getfield 22)) pq_6_22 rfl o0 ?_
      refine x_iconst (by decide +kernel : am_at co_X6_pop 26 = some (1, .iconst 1)) ?_
      obtain ⟨o4, h⟩ := h
      refine x_isub (by decide +kernel : am_at co_X6_pop 27 = some (1, .isub)) o4 ?_
      refine x_putf0 (by decide +kernel : am_at co_X6_pop 28 = some (3, .putfield 22)) pq_6_22 rfl o0 ?_
      refine x_aload_n (by decide +kernel : am_at co_X6_pop 31 = some (1, .aload_n 0)) rfl ?_
      refine x_getF (by decide +kernel : am_at co_X6_pop 32 = some (3, .getfield 19)) pq_6_19 (by decide) rfl o0 ?_
      refine x_aload_n (by decide +kernel : am_at co_X6_pop 35 = some (1, .aload_n 0)) rfl ?_
      refine x_getf (by decide +kernel : am_at co_X6_pop 36 = some (3, .getfield 22)) pq_6_22 rfl o0 ?_
      refine x_top0 (show (am_up M v0 3 ((M v0 3) - 1)) v0 3 = (M v0 3) - 1 from by first | rfl | simp [am_up]) ?_
      obtain ⟨o5, h⟩ := h
      refine x_iald (by decide +kernel : am_at co_X6_pop 39 = some (1, .iaload)) (o5) ?_
      exact x_iret (by decide +kernel : am_at co_X6_pop 40 = some (1, .ireturn)) h
    · have c3 := (Int.not_le.mp c3)
      have h := h.2 c3
      refine x_iconst (by decide +kernel : am_at co_X6_pop 19 = some (1, .iconst 0)) ?_
      exact x_iret (by decide +kernel : am_at co_X6_pop 20 = some (1, .ireturn)) h
set_option maxRecDepth 20000 in
theorem bk_X6_fact_0 {d : Nat} {Q : am_Q} {M : am_M} {v0 v1 : Int} (h : ((v1 < 0 → Q (some (0, 0), sh_T, M)) ∧ (0 ≤ v1 → am_ob sh_T 6 v0 ∧ ∃ n2 : Nat, am_alen pg sh_T (v0 + 3) = some n2 ∧ (((n2 : Int) ≤ v1 → Q (some (0, 0), sh_T, M)) ∧ (v1 < (n2 : Int) → am_in pg sh_T 1 (v0 + 3) v1 ∧ Q (some (0, M (v0 + 3) v1), sh_T, M)))))) : am_g 6 0 co_X6_fact d Q 0 [(2, v0), (0, v1)] [] sh_T M := by
  refine x_iload_n (by decide +kernel : am_at co_X6_fact 0 = some (1, .iload_n 1)) rfl ?_
  refine x_if (tgt := 22) (by decide +kernel : am_at co_X6_fact 1 = some (3, .ifCond .lt 21)) rfl Iff.rfl (fun c0 => ?_) (fun c0 => ?_)
  · have h := h.1 c0
    refine x_iconst (by decide +kernel : am_at co_X6_fact 22 = some (1, .iconst 0)) ?_
    exact x_iret (by decide +kernel : am_at co_X6_fact 23 = some (1, .ireturn)) h
  · have c0 := (Int.not_lt.mp c0)
    have h := h.2 c0
    refine x_iload_n (by decide +kernel : am_at co_X6_fact 4 = some (1, .iload_n 1)) rfl ?_
    refine x_aload_n (by decide +kernel : am_at co_X6_fact 5 = some (1, .aload_n 0)) rfl ?_
    obtain ⟨o1, h⟩ := h
    refine x_getF (by decide +kernel : am_at co_X6_fact 6 = some (3, .getfield 25)) pq_6_25 (by decide) rfl o1 ?_
    obtain ⟨n2, o2, h⟩ := h
    refine x_alen (by decide +kernel : am_at co_X6_fact 9 = some (1, .arraylength)) o2 ?_
    refine x_icmp (tgt := 22) (by decide +kernel : am_at co_X6_fact 10 = some (3, .if_icmp .ge 12)) rfl Iff.rfl (fun c3 => ?_) (fun c3 => ?_)
    · have h := h.1 c3
      refine x_iconst (by decide +kernel : am_at co_X6_fact 22 = some (1, .iconst 0)) ?_
      exact x_iret (by decide +kernel : am_at co_X6_fact 23 = some (1, .ireturn)) h
    · have c3 := (Int.not_le.mp c3)
      have h := h.2 c3
      refine x_aload_n (by decide +kernel : am_at co_X6_fact 13 = some (1, .aload_n 0)) rfl ?_
      refine x_getF (by decide +kernel : am_at co_X6_fact 14 = some (3, .getfield 25)) pq_6_25 (by decide) rfl o1 ?_
      refine x_iload_n (by decide +kernel : am_at co_X6_fact 17 = some (1, .iload_n 1)) rfl ?_
      obtain ⟨o4, h⟩ := h
      refine x_iald (by decide +kernel : am_at co_X6_fact 18 = some (1, .iaload)) (o4) ?_
      refine x_goto (tgt := 23) (by decide +kernel : am_at co_X6_fact 19 = some (3, .goto 4)) rfl ?_
      exact x_iret (by decide +kernel : am_at co_X6_fact 23 = some (1, .ireturn)) h
set_option maxRecDepth 20000 in
theorem bk_X6_weightOf_0 {d : Nat} {Q : am_Q} {M : am_M} {v0 v1 : Int} (h : ((v1 < 0 → Q (some (0, 0), sh_T, M)) ∧ (0 ≤ v1 → am_ob sh_T 6 v0 ∧ ∃ n2 : Nat, am_alen pg sh_T (v0 + 4) = some n2 ∧ (((n2 : Int) ≤ v1 → Q (some (0, 0), sh_T, M)) ∧ (v1 < (n2 : Int) → am_in pg sh_T 1 (v0 + 4) v1 ∧ Q (some (0, M (v0 + 4) v1), sh_T, M)))))) : am_g 6 0 co_X6_weightOf d Q 0 [(2, v0), (0, v1)] [] sh_T M := by
  refine x_iload_n (by decide +kernel : am_at co_X6_weightOf 0 = some (1, .iload_n 1)) rfl ?_
  refine x_if (tgt := 22) (by decide +kernel : am_at co_X6_weightOf 1 = some (3, .ifCond .lt 21)) rfl Iff.rfl (fun c0 => ?_) (fun c0 => ?_)
  · have h := h.1 c0
    refine x_iconst (by decide +kernel : am_at co_X6_weightOf 22 = some (1, .iconst 0)) ?_
    exact x_iret (by decide +kernel : am_at co_X6_weightOf 23 = some (1, .ireturn)) h
  · have c0 := (Int.not_lt.mp c0)
    have h := h.2 c0
    refine x_iload_n (by decide +kernel : am_at co_X6_weightOf 4 = some (1, .iload_n 1)) rfl ?_
    refine x_aload_n (by decide +kernel : am_at co_X6_weightOf 5 = some (1, .aload_n 0)) rfl ?_
    obtain ⟨o1, h⟩ := h
    refine x_getF (by decide +kernel : am_at co_X6_weightOf 6 = some (3, .getfield 28)) pq_6_28 (by decide) rfl o1 ?_
    obtain ⟨n2, o2, h⟩ := h
    refine x_alen (by decide +kernel : am_at co_X6_weightOf 9 = some (1, .arraylength)) o2 ?_
    refine x_icmp (tgt := 22) (by decide +kernel : am_at co_X6_weightOf 10 = some (3, .if_icmp .ge 12)) rfl Iff.rfl (fun c3 => ?_) (fun c3 => ?_)
    · have h := h.1 c3
      refine x_iconst (by decide +kernel : am_at co_X6_weightOf 22 = some (1, .iconst 0)) ?_
      exact x_iret (by decide +kernel : am_at co_X6_weightOf 23 = some (1, .ireturn)) h
    · have c3 := (Int.not_le.mp c3)
      have h := h.2 c3
      refine x_aload_n (by decide +kernel : am_at co_X6_weightOf 13 = some (1, .aload_n 0)) rfl ?_
      refine x_getF (by decide +kernel : am_at co_X6_weightOf 14 = some (3, .getfield 28)) pq_6_28 (by decide) rfl o1 ?_
      refine x_iload_n (by decide +kernel : am_at co_X6_weightOf 17 = some (1, .iload_n 1)) rfl ?_
      obtain ⟨o4, h⟩ := h
      refine x_iald (by decide +kernel : am_at co_X6_weightOf 18 = some (1, .iaload)) (o4) ?_
      refine x_goto (tgt := 23) (by decide +kernel : am_at co_X6_weightOf 19 = some (3, .goto 4)) rfl ?_
      exact x_iret (by decide +kernel : am_at co_X6_weightOf 23 = some (1, .ireturn)) h
set_option maxRecDepth 20000 in
theorem bk_X6_join_0 {d : Nat} {Q : am_Q} {M : am_M} {v0 v1 v2 : Int} (h : ((v0 < -11 ∨ -1 < v0 → Q (some (0, 0), sh_T, M)) ∧ (v0 = -11 → Q (some (0, am_bor v1 v2), sh_T, M)) ∧ (v0 = -10 → Q (some (0, am_band v1 v2), sh_T, M)) ∧ (v0 = -9 → ((¬ v1 = v2 → Q (some (0, 0), sh_T, M)) ∧ (v1 = v2 → Q (some (0, 1), sh_T, M)))) ∧ (v0 = -8 → ((v1 ≤ v2 → Q (some (0, 0), sh_T, M)) ∧ (v2 < v1 → Q (some (0, 1), sh_T, M)))) ∧ (v0 = -7 → ((v2 ≤ v1 → Q (some (0, 0), sh_T, M)) ∧ (v1 < v2 → Q (some (0, 1), sh_T, M)))) ∧ (v0 = -6 → am_cal pg d 316 [(0, v1), (0, v2)] sh_T M (am_c0 sh_T fun x4 M4 => Q (some (0, x4), sh_T, M4))) ∧ (v0 = -5 → am_cal pg d 318 [(0, v1), (0, v2)] sh_T M (am_c0 sh_T fun x5 M5 => Q (some (0, x5), sh_T, M5))) ∧ (v0 = -4 → ((¬ v2 = 0 → am_cal pg d 315 [(0, v1), (0, v2)] sh_T M (am_c0 sh_T fun x7 M7 => Q (some (0, x7), sh_T, M7))) ∧ (v2 = 0 → Q (some (0, 0), sh_T, M)))) ∧ (v0 = -3 → am_rl (v1 * v2) ∧ am_cal pg d 319 [(1, 1000000), (1, v1 * v2)] sh_T M (am_c1 sh_T fun x9 M9 => am_cal pg d 317 [(1, (-1000000)), (1, x9)] sh_T M9 (am_c1 sh_T fun x10 M10 => am_r (x10) ∧ Q (some (0, x10), sh_T, M10)))) ∧ (v0 = -2 → am_r (v1 - v2) ∧ am_cal pg d 318 [(0, 1000000), (0, v1 - v2)] sh_T M (am_c0 sh_T fun x13 M13 => am_cal pg d 316 [(0, (-1000000)), (0, x13)] sh_T M13 (am_c0 sh_T fun x14 M14 => Q (some (0, x14), sh_T, M14)))) ∧ (v0 = -1 → am_r (v1 + v2) ∧ am_cal pg d 318 [(0, 1000000), (0, v1 + v2)] sh_T M (am_c0 sh_T fun x16 M16 => am_cal pg d 316 [(0, (-1000000)), (0, x16)] sh_T M16 (am_c0 sh_T fun x17 M17 => Q (some (0, x17), sh_T, M17)))))) : am_g 6 0 co_X6_join d Q 0 [(0, v0), (0, v1), (0, v2)] [] sh_T M := by
  refine x_iload_n (by decide +kernel : am_at co_X6_join 0 = some (1, .iload_n 0)) rfl ?_
  refine x_tsw (by decide +kernel : am_at co_X6_join 1 = some (59, .tableswitch 173 (-11) (-1) #[169, 165, 154, 143, 132, 126, 120, 106, 87, 73, 59])) (fun q => ?_) (fun q1 q2 => ?_)
  · have h := h.1 q
    refine x_iconst (by decide +kernel : am_at co_X6_join 174 = some (1, .iconst 0)) ?_
    exact x_iret (by decide +kernel : am_at co_X6_join 175 = some (1, .ireturn)) h
  · rcases (show v0 = -11 ∨ v0 = -10 ∨ v0 = -9 ∨ v0 = -8 ∨ v0 = -7 ∨ v0 = -6 ∨ v0 = -5 ∨ v0 = -4 ∨ v0 = -3 ∨ v0 = -2 ∨ v0 = -1 by omega) with q | q | q | q | q | q | q | q | q | q | q
    · refine ⟨169, by rw [q]; rfl, ?_⟩
      have h := h.2.1 q
      refine x_iload_n (by decide +kernel : am_at co_X6_join 170 = some (1, .iload_n 1)) rfl ?_
      refine x_iload_n (by decide +kernel : am_at co_X6_join 171 = some (1, .iload_n 2)) rfl ?_
      refine x_ior (by decide +kernel : am_at co_X6_join 172 = some (1, .ior)) ?_
      exact x_iret (by decide +kernel : am_at co_X6_join 173 = some (1, .ireturn)) h
    · refine ⟨165, by rw [q]; rfl, ?_⟩
      have h := h.2.2.1 q
      refine x_iload_n (by decide +kernel : am_at co_X6_join 166 = some (1, .iload_n 1)) rfl ?_
      refine x_iload_n (by decide +kernel : am_at co_X6_join 167 = some (1, .iload_n 2)) rfl ?_
      refine x_iand (by decide +kernel : am_at co_X6_join 168 = some (1, .iand)) ?_
      exact x_iret (by decide +kernel : am_at co_X6_join 169 = some (1, .ireturn)) h
    · refine ⟨154, by rw [q]; rfl, ?_⟩
      have h := h.2.2.2.1 q
      refine x_iload_n (by decide +kernel : am_at co_X6_join 155 = some (1, .iload_n 1)) rfl ?_
      refine x_iload_n (by decide +kernel : am_at co_X6_join 156 = some (1, .iload_n 2)) rfl ?_
      refine x_icmp (tgt := 164) (by decide +kernel : am_at co_X6_join 157 = some (3, .if_icmp .ne 7)) rfl Iff.rfl (fun c0 => ?_) (fun c0 => ?_)
      · have h := h.1 c0
        refine x_iconst (by decide +kernel : am_at co_X6_join 164 = some (1, .iconst 0)) ?_
        exact x_iret (by decide +kernel : am_at co_X6_join 165 = some (1, .ireturn)) h
      · have c0 := (Classical.not_not.mp c0)
        have h := h.2 c0
        refine x_iconst (by decide +kernel : am_at co_X6_join 160 = some (1, .iconst 1)) ?_
        refine x_goto (tgt := 165) (by decide +kernel : am_at co_X6_join 161 = some (3, .goto 4)) rfl ?_
        exact x_iret (by decide +kernel : am_at co_X6_join 165 = some (1, .ireturn)) h
    · refine ⟨143, by rw [q]; rfl, ?_⟩
      have h := h.2.2.2.2.1 q
      refine x_iload_n (by decide +kernel : am_at co_X6_join 144 = some (1, .iload_n 1)) rfl ?_
      refine x_iload_n (by decide +kernel : am_at co_X6_join 145 = some (1, .iload_n 2)) rfl ?_
      refine x_icmp (tgt := 153) (by decide +kernel : am_at co_X6_join 146 = some (3, .if_icmp .le 7)) rfl Iff.rfl (fun c1 => ?_) (fun c1 => ?_)
      · have h := h.1 c1
        refine x_iconst (by decide +kernel : am_at co_X6_join 153 = some (1, .iconst 0)) ?_
        exact x_iret (by decide +kernel : am_at co_X6_join 154 = some (1, .ireturn)) h
      · have c1 := (Int.not_le.mp c1)
        have h := h.2 c1
        refine x_iconst (by decide +kernel : am_at co_X6_join 149 = some (1, .iconst 1)) ?_
        refine x_goto (tgt := 154) (by decide +kernel : am_at co_X6_join 150 = some (3, .goto 4)) rfl ?_
        exact x_iret (by decide +kernel : am_at co_X6_join 154 = some (1, .ireturn)) h
    · refine ⟨132, by rw [q]; rfl, ?_⟩
      have h := h.2.2.2.2.2.1 q
      refine x_iload_n (by decide +kernel : am_at co_X6_join 133 = some (1, .iload_n 1)) rfl ?_
      refine x_iload_n (by decide +kernel : am_at co_X6_join 134 = some (1, .iload_n 2)) rfl ?_
      refine x_icmp (tgt := 142) (by decide +kernel : am_at co_X6_join 135 = some (3, .if_icmp .ge 7)) rfl Iff.rfl (fun c2 => ?_) (fun c2 => ?_)
      · have h := h.1 c2
        refine x_iconst (by decide +kernel : am_at co_X6_join 142 = some (1, .iconst 0)) ?_
        exact x_iret (by decide +kernel : am_at co_X6_join 143 = some (1, .ireturn)) h
      · have c2 := (Int.not_le.mp c2)
        have h := h.2 c2
        refine x_iconst (by decide +kernel : am_at co_X6_join 138 = some (1, .iconst 1)) ?_
        refine x_goto (tgt := 143) (by decide +kernel : am_at co_X6_join 139 = some (3, .goto 4)) rfl ?_
        exact x_iret (by decide +kernel : am_at co_X6_join 143 = some (1, .ireturn)) h
    · refine ⟨126, by rw [q]; rfl, ?_⟩
      have h := h.2.2.2.2.2.2.1 q
      refine x_iload_n (by decide +kernel : am_at co_X6_join 127 = some (1, .iload_n 1)) rfl ?_
      refine x_iload_n (by decide +kernel : am_at co_X6_join 128 = some (1, .iload_n 2)) rfl ?_
      refine x_callS (n := 2) (by decide +kernel : am_at co_X6_join 129 = some (3, .invokestatic 31)) pq_6_31 rfl rfl rfl h (x_k0 fun x4 M4 h => ?_)
      exact x_iret (by decide +kernel : am_at co_X6_join 132 = some (1, .ireturn)) h
    · refine ⟨120, by rw [q]; rfl, ?_⟩
      have h := h.2.2.2.2.2.2.2.1 q
      refine x_iload_n (by decide +kernel : am_at co_X6_join 121 = some (1, .iload_n 1)) rfl ?_
      refine x_iload_n (by decide +kernel : am_at co_X6_join 122 = some (1, .iload_n 2)) rfl ?_
      refine x_callS (n := 2) (by decide +kernel : am_at co_X6_join 123 = some (3, .invokestatic 62)) pq_6_62 rfl rfl rfl h (x_k0 fun x5 M5 h => ?_)
      exact x_iret (by decide +kernel : am_at co_X6_join 126 = some (1, .ireturn)) h
    · refine ⟨106, by rw [q]; rfl, ?_⟩
      have h := h.2.2.2.2.2.2.2.2.1 q
      refine x_iload_n (by decide +kernel : am_at co_X6_join 107 = some (1, .iload_n 2)) rfl ?_
      refine x_if (tgt := 115) (by decide +kernel : am_at co_X6_join 108 = some (3, .ifCond .ne 7)) rfl Iff.rfl (fun c5 => ?_) (fun c5 => ?_)
      · have h := h.1 c5
        refine x_iload_n (by decide +kernel : am_at co_X6_join 115 = some (1, .iload_n 1)) rfl ?_
        refine x_iload_n (by decide +kernel : am_at co_X6_join 116 = some (1, .iload_n 2)) rfl ?_
        refine x_callS (n := 2) (by decide +kernel : am_at co_X6_join 117 = some (3, .invokestatic 74)) pq_6_74 rfl rfl rfl h (x_k0 fun x7 M7 h => ?_)
        exact x_iret (by decide +kernel : am_at co_X6_join 120 = some (1, .ireturn)) h
      · have c5 := (Classical.not_not.mp c5)
        have h := h.2 c5
        refine x_iconst (by decide +kernel : am_at co_X6_join 111 = some (1, .iconst 0)) ?_
        refine x_goto (tgt := 120) (by decide +kernel : am_at co_X6_join 112 = some (3, .goto 8)) rfl ?_
        exact x_iret (by decide +kernel : am_at co_X6_join 120 = some (1, .ireturn)) h
    · refine ⟨87, by rw [q]; rfl, ?_⟩
      have h := h.2.2.2.2.2.2.2.2.2.1 q
      refine x_ldc2 (by decide +kernel : am_at co_X6_join 88 = some (3, .ldc2_w 65)) pq_6_65 ?_
      refine x_ldc2 (by decide +kernel : am_at co_X6_join 91 = some (3, .ldc2_w 67)) pq_6_67 ?_
      refine x_iload_n (by decide +kernel : am_at co_X6_join 94 = some (1, .iload_n 1)) rfl ?_
      refine x_i2l (by decide +kernel : am_at co_X6_join 95 = some (1, .i2l)) ?_
      refine x_iload_n (by decide +kernel : am_at co_X6_join 96 = some (1, .iload_n 2)) rfl ?_
      refine x_i2l (by decide +kernel : am_at co_X6_join 97 = some (1, .i2l)) ?_
      obtain ⟨o7, h⟩ := h
      refine x_lmul (by decide +kernel : am_at co_X6_join 98 = some (1, .lmul)) o7 ?_
      refine x_callS (n := 2) (by decide +kernel : am_at co_X6_join 99 = some (3, .invokestatic 69)) pq_6_69 rfl rfl rfl h (x_k1 fun x9 M9 h => ?_)
      refine x_callS (n := 2) (by decide +kernel : am_at co_X6_join 102 = some (3, .invokestatic 72)) pq_6_72 rfl rfl rfl h (x_k1 fun x10 M10 h => ?_)
      obtain ⟨o10, h⟩ := h
      refine x_l2i (by decide +kernel : am_at co_X6_join 105 = some (1, .l2i)) o10 ?_
      exact x_iret (by decide +kernel : am_at co_X6_join 106 = some (1, .ireturn)) h
    · refine ⟨73, by rw [q]; rfl, ?_⟩
      have h := h.2.2.2.2.2.2.2.2.2.2.1 q
      refine x_ldc (by decide +kernel : am_at co_X6_join 74 = some (2, .ldc 60)) pq_6_60 ?_
      refine x_ldc (by decide +kernel : am_at co_X6_join 76 = some (2, .ldc 61)) pq_6_61 ?_
      refine x_iload_n (by decide +kernel : am_at co_X6_join 78 = some (1, .iload_n 1)) rfl ?_
      refine x_iload_n (by decide +kernel : am_at co_X6_join 79 = some (1, .iload_n 2)) rfl ?_
      obtain ⟨o11, h⟩ := h
      refine x_isub (by decide +kernel : am_at co_X6_join 80 = some (1, .isub)) o11 ?_
      refine x_callS (n := 2) (by decide +kernel : am_at co_X6_join 81 = some (3, .invokestatic 62)) pq_6_62 rfl rfl rfl h (x_k0 fun x13 M13 h => ?_)
      refine x_callS (n := 2) (by decide +kernel : am_at co_X6_join 84 = some (3, .invokestatic 31)) pq_6_31 rfl rfl rfl h (x_k0 fun x14 M14 h => ?_)
      exact x_iret (by decide +kernel : am_at co_X6_join 87 = some (1, .ireturn)) h
    · refine ⟨59, by rw [q]; rfl, ?_⟩
      have h := h.2.2.2.2.2.2.2.2.2.2.2 q
      refine x_ldc (by decide +kernel : am_at co_X6_join 60 = some (2, .ldc 60)) pq_6_60 ?_
      refine x_ldc (by decide +kernel : am_at co_X6_join 62 = some (2, .ldc 61)) pq_6_61 ?_
      refine x_iload_n (by decide +kernel : am_at co_X6_join 64 = some (1, .iload_n 1)) rfl ?_
      refine x_iload_n (by decide +kernel : am_at co_X6_join 65 = some (1, .iload_n 2)) rfl ?_
      obtain ⟨o14, h⟩ := h
      refine x_iadd (by decide +kernel : am_at co_X6_join 66 = some (1, .iadd)) o14 ?_
      refine x_callS (n := 2) (by decide +kernel : am_at co_X6_join 67 = some (3, .invokestatic 62)) pq_6_62 rfl rfl rfl h (x_k0 fun x16 M16 h => ?_)
      refine x_callS (n := 2) (by decide +kernel : am_at co_X6_join 70 = some (3, .invokestatic 31)) pq_6_31 rfl rfl rfl h (x_k0 fun x17 M17 h => ?_)
      exact x_iret (by decide +kernel : am_at co_X6_join 73 = some (1, .ireturn)) h
set_option maxRecDepth 20000 in
theorem bk_X7_copy_0 {d : Nat} {Q : am_Q} {M : am_M} {v0 v1 : Int} (h : am_ob sh_T 7 v1 ∧ am_ob sh_T 7 v0 ∧ am_g 7 9 co_X7_copy d Q 18 [(2, v0), (2, v1), (0, 0)] [] sh_T (am_up (am_up M v0 1 (M v1 1)) v0 2 ((am_up M v0 1 (M v1 1)) v1 2))) : am_g 7 9 co_X7_copy d Q 0 [(2, v0), (2, v1), (3, 0)] [] sh_T M := by
  refine x_aload_n (by decide +kernel : am_at co_X7_copy 0 = some (1, .aload_n 0)) rfl ?_
  refine x_aload_n (by decide +kernel : am_at co_X7_copy 1 = some (1, .aload_n 1)) rfl ?_
  obtain ⟨o0, h⟩ := h
  refine x_getf (by decide +kernel : am_at co_X7_copy 2 = some (3, .getfield 15)) pq_7_15 rfl o0 ?_
  obtain ⟨o1, h⟩ := h
  refine x_putf0 (by decide +kernel : am_at co_X7_copy 5 = some (3, .putfield 15)) pq_7_15 rfl o1 ?_
  refine x_aload_n (by decide +kernel : am_at co_X7_copy 8 = some (1, .aload_n 0)) rfl ?_
  refine x_aload_n (by decide +kernel : am_at co_X7_copy 9 = some (1, .aload_n 1)) rfl ?_
  refine x_getf (by decide +kernel : am_at co_X7_copy 10 = some (3, .getfield 19)) pq_7_19 rfl o0 ?_
  refine x_putf0 (by decide +kernel : am_at co_X7_copy 13 = some (3, .putfield 19)) pq_7_19 rfl o1 ?_
  refine x_iconst (by decide +kernel : am_at co_X7_copy 16 = some (1, .iconst 0)) ?_
  refine x_istore_n (L' := [(2, v0), (2, v1), (0, 0)]) (by decide +kernel : am_at co_X7_copy 17 = some (1, .istore_n 2)) rfl ?_
  exact am_weak (lk (lk (lk ln))) h
set_option maxRecDepth 20000 in
theorem bk_X7_copy_18 {d : Nat} {Q : am_Q} {M : am_M} {v0 v1 v2 : Int} (h : ((6 ≤ v2 → Q (none, sh_T, M)) ∧ (v2 < 6 → am_ob sh_T 7 v0 ∧ am_ob sh_T 7 v1 ∧ am_in pg sh_T 1 (v1 + 1) v2 ∧ am_own sh_T 1 (v0 + 1) v2 ∧ am_r (v2 + 1) ∧ am_g 7 9 co_X7_copy d Q 18 [(2, v0), (2, v1), (0, v2 + 1)] [] sh_T (am_up M (v0 + 1) v2 (M (v1 + 1) v2))))) : am_g 7 9 co_X7_copy d Q 18 [(2, v0), (2, v1), (0, v2)] [] sh_T M := by
  refine x_iload_n (by decide +kernel : am_at co_X7_copy 18 = some (1, .iload_n 2)) rfl ?_
  refine x_bipush (by decide +kernel : am_at co_X7_copy 19 = some (2, .bipush 6)) ?_
  refine x_icmp (tgt := 42) (by decide +kernel : am_at co_X7_copy 21 = some (3, .if_icmp .ge 21)) rfl Iff.rfl (fun c0 => ?_) (fun c0 => ?_)
  · have h := h.1 c0
    exact x_vret (by decide +kernel : am_at co_X7_copy 42 = some (1, .return_)) h
  · have c0 := (Int.not_le.mp c0)
    have h := h.2 c0
    refine x_aload_n (by decide +kernel : am_at co_X7_copy 24 = some (1, .aload_n 0)) rfl ?_
    obtain ⟨o1, h⟩ := h
    refine x_getF (by decide +kernel : am_at co_X7_copy 25 = some (3, .getfield 9)) pq_7_9 (by decide) rfl o1 ?_
    refine x_iload_n (by decide +kernel : am_at co_X7_copy 28 = some (1, .iload_n 2)) rfl ?_
    refine x_aload_n (by decide +kernel : am_at co_X7_copy 29 = some (1, .aload_n 1)) rfl ?_
    obtain ⟨o2, h⟩ := h
    refine x_getF (by decide +kernel : am_at co_X7_copy 30 = some (3, .getfield 9)) pq_7_9 (by decide) rfl o2 ?_
    refine x_iload_n (by decide +kernel : am_at co_X7_copy 33 = some (1, .iload_n 2)) rfl ?_
    obtain ⟨o3, h⟩ := h
    refine x_iald (by decide +kernel : am_at co_X7_copy 34 = some (1, .iaload)) (o3) ?_
    obtain ⟨o4, h⟩ := h
    refine x_iast (by decide +kernel : am_at co_X7_copy 35 = some (1, .iastore)) (o4) ?_
    obtain ⟨o5, h⟩ := h
    refine x_iinc (L' := [(2, v0), (2, v1), (0, v2 + 1)]) (by decide +kernel : am_at co_X7_copy 36 = some (3, .iinc 2 1)) rfl o5 rfl ?_
    refine x_goto (tgt := 18) (by decide +kernel : am_at co_X7_copy 39 = some (3, .goto (-21))) rfl ?_
    exact am_weak (lk (lk (lk ln))) h
set_option maxRecDepth 20000 in
theorem bk_X7_at_0 {d : Nat} {Q : am_Q} {M : am_M} {v0 v1 : Int} (h : ((v1 < 0 → Q (some (0, 0), sh_T, M)) ∧ (0 ≤ v1 → am_ob sh_T 7 v0 ∧ ∃ n2 : Nat, am_alen pg sh_T (v0 + 1) = some n2 ∧ (((n2 : Int) ≤ v1 → Q (some (0, 0), sh_T, M)) ∧ (v1 < (n2 : Int) → am_in pg sh_T 1 (v0 + 1) v1 ∧ Q (some (0, M (v0 + 1) v1), sh_T, M)))))) : am_g 7 0 co_X7_at d Q 0 [(2, v0), (0, v1)] [] sh_T M := by
  refine x_iload_n (by decide +kernel : am_at co_X7_at 0 = some (1, .iload_n 1)) rfl ?_
  refine x_if (tgt := 22) (by decide +kernel : am_at co_X7_at 1 = some (3, .ifCond .lt 21)) rfl Iff.rfl (fun c0 => ?_) (fun c0 => ?_)
  · have h := h.1 c0
    refine x_iconst (by decide +kernel : am_at co_X7_at 22 = some (1, .iconst 0)) ?_
    exact x_iret (by decide +kernel : am_at co_X7_at 23 = some (1, .ireturn)) h
  · have c0 := (Int.not_lt.mp c0)
    have h := h.2 c0
    refine x_iload_n (by decide +kernel : am_at co_X7_at 4 = some (1, .iload_n 1)) rfl ?_
    refine x_aload_n (by decide +kernel : am_at co_X7_at 5 = some (1, .aload_n 0)) rfl ?_
    obtain ⟨o1, h⟩ := h
    refine x_getF (by decide +kernel : am_at co_X7_at 6 = some (3, .getfield 9)) pq_7_9 (by decide) rfl o1 ?_
    obtain ⟨n2, o2, h⟩ := h
    refine x_alen (by decide +kernel : am_at co_X7_at 9 = some (1, .arraylength)) o2 ?_
    refine x_icmp (tgt := 22) (by decide +kernel : am_at co_X7_at 10 = some (3, .if_icmp .ge 12)) rfl Iff.rfl (fun c3 => ?_) (fun c3 => ?_)
    · have h := h.1 c3
      refine x_iconst (by decide +kernel : am_at co_X7_at 22 = some (1, .iconst 0)) ?_
      exact x_iret (by decide +kernel : am_at co_X7_at 23 = some (1, .ireturn)) h
    · have c3 := (Int.not_le.mp c3)
      have h := h.2 c3
      refine x_aload_n (by decide +kernel : am_at co_X7_at 13 = some (1, .aload_n 0)) rfl ?_
      refine x_getF (by decide +kernel : am_at co_X7_at 14 = some (3, .getfield 9)) pq_7_9 (by decide) rfl o1 ?_
      refine x_iload_n (by decide +kernel : am_at co_X7_at 17 = some (1, .iload_n 1)) rfl ?_
      obtain ⟨o4, h⟩ := h
      refine x_iald (by decide +kernel : am_at co_X7_at 18 = some (1, .iaload)) (o4) ?_
      refine x_goto (tgt := 23) (by decide +kernel : am_at co_X7_at 19 = some (3, .goto 4)) rfl ?_
      exact x_iret (by decide +kernel : am_at co_X7_at 23 = some (1, .ireturn)) h
set_option maxRecDepth 20000 in
theorem bk_X7_put_0 {d : Nat} {Q : am_Q} {M : am_M} {v0 v1 v2 : Int} (h : ((v1 < 0 → Q (none, sh_T, M)) ∧ (0 ≤ v1 → am_ob sh_T 7 v0 ∧ ∃ n2 : Nat, am_alen pg sh_T (v0 + 1) = some n2 ∧ (((n2 : Int) ≤ v1 → Q (none, sh_T, M)) ∧ (v1 < (n2 : Int) → am_own sh_T 1 (v0 + 1) v1 ∧ Q (none, sh_T, (am_up M (v0 + 1) v1 v2))))))) : am_g 7 9 co_X7_put d Q 0 [(2, v0), (0, v1), (0, v2)] [] sh_T M := by
  refine x_iload_n (by decide +kernel : am_at co_X7_put 0 = some (1, .iload_n 1)) rfl ?_
  refine x_if (tgt := 20) (by decide +kernel : am_at co_X7_put 1 = some (3, .ifCond .lt 19)) rfl Iff.rfl (fun c0 => ?_) (fun c0 => ?_)
  · have h := h.1 c0
    exact x_vret (by decide +kernel : am_at co_X7_put 20 = some (1, .return_)) h
  · have c0 := (Int.not_lt.mp c0)
    have h := h.2 c0
    refine x_iload_n (by decide +kernel : am_at co_X7_put 4 = some (1, .iload_n 1)) rfl ?_
    refine x_aload_n (by decide +kernel : am_at co_X7_put 5 = some (1, .aload_n 0)) rfl ?_
    obtain ⟨o1, h⟩ := h
    refine x_getF (by decide +kernel : am_at co_X7_put 6 = some (3, .getfield 9)) pq_7_9 (by decide) rfl o1 ?_
    obtain ⟨n2, o2, h⟩ := h
    refine x_alen (by decide +kernel : am_at co_X7_put 9 = some (1, .arraylength)) o2 ?_
    refine x_icmp (tgt := 20) (by decide +kernel : am_at co_X7_put 10 = some (3, .if_icmp .ge 10)) rfl Iff.rfl (fun c3 => ?_) (fun c3 => ?_)
    · have h := h.1 c3
      exact x_vret (by decide +kernel : am_at co_X7_put 20 = some (1, .return_)) h
    · have c3 := (Int.not_le.mp c3)
      have h := h.2 c3
      refine x_aload_n (by decide +kernel : am_at co_X7_put 13 = some (1, .aload_n 0)) rfl ?_
      refine x_getF (by decide +kernel : am_at co_X7_put 14 = some (3, .getfield 9)) pq_7_9 (by decide) rfl o1 ?_
      refine x_iload_n (by decide +kernel : am_at co_X7_put 17 = some (1, .iload_n 1)) rfl ?_
      refine x_iload_n (by decide +kernel : am_at co_X7_put 18 = some (1, .iload_n 2)) rfl ?_
      obtain ⟨o4, h⟩ := h
      refine x_iast (by decide +kernel : am_at co_X7_put 19 = some (1, .iastore)) (o4) ?_
      exact x_vret (by decide +kernel : am_at co_X7_put 20 = some (1, .return_)) h
set_option maxRecDepth 20000 in
theorem bk_X7_total_0 {d : Nat} {Q : am_Q} {M : am_M} {v0 : Int} (h : am_g 7 0 co_X7_total d Q 4 [(2, v0), (0, 0), (0, 0)] [] sh_T M) : am_g 7 0 co_X7_total d Q 0 [(2, v0), (3, 0), (3, 0)] [] sh_T M := by
  refine x_iconst (by decide +kernel : am_at co_X7_total 0 = some (1, .iconst 0)) ?_
  refine x_istore_n (L' := [(2, v0), (0, 0), (3, 0)]) (by decide +kernel : am_at co_X7_total 1 = some (1, .istore_n 1)) rfl ?_
  refine x_iconst (by decide +kernel : am_at co_X7_total 2 = some (1, .iconst 0)) ?_
  refine x_istore_n (L' := [(2, v0), (0, 0), (0, 0)]) (by decide +kernel : am_at co_X7_total 3 = some (1, .istore_n 2)) rfl ?_
  exact am_weak (lk (lk (lk ln))) h
set_option maxRecDepth 20000 in
theorem bk_X7_total_4 {d : Nat} {Q : am_Q} {M : am_M} {v0 v1 v2 : Int} (h : am_ob sh_T 7 v0 ∧ ∃ n1 : Nat, am_alen pg sh_T (v0 + 1) = some n1 ∧ (((n1 : Int) ≤ v2 → Q (some (0, v1), sh_T, M)) ∧ (v2 < (n1 : Int) → am_in pg sh_T 1 (v0 + 1) v2 ∧ am_r (v1 + (M (v0 + 1) v2)) ∧ am_r (v2 + 1) ∧ am_g 7 0 co_X7_total d Q 4 [(2, v0), (0, v1 + (M (v0 + 1) v2)), (0, v2 + 1)] [] sh_T M))) : am_g 7 0 co_X7_total d Q 4 [(2, v0), (0, v1), (0, v2)] [] sh_T M := by
  refine x_iload_n (by decide +kernel : am_at co_X7_total 4 = some (1, .iload_n 2)) rfl ?_
  refine x_aload_n (by decide +kernel : am_at co_X7_total 5 = some (1, .aload_n 0)) rfl ?_
  obtain ⟨o0, h⟩ := h
  refine x_getF (by decide +kernel : am_at co_X7_total 6 = some (3, .getfield 9)) pq_7_9 (by decide) rfl o0 ?_
  obtain ⟨n1, o1, h⟩ := h
  refine x_alen (by decide +kernel : am_at co_X7_total 9 = some (1, .arraylength)) o1 ?_
  refine x_icmp (tgt := 28) (by decide +kernel : am_at co_X7_total 10 = some (3, .if_icmp .ge 18)) rfl Iff.rfl (fun c2 => ?_) (fun c2 => ?_)
  · have h := h.1 c2
    refine x_iload_n (by decide +kernel : am_at co_X7_total 28 = some (1, .iload_n 1)) rfl ?_
    exact x_iret (by decide +kernel : am_at co_X7_total 29 = some (1, .ireturn)) h
  · have c2 := (Int.not_le.mp c2)
    have h := h.2 c2
    refine x_iload_n (by decide +kernel : am_at co_X7_total 13 = some (1, .iload_n 1)) rfl ?_
    refine x_aload_n (by decide +kernel : am_at co_X7_total 14 = some (1, .aload_n 0)) rfl ?_
    refine x_getF (by decide +kernel : am_at co_X7_total 15 = some (3, .getfield 9)) pq_7_9 (by decide) rfl o0 ?_
    refine x_iload_n (by decide +kernel : am_at co_X7_total 18 = some (1, .iload_n 2)) rfl ?_
    obtain ⟨o3, h⟩ := h
    refine x_iald (by decide +kernel : am_at co_X7_total 19 = some (1, .iaload)) (o3) ?_
    obtain ⟨o4, h⟩ := h
    refine x_iadd (by decide +kernel : am_at co_X7_total 20 = some (1, .iadd)) o4 ?_
    refine x_istore_n (L' := [(2, v0), (0, v1 + (M (v0 + 1) v2)), (0, v2)]) (by decide +kernel : am_at co_X7_total 21 = some (1, .istore_n 1)) rfl ?_
    obtain ⟨o5, h⟩ := h
    refine x_iinc (L' := [(2, v0), (0, v1 + (M (v0 + 1) v2)), (0, v2 + 1)]) (by decide +kernel : am_at co_X7_total 22 = some (3, .iinc 2 1)) rfl o5 rfl ?_
    refine x_goto (tgt := 4) (by decide +kernel : am_at co_X7_total 25 = some (3, .goto (-21))) rfl ?_
    exact am_weak (lk (lk (lk ln))) h
set_option maxRecDepth 20000 in
theorem bk_X7_greatest_0 {d : Nat} {Q : am_Q} {M : am_M} {v0 : Int} (h : am_g 7 0 co_X7_greatest d Q 4 [(2, v0), (0, 0), (0, 0)] [] sh_T M) : am_g 7 0 co_X7_greatest d Q 0 [(2, v0), (3, 0), (3, 0)] [] sh_T M := by
  refine x_iconst (by decide +kernel : am_at co_X7_greatest 0 = some (1, .iconst 0)) ?_
  refine x_istore_n (L' := [(2, v0), (0, 0), (3, 0)]) (by decide +kernel : am_at co_X7_greatest 1 = some (1, .istore_n 1)) rfl ?_
  refine x_iconst (by decide +kernel : am_at co_X7_greatest 2 = some (1, .iconst 0)) ?_
  refine x_istore_n (L' := [(2, v0), (0, 0), (0, 0)]) (by decide +kernel : am_at co_X7_greatest 3 = some (1, .istore_n 2)) rfl ?_
  exact am_weak (lk (lk (lk ln))) h
set_option maxRecDepth 20000 in
theorem bk_X7_greatest_4 {d : Nat} {Q : am_Q} {M : am_M} {v0 v1 v2 : Int} (h : am_ob sh_T 7 v0 ∧ ∃ n1 : Nat, am_alen pg sh_T (v0 + 1) = some n1 ∧ (((n1 : Int) ≤ v2 → Q (some (0, v1), sh_T, M)) ∧ (v2 < (n1 : Int) → am_in pg sh_T 1 (v0 + 1) v2 ∧ am_cal pg d 316 [(0, v1), (0, M (v0 + 1) v2)] sh_T M (am_c0 sh_T fun x5 M5 => am_r (v2 + 1) ∧ am_g 7 0 co_X7_greatest d Q 4 [(2, v0), (0, x5), (0, v2 + 1)] [] sh_T M5)))) : am_g 7 0 co_X7_greatest d Q 4 [(2, v0), (0, v1), (0, v2)] [] sh_T M := by
  refine x_iload_n (by decide +kernel : am_at co_X7_greatest 4 = some (1, .iload_n 2)) rfl ?_
  refine x_aload_n (by decide +kernel : am_at co_X7_greatest 5 = some (1, .aload_n 0)) rfl ?_
  obtain ⟨o0, h⟩ := h
  refine x_getF (by decide +kernel : am_at co_X7_greatest 6 = some (3, .getfield 9)) pq_7_9 (by decide) rfl o0 ?_
  obtain ⟨n1, o1, h⟩ := h
  refine x_alen (by decide +kernel : am_at co_X7_greatest 9 = some (1, .arraylength)) o1 ?_
  refine x_icmp (tgt := 30) (by decide +kernel : am_at co_X7_greatest 10 = some (3, .if_icmp .ge 20)) rfl Iff.rfl (fun c2 => ?_) (fun c2 => ?_)
  · have h := h.1 c2
    refine x_iload_n (by decide +kernel : am_at co_X7_greatest 30 = some (1, .iload_n 1)) rfl ?_
    exact x_iret (by decide +kernel : am_at co_X7_greatest 31 = some (1, .ireturn)) h
  · have c2 := (Int.not_le.mp c2)
    have h := h.2 c2
    refine x_iload_n (by decide +kernel : am_at co_X7_greatest 13 = some (1, .iload_n 1)) rfl ?_
    refine x_aload_n (by decide +kernel : am_at co_X7_greatest 14 = some (1, .aload_n 0)) rfl ?_
    refine x_getF (by decide +kernel : am_at co_X7_greatest 15 = some (3, .getfield 9)) pq_7_9 (by decide) rfl o0 ?_
    refine x_iload_n (by decide +kernel : am_at co_X7_greatest 18 = some (1, .iload_n 2)) rfl ?_
    obtain ⟨o3, h⟩ := h
    refine x_iald (by decide +kernel : am_at co_X7_greatest 19 = some (1, .iaload)) (o3) ?_
    refine x_callS (n := 2) (by decide +kernel : am_at co_X7_greatest 20 = some (3, .invokestatic 22)) pq_7_22 rfl rfl rfl h (x_k0 fun x5 M5 h => ?_)
    refine x_istore_n (L' := [(2, v0), (0, x5), (0, v2)]) (by decide +kernel : am_at co_X7_greatest 23 = some (1, .istore_n 1)) rfl ?_
    obtain ⟨o5, h⟩ := h
    refine x_iinc (L' := [(2, v0), (0, x5), (0, v2 + 1)]) (by decide +kernel : am_at co_X7_greatest 24 = some (3, .iinc 2 1)) rfl o5 rfl ?_
    refine x_goto (tgt := 4) (by decide +kernel : am_at co_X7_greatest 27 = some (3, .goto (-23))) rfl ?_
    exact am_weak (lk (lk (lk ln))) h
set_option maxRecDepth 20000 in
theorem bk_X7_countHeavy_0 {d : Nat} {Q : am_Q} {M : am_M} {v0 : Int} (h : am_g 7 0 co_X7_countHeavy d Q 4 [(2, v0), (0, 0), (0, 0)] [] sh_T M) : am_g 7 0 co_X7_countHeavy d Q 0 [(2, v0), (3, 0), (3, 0)] [] sh_T M := by
  refine x_iconst (by decide +kernel : am_at co_X7_countHeavy 0 = some (1, .iconst 0)) ?_
  refine x_istore_n (L' := [(2, v0), (0, 0), (3, 0)]) (by decide +kernel : am_at co_X7_countHeavy 1 = some (1, .istore_n 1)) rfl ?_
  refine x_iconst (by decide +kernel : am_at co_X7_countHeavy 2 = some (1, .iconst 0)) ?_
  refine x_istore_n (L' := [(2, v0), (0, 0), (0, 0)]) (by decide +kernel : am_at co_X7_countHeavy 3 = some (1, .istore_n 2)) rfl ?_
  exact am_weak (lk (lk (lk ln))) h
set_option maxRecDepth 20000 in
theorem bk_X7_countHeavy_4 {d : Nat} {Q : am_Q} {M : am_M} {v0 v1 v2 : Int} (h : am_ob sh_T 7 v0 ∧ ∃ n1 : Nat, am_alen pg sh_T (v0 + 1) = some n1 ∧ (((n1 : Int) ≤ v2 → Q (some (0, v1), sh_T, M)) ∧ (v2 < (n1 : Int) → am_in pg sh_T 1 (v0 + 1) v2 ∧ ((M (v0 + 1) v2 ≤ 0 → am_r (v1 + 0) ∧ am_r (v2 + 1) ∧ am_g 7 0 co_X7_countHeavy d Q 4 [(2, v0), (0, v1 + 0), (0, v2 + 1)] [] sh_T M) ∧ (0 < M (v0 + 1) v2 → am_r (v1 + 1) ∧ am_r (v2 + 1) ∧ am_g 7 0 co_X7_countHeavy d Q 4 [(2, v0), (0, v1 + 1), (0, v2 + 1)] [] sh_T M))))) : am_g 7 0 co_X7_countHeavy d Q 4 [(2, v0), (0, v1), (0, v2)] [] sh_T M := by
  refine x_iload_n (by decide +kernel : am_at co_X7_countHeavy 4 = some (1, .iload_n 2)) rfl ?_
  refine x_aload_n (by decide +kernel : am_at co_X7_countHeavy 5 = some (1, .aload_n 0)) rfl ?_
  obtain ⟨o0, h⟩ := h
  refine x_getF (by decide +kernel : am_at co_X7_countHeavy 6 = some (3, .getfield 9)) pq_7_9 (by decide) rfl o0 ?_
  obtain ⟨n1, o1, h⟩ := h
  refine x_alen (by decide +kernel : am_at co_X7_countHeavy 9 = some (1, .arraylength)) o1 ?_
  refine x_icmp (tgt := 36) (by decide +kernel : am_at co_X7_countHeavy 10 = some (3, .if_icmp .ge 26)) rfl Iff.rfl (fun c2 => ?_) (fun c2 => ?_)
  · have h := h.1 c2
    refine x_iload_n (by decide +kernel : am_at co_X7_countHeavy 36 = some (1, .iload_n 1)) rfl ?_
    exact x_iret (by decide +kernel : am_at co_X7_countHeavy 37 = some (1, .ireturn)) h
  · have c2 := (Int.not_le.mp c2)
    have h := h.2 c2
    refine x_iload_n (by decide +kernel : am_at co_X7_countHeavy 13 = some (1, .iload_n 1)) rfl ?_
    refine x_aload_n (by decide +kernel : am_at co_X7_countHeavy 14 = some (1, .aload_n 0)) rfl ?_
    refine x_getF (by decide +kernel : am_at co_X7_countHeavy 15 = some (3, .getfield 9)) pq_7_9 (by decide) rfl o0 ?_
    refine x_iload_n (by decide +kernel : am_at co_X7_countHeavy 18 = some (1, .iload_n 2)) rfl ?_
    obtain ⟨o3, h⟩ := h
    refine x_iald (by decide +kernel : am_at co_X7_countHeavy 19 = some (1, .iaload)) (o3) ?_
    refine x_if (tgt := 27) (by decide +kernel : am_at co_X7_countHeavy 20 = some (3, .ifCond .le 7)) rfl Iff.rfl (fun c4 => ?_) (fun c4 => ?_)
    · have h := h.1 c4
      refine x_iconst (by decide +kernel : am_at co_X7_countHeavy 27 = some (1, .iconst 0)) ?_
      obtain ⟨o5, h⟩ := h
      refine x_iadd (by decide +kernel : am_at co_X7_countHeavy 28 = some (1, .iadd)) o5 ?_
      refine x_istore_n (L' := [(2, v0), (0, v1 + 0), (0, v2)]) (by decide +kernel : am_at co_X7_countHeavy 29 = some (1, .istore_n 1)) rfl ?_
      obtain ⟨o6, h⟩ := h
      refine x_iinc (L' := [(2, v0), (0, v1 + 0), (0, v2 + 1)]) (by decide +kernel : am_at co_X7_countHeavy 30 = some (3, .iinc 2 1)) rfl o6 rfl ?_
      refine x_goto (tgt := 4) (by decide +kernel : am_at co_X7_countHeavy 33 = some (3, .goto (-29))) rfl ?_
      exact am_weak (lk (lk (lk ln))) h
    · have c4 := (Int.not_le.mp c4)
      have h := h.2 c4
      refine x_iconst (by decide +kernel : am_at co_X7_countHeavy 23 = some (1, .iconst 1)) ?_
      refine x_goto (tgt := 28) (by decide +kernel : am_at co_X7_countHeavy 24 = some (3, .goto 4)) rfl ?_
      obtain ⟨o7, h⟩ := h
      refine x_iadd (by decide +kernel : am_at co_X7_countHeavy 28 = some (1, .iadd)) o7 ?_
      refine x_istore_n (L' := [(2, v0), (0, v1 + 1), (0, v2)]) (by decide +kernel : am_at co_X7_countHeavy 29 = some (1, .istore_n 1)) rfl ?_
      obtain ⟨o8, h⟩ := h
      refine x_iinc (L' := [(2, v0), (0, v1 + 1), (0, v2 + 1)]) (by decide +kernel : am_at co_X7_countHeavy 30 = some (3, .iinc 2 1)) rfl o8 rfl ?_
      refine x_goto (tgt := 4) (by decide +kernel : am_at co_X7_countHeavy 33 = some (3, .goto (-29))) rfl ?_
      exact am_weak (lk (lk (lk ln))) h
set_option maxRecDepth 20000 in
theorem bk_X7_laugh_0 {d : Nat} {Q : am_Q} {M : am_M} {v0 : Int} (h : am_g 7 9 co_X7_laugh d Q 2 [(2, v0), (0, 0)] [] sh_T M) : am_g 7 9 co_X7_laugh d Q 0 [(2, v0), (3, 0)] [] sh_T M := by
  refine x_iconst (by decide +kernel : am_at co_X7_laugh 0 = some (1, .iconst 0)) ?_
  refine x_istore_n (L' := [(2, v0), (0, 0)]) (by decide +kernel : am_at co_X7_laugh 1 = some (1, .istore_n 1)) rfl ?_
  exact am_weak (lk (lk ln)) h
set_option maxRecDepth 20000 in
theorem bk_X7_laugh_2 {d : Nat} {Q : am_Q} {M : am_M} {v0 v1 : Int} (h : am_ob sh_T 7 v0 ∧ ∃ n1 : Nat, am_alen pg sh_T (v0 + 1) = some n1 ∧ (((n1 : Int) ≤ v1 → Q (none, sh_T, M)) ∧ (v1 < (n1 : Int) → am_in pg sh_T 1 (v0 + 1) v1 ∧ am_r ((M (v0 + 1) v1).tdiv 2) ∧ am_own sh_T 1 (v0 + 1) v1 ∧ am_r (v1 + 1) ∧ am_g 7 9 co_X7_laugh d Q 2 [(2, v0), (0, v1 + 1)] [] sh_T (am_up M (v0 + 1) v1 ((M (v0 + 1) v1).tdiv 2))))) : am_g 7 9 co_X7_laugh d Q 2 [(2, v0), (0, v1)] [] sh_T M := by
  refine x_iload_n (by decide +kernel : am_at co_X7_laugh 2 = some (1, .iload_n 1)) rfl ?_
  refine x_aload_n (by decide +kernel : am_at co_X7_laugh 3 = some (1, .aload_n 0)) rfl ?_
  obtain ⟨o0, h⟩ := h
  refine x_getF (by decide +kernel : am_at co_X7_laugh 4 = some (3, .getfield 9)) pq_7_9 (by decide) rfl o0 ?_
  obtain ⟨n1, o1, h⟩ := h
  refine x_alen (by decide +kernel : am_at co_X7_laugh 7 = some (1, .arraylength)) o1 ?_
  refine x_icmp (tgt := 27) (by decide +kernel : am_at co_X7_laugh 8 = some (3, .if_icmp .ge 19)) rfl Iff.rfl (fun c2 => ?_) (fun c2 => ?_)
  · have h := h.1 c2
    exact x_vret (by decide +kernel : am_at co_X7_laugh 27 = some (1, .return_)) h
  · have c2 := (Int.not_le.mp c2)
    have h := h.2 c2
    refine x_aload_n (by decide +kernel : am_at co_X7_laugh 11 = some (1, .aload_n 0)) rfl ?_
    refine x_getF (by decide +kernel : am_at co_X7_laugh 12 = some (3, .getfield 9)) pq_7_9 (by decide) rfl o0 ?_
    refine x_iload_n (by decide +kernel : am_at co_X7_laugh 15 = some (1, .iload_n 1)) rfl ?_
    refine x_dup2 (by decide +kernel : am_at co_X7_laugh 16 = some (1, .dup2)) ?_
    obtain ⟨o3, h⟩ := h
    refine x_iald (by decide +kernel : am_at co_X7_laugh 17 = some (1, .iaload)) (o3) ?_
    refine x_iconst (by decide +kernel : am_at co_X7_laugh 18 = some (1, .iconst 2)) ?_
    obtain ⟨o4, h⟩ := h
    refine x_idiv (by decide +kernel : am_at co_X7_laugh 19 = some (1, .idiv)) (by decide) o4 ?_
    obtain ⟨o5, h⟩ := h
    refine x_iast (by decide +kernel : am_at co_X7_laugh 20 = some (1, .iastore)) (o5) ?_
    obtain ⟨o6, h⟩ := h
    refine x_iinc (L' := [(2, v0), (0, v1 + 1)]) (by decide +kernel : am_at co_X7_laugh 21 = some (3, .iinc 1 1)) rfl o6 rfl ?_
    refine x_goto (tgt := 2) (by decide +kernel : am_at co_X7_laugh 24 = some (3, .goto (-22))) rfl ?_
    exact am_weak (lk (lk ln)) h
set_option maxRecDepth 20000 in
theorem bk_X7_isLike_0 {d : Nat} {Q : am_Q} {M : am_M} {v0 v1 v2 : Int} (h : am_g 7 5 co_X7_isLike d Q 5 [(2, v0), (2, v1), (0, v2), (0, 1), (0, 0)] [] sh_T M) : am_g 7 5 co_X7_isLike d Q 0 [(2, v0), (2, v1), (0, v2), (3, 0), (3, 0)] [] sh_T M := by
  refine x_iconst (by decide +kernel : am_at co_X7_isLike 0 = some (1, .iconst 1)) ?_
  refine x_istore_n (L' := [(2, v0), (2, v1), (0, v2), (0, 1), (3, 0)]) (by decide +kernel : am_at co_X7_isLike 1 = some (1, .istore_n 3)) rfl ?_
  refine x_iconst (by decide +kernel : am_at co_X7_isLike 2 = some (1, .iconst 0)) ?_
  refine x_istore (L' := [(2, v0), (2, v1), (0, v2), (0, 1), (0, 0)]) (by decide +kernel : am_at co_X7_isLike 3 = some (2, .istore 4)) rfl ?_
  exact am_weak (lk (lk (lk (lk (lk ln))))) h
set_option maxRecDepth 20000 in
theorem bk_X7_isLike_5 {d : Nat} {Q : am_Q} {M : am_M} {v0 v1 v2 v3 v4 : Int} (h : am_ob sh_T 7 v0 ∧ ∃ n1 : Nat, am_alen pg sh_T (v0 + 1) = some n1 ∧ (((n1 : Int) ≤ v4 → (v3 = 0 ∨ v3 = 1) ∧ Q (some (0, v3), sh_T, M)) ∧ (v4 < (n1 : Int) → ((v3 = 0 → am_r (v4 + 1) ∧ am_g 7 5 co_X7_isLike d Q 5 [(2, v0), (2, v1), (0, v2), (0, 0), (0, v4 + 1)] [] sh_T M) ∧ (¬ v3 = 0 → ((v2 < 0 → am_r (v4 + 1) ∧ am_g 7 5 co_X7_isLike d Q 5 [(2, v0), (2, v1), (0, v2), (0, 0), (0, v4 + 1)] [] sh_T M) ∧ (0 ≤ v2 → am_r (v2 + v4) ∧ ∃ n8 : Nat, am_alen pg sh_T v1 = some n8 ∧ (((n8 : Int) ≤ v2 + v4 → am_r (v4 + 1) ∧ am_g 7 5 co_X7_isLike d Q 5 [(2, v0), (2, v1), (0, v2), (0, 0), (0, v4 + 1)] [] sh_T M) ∧ (v2 + v4 < (n8 : Int) → am_r (v2 + v4) ∧ am_in pg sh_T 1 v1 (v2 + v4) ∧ am_in pg sh_T 1 (v0 + 1) v4 ∧ ((¬ M v1 (v2 + v4) = M (v0 + 1) v4 → am_r (v4 + 1) ∧ am_g 7 5 co_X7_isLike d Q 5 [(2, v0), (2, v1), (0, v2), (0, 0), (0, v4 + 1)] [] sh_T M) ∧ (M v1 (v2 + v4) = M (v0 + 1) v4 → am_r (v4 + 1) ∧ am_g 7 5 co_X7_isLike d Q 5 [(2, v0), (2, v1), (0, v2), (0, 1), (0, v4 + 1)] [] sh_T M))))))))))) : am_g 7 5 co_X7_isLike d Q 5 [(2, v0), (2, v1), (0, v2), (0, v3), (0, v4)] [] sh_T M := by
  refine x_iload (by decide +kernel : am_at co_X7_isLike 5 = some (2, .iload 4)) rfl ?_
  refine x_aload_n (by decide +kernel : am_at co_X7_isLike 7 = some (1, .aload_n 0)) rfl ?_
  obtain ⟨o0, h⟩ := h
  refine x_getF (by decide +kernel : am_at co_X7_isLike 8 = some (3, .getfield 9)) pq_7_9 (by decide) rfl o0 ?_
  obtain ⟨n1, o1, h⟩ := h
  refine x_alen (by decide +kernel : am_at co_X7_isLike 11 = some (1, .arraylength)) o1 ?_
  refine x_icmp (tgt := 60) (by decide +kernel : am_at co_X7_isLike 12 = some (3, .if_icmp .ge 48)) rfl Iff.rfl (fun c2 => ?_) (fun c2 => ?_)
  · have h := h.1 c2
    refine x_iload_n (by decide +kernel : am_at co_X7_isLike 60 = some (1, .iload_n 3)) rfl ?_
    exact x_zret (by decide +kernel : am_at co_X7_isLike 61 = some (1, .ireturn)) h.1 h.2
  · have c2 := (Int.not_le.mp c2)
    have h := h.2 c2
    refine x_iload_n (by decide +kernel : am_at co_X7_isLike 15 = some (1, .iload_n 3)) rfl ?_
    refine x_if (tgt := 52) (by decide +kernel : am_at co_X7_isLike 16 = some (3, .ifCond .eq 36)) rfl Iff.rfl (fun c3 => ?_) (fun c3 => ?_)
    · have h := h.1 c3
      refine x_iconst (by decide +kernel : am_at co_X7_isLike 52 = some (1, .iconst 0)) ?_
      refine x_istore_n (L' := [(2, v0), (2, v1), (0, v2), (0, 0), (0, v4)]) (by decide +kernel : am_at co_X7_isLike 53 = some (1, .istore_n 3)) rfl ?_
      obtain ⟨o4, h⟩ := h
      refine x_iinc (L' := [(2, v0), (2, v1), (0, v2), (0, 0), (0, v4 + 1)]) (by decide +kernel : am_at co_X7_isLike 54 = some (3, .iinc 4 1)) rfl o4 rfl ?_
      refine x_goto (tgt := 5) (by decide +kernel : am_at co_X7_isLike 57 = some (3, .goto (-52))) rfl ?_
      exact am_weak (lk (lk (lk (lk (lk ln))))) h
    · have c3 := c3
      have h := h.2 c3
      refine x_iload_n (by decide +kernel : am_at co_X7_isLike 19 = some (1, .iload_n 2)) rfl ?_
      refine x_if (tgt := 52) (by decide +kernel : am_at co_X7_isLike 20 = some (3, .ifCond .lt 32)) rfl Iff.rfl (fun c5 => ?_) (fun c5 => ?_)
      · have h := h.1 c5
        refine x_iconst (by decide +kernel : am_at co_X7_isLike 52 = some (1, .iconst 0)) ?_
        refine x_istore_n (L' := [(2, v0), (2, v1), (0, v2), (0, 0), (0, v4)]) (by decide +kernel : am_at co_X7_isLike 53 = some (1, .istore_n 3)) rfl ?_
        obtain ⟨o6, h⟩ := h
        refine x_iinc (L' := [(2, v0), (2, v1), (0, v2), (0, 0), (0, v4 + 1)]) (by decide +kernel : am_at co_X7_isLike 54 = some (3, .iinc 4 1)) rfl o6 rfl ?_
        refine x_goto (tgt := 5) (by decide +kernel : am_at co_X7_isLike 57 = some (3, .goto (-52))) rfl ?_
        exact am_weak (lk (lk (lk (lk (lk ln))))) h
      · have c5 := (Int.not_lt.mp c5)
        have h := h.2 c5
        refine x_iload_n (by decide +kernel : am_at co_X7_isLike 23 = some (1, .iload_n 2)) rfl ?_
        refine x_iload (by decide +kernel : am_at co_X7_isLike 24 = some (2, .iload 4)) rfl ?_
        obtain ⟨o7, h⟩ := h
        refine x_iadd (by decide +kernel : am_at co_X7_isLike 26 = some (1, .iadd)) o7 ?_
        refine x_aload_n (by decide +kernel : am_at co_X7_isLike 27 = some (1, .aload_n 1)) rfl ?_
        obtain ⟨n8, o8, h⟩ := h
        refine x_alen (by decide +kernel : am_at co_X7_isLike 28 = some (1, .arraylength)) o8 ?_
        refine x_icmp (tgt := 52) (by decide +kernel : am_at co_X7_isLike 29 = some (3, .if_icmp .ge 23)) rfl Iff.rfl (fun c9 => ?_) (fun c9 => ?_)
        · have h := h.1 c9
          refine x_iconst (by decide +kernel : am_at co_X7_isLike 52 = some (1, .iconst 0)) ?_
          refine x_istore_n (L' := [(2, v0), (2, v1), (0, v2), (0, 0), (0, v4)]) (by decide +kernel : am_at co_X7_isLike 53 = some (1, .istore_n 3)) rfl ?_
          obtain ⟨o10, h⟩ := h
          refine x_iinc (L' := [(2, v0), (2, v1), (0, v2), (0, 0), (0, v4 + 1)]) (by decide +kernel : am_at co_X7_isLike 54 = some (3, .iinc 4 1)) rfl o10 rfl ?_
          refine x_goto (tgt := 5) (by decide +kernel : am_at co_X7_isLike 57 = some (3, .goto (-52))) rfl ?_
          exact am_weak (lk (lk (lk (lk (lk ln))))) h
        · have c9 := (Int.not_le.mp c9)
          have h := h.2 c9
          refine x_aload_n (by decide +kernel : am_at co_X7_isLike 32 = some (1, .aload_n 1)) rfl ?_
          refine x_iload_n (by decide +kernel : am_at co_X7_isLike 33 = some (1, .iload_n 2)) rfl ?_
          refine x_iload (by decide +kernel : am_at co_X7_isLike 34 = some (2, .iload 4)) rfl ?_
          obtain ⟨o11, h⟩ := h
          refine x_iadd (by decide +kernel : am_at co_X7_isLike 36 = some (1, .iadd)) o11 ?_
          obtain ⟨o12, h⟩ := h
          refine x_iald (by decide +kernel : am_at co_X7_isLike 37 = some (1, .iaload)) (o12) ?_
          refine x_aload_n (by decide +kernel : am_at co_X7_isLike 38 = some (1, .aload_n 0)) rfl ?_
          refine x_getF (by decide +kernel : am_at co_X7_isLike 39 = some (3, .getfield 9)) pq_7_9 (by decide) rfl o0 ?_
          refine x_iload (by decide +kernel : am_at co_X7_isLike 42 = some (2, .iload 4)) rfl ?_
          obtain ⟨o13, h⟩ := h
          refine x_iald (by decide +kernel : am_at co_X7_isLike 44 = some (1, .iaload)) (o13) ?_
          refine x_icmp (tgt := 52) (by decide +kernel : am_at co_X7_isLike 45 = some (3, .if_icmp .ne 7)) rfl Iff.rfl (fun c14 => ?_) (fun c14 => ?_)
          · have h := h.1 c14
            refine x_iconst (by decide +kernel : am_at co_X7_isLike 52 = some (1, .iconst 0)) ?_
            refine x_istore_n (L' := [(2, v0), (2, v1), (0, v2), (0, 0), (0, v4)]) (by decide +kernel : am_at co_X7_isLike 53 = some (1, .istore_n 3)) rfl ?_
            obtain ⟨o15, h⟩ := h
            refine x_iinc (L' := [(2, v0), (2, v1), (0, v2), (0, 0), (0, v4 + 1)]) (by decide +kernel : am_at co_X7_isLike 54 = some (3, .iinc 4 1)) rfl o15 rfl ?_
            refine x_goto (tgt := 5) (by decide +kernel : am_at co_X7_isLike 57 = some (3, .goto (-52))) rfl ?_
            exact am_weak (lk (lk (lk (lk (lk ln))))) h
          · have c14 := (Classical.not_not.mp c14)
            have h := h.2 c14
            refine x_iconst (by decide +kernel : am_at co_X7_isLike 48 = some (1, .iconst 1)) ?_
            refine x_goto (tgt := 53) (by decide +kernel : am_at co_X7_isLike 49 = some (3, .goto 4)) rfl ?_
            refine x_istore_n (L' := [(2, v0), (2, v1), (0, v2), (0, 1), (0, v4)]) (by decide +kernel : am_at co_X7_isLike 53 = some (1, .istore_n 3)) rfl ?_
            obtain ⟨o16, h⟩ := h
            refine x_iinc (L' := [(2, v0), (2, v1), (0, v2), (0, 1), (0, v4 + 1)]) (by decide +kernel : am_at co_X7_isLike 54 = some (3, .iinc 4 1)) rfl o16 rfl ?_
            refine x_goto (tgt := 5) (by decide +kernel : am_at co_X7_isLike 57 = some (3, .goto (-52))) rfl ?_
            exact am_weak (lk (lk (lk (lk (lk ln))))) h
set_option maxRecDepth 20000 in
theorem bk_X7_writeTo_0 {d : Nat} {Q : am_Q} {M : am_M} {v0 v1 v2 : Int} (h : am_g 7 9 co_X7_writeTo d Q 2 [(2, v0), (2, v1), (0, v2), (0, 0)] [] sh_T M) : am_g 7 9 co_X7_writeTo d Q 0 [(2, v0), (2, v1), (0, v2), (3, 0)] [] sh_T M := by
  refine x_iconst (by decide +kernel : am_at co_X7_writeTo 0 = some (1, .iconst 0)) ?_
  refine x_istore_n (L' := [(2, v0), (2, v1), (0, v2), (0, 0)]) (by decide +kernel : am_at co_X7_writeTo 1 = some (1, .istore_n 3)) rfl ?_
  exact am_weak (lk (lk (lk (lk ln)))) h
set_option maxRecDepth 20000 in
theorem bk_X7_writeTo_2 {d : Nat} {Q : am_Q} {M : am_M} {v0 v1 v2 v3 : Int} (h : am_ob sh_T 7 v0 ∧ ∃ n1 : Nat, am_alen pg sh_T (v0 + 1) = some n1 ∧ (((n1 : Int) ≤ v3 → Q (none, sh_T, M)) ∧ (v3 < (n1 : Int) → ((v2 < 0 → am_r (v3 + 1) ∧ am_g 7 9 co_X7_writeTo d Q 2 [(2, v0), (2, v1), (0, v2), (0, v3 + 1)] [] sh_T M) ∧ (0 ≤ v2 → am_r (v2 + v3) ∧ ∃ n6 : Nat, am_alen pg sh_T v1 = some n6 ∧ (((n6 : Int) ≤ v2 + v3 → am_r (v3 + 1) ∧ am_g 7 9 co_X7_writeTo d Q 2 [(2, v0), (2, v1), (0, v2), (0, v3 + 1)] [] sh_T M) ∧ (v2 + v3 < (n6 : Int) → am_r (v2 + v3) ∧ am_in pg sh_T 1 (v0 + 1) v3 ∧ am_own sh_T 1 v1 (v2 + v3) ∧ am_r (v3 + 1) ∧ am_g 7 9 co_X7_writeTo d Q 2 [(2, v0), (2, v1), (0, v2), (0, v3 + 1)] [] sh_T (am_up M v1 (v2 + v3) (M (v0 + 1) v3))))))))) : am_g 7 9 co_X7_writeTo d Q 2 [(2, v0), (2, v1), (0, v2), (0, v3)] [] sh_T M := by
  refine x_iload_n (by decide +kernel : am_at co_X7_writeTo 2 = some (1, .iload_n 3)) rfl ?_
  refine x_aload_n (by decide +kernel : am_at co_X7_writeTo 3 = some (1, .aload_n 0)) rfl ?_
  obtain ⟨o0, h⟩ := h
  refine x_getF (by decide +kernel : am_at co_X7_writeTo 4 = some (3, .getfield 9)) pq_7_9 (by decide) rfl o0 ?_
  obtain ⟨n1, o1, h⟩ := h
  refine x_alen (by decide +kernel : am_at co_X7_writeTo 7 = some (1, .arraylength)) o1 ?_
  refine x_icmp (tgt := 40) (by decide +kernel : am_at co_X7_writeTo 8 = some (3, .if_icmp .ge 32)) rfl Iff.rfl (fun c2 => ?_) (fun c2 => ?_)
  · have h := h.1 c2
    exact x_vret (by decide +kernel : am_at co_X7_writeTo 40 = some (1, .return_)) h
  · have c2 := (Int.not_le.mp c2)
    have h := h.2 c2
    refine x_iload_n (by decide +kernel : am_at co_X7_writeTo 11 = some (1, .iload_n 2)) rfl ?_
    refine x_if (tgt := 34) (by decide +kernel : am_at co_X7_writeTo 12 = some (3, .ifCond .lt 22)) rfl Iff.rfl (fun c3 => ?_) (fun c3 => ?_)
    · have h := h.1 c3
      obtain ⟨o4, h⟩ := h
      refine x_iinc (L' := [(2, v0), (2, v1), (0, v2), (0, v3 + 1)]) (by decide +kernel : am_at co_X7_writeTo 34 = some (3, .iinc 3 1)) rfl o4 rfl ?_
      refine x_goto (tgt := 2) (by decide +kernel : am_at co_X7_writeTo 37 = some (3, .goto (-35))) rfl ?_
      exact am_weak (lk (lk (lk (lk ln)))) h
    · have c3 := (Int.not_lt.mp c3)
      have h := h.2 c3
      refine x_iload_n (by decide +kernel : am_at co_X7_writeTo 15 = some (1, .iload_n 2)) rfl ?_
      refine x_iload_n (by decide +kernel : am_at co_X7_writeTo 16 = some (1, .iload_n 3)) rfl ?_
      obtain ⟨o5, h⟩ := h
      refine x_iadd (by decide +kernel : am_at co_X7_writeTo 17 = some (1, .iadd)) o5 ?_
      refine x_aload_n (by decide +kernel : am_at co_X7_writeTo 18 = some (1, .aload_n 1)) rfl ?_
      obtain ⟨n6, o6, h⟩ := h
      refine x_alen (by decide +kernel : am_at co_X7_writeTo 19 = some (1, .arraylength)) o6 ?_
      refine x_icmp (tgt := 34) (by decide +kernel : am_at co_X7_writeTo 20 = some (3, .if_icmp .ge 14)) rfl Iff.rfl (fun c7 => ?_) (fun c7 => ?_)
      · have h := h.1 c7
        obtain ⟨o8, h⟩ := h
        refine x_iinc (L' := [(2, v0), (2, v1), (0, v2), (0, v3 + 1)]) (by decide +kernel : am_at co_X7_writeTo 34 = some (3, .iinc 3 1)) rfl o8 rfl ?_
        refine x_goto (tgt := 2) (by decide +kernel : am_at co_X7_writeTo 37 = some (3, .goto (-35))) rfl ?_
        exact am_weak (lk (lk (lk (lk ln)))) h
      · have c7 := (Int.not_le.mp c7)
        have h := h.2 c7
        refine x_aload_n (by decide +kernel : am_at co_X7_writeTo 23 = some (1, .aload_n 1)) rfl ?_
        refine x_iload_n (by decide +kernel : am_at co_X7_writeTo 24 = some (1, .iload_n 2)) rfl ?_
        refine x_iload_n (by decide +kernel : am_at co_X7_writeTo 25 = some (1, .iload_n 3)) rfl ?_
        obtain ⟨o9, h⟩ := h
        refine x_iadd (by decide +kernel : am_at co_X7_writeTo 26 = some (1, .iadd)) o9 ?_
        refine x_aload_n (by decide +kernel : am_at co_X7_writeTo 27 = some (1, .aload_n 0)) rfl ?_
        refine x_getF (by decide +kernel : am_at co_X7_writeTo 28 = some (3, .getfield 9)) pq_7_9 (by decide) rfl o0 ?_
        refine x_iload_n (by decide +kernel : am_at co_X7_writeTo 31 = some (1, .iload_n 3)) rfl ?_
        obtain ⟨o10, h⟩ := h
        refine x_iald (by decide +kernel : am_at co_X7_writeTo 32 = some (1, .iaload)) (o10) ?_
        obtain ⟨o11, h⟩ := h
        refine x_iast (by decide +kernel : am_at co_X7_writeTo 33 = some (1, .iastore)) (o11) ?_
        obtain ⟨o12, h⟩ := h
        refine x_iinc (L' := [(2, v0), (2, v1), (0, v2), (0, v3 + 1)]) (by decide +kernel : am_at co_X7_writeTo 34 = some (3, .iinc 3 1)) rfl o12 rfl ?_
        refine x_goto (tgt := 2) (by decide +kernel : am_at co_X7_writeTo 37 = some (3, .goto (-35))) rfl ?_
        exact am_weak (lk (lk (lk (lk ln)))) h
set_option maxRecDepth 20000 in
theorem bk_X8_write_0 {d : Nat} {Q : am_Q} {M : am_M} {v1 v2 : Int} (h : (v2 = 0 ∨ v2 = 1) ∧ Q (none, sh_T, (am_up (am_up M 3 1 v1) 3 2 v2))) : am_g 8 9 co_X8_write d Q 0 [(2, 3), (2, v1), (0, v2)] [] sh_T M := by
  refine x_aload_n (by decide +kernel : am_at co_X8_write 0 = some (1, .aload_n 0)) rfl ?_
  refine x_aload_n (by decide +kernel : am_at co_X8_write 1 = some (1, .aload_n 1)) rfl ?_
  refine x_putf2 (by decide +kernel : am_at co_X8_write 2 = some (3, .putfield 9)) pq_8_9 rfl ob_3 ?_
  refine x_aload_n (by decide +kernel : am_at co_X8_write 5 = some (1, .aload_n 0)) rfl ?_
  refine x_iload_n (by decide +kernel : am_at co_X8_write 6 = some (1, .iload_n 2)) rfl ?_
  obtain ⟨o0, h⟩ := h
  refine x_putf5 (by decide +kernel : am_at co_X8_write 7 = some (3, .putfield 15)) pq_8_15 rfl ob_3 o0 ?_
  exact x_vret (by decide +kernel : am_at co_X8_write 10 = some (1, .return_)) h
set_option maxRecDepth 20000 in
theorem bk_X8_emit_0 {d : Nat} {Q : am_Q} {M : am_M} {v1 : Int} (h : ((M 3 1 < 0 → Q (none, sh_T, M)) ∧ (0 ≤ M 3 1 → am_ob sh_T 6 (M 3 1) ∧ am_cal pg d 61 [(2, M 3 1), (0, v1)] sh_T M (am_cv sh_T fun M3 => Q (none, sh_T, M3))))) : am_g 8 9 co_X8_emit d Q 0 [(2, 3), (0, v1)] [] sh_T M := by
  refine x_aload_n (by decide +kernel : am_at co_X8_emit 0 = some (1, .aload_n 0)) rfl ?_
  refine x_getf (by decide +kernel : am_at co_X8_emit 1 = some (3, .getfield 9)) pq_8_9 rfl ob_3 ?_
  refine x_ifnull (tgt := 15) (by decide +kernel : am_at co_X8_emit 4 = some (3, .ifnull 11)) rfl (fun c0 => ?_) (fun c0 => ?_)
  · have h := h.1 c0
    exact x_vret (by decide +kernel : am_at co_X8_emit 15 = some (1, .return_)) h
  · have c0 := (Int.not_lt.mp c0)
    have h := h.2 c0
    refine x_aload_n (by decide +kernel : am_at co_X8_emit 7 = some (1, .aload_n 0)) rfl ?_
    refine x_getf (by decide +kernel : am_at co_X8_emit 8 = some (3, .getfield 9)) pq_8_9 rfl ob_3 ?_
    refine x_iload_n (by decide +kernel : am_at co_X8_emit 11 = some (1, .iload_n 1)) rfl ?_
    obtain ⟨o1, h⟩ := h
    refine x_callV (n := 2) (by decide +kernel : am_at co_X8_emit 12 = some (3, .invokevirtual 23)) pq_8_23 pm_X6_add rfl rfl rfl o1 h (x_kv fun M3 h => ?_)
    exact x_vret (by decide +kernel : am_at co_X8_emit 15 = some (1, .return_)) h
set_option maxRecDepth 20000 in
theorem bk_X8_mayOpen_0 {d : Nat} {Q : am_Q} {M : am_M} {v1 : Int} (h : ((6 ≤ v1 → am_cal pg d 97 [(2, 1), (0, 4)] sh_T M (am_cv sh_T fun M2 => Q (some (0, 0), sh_T, M2))) ∧ (v1 < 6 → Q (some (0, 1), sh_T, M)))) : am_g 8 5 co_X8_mayOpen d Q 0 [(2, 3), (0, v1)] [] sh_T M := by
  refine x_iload_n (by decide +kernel : am_at co_X8_mayOpen 0 = some (1, .iload_n 1)) rfl ?_
  refine x_bipush (by decide +kernel : am_at co_X8_mayOpen 1 = some (2, .bipush 6)) ?_
  refine x_icmp (tgt := 8) (by decide +kernel : am_at co_X8_mayOpen 3 = some (3, .if_icmp .ge 5)) rfl Iff.rfl (fun c0 => ?_) (fun c0 => ?_)
  · have h := h.1 c0
    refine x_aload_n (by decide +kernel : am_at co_X8_mayOpen 8 = some (1, .aload_n 0)) rfl ?_
    refine x_getF (by decide +kernel : am_at co_X8_mayOpen 9 = some (3, .getfield 19)) pq_8_19 (by decide) rfl ob_3 ?_
    refine x_top2 (show 3 + (-2) = 1 from rfl) ?_
    refine x_iconst (by decide +kernel : am_at co_X8_mayOpen 12 = some (1, .iconst 4)) ?_
    refine x_callV (n := 2) (by decide +kernel : am_at co_X8_mayOpen 13 = some (3, .invokevirtual 29)) pq_8_29 pm_X9_blameHere rfl rfl rfl ob_1 h (x_kv fun M2 h => ?_)
    refine x_iconst (by decide +kernel : am_at co_X8_mayOpen 16 = some (1, .iconst 0)) ?_
    exact x_zret (by decide +kernel : am_at co_X8_mayOpen 17 = some (1, .ireturn)) (by decide) h
  · have c0 := (Int.not_le.mp c0)
    have h := h.2 c0
    refine x_iconst (by decide +kernel : am_at co_X8_mayOpen 6 = some (1, .iconst 1)) ?_
    exact x_zret (by decide +kernel : am_at co_X8_mayOpen 7 = some (1, .ireturn)) (by decide) h
set_option maxRecDepth 20000 in
theorem bk_X8_readSum_0 {d : Nat} {Q : am_Q} {M : am_M} {v1 : Int} (h : am_cal pg d 85 [(2, 3), (0, v1)] sh_T M (am_cv sh_T fun M1 => am_g 8 9 co_X8_readSum d Q 7 [(2, 3), (0, v1), (0, 0), (3, 0)] [] sh_T M1)) : am_g 8 9 co_X8_readSum d Q 0 [(2, 3), (0, v1), (3, 0), (3, 0)] [] sh_T M := by
  refine x_aload_n (by decide +kernel : am_at co_X8_readSum 0 = some (1, .aload_n 0)) rfl ?_
  refine x_iload_n (by decide +kernel : am_at co_X8_readSum 1 = some (1, .iload_n 1)) rfl ?_
  refine x_callV (n := 2) (by decide +kernel : am_at co_X8_readSum 2 = some (3, .invokevirtual 34)) pq_8_34 pm_X8_readProduct rfl rfl rfl ob_3 h (x_kv fun M1 h => ?_)
  refine x_iconst (by decide +kernel : am_at co_X8_readSum 5 = some (1, .iconst 0)) ?_
  refine x_istore_n (L' := [(2, 3), (0, v1), (0, 0), (3, 0)]) (by decide +kernel : am_at co_X8_readSum 6 = some (1, .istore_n 2)) rfl ?_
  exact am_weak (lk (lk (lk (lk ln)))) h
set_option maxRecDepth 20000 in
theorem bk_X8_readSum_7 {d : Nat} {Q : am_Q} {M : am_M} {v1 v2 : Int} (h : ((1600 ≤ v2 → Q (none, sh_T, M)) ∧ (v2 < 1600 → am_cal pg d 95 [(2, 1)] sh_T M (am_c0 sh_T fun x2 M2 => ((¬ x2 = 0 → Q (none, sh_T, M2)) ∧ (x2 = 0 → am_cal pg d 99 [(2, 1), (0, 43)] sh_T M2 (am_c0 sh_T fun x4 M4 => ((x4 = 0 → am_cal pg d 99 [(2, 1), (0, 45)] sh_T M4 (am_c0 sh_T fun x6 M6 => ((x6 = 0 → Q (none, sh_T, M6)) ∧ (¬ x6 = 0 → am_cal pg d 100 [(2, 1)] sh_T M6 (am_cv sh_T fun M8 => am_cal pg d 85 [(2, 3), (0, v1)] sh_T M8 (am_cv sh_T fun M9 => am_cal pg d 82 [(2, 3), (0, (-2))] sh_T M9 (am_cv sh_T fun M10 => am_r (v2 + 1) ∧ am_g 8 9 co_X8_readSum d Q 7 [(2, 3), (0, v1), (0, v2 + 1), (3, 0)] [] sh_T M10))))))) ∧ (¬ x4 = 0 → am_cal pg d 100 [(2, 1)] sh_T M4 (am_cv sh_T fun M12 => am_cal pg d 85 [(2, 3), (0, v1)] sh_T M12 (am_cv sh_T fun M13 => am_cal pg d 82 [(2, 3), (0, (-1))] sh_T M13 (am_cv sh_T fun M14 => am_r (v2 + 1) ∧ am_g 8 9 co_X8_readSum d Q 7 [(2, 3), (0, v1), (0, v2 + 1), (3, 0)] [] sh_T M14)))))))))))) : am_g 8 9 co_X8_readSum d Q 7 [(2, 3), (0, v1), (0, v2), (3, 0)] [] sh_T M := by
  refine x_iload_n (by decide +kernel : am_at co_X8_readSum 7 = some (1, .iload_n 2)) rfl ?_
  refine x_sipush (by decide +kernel : am_at co_X8_readSum 8 = some (3, .sipush 1600)) ?_
  refine x_icmp (tgt := 87) (by decide +kernel : am_at co_X8_readSum 11 = some (3, .if_icmp .ge 76)) rfl Iff.rfl (fun c0 => ?_) (fun c0 => ?_)
  · have h := h.1 c0
    exact x_vret (by decide +kernel : am_at co_X8_readSum 87 = some (1, .return_)) h
  · have c0 := (Int.not_le.mp c0)
    have h := h.2 c0
    refine x_aload_n (by decide +kernel : am_at co_X8_readSum 14 = some (1, .aload_n 0)) rfl ?_
    refine x_getF (by decide +kernel : am_at co_X8_readSum 15 = some (3, .getfield 19)) pq_8_19 (by decide) rfl ob_3 ?_
    refine x_top2 (show 3 + (-2) = 1 from rfl) ?_
    refine x_callV (n := 1) (by decide +kernel : am_at co_X8_readSum 18 = some (3, .invokevirtual 37)) pq_8_37 pm_X9_failed rfl rfl rfl ob_1 h (x_k0 fun x2 M2 h => ?_)
    refine x_if (tgt := 87) (by decide +kernel : am_at co_X8_readSum 21 = some (3, .ifCond .ne 66)) rfl Iff.rfl (fun c2 => ?_) (fun c2 => ?_)
    · have h := h.1 c2
      exact x_vret (by decide +kernel : am_at co_X8_readSum 87 = some (1, .return_)) h
    · have c2 := (Classical.not_not.mp c2)
      have h := h.2 c2
      refine x_aload_n (by decide +kernel : am_at co_X8_readSum 24 = some (1, .aload_n 0)) rfl ?_
      refine x_getF (by decide +kernel : am_at co_X8_readSum 25 = some (3, .getfield 19)) pq_8_19 (by decide) rfl ob_3 ?_
      refine x_top2 (show 3 + (-2) = 1 from rfl) ?_
      refine x_bipush (by decide +kernel : am_at co_X8_readSum 28 = some (2, .bipush 43)) ?_
      refine x_callV (n := 2) (by decide +kernel : am_at co_X8_readSum 30 = some (3, .invokevirtual 41)) pq_8_41 pm_X9_sees rfl rfl rfl ob_1 h (x_k0 fun x4 M4 h => ?_)
      refine x_if (tgt := 40) (by decide +kernel : am_at co_X8_readSum 33 = some (3, .ifCond .eq 7)) rfl Iff.rfl (fun c4 => ?_) (fun c4 => ?_)
      · have h := h.1 c4
        refine x_aload_n (by decide +kernel : am_at co_X8_readSum 40 = some (1, .aload_n 0)) rfl ?_
        refine x_getF (by decide +kernel : am_at co_X8_readSum 41 = some (3, .getfield 19)) pq_8_19 (by decide) rfl ob_3 ?_
        refine x_top2 (show 3 + (-2) = 1 from rfl) ?_
        refine x_bipush (by decide +kernel : am_at co_X8_readSum 44 = some (2, .bipush 45)) ?_
        refine x_callV (n := 2) (by decide +kernel : am_at co_X8_readSum 46 = some (3, .invokevirtual 41)) pq_8_41 pm_X9_sees rfl rfl rfl ob_1 h (x_k0 fun x6 M6 h => ?_)
        refine x_if (tgt := 57) (by decide +kernel : am_at co_X8_readSum 49 = some (3, .ifCond .eq 8)) rfl Iff.rfl (fun c6 => ?_) (fun c6 => ?_)
        · have h := h.1 c6
          refine x_iconst (by decide +kernel : am_at co_X8_readSum 57 = some (1, .iconst 0)) ?_
          refine x_istore_n (L' := [(2, 3), (0, v1), (0, v2), (0, 0)]) (by decide +kernel : am_at co_X8_readSum 58 = some (1, .istore_n 3)) rfl ?_
          refine x_iload_n (by decide +kernel : am_at co_X8_readSum 59 = some (1, .iload_n 3)) rfl ?_
          refine x_if (tgt := 64) (by decide +kernel : am_at co_X8_readSum 60 = some (3, .ifCond .ne 4)) rfl Iff.rfl (fun q => absurd q (show ¬ (¬ (0 : Int) = 0) by decide)) (fun q => ?_)
          exact x_vret (by decide +kernel : am_at co_X8_readSum 63 = some (1, .return_)) h
        · have c6 := c6
          have h := h.2 c6
          refine x_bipush (by decide +kernel : am_at co_X8_readSum 52 = some (2, .bipush (-2))) ?_
          refine x_goto (tgt := 58) (by decide +kernel : am_at co_X8_readSum 54 = some (3, .goto 4)) rfl ?_
          refine x_istore_n (L' := [(2, 3), (0, v1), (0, v2), (0, (-2))]) (by decide +kernel : am_at co_X8_readSum 58 = some (1, .istore_n 3)) rfl ?_
          refine x_iload_n (by decide +kernel : am_at co_X8_readSum 59 = some (1, .iload_n 3)) rfl ?_
          refine x_if (tgt := 64) (by decide +kernel : am_at co_X8_readSum 60 = some (3, .ifCond .ne 4)) rfl Iff.rfl (fun q => ?_) (fun q => absurd (show ¬ (-2 : Int) = 0 by decide) q)
          refine x_aload_n (by decide +kernel : am_at co_X8_readSum 64 = some (1, .aload_n 0)) rfl ?_
          refine x_getF (by decide +kernel : am_at co_X8_readSum 65 = some (3, .getfield 19)) pq_8_19 (by decide) rfl ob_3 ?_
          refine x_top2 (show 3 + (-2) = 1 from rfl) ?_
          refine x_callV (n := 1) (by decide +kernel : am_at co_X8_readSum 68 = some (3, .invokevirtual 45)) pq_8_45 pm_X9_step rfl rfl rfl ob_1 h (x_kv fun M8 h => ?_)
          refine x_aload_n (by decide +kernel : am_at co_X8_readSum 71 = some (1, .aload_n 0)) rfl ?_
          refine x_iload_n (by decide +kernel : am_at co_X8_readSum 72 = some (1, .iload_n 1)) rfl ?_
          refine x_callV (n := 2) (by decide +kernel : am_at co_X8_readSum 73 = some (3, .invokevirtual 34)) pq_8_34 pm_X8_readProduct rfl rfl rfl ob_3 h (x_kv fun M9 h => ?_)
          refine x_aload_n (by decide +kernel : am_at co_X8_readSum 76 = some (1, .aload_n 0)) rfl ?_
          refine x_iload_n (by decide +kernel : am_at co_X8_readSum 77 = some (1, .iload_n 3)) rfl ?_
          refine x_callV (n := 2) (by decide +kernel : am_at co_X8_readSum 78 = some (3, .invokevirtual 48)) pq_8_48 pm_X8_emit rfl rfl rfl ob_3 h (x_kv fun M10 h => ?_)
          obtain ⟨o10, h⟩ := h
          refine x_iinc (L' := [(2, 3), (0, v1), (0, v2 + 1), (0, (-2))]) (by decide +kernel : am_at co_X8_readSum 81 = some (3, .iinc 2 1)) rfl o10 rfl ?_
          refine x_goto (tgt := 7) (by decide +kernel : am_at co_X8_readSum 84 = some (3, .goto (-77))) rfl ?_
          exact am_weak (lk (lk (lk (ld ln)))) h
      · have c4 := c4
        have h := h.2 c4
        refine x_iconst (by decide +kernel : am_at co_X8_readSum 36 = some (1, .iconst (-1))) ?_
        refine x_goto (tgt := 58) (by decide +kernel : am_at co_X8_readSum 37 = some (3, .goto 21)) rfl ?_
        refine x_istore_n (L' := [(2, 3), (0, v1), (0, v2), (0, (-1))]) (by decide +kernel : am_at co_X8_readSum 58 = some (1, .istore_n 3)) rfl ?_
        refine x_iload_n (by decide +kernel : am_at co_X8_readSum 59 = some (1, .iload_n 3)) rfl ?_
        refine x_if (tgt := 64) (by decide +kernel : am_at co_X8_readSum 60 = some (3, .ifCond .ne 4)) rfl Iff.rfl (fun q => ?_) (fun q => absurd (show ¬ (-1 : Int) = 0 by decide) q)
        refine x_aload_n (by decide +kernel : am_at co_X8_readSum 64 = some (1, .aload_n 0)) rfl ?_
        refine x_getF (by decide +kernel : am_at co_X8_readSum 65 = some (3, .getfield 19)) pq_8_19 (by decide) rfl ob_3 ?_
        refine x_top2 (show 3 + (-2) = 1 from rfl) ?_
        refine x_callV (n := 1) (by decide +kernel : am_at co_X8_readSum 68 = some (3, .invokevirtual 45)) pq_8_45 pm_X9_step rfl rfl rfl ob_1 h (x_kv fun M12 h => ?_)
        refine x_aload_n (by decide +kernel : am_at co_X8_readSum 71 = some (1, .aload_n 0)) rfl ?_
        refine x_iload_n (by decide +kernel : am_at co_X8_readSum 72 = some (1, .iload_n 1)) rfl ?_
        refine x_callV (n := 2) (by decide +kernel : am_at co_X8_readSum 73 = some (3, .invokevirtual 34)) pq_8_34 pm_X8_readProduct rfl rfl rfl ob_3 h (x_kv fun M13 h => ?_)
        refine x_aload_n (by decide +kernel : am_at co_X8_readSum 76 = some (1, .aload_n 0)) rfl ?_
        refine x_iload_n (by decide +kernel : am_at co_X8_readSum 77 = some (1, .iload_n 3)) rfl ?_
        refine x_callV (n := 2) (by decide +kernel : am_at co_X8_readSum 78 = some (3, .invokevirtual 48)) pq_8_48 pm_X8_emit rfl rfl rfl ob_3 h (x_kv fun M14 h => ?_)
        obtain ⟨o14, h⟩ := h
        refine x_iinc (L' := [(2, 3), (0, v1), (0, v2 + 1), (0, (-1))]) (by decide +kernel : am_at co_X8_readSum 81 = some (3, .iinc 2 1)) rfl o14 rfl ?_
        refine x_goto (tgt := 7) (by decide +kernel : am_at co_X8_readSum 84 = some (3, .goto (-77))) rfl ?_
        exact am_weak (lk (lk (lk (ld ln)))) h
set_option maxRecDepth 20000 in
theorem bk_X8_readProduct_0 {d : Nat} {Q : am_Q} {M : am_M} {v1 : Int} (h : am_cal pg d 86 [(2, 3), (0, v1)] sh_T M (am_cv sh_T fun M1 => am_g 8 9 co_X8_readProduct d Q 7 [(2, 3), (0, v1), (0, 0), (3, 0)] [] sh_T M1)) : am_g 8 9 co_X8_readProduct d Q 0 [(2, 3), (0, v1), (3, 0), (3, 0)] [] sh_T M := by
  refine x_aload_n (by decide +kernel : am_at co_X8_readProduct 0 = some (1, .aload_n 0)) rfl ?_
  refine x_iload_n (by decide +kernel : am_at co_X8_readProduct 1 = some (1, .iload_n 1)) rfl ?_
  refine x_callV (n := 2) (by decide +kernel : am_at co_X8_readProduct 2 = some (3, .invokevirtual 51)) pq_8_51 pm_X8_readPart rfl rfl rfl ob_3 h (x_kv fun M1 h => ?_)
  refine x_iconst (by decide +kernel : am_at co_X8_readProduct 5 = some (1, .iconst 0)) ?_
  refine x_istore_n (L' := [(2, 3), (0, v1), (0, 0), (3, 0)]) (by decide +kernel : am_at co_X8_readProduct 6 = some (1, .istore_n 2)) rfl ?_
  exact am_weak (lk (lk (lk (lk ln)))) h
set_option maxRecDepth 20000 in
theorem bk_X8_readProduct_7 {d : Nat} {Q : am_Q} {M : am_M} {v1 v2 : Int} (h : ((1600 ≤ v2 → Q (none, sh_T, M)) ∧ (v2 < 1600 → am_cal pg d 95 [(2, 1)] sh_T M (am_c0 sh_T fun x2 M2 => ((¬ x2 = 0 → Q (none, sh_T, M2)) ∧ (x2 = 0 → am_cal pg d 99 [(2, 1), (0, 42)] sh_T M2 (am_c0 sh_T fun x4 M4 => ((x4 = 0 → am_cal pg d 99 [(2, 1), (0, 47)] sh_T M4 (am_c0 sh_T fun x6 M6 => ((x6 = 0 → Q (none, sh_T, M6)) ∧ (¬ x6 = 0 → am_cal pg d 100 [(2, 1)] sh_T M6 (am_cv sh_T fun M8 => am_cal pg d 86 [(2, 3), (0, v1)] sh_T M8 (am_cv sh_T fun M9 => am_cal pg d 82 [(2, 3), (0, (-4))] sh_T M9 (am_cv sh_T fun M10 => am_r (v2 + 1) ∧ am_g 8 9 co_X8_readProduct d Q 7 [(2, 3), (0, v1), (0, v2 + 1), (3, 0)] [] sh_T M10))))))) ∧ (¬ x4 = 0 → am_cal pg d 100 [(2, 1)] sh_T M4 (am_cv sh_T fun M12 => am_cal pg d 86 [(2, 3), (0, v1)] sh_T M12 (am_cv sh_T fun M13 => am_cal pg d 82 [(2, 3), (0, (-3))] sh_T M13 (am_cv sh_T fun M14 => am_r (v2 + 1) ∧ am_g 8 9 co_X8_readProduct d Q 7 [(2, 3), (0, v1), (0, v2 + 1), (3, 0)] [] sh_T M14)))))))))))) : am_g 8 9 co_X8_readProduct d Q 7 [(2, 3), (0, v1), (0, v2), (3, 0)] [] sh_T M := by
  refine x_iload_n (by decide +kernel : am_at co_X8_readProduct 7 = some (1, .iload_n 2)) rfl ?_
  refine x_sipush (by decide +kernel : am_at co_X8_readProduct 8 = some (3, .sipush 1600)) ?_
  refine x_icmp (tgt := 88) (by decide +kernel : am_at co_X8_readProduct 11 = some (3, .if_icmp .ge 77)) rfl Iff.rfl (fun c0 => ?_) (fun c0 => ?_)
  · have h := h.1 c0
    exact x_vret (by decide +kernel : am_at co_X8_readProduct 88 = some (1, .return_)) h
  · have c0 := (Int.not_le.mp c0)
    have h := h.2 c0
    refine x_aload_n (by decide +kernel : am_at co_X8_readProduct 14 = some (1, .aload_n 0)) rfl ?_
    refine x_getF (by decide +kernel : am_at co_X8_readProduct 15 = some (3, .getfield 19)) pq_8_19 (by decide) rfl ob_3 ?_
    refine x_top2 (show 3 + (-2) = 1 from rfl) ?_
    refine x_callV (n := 1) (by decide +kernel : am_at co_X8_readProduct 18 = some (3, .invokevirtual 37)) pq_8_37 pm_X9_failed rfl rfl rfl ob_1 h (x_k0 fun x2 M2 h => ?_)
    refine x_if (tgt := 88) (by decide +kernel : am_at co_X8_readProduct 21 = some (3, .ifCond .ne 67)) rfl Iff.rfl (fun c2 => ?_) (fun c2 => ?_)
    · have h := h.1 c2
      exact x_vret (by decide +kernel : am_at co_X8_readProduct 88 = some (1, .return_)) h
    · have c2 := (Classical.not_not.mp c2)
      have h := h.2 c2
      refine x_aload_n (by decide +kernel : am_at co_X8_readProduct 24 = some (1, .aload_n 0)) rfl ?_
      refine x_getF (by decide +kernel : am_at co_X8_readProduct 25 = some (3, .getfield 19)) pq_8_19 (by decide) rfl ob_3 ?_
      refine x_top2 (show 3 + (-2) = 1 from rfl) ?_
      refine x_bipush (by decide +kernel : am_at co_X8_readProduct 28 = some (2, .bipush 42)) ?_
      refine x_callV (n := 2) (by decide +kernel : am_at co_X8_readProduct 30 = some (3, .invokevirtual 41)) pq_8_41 pm_X9_sees rfl rfl rfl ob_1 h (x_k0 fun x4 M4 h => ?_)
      refine x_if (tgt := 41) (by decide +kernel : am_at co_X8_readProduct 33 = some (3, .ifCond .eq 8)) rfl Iff.rfl (fun c4 => ?_) (fun c4 => ?_)
      · have h := h.1 c4
        refine x_aload_n (by decide +kernel : am_at co_X8_readProduct 41 = some (1, .aload_n 0)) rfl ?_
        refine x_getF (by decide +kernel : am_at co_X8_readProduct 42 = some (3, .getfield 19)) pq_8_19 (by decide) rfl ob_3 ?_
        refine x_top2 (show 3 + (-2) = 1 from rfl) ?_
        refine x_bipush (by decide +kernel : am_at co_X8_readProduct 45 = some (2, .bipush 47)) ?_
        refine x_callV (n := 2) (by decide +kernel : am_at co_X8_readProduct 47 = some (3, .invokevirtual 41)) pq_8_41 pm_X9_sees rfl rfl rfl ob_1 h (x_k0 fun x6 M6 h => ?_)
        refine x_if (tgt := 58) (by decide +kernel : am_at co_X8_readProduct 50 = some (3, .ifCond .eq 8)) rfl Iff.rfl (fun c6 => ?_) (fun c6 => ?_)
        · have h := h.1 c6
          refine x_iconst (by decide +kernel : am_at co_X8_readProduct 58 = some (1, .iconst 0)) ?_
          refine x_istore_n (L' := [(2, 3), (0, v1), (0, v2), (0, 0)]) (by decide +kernel : am_at co_X8_readProduct 59 = some (1, .istore_n 3)) rfl ?_
          refine x_iload_n (by decide +kernel : am_at co_X8_readProduct 60 = some (1, .iload_n 3)) rfl ?_
          refine x_if (tgt := 65) (by decide +kernel : am_at co_X8_readProduct 61 = some (3, .ifCond .ne 4)) rfl Iff.rfl (fun q => absurd q (show ¬ (¬ (0 : Int) = 0) by decide)) (fun q => ?_)
          exact x_vret (by decide +kernel : am_at co_X8_readProduct 64 = some (1, .return_)) h
        · have c6 := c6
          have h := h.2 c6
          refine x_bipush (by decide +kernel : am_at co_X8_readProduct 53 = some (2, .bipush (-4))) ?_
          refine x_goto (tgt := 59) (by decide +kernel : am_at co_X8_readProduct 55 = some (3, .goto 4)) rfl ?_
          refine x_istore_n (L' := [(2, 3), (0, v1), (0, v2), (0, (-4))]) (by decide +kernel : am_at co_X8_readProduct 59 = some (1, .istore_n 3)) rfl ?_
          refine x_iload_n (by decide +kernel : am_at co_X8_readProduct 60 = some (1, .iload_n 3)) rfl ?_
          refine x_if (tgt := 65) (by decide +kernel : am_at co_X8_readProduct 61 = some (3, .ifCond .ne 4)) rfl Iff.rfl (fun q => ?_) (fun q => absurd (show ¬ (-4 : Int) = 0 by decide) q)
          refine x_aload_n (by decide +kernel : am_at co_X8_readProduct 65 = some (1, .aload_n 0)) rfl ?_
          refine x_getF (by decide +kernel : am_at co_X8_readProduct 66 = some (3, .getfield 19)) pq_8_19 (by decide) rfl ob_3 ?_
          refine x_top2 (show 3 + (-2) = 1 from rfl) ?_
          refine x_callV (n := 1) (by decide +kernel : am_at co_X8_readProduct 69 = some (3, .invokevirtual 45)) pq_8_45 pm_X9_step rfl rfl rfl ob_1 h (x_kv fun M8 h => ?_)
          refine x_aload_n (by decide +kernel : am_at co_X8_readProduct 72 = some (1, .aload_n 0)) rfl ?_
          refine x_iload_n (by decide +kernel : am_at co_X8_readProduct 73 = some (1, .iload_n 1)) rfl ?_
          refine x_callV (n := 2) (by decide +kernel : am_at co_X8_readProduct 74 = some (3, .invokevirtual 51)) pq_8_51 pm_X8_readPart rfl rfl rfl ob_3 h (x_kv fun M9 h => ?_)
          refine x_aload_n (by decide +kernel : am_at co_X8_readProduct 77 = some (1, .aload_n 0)) rfl ?_
          refine x_iload_n (by decide +kernel : am_at co_X8_readProduct 78 = some (1, .iload_n 3)) rfl ?_
          refine x_callV (n := 2) (by decide +kernel : am_at co_X8_readProduct 79 = some (3, .invokevirtual 48)) pq_8_48 pm_X8_emit rfl rfl rfl ob_3 h (x_kv fun M10 h => ?_)
          obtain ⟨o10, h⟩ := h
          refine x_iinc (L' := [(2, 3), (0, v1), (0, v2 + 1), (0, (-4))]) (by decide +kernel : am_at co_X8_readProduct 82 = some (3, .iinc 2 1)) rfl o10 rfl ?_
          refine x_goto (tgt := 7) (by decide +kernel : am_at co_X8_readProduct 85 = some (3, .goto (-78))) rfl ?_
          exact am_weak (lk (lk (lk (ld ln)))) h
      · have c4 := c4
        have h := h.2 c4
        refine x_bipush (by decide +kernel : am_at co_X8_readProduct 36 = some (2, .bipush (-3))) ?_
        refine x_goto (tgt := 59) (by decide +kernel : am_at co_X8_readProduct 38 = some (3, .goto 21)) rfl ?_
        refine x_istore_n (L' := [(2, 3), (0, v1), (0, v2), (0, (-3))]) (by decide +kernel : am_at co_X8_readProduct 59 = some (1, .istore_n 3)) rfl ?_
        refine x_iload_n (by decide +kernel : am_at co_X8_readProduct 60 = some (1, .iload_n 3)) rfl ?_
        refine x_if (tgt := 65) (by decide +kernel : am_at co_X8_readProduct 61 = some (3, .ifCond .ne 4)) rfl Iff.rfl (fun q => ?_) (fun q => absurd (show ¬ (-3 : Int) = 0 by decide) q)
        refine x_aload_n (by decide +kernel : am_at co_X8_readProduct 65 = some (1, .aload_n 0)) rfl ?_
        refine x_getF (by decide +kernel : am_at co_X8_readProduct 66 = some (3, .getfield 19)) pq_8_19 (by decide) rfl ob_3 ?_
        refine x_top2 (show 3 + (-2) = 1 from rfl) ?_
        refine x_callV (n := 1) (by decide +kernel : am_at co_X8_readProduct 69 = some (3, .invokevirtual 45)) pq_8_45 pm_X9_step rfl rfl rfl ob_1 h (x_kv fun M12 h => ?_)
        refine x_aload_n (by decide +kernel : am_at co_X8_readProduct 72 = some (1, .aload_n 0)) rfl ?_
        refine x_iload_n (by decide +kernel : am_at co_X8_readProduct 73 = some (1, .iload_n 1)) rfl ?_
        refine x_callV (n := 2) (by decide +kernel : am_at co_X8_readProduct 74 = some (3, .invokevirtual 51)) pq_8_51 pm_X8_readPart rfl rfl rfl ob_3 h (x_kv fun M13 h => ?_)
        refine x_aload_n (by decide +kernel : am_at co_X8_readProduct 77 = some (1, .aload_n 0)) rfl ?_
        refine x_iload_n (by decide +kernel : am_at co_X8_readProduct 78 = some (1, .iload_n 3)) rfl ?_
        refine x_callV (n := 2) (by decide +kernel : am_at co_X8_readProduct 79 = some (3, .invokevirtual 48)) pq_8_48 pm_X8_emit rfl rfl rfl ob_3 h (x_kv fun M14 h => ?_)
        obtain ⟨o14, h⟩ := h
        refine x_iinc (L' := [(2, 3), (0, v1), (0, v2 + 1), (0, (-3))]) (by decide +kernel : am_at co_X8_readProduct 82 = some (3, .iinc 2 1)) rfl o14 rfl ?_
        refine x_goto (tgt := 7) (by decide +kernel : am_at co_X8_readProduct 85 = some (3, .goto (-78))) rfl ?_
        exact am_weak (lk (lk (lk (ld ln)))) h
set_option maxRecDepth 20000 in
theorem bk_X8_readPart_0 {d : Nat} {Q : am_Q} {M : am_M} {v1 : Int} (h : am_cal pg d 95 [(2, 1)] sh_T M (am_c0 sh_T fun x1 M1 => ((x1 = 0 → am_cal pg d 104 [(2, 1)] sh_T M1 (am_c0 sh_T fun x3 M3 => ((x3 = 0 → am_cal pg d 99 [(2, 1), (0, 40)] sh_T M3 (am_c0 sh_T fun x5 M5 => ((x5 = 0 → am_cal pg d 87 [(2, 3), (0, v1)] sh_T M5 (am_cv sh_T fun M7 => Q (none, sh_T, M7))) ∧ (¬ x5 = 0 → am_cal pg d 83 [(2, 3), (0, v1)] sh_T M5 (am_c0 sh_T fun x8 M8 => ((x8 = 0 → Q (none, sh_T, M8)) ∧ (¬ x8 = 0 → am_cal pg d 100 [(2, 1)] sh_T M8 (am_cv sh_T fun M10 => am_r (v1 + 1) ∧ am_cal pg d 84 [(2, 3), (0, v1 + 1)] sh_T M10 (am_cv sh_T fun M12 => am_cal pg d 101 [(2, 1), (0, 41)] sh_T M12 (am_cv sh_T fun M13 => Q (none, sh_T, M13))))))))))) ∧ (¬ x3 = 0 → am_cal pg d 111 [(2, 1), (0, 9999)] sh_T M3 (am_c0 sh_T fun x14 M14 => am_cal pg d 82 [(2, 3), (0, x14)] sh_T M14 (am_cv sh_T fun M15 => Q (none, sh_T, M15))))))) ∧ (¬ x1 = 0 → Q (none, sh_T, M1))))) : am_g 8 9 co_X8_readPart d Q 0 [(2, 3), (0, v1)] [] sh_T M := by
  refine x_aload_n (by decide +kernel : am_at co_X8_readPart 0 = some (1, .aload_n 0)) rfl ?_
  refine x_getF (by decide +kernel : am_at co_X8_readPart 1 = some (3, .getfield 19)) pq_8_19 (by decide) rfl ob_3 ?_
  refine x_top2 (show 3 + (-2) = 1 from rfl) ?_
  refine x_callV (n := 1) (by decide +kernel : am_at co_X8_readPart 4 = some (3, .invokevirtual 37)) pq_8_37 pm_X9_failed rfl rfl rfl ob_1 h (x_k0 fun x1 M1 h => ?_)
  refine x_if (tgt := 11) (by decide +kernel : am_at co_X8_readPart 7 = some (3, .ifCond .eq 4)) rfl Iff.rfl (fun c1 => ?_) (fun c1 => ?_)
  · have h := h.1 c1
    refine x_aload_n (by decide +kernel : am_at co_X8_readPart 11 = some (1, .aload_n 0)) rfl ?_
    refine x_getF (by decide +kernel : am_at co_X8_readPart 12 = some (3, .getfield 19)) pq_8_19 (by decide) rfl ob_3 ?_
    refine x_top2 (show 3 + (-2) = 1 from rfl) ?_
    refine x_callV (n := 1) (by decide +kernel : am_at co_X8_readPart 15 = some (3, .invokevirtual 54)) pq_8_54 pm_X9_seesDigit rfl rfl rfl ob_1 h (x_k0 fun x3 M3 h => ?_)
    refine x_if (tgt := 38) (by decide +kernel : am_at co_X8_readPart 18 = some (3, .ifCond .eq 20)) rfl Iff.rfl (fun c3 => ?_) (fun c3 => ?_)
    · have h := h.1 c3
      refine x_aload_n (by decide +kernel : am_at co_X8_readPart 38 = some (1, .aload_n 0)) rfl ?_
      refine x_getF (by decide +kernel : am_at co_X8_readPart 39 = some (3, .getfield 19)) pq_8_19 (by decide) rfl ob_3 ?_
      refine x_top2 (show 3 + (-2) = 1 from rfl) ?_
      refine x_bipush (by decide +kernel : am_at co_X8_readPart 42 = some (2, .bipush 40)) ?_
      refine x_callV (n := 2) (by decide +kernel : am_at co_X8_readPart 44 = some (3, .invokevirtual 41)) pq_8_41 pm_X9_sees rfl rfl rfl ob_1 h (x_k0 fun x5 M5 h => ?_)
      refine x_if (tgt := 84) (by decide +kernel : am_at co_X8_readPart 47 = some (3, .ifCond .eq 37)) rfl Iff.rfl (fun c5 => ?_) (fun c5 => ?_)
      · have h := h.1 c5
        refine x_aload_n (by decide +kernel : am_at co_X8_readPart 84 = some (1, .aload_n 0)) rfl ?_
        refine x_iload_n (by decide +kernel : am_at co_X8_readPart 85 = some (1, .iload_n 1)) rfl ?_
        refine x_callV (n := 2) (by decide +kernel : am_at co_X8_readPart 86 = some (3, .invokevirtual 72)) pq_8_72 pm_X8_readWord rfl rfl rfl ob_3 h (x_kv fun M7 h => ?_)
        exact x_vret (by decide +kernel : am_at co_X8_readPart 89 = some (1, .return_)) h
      · have c5 := c5
        have h := h.2 c5
        refine x_aload_n (by decide +kernel : am_at co_X8_readPart 50 = some (1, .aload_n 0)) rfl ?_
        refine x_iload_n (by decide +kernel : am_at co_X8_readPart 51 = some (1, .iload_n 1)) rfl ?_
        refine x_callV (n := 2) (by decide +kernel : am_at co_X8_readPart 52 = some (3, .invokevirtual 61)) pq_8_61 pm_X8_mayOpen rfl rfl rfl ob_3 h (x_k0 fun x8 M8 h => ?_)
        refine x_if (tgt := 89) (by decide +kernel : am_at co_X8_readPart 55 = some (3, .ifCond .eq 34)) rfl Iff.rfl (fun c8 => ?_) (fun c8 => ?_)
        · have h := h.1 c8
          exact x_vret (by decide +kernel : am_at co_X8_readPart 89 = some (1, .return_)) h
        · have c8 := c8
          have h := h.2 c8
          refine x_aload_n (by decide +kernel : am_at co_X8_readPart 58 = some (1, .aload_n 0)) rfl ?_
          refine x_getF (by decide +kernel : am_at co_X8_readPart 59 = some (3, .getfield 19)) pq_8_19 (by decide) rfl ob_3 ?_
          refine x_top2 (show 3 + (-2) = 1 from rfl) ?_
          refine x_callV (n := 1) (by decide +kernel : am_at co_X8_readPart 62 = some (3, .invokevirtual 45)) pq_8_45 pm_X9_step rfl rfl rfl ob_1 h (x_kv fun M10 h => ?_)
          refine x_aload_n (by decide +kernel : am_at co_X8_readPart 65 = some (1, .aload_n 0)) rfl ?_
          refine x_iload_n (by decide +kernel : am_at co_X8_readPart 66 = some (1, .iload_n 1)) rfl ?_
          refine x_iconst (by decide +kernel : am_at co_X8_readPart 67 = some (1, .iconst 1)) ?_
          obtain ⟨o10, h⟩ := h
          refine x_iadd (by decide +kernel : am_at co_X8_readPart 68 = some (1, .iadd)) o10 ?_
          refine x_callV (n := 2) (by decide +kernel : am_at co_X8_readPart 69 = some (3, .invokevirtual 65)) pq_8_65 pm_X8_readSum rfl rfl rfl ob_3 h (x_kv fun M12 h => ?_)
          refine x_aload_n (by decide +kernel : am_at co_X8_readPart 72 = some (1, .aload_n 0)) rfl ?_
          refine x_getF (by decide +kernel : am_at co_X8_readPart 73 = some (3, .getfield 19)) pq_8_19 (by decide) rfl ob_3 ?_
          refine x_top2 (show 3 + (-2) = 1 from rfl) ?_
          refine x_bipush (by decide +kernel : am_at co_X8_readPart 76 = some (2, .bipush 41)) ?_
          refine x_callV (n := 2) (by decide +kernel : am_at co_X8_readPart 78 = some (3, .invokevirtual 68)) pq_8_68 pm_X9_demand rfl rfl rfl ob_1 h (x_kv fun M13 h => ?_)
          refine x_goto (tgt := 89) (by decide +kernel : am_at co_X8_readPart 81 = some (3, .goto 8)) rfl ?_
          exact x_vret (by decide +kernel : am_at co_X8_readPart 89 = some (1, .return_)) h
    · have c3 := c3
      have h := h.2 c3
      refine x_aload_n (by decide +kernel : am_at co_X8_readPart 21 = some (1, .aload_n 0)) rfl ?_
      refine x_aload_n (by decide +kernel : am_at co_X8_readPart 22 = some (1, .aload_n 0)) rfl ?_
      refine x_getF (by decide +kernel : am_at co_X8_readPart 23 = some (3, .getfield 19)) pq_8_19 (by decide) rfl ob_3 ?_
      refine x_top2 (show 3 + (-2) = 1 from rfl) ?_
      refine x_sipush (by decide +kernel : am_at co_X8_readPart 26 = some (3, .sipush 9999)) ?_
      refine x_callV (n := 2) (by decide +kernel : am_at co_X8_readPart 29 = some (3, .invokevirtual 57)) pq_8_57 pm_X9_takeNumber rfl rfl rfl ob_1 h (x_k0 fun x14 M14 h => ?_)
      refine x_callV (n := 2) (by decide +kernel : am_at co_X8_readPart 32 = some (3, .invokevirtual 48)) pq_8_48 pm_X8_emit rfl rfl rfl ob_3 h (x_kv fun M15 h => ?_)
      refine x_goto (tgt := 89) (by decide +kernel : am_at co_X8_readPart 35 = some (3, .goto 54)) rfl ?_
      exact x_vret (by decide +kernel : am_at co_X8_readPart 89 = some (1, .return_)) h
  · have c1 := c1
    have h := h.2 c1
    exact x_vret (by decide +kernel : am_at co_X8_readPart 10 = some (1, .return_)) h
set_option maxRecDepth 20000 in
theorem bk_X8_readWord_0 {d : Nat} {Q : am_Q} {M : am_M} {v1 : Int} (h : ((M 3 2 = 0 → am_cal pg d 106 [(2, 1), (2, 1000009)] sh_T M (am_c0 sh_T fun x2 M2 => ((x2 < 0 → am_g 8 9 co_X8_readWord d Q 65 [(2, 3), (0, v1), (3, 0), (0, 0)] [] sh_T M2) ∧ (0 ≤ x2 → ((8 ≤ x2 → am_g 8 9 co_X8_readWord d Q 65 [(2, 3), (0, v1), (3, 0), (0, 0)] [] sh_T M2) ∧ (x2 < 8 → ((M2 3 2 = 0 → (0 ≤ x2 ∧ x2 < 8) ∧ am_g 8 9 co_X8_readWord d Q 65 [(2, 3), (0, v1), (3, 0), (0, M2 2000001 x2)] [] sh_T M2) ∧ (¬ M2 3 2 = 0 → (0 ≤ x2 ∧ x2 < 8) ∧ am_g 8 9 co_X8_readWord d Q 65 [(2, 3), (0, v1), (3, 0), (0, M2 2000002 x2)] [] sh_T M2)))))))) ∧ (¬ M 3 2 = 0 → am_cal pg d 106 [(2, 1), (2, 1000008)] sh_T M (am_c0 sh_T fun x9 M9 => ((x9 < 0 → am_g 8 9 co_X8_readWord d Q 65 [(2, 3), (0, v1), (3, 0), (0, 0)] [] sh_T M9) ∧ (0 ≤ x9 → ((8 ≤ x9 → am_g 8 9 co_X8_readWord d Q 65 [(2, 3), (0, v1), (3, 0), (0, 0)] [] sh_T M9) ∧ (x9 < 8 → ((M9 3 2 = 0 → (0 ≤ x9 ∧ x9 < 8) ∧ am_g 8 9 co_X8_readWord d Q 65 [(2, 3), (0, v1), (3, 0), (0, M9 2000001 x9)] [] sh_T M9) ∧ (¬ M9 3 2 = 0 → (0 ≤ x9 ∧ x9 < 8) ∧ am_g 8 9 co_X8_readWord d Q 65 [(2, 3), (0, v1), (3, 0), (0, M9 2000002 x9)] [] sh_T M9)))))))))) : am_g 8 9 co_X8_readWord d Q 0 [(2, 3), (0, v1), (3, 0), (3, 0)] [] sh_T M := by
  refine x_aload_n (by decide +kernel : am_at co_X8_readWord 0 = some (1, .aload_n 0)) rfl ?_
  refine x_getF (by decide +kernel : am_at co_X8_readWord 1 = some (3, .getfield 19)) pq_8_19 (by decide) rfl ob_3 ?_
  refine x_top2 (show 3 + (-2) = 1 from rfl) ?_
  refine x_aload_n (by decide +kernel : am_at co_X8_readWord 4 = some (1, .aload_n 0)) rfl ?_
  refine x_getf (by decide +kernel : am_at co_X8_readWord 5 = some (3, .getfield 15)) pq_8_15 rfl ob_3 ?_
  refine x_if (tgt := 16) (by decide +kernel : am_at co_X8_readWord 8 = some (3, .ifCond .eq 8)) rfl Iff.rfl (fun c0 => ?_) (fun c0 => ?_)
  · have h := h.1 c0
    refine x_ldcS (by decide +kernel : am_at co_X8_readWord 16 = some (2, .ldc 77)) pq_8_77 ?_
    refine x_callV (n := 2) (by decide +kernel : am_at co_X8_readWord 18 = some (3, .invokevirtual 79)) pq_8_79 pm_X9_wordIn rfl rfl rfl ob_1 h (x_k0 fun x2 M2 h => ?_)
    refine x_istore_n (L' := [(2, 3), (0, v1), (0, x2), (3, 0)]) (by decide +kernel : am_at co_X8_readWord 21 = some (1, .istore_n 2)) rfl ?_
    refine x_iconst (by decide +kernel : am_at co_X8_readWord 22 = some (1, .iconst 0)) ?_
    refine x_istore_n (L' := [(2, 3), (0, v1), (0, x2), (0, 0)]) (by decide +kernel : am_at co_X8_readWord 23 = some (1, .istore_n 3)) rfl ?_
    refine x_iload_n (by decide +kernel : am_at co_X8_readWord 24 = some (1, .iload_n 2)) rfl ?_
    refine x_if (tgt := 65) (by decide +kernel : am_at co_X8_readWord 25 = some (3, .ifCond .lt 40)) rfl Iff.rfl (fun c2 => ?_) (fun c2 => ?_)
    · have h := h.1 c2
      exact am_weak (lk (lk (ld (lk ln)))) h
    · have c2 := (Int.not_lt.mp c2)
      have h := h.2 c2
      refine x_iload_n (by decide +kernel : am_at co_X8_readWord 28 = some (1, .iload_n 2)) rfl ?_
      refine x_gets (by decide +kernel : am_at co_X8_readWord 29 = some (3, .getstatic 83)) pq_8_83 ?_
      refine x_alen (by decide +kernel : am_at co_X8_readWord 32 = some (1, .arraylength)) (n := 8) rfl ?_
      refine x_top0 (show ((8 : Nat) : Int) = 8 from rfl) ?_
      refine x_icmp (tgt := 65) (by decide +kernel : am_at co_X8_readWord 33 = some (3, .if_icmp .ge 32)) rfl Iff.rfl (fun c3 => ?_) (fun c3 => ?_)
      · have h := h.1 c3
        exact am_weak (lk (lk (ld (lk ln)))) h
      · have c3 := (Int.not_le.mp c3)
        have h := h.2 c3
        refine x_iload_n (by decide +kernel : am_at co_X8_readWord 36 = some (1, .iload_n 2)) rfl ?_
        refine x_gets (by decide +kernel : am_at co_X8_readWord 37 = some (3, .getstatic 87)) pq_8_87 ?_
        refine x_alen (by decide +kernel : am_at co_X8_readWord 40 = some (1, .arraylength)) (n := 8) rfl ?_
        refine x_top0 (show ((8 : Nat) : Int) = 8 from rfl) ?_
        refine x_icmp (tgt := 65) (by decide +kernel : am_at co_X8_readWord 41 = some (3, .if_icmp .ge 24)) rfl Iff.rfl (fun c4 => absurd c4 (Int.not_le.mpr c3)) (fun _ => ?_)
        refine x_aload_n (by decide +kernel : am_at co_X8_readWord 44 = some (1, .aload_n 0)) rfl ?_
        refine x_getf (by decide +kernel : am_at co_X8_readWord 45 = some (3, .getfield 15)) pq_8_15 rfl ob_3 ?_
        refine x_if (tgt := 59) (by decide +kernel : am_at co_X8_readWord 48 = some (3, .ifCond .eq 11)) rfl Iff.rfl (fun c5 => ?_) (fun c5 => ?_)
        · have h := h.1 c5
          refine x_gets (by decide +kernel : am_at co_X8_readWord 59 = some (3, .getstatic 83)) pq_8_83 ?_
          refine x_iload_n (by decide +kernel : am_at co_X8_readWord 62 = some (1, .iload_n 2)) rfl ?_
          obtain ⟨o6, h⟩ := h
          refine x_iald (by decide +kernel : am_at co_X8_readWord 63 = some (1, .iaload)) (ia_2000001 o6.1 o6.2) ?_
          refine x_istore_n (L' := [(2, 3), (0, v1), (0, x2), (0, M2 2000001 x2)]) (by decide +kernel : am_at co_X8_readWord 64 = some (1, .istore_n 3)) rfl ?_
          exact am_weak (lk (lk (ld (lk ln)))) h
        · have c5 := c5
          have h := h.2 c5
          refine x_gets (by decide +kernel : am_at co_X8_readWord 51 = some (3, .getstatic 87)) pq_8_87 ?_
          refine x_iload_n (by decide +kernel : am_at co_X8_readWord 54 = some (1, .iload_n 2)) rfl ?_
          obtain ⟨o7, h⟩ := h
          refine x_iald (by decide +kernel : am_at co_X8_readWord 55 = some (1, .iaload)) (ia_2000002 o7.1 o7.2) ?_
          refine x_goto (tgt := 64) (by decide +kernel : am_at co_X8_readWord 56 = some (3, .goto 8)) rfl ?_
          refine x_istore_n (L' := [(2, 3), (0, v1), (0, x2), (0, M2 2000002 x2)]) (by decide +kernel : am_at co_X8_readWord 64 = some (1, .istore_n 3)) rfl ?_
          exact am_weak (lk (lk (ld (lk ln)))) h
  · have c0 := c0
    have h := h.2 c0
    refine x_ldcS (by decide +kernel : am_at co_X8_readWord 11 = some (2, .ldc 75)) pq_8_75 ?_
    refine x_goto (tgt := 18) (by decide +kernel : am_at co_X8_readWord 13 = some (3, .goto 5)) rfl ?_
    refine x_callV (n := 2) (by decide +kernel : am_at co_X8_readWord 18 = some (3, .invokevirtual 79)) pq_8_79 pm_X9_wordIn rfl rfl rfl ob_1 h (x_k0 fun x9 M9 h => ?_)
    refine x_istore_n (L' := [(2, 3), (0, v1), (0, x9), (3, 0)]) (by decide +kernel : am_at co_X8_readWord 21 = some (1, .istore_n 2)) rfl ?_
    refine x_iconst (by decide +kernel : am_at co_X8_readWord 22 = some (1, .iconst 0)) ?_
    refine x_istore_n (L' := [(2, 3), (0, v1), (0, x9), (0, 0)]) (by decide +kernel : am_at co_X8_readWord 23 = some (1, .istore_n 3)) rfl ?_
    refine x_iload_n (by decide +kernel : am_at co_X8_readWord 24 = some (1, .iload_n 2)) rfl ?_
    refine x_if (tgt := 65) (by decide +kernel : am_at co_X8_readWord 25 = some (3, .ifCond .lt 40)) rfl Iff.rfl (fun c9 => ?_) (fun c9 => ?_)
    · have h := h.1 c9
      exact am_weak (lk (lk (ld (lk ln)))) h
    · have c9 := (Int.not_lt.mp c9)
      have h := h.2 c9
      refine x_iload_n (by decide +kernel : am_at co_X8_readWord 28 = some (1, .iload_n 2)) rfl ?_
      refine x_gets (by decide +kernel : am_at co_X8_readWord 29 = some (3, .getstatic 83)) pq_8_83 ?_
      refine x_alen (by decide +kernel : am_at co_X8_readWord 32 = some (1, .arraylength)) (n := 8) rfl ?_
      refine x_top0 (show ((8 : Nat) : Int) = 8 from rfl) ?_
      refine x_icmp (tgt := 65) (by decide +kernel : am_at co_X8_readWord 33 = some (3, .if_icmp .ge 32)) rfl Iff.rfl (fun c10 => ?_) (fun c10 => ?_)
      · have h := h.1 c10
        exact am_weak (lk (lk (ld (lk ln)))) h
      · have c10 := (Int.not_le.mp c10)
        have h := h.2 c10
        refine x_iload_n (by decide +kernel : am_at co_X8_readWord 36 = some (1, .iload_n 2)) rfl ?_
        refine x_gets (by decide +kernel : am_at co_X8_readWord 37 = some (3, .getstatic 87)) pq_8_87 ?_
        refine x_alen (by decide +kernel : am_at co_X8_readWord 40 = some (1, .arraylength)) (n := 8) rfl ?_
        refine x_top0 (show ((8 : Nat) : Int) = 8 from rfl) ?_
        refine x_icmp (tgt := 65) (by decide +kernel : am_at co_X8_readWord 41 = some (3, .if_icmp .ge 24)) rfl Iff.rfl (fun c11 => absurd c11 (Int.not_le.mpr c10)) (fun _ => ?_)
        refine x_aload_n (by decide +kernel : am_at co_X8_readWord 44 = some (1, .aload_n 0)) rfl ?_
        refine x_getf (by decide +kernel : am_at co_X8_readWord 45 = some (3, .getfield 15)) pq_8_15 rfl ob_3 ?_
        refine x_if (tgt := 59) (by decide +kernel : am_at co_X8_readWord 48 = some (3, .ifCond .eq 11)) rfl Iff.rfl (fun c12 => ?_) (fun c12 => ?_)
        · have h := h.1 c12
          refine x_gets (by decide +kernel : am_at co_X8_readWord 59 = some (3, .getstatic 83)) pq_8_83 ?_
          refine x_iload_n (by decide +kernel : am_at co_X8_readWord 62 = some (1, .iload_n 2)) rfl ?_
          obtain ⟨o13, h⟩ := h
          refine x_iald (by decide +kernel : am_at co_X8_readWord 63 = some (1, .iaload)) (ia_2000001 o13.1 o13.2) ?_
          refine x_istore_n (L' := [(2, 3), (0, v1), (0, x9), (0, M9 2000001 x9)]) (by decide +kernel : am_at co_X8_readWord 64 = some (1, .istore_n 3)) rfl ?_
          exact am_weak (lk (lk (ld (lk ln)))) h
        · have c12 := c12
          have h := h.2 c12
          refine x_gets (by decide +kernel : am_at co_X8_readWord 51 = some (3, .getstatic 87)) pq_8_87 ?_
          refine x_iload_n (by decide +kernel : am_at co_X8_readWord 54 = some (1, .iload_n 2)) rfl ?_
          obtain ⟨o14, h⟩ := h
          refine x_iald (by decide +kernel : am_at co_X8_readWord 55 = some (1, .iaload)) (ia_2000002 o14.1 o14.2) ?_
          refine x_goto (tgt := 64) (by decide +kernel : am_at co_X8_readWord 56 = some (3, .goto 8)) rfl ?_
          refine x_istore_n (L' := [(2, 3), (0, v1), (0, x9), (0, M9 2000002 x9)]) (by decide +kernel : am_at co_X8_readWord 64 = some (1, .istore_n 3)) rfl ?_
          exact am_weak (lk (lk (ld (lk ln)))) h
set_option maxRecDepth 20000 in
theorem bk_X8_readWord_65 {d : Nat} {Q : am_Q} {M : am_M} {v1 v3 : Int} (h : ((¬ v3 = 0 → ((v3 = (-5) → am_g 8 9 co_X8_readWord d Q 92 [(2, 3), (0, v1), (3, 0), (0, v3)] [] sh_T M) ∧ (¬ v3 = (-5) → ((¬ v3 = (-6) → ((v3 = (-13) → am_cal pg d 83 [(2, 3), (0, v1)] sh_T M (am_c0 sh_T fun x5 M5 => ((x5 = 0 → Q (none, sh_T, M5)) ∧ (¬ x5 = 0 → am_cal pg d 107 [(2, 1)] sh_T M5 (am_cv sh_T fun M7 => am_r (v1 + 1) ∧ am_cal pg d 86 [(2, 3), (0, v1 + 1)] sh_T M7 (am_cv sh_T fun M9 => am_cal pg d 82 [(2, 3), (0, v3)] sh_T M9 (am_cv sh_T fun M10 => Q (none, sh_T, M10)))))))) ∧ (¬ v3 = (-13) → am_cal pg d 107 [(2, 1)] sh_T M (am_cv sh_T fun M11 => am_cal pg d 82 [(2, 3), (0, v3)] sh_T M11 (am_cv sh_T fun M12 => Q (none, sh_T, M12)))))) ∧ (v3 = (-6) → am_g 8 9 co_X8_readWord d Q 92 [(2, 3), (0, v1), (3, 0), (0, v3)] [] sh_T M))))) ∧ (v3 = 0 → am_cal pg d 97 [(2, 1), (0, 1)] sh_T M (am_cv sh_T fun M13 => Q (none, sh_T, M13))))) : am_g 8 9 co_X8_readWord d Q 65 [(2, 3), (0, v1), (3, 0), (0, v3)] [] sh_T M := by
  refine x_iload_n (by decide +kernel : am_at co_X8_readWord 65 = some (1, .iload_n 3)) rfl ?_
  refine x_if (tgt := 80) (by decide +kernel : am_at co_X8_readWord 66 = some (3, .ifCond .ne 14)) rfl Iff.rfl (fun c0 => ?_) (fun c0 => ?_)
  · have h := h.1 c0
    refine x_iload_n (by decide +kernel : am_at co_X8_readWord 80 = some (1, .iload_n 3)) rfl ?_
    refine x_bipush (by decide +kernel : am_at co_X8_readWord 81 = some (2, .bipush (-5))) ?_
    refine x_icmp (tgt := 92) (by decide +kernel : am_at co_X8_readWord 83 = some (3, .if_icmp .eq 9)) rfl Iff.rfl (fun c1 => ?_) (fun c1 => ?_)
    · have h := h.1 c1
      exact am_weak (lk (lk (lk (lk ln)))) h
    · have c1 := c1
      have h := h.2 c1
      refine x_iload_n (by decide +kernel : am_at co_X8_readWord 86 = some (1, .iload_n 3)) rfl ?_
      refine x_bipush (by decide +kernel : am_at co_X8_readWord 87 = some (2, .bipush (-6))) ?_
      refine x_icmp (tgt := 112) (by decide +kernel : am_at co_X8_readWord 89 = some (3, .if_icmp .ne 23)) rfl Iff.rfl (fun c2 => ?_) (fun c2 => ?_)
      · have h := h.1 c2
        refine x_iload_n (by decide +kernel : am_at co_X8_readWord 112 = some (1, .iload_n 3)) rfl ?_
        refine x_bipush (by decide +kernel : am_at co_X8_readWord 113 = some (2, .bipush (-13))) ?_
        refine x_icmp (tgt := 133) (by decide +kernel : am_at co_X8_readWord 115 = some (3, .if_icmp .eq 18)) rfl Iff.rfl (fun c3 => ?_) (fun c3 => ?_)
        · have h := h.1 c3
          refine x_aload_n (by decide +kernel : am_at co_X8_readWord 133 = some (1, .aload_n 0)) rfl ?_
          refine x_iload_n (by decide +kernel : am_at co_X8_readWord 134 = some (1, .iload_n 1)) rfl ?_
          refine x_callV (n := 2) (by decide +kernel : am_at co_X8_readWord 135 = some (3, .invokevirtual 61)) pq_8_61 pm_X8_mayOpen rfl rfl rfl ob_3 h (x_k0 fun x5 M5 h => ?_)
          refine x_if (tgt := 160) (by decide +kernel : am_at co_X8_readWord 138 = some (3, .ifCond .eq 22)) rfl Iff.rfl (fun c5 => ?_) (fun c5 => ?_)
          · have h := h.1 c5
            exact x_vret (by decide +kernel : am_at co_X8_readWord 160 = some (1, .return_)) h
          · have c5 := c5
            have h := h.2 c5
            refine x_aload_n (by decide +kernel : am_at co_X8_readWord 141 = some (1, .aload_n 0)) rfl ?_
            refine x_getF (by decide +kernel : am_at co_X8_readWord 142 = some (3, .getfield 19)) pq_8_19 (by decide) rfl ob_3 ?_
            refine x_top2 (show 3 + (-2) = 1 from rfl) ?_
            refine x_callV (n := 1) (by decide +kernel : am_at co_X8_readWord 145 = some (3, .invokevirtual 90)) pq_8_90 pm_X9_skipWord rfl rfl rfl ob_1 h (x_kv fun M7 h => ?_)
            refine x_aload_n (by decide +kernel : am_at co_X8_readWord 148 = some (1, .aload_n 0)) rfl ?_
            refine x_iload_n (by decide +kernel : am_at co_X8_readWord 149 = some (1, .iload_n 1)) rfl ?_
            refine x_iconst (by decide +kernel : am_at co_X8_readWord 150 = some (1, .iconst 1)) ?_
            obtain ⟨o7, h⟩ := h
            refine x_iadd (by decide +kernel : am_at co_X8_readWord 151 = some (1, .iadd)) o7 ?_
            refine x_callV (n := 2) (by decide +kernel : am_at co_X8_readWord 152 = some (3, .invokevirtual 51)) pq_8_51 pm_X8_readPart rfl rfl rfl ob_3 h (x_kv fun M9 h => ?_)
            refine x_aload_n (by decide +kernel : am_at co_X8_readWord 155 = some (1, .aload_n 0)) rfl ?_
            refine x_iload_n (by decide +kernel : am_at co_X8_readWord 156 = some (1, .iload_n 3)) rfl ?_
            refine x_callV (n := 2) (by decide +kernel : am_at co_X8_readWord 157 = some (3, .invokevirtual 48)) pq_8_48 pm_X8_emit rfl rfl rfl ob_3 h (x_kv fun M10 h => ?_)
            exact x_vret (by decide +kernel : am_at co_X8_readWord 160 = some (1, .return_)) h
        · have c3 := c3
          have h := h.2 c3
          refine x_aload_n (by decide +kernel : am_at co_X8_readWord 118 = some (1, .aload_n 0)) rfl ?_
          refine x_getF (by decide +kernel : am_at co_X8_readWord 119 = some (3, .getfield 19)) pq_8_19 (by decide) rfl ob_3 ?_
          refine x_top2 (show 3 + (-2) = 1 from rfl) ?_
          refine x_callV (n := 1) (by decide +kernel : am_at co_X8_readWord 122 = some (3, .invokevirtual 90)) pq_8_90 pm_X9_skipWord rfl rfl rfl ob_1 h (x_kv fun M11 h => ?_)
          refine x_aload_n (by decide +kernel : am_at co_X8_readWord 125 = some (1, .aload_n 0)) rfl ?_
          refine x_iload_n (by decide +kernel : am_at co_X8_readWord 126 = some (1, .iload_n 3)) rfl ?_
          refine x_callV (n := 2) (by decide +kernel : am_at co_X8_readWord 127 = some (3, .invokevirtual 48)) pq_8_48 pm_X8_emit rfl rfl rfl ob_3 h (x_kv fun M12 h => ?_)
          refine x_goto (tgt := 160) (by decide +kernel : am_at co_X8_readWord 130 = some (3, .goto 30)) rfl ?_
          exact x_vret (by decide +kernel : am_at co_X8_readWord 160 = some (1, .return_)) h
      · have c2 := (Classical.not_not.mp c2)
        have h := h.2 c2
        exact am_weak (lk (lk (lk (lk ln)))) h
  · have c0 := (Classical.not_not.mp c0)
    have h := h.2 c0
    refine x_aload_n (by decide +kernel : am_at co_X8_readWord 69 = some (1, .aload_n 0)) rfl ?_
    refine x_getF (by decide +kernel : am_at co_X8_readWord 70 = some (3, .getfield 19)) pq_8_19 (by decide) rfl ob_3 ?_
    refine x_top2 (show 3 + (-2) = 1 from rfl) ?_
    refine x_iconst (by decide +kernel : am_at co_X8_readWord 73 = some (1, .iconst 1)) ?_
    refine x_callV (n := 2) (by decide +kernel : am_at co_X8_readWord 74 = some (3, .invokevirtual 29)) pq_8_29 pm_X9_blameHere rfl rfl rfl ob_1 h (x_kv fun M13 h => ?_)
    refine x_goto (tgt := 160) (by decide +kernel : am_at co_X8_readWord 77 = some (3, .goto 83)) rfl ?_
    exact x_vret (by decide +kernel : am_at co_X8_readWord 160 = some (1, .return_)) h
set_option maxRecDepth 20000 in
theorem bk_X8_readWord_92 {d : Nat} {Q : am_Q} {M : am_M} {v1 v3 : Int} (h : am_cal pg d 107 [(2, 1)] sh_T M (am_cv sh_T fun M1 => am_cal pg d 88 [(2, 3), (0, v1)] sh_T M1 (am_cv sh_T fun M2 => am_cal pg d 82 [(2, 3), (0, v3)] sh_T M2 (am_cv sh_T fun M3 => Q (none, sh_T, M3))))) : am_g 8 9 co_X8_readWord d Q 92 [(2, 3), (0, v1), (3, 0), (0, v3)] [] sh_T M := by
  refine x_aload_n (by decide +kernel : am_at co_X8_readWord 92 = some (1, .aload_n 0)) rfl ?_
  refine x_getF (by decide +kernel : am_at co_X8_readWord 93 = some (3, .getfield 19)) pq_8_19 (by decide) rfl ob_3 ?_
  refine x_top2 (show 3 + (-2) = 1 from rfl) ?_
  refine x_callV (n := 1) (by decide +kernel : am_at co_X8_readWord 96 = some (3, .invokevirtual 90)) pq_8_90 pm_X9_skipWord rfl rfl rfl ob_1 h (x_kv fun M1 h => ?_)
  refine x_aload_n (by decide +kernel : am_at co_X8_readWord 99 = some (1, .aload_n 0)) rfl ?_
  refine x_iload_n (by decide +kernel : am_at co_X8_readWord 100 = some (1, .iload_n 1)) rfl ?_
  refine x_callV (n := 2) (by decide +kernel : am_at co_X8_readWord 101 = some (3, .invokevirtual 93)) pq_8_93 pm_X8_readPair rfl rfl rfl ob_3 h (x_kv fun M2 h => ?_)
  refine x_aload_n (by decide +kernel : am_at co_X8_readWord 104 = some (1, .aload_n 0)) rfl ?_
  refine x_iload_n (by decide +kernel : am_at co_X8_readWord 105 = some (1, .iload_n 3)) rfl ?_
  refine x_callV (n := 2) (by decide +kernel : am_at co_X8_readWord 106 = some (3, .invokevirtual 48)) pq_8_48 pm_X8_emit rfl rfl rfl ob_3 h (x_kv fun M3 h => ?_)
  refine x_goto (tgt := 160) (by decide +kernel : am_at co_X8_readWord 109 = some (3, .goto 51)) rfl ?_
  exact x_vret (by decide +kernel : am_at co_X8_readWord 160 = some (1, .return_)) h
set_option maxRecDepth 20000 in
theorem bk_X8_readPair_0 {d : Nat} {Q : am_Q} {M : am_M} {v1 : Int} (h : am_cal pg d 99 [(2, 1), (0, 40)] sh_T M (am_c0 sh_T fun x1 M1 => ((¬ x1 = 0 → am_cal pg d 83 [(2, 3), (0, v1)] sh_T M1 (am_c0 sh_T fun x3 M3 => ((x3 = 0 → Q (none, sh_T, M3)) ∧ (¬ x3 = 0 → am_cal pg d 100 [(2, 1)] sh_T M3 (am_cv sh_T fun M5 => am_r (v1 + 1) ∧ am_cal pg d 84 [(2, 3), (0, v1 + 1)] sh_T M5 (am_cv sh_T fun M7 => am_cal pg d 101 [(2, 1), (0, 44)] sh_T M7 (am_cv sh_T fun M8 => am_r (v1 + 1) ∧ am_cal pg d 84 [(2, 3), (0, v1 + 1)] sh_T M8 (am_cv sh_T fun M10 => am_cal pg d 101 [(2, 1), (0, 41)] sh_T M10 (am_cv sh_T fun M11 => Q (none, sh_T, M11)))))))))) ∧ (x1 = 0 → am_cal pg d 97 [(2, 1), (0, 1)] sh_T M1 (am_cv sh_T fun M12 => Q (none, sh_T, M12)))))) : am_g 8 9 co_X8_readPair d Q 0 [(2, 3), (0, v1)] [] sh_T M := by
  refine x_aload_n (by decide +kernel : am_at co_X8_readPair 0 = some (1, .aload_n 0)) rfl ?_
  refine x_getF (by decide +kernel : am_at co_X8_readPair 1 = some (3, .getfield 19)) pq_8_19 (by decide) rfl ob_3 ?_
  refine x_top2 (show 3 + (-2) = 1 from rfl) ?_
  refine x_bipush (by decide +kernel : am_at co_X8_readPair 4 = some (2, .bipush 40)) ?_
  refine x_callV (n := 2) (by decide +kernel : am_at co_X8_readPair 6 = some (3, .invokevirtual 41)) pq_8_41 pm_X9_sees rfl rfl rfl ob_1 h (x_k0 fun x1 M1 h => ?_)
  refine x_if (tgt := 23) (by decide +kernel : am_at co_X8_readPair 9 = some (3, .ifCond .ne 14)) rfl Iff.rfl (fun c1 => ?_) (fun c1 => ?_)
  · have h := h.1 c1
    refine x_aload_n (by decide +kernel : am_at co_X8_readPair 23 = some (1, .aload_n 0)) rfl ?_
    refine x_iload_n (by decide +kernel : am_at co_X8_readPair 24 = some (1, .iload_n 1)) rfl ?_
    refine x_callV (n := 2) (by decide +kernel : am_at co_X8_readPair 25 = some (3, .invokevirtual 61)) pq_8_61 pm_X8_mayOpen rfl rfl rfl ob_3 h (x_k0 fun x3 M3 h => ?_)
    refine x_if (tgt := 70) (by decide +kernel : am_at co_X8_readPair 28 = some (3, .ifCond .eq 42)) rfl Iff.rfl (fun c3 => ?_) (fun c3 => ?_)
    · have h := h.1 c3
      exact x_vret (by decide +kernel : am_at co_X8_readPair 70 = some (1, .return_)) h
    · have c3 := c3
      have h := h.2 c3
      refine x_aload_n (by decide +kernel : am_at co_X8_readPair 31 = some (1, .aload_n 0)) rfl ?_
      refine x_getF (by decide +kernel : am_at co_X8_readPair 32 = some (3, .getfield 19)) pq_8_19 (by decide) rfl ob_3 ?_
      refine x_top2 (show 3 + (-2) = 1 from rfl) ?_
      refine x_callV (n := 1) (by decide +kernel : am_at co_X8_readPair 35 = some (3, .invokevirtual 45)) pq_8_45 pm_X9_step rfl rfl rfl ob_1 h (x_kv fun M5 h => ?_)
      refine x_aload_n (by decide +kernel : am_at co_X8_readPair 38 = some (1, .aload_n 0)) rfl ?_
      refine x_iload_n (by decide +kernel : am_at co_X8_readPair 39 = some (1, .iload_n 1)) rfl ?_
      refine x_iconst (by decide +kernel : am_at co_X8_readPair 40 = some (1, .iconst 1)) ?_
      obtain ⟨o5, h⟩ := h
      refine x_iadd (by decide +kernel : am_at co_X8_readPair 41 = some (1, .iadd)) o5 ?_
      refine x_callV (n := 2) (by decide +kernel : am_at co_X8_readPair 42 = some (3, .invokevirtual 65)) pq_8_65 pm_X8_readSum rfl rfl rfl ob_3 h (x_kv fun M7 h => ?_)
      refine x_aload_n (by decide +kernel : am_at co_X8_readPair 45 = some (1, .aload_n 0)) rfl ?_
      refine x_getF (by decide +kernel : am_at co_X8_readPair 46 = some (3, .getfield 19)) pq_8_19 (by decide) rfl ob_3 ?_
      refine x_top2 (show 3 + (-2) = 1 from rfl) ?_
      refine x_bipush (by decide +kernel : am_at co_X8_readPair 49 = some (2, .bipush 44)) ?_
      refine x_callV (n := 2) (by decide +kernel : am_at co_X8_readPair 51 = some (3, .invokevirtual 68)) pq_8_68 pm_X9_demand rfl rfl rfl ob_1 h (x_kv fun M8 h => ?_)
      refine x_aload_n (by decide +kernel : am_at co_X8_readPair 54 = some (1, .aload_n 0)) rfl ?_
      refine x_iload_n (by decide +kernel : am_at co_X8_readPair 55 = some (1, .iload_n 1)) rfl ?_
      refine x_iconst (by decide +kernel : am_at co_X8_readPair 56 = some (1, .iconst 1)) ?_
      obtain ⟨o8, h⟩ := h
      refine x_iadd (by decide +kernel : am_at co_X8_readPair 57 = some (1, .iadd)) o8 ?_
      refine x_callV (n := 2) (by decide +kernel : am_at co_X8_readPair 58 = some (3, .invokevirtual 65)) pq_8_65 pm_X8_readSum rfl rfl rfl ob_3 h (x_kv fun M10 h => ?_)
      refine x_aload_n (by decide +kernel : am_at co_X8_readPair 61 = some (1, .aload_n 0)) rfl ?_
      refine x_getF (by decide +kernel : am_at co_X8_readPair 62 = some (3, .getfield 19)) pq_8_19 (by decide) rfl ob_3 ?_
      refine x_top2 (show 3 + (-2) = 1 from rfl) ?_
      refine x_bipush (by decide +kernel : am_at co_X8_readPair 65 = some (2, .bipush 41)) ?_
      refine x_callV (n := 2) (by decide +kernel : am_at co_X8_readPair 67 = some (3, .invokevirtual 68)) pq_8_68 pm_X9_demand rfl rfl rfl ob_1 h (x_kv fun M11 h => ?_)
      exact x_vret (by decide +kernel : am_at co_X8_readPair 70 = some (1, .return_)) h
  · have c1 := (Classical.not_not.mp c1)
    have h := h.2 c1
    refine x_aload_n (by decide +kernel : am_at co_X8_readPair 12 = some (1, .aload_n 0)) rfl ?_
    refine x_getF (by decide +kernel : am_at co_X8_readPair 13 = some (3, .getfield 19)) pq_8_19 (by decide) rfl ob_3 ?_
    refine x_top2 (show 3 + (-2) = 1 from rfl) ?_
    refine x_iconst (by decide +kernel : am_at co_X8_readPair 16 = some (1, .iconst 1)) ?_
    refine x_callV (n := 2) (by decide +kernel : am_at co_X8_readPair 17 = some (3, .invokevirtual 29)) pq_8_29 pm_X9_blameHere rfl rfl rfl ob_1 h (x_kv fun M12 h => ?_)
    refine x_goto (tgt := 70) (by decide +kernel : am_at co_X8_readPair 20 = some (3, .goto 50)) rfl ?_
    exact x_vret (by decide +kernel : am_at co_X8_readPair 70 = some (1, .return_)) h
set_option maxRecDepth 20000 in
theorem bk_X9_add_0 {d : Nat} {Q : am_Q} {M : am_M} {v1 : Int} (h : am_g 9 9 co_X9_add d Q 3 [(2, 1), (0, v1), (0, 24)] [] sh_T M) : am_g 9 9 co_X9_add d Q 0 [(2, 1), (0, v1), (3, 0)] [] sh_T M := by
  refine x_bipush (by decide +kernel : am_at co_X9_add 0 = some (2, .bipush 24)) ?_
  refine x_istore_n (L' := [(2, 1), (0, v1), (0, 24)]) (by decide +kernel : am_at co_X9_add 2 = some (1, .istore_n 2)) rfl ?_
  exact am_weak (lk (lk (lk ln))) h
set_option maxRecDepth 20000 in
theorem bk_X9_add_3 {d : Nat} {Q : am_Q} {M : am_M} {v1 v2 : Int} (h : ((v2 < 0 → Q (none, sh_T, M)) ∧ (0 ≤ v2 → ((M 1 1 < 0 → am_r (v2 + (-8)) ∧ am_g 9 9 co_X9_add d Q 3 [(2, 1), (0, v1), (0, v2 + (-8))] [] sh_T M) ∧ (0 ≤ M 1 1 → ((1600 ≤ M 1 1 → am_r (v2 + (-8)) ∧ am_g 9 9 co_X9_add d Q 3 [(2, 1), (0, v1), (0, v2 + (-8))] [] sh_T M) ∧ (M 1 1 < 1600 → (0 ≤ M 1 1 ∧ M 1 1 < 1600) ∧ am_r ((M 1 1) + 1) ∧ am_r (v2 + (-8)) ∧ am_g 9 9 co_X9_add d Q 3 [(2, 1), (0, v1), (0, v2 + (-8))] [] sh_T (am_up (am_up M 2 (M 1 1) (am_band (am_ushr v1 v2) 255)) 1 1 ((M 1 1) + 1))))))))) : am_g 9 9 co_X9_add d Q 3 [(2, 1), (0, v1), (0, v2)] [] sh_T M := by
  refine x_iload_n (by decide +kernel : am_at co_X9_add 3 = some (1, .iload_n 2)) rfl ?_
  refine x_if (tgt := 58) (by decide +kernel : am_at co_X9_add 4 = some (3, .ifCond .lt 54)) rfl Iff.rfl (fun c0 => ?_) (fun c0 => ?_)
  · have h := h.1 c0
    exact x_vret (by decide +kernel : am_at co_X9_add 58 = some (1, .return_)) h
  · have c0 := (Int.not_lt.mp c0)
    have h := h.2 c0
    refine x_aload_n (by decide +kernel : am_at co_X9_add 7 = some (1, .aload_n 0)) rfl ?_
    refine x_getf (by decide +kernel : am_at co_X9_add 8 = some (3, .getfield 15)) pq_9_15 rfl ob_1 ?_
    refine x_if (tgt := 52) (by decide +kernel : am_at co_X9_add 11 = some (3, .ifCond .lt 41)) rfl Iff.rfl (fun c1 => ?_) (fun c1 => ?_)
    · have h := h.1 c1
      obtain ⟨o2, h⟩ := h
      refine x_iinc (L' := [(2, 1), (0, v1), (0, v2 + (-8))]) (by decide +kernel : am_at co_X9_add 52 = some (3, .iinc 2 (-8))) rfl o2 rfl ?_
      refine x_goto (tgt := 3) (by decide +kernel : am_at co_X9_add 55 = some (3, .goto (-52))) rfl ?_
      exact am_weak (lk (lk (lk ln))) h
    · have c1 := (Int.not_lt.mp c1)
      have h := h.2 c1
      refine x_aload_n (by decide +kernel : am_at co_X9_add 14 = some (1, .aload_n 0)) rfl ?_
      refine x_getf (by decide +kernel : am_at co_X9_add 15 = some (3, .getfield 15)) pq_9_15 rfl ob_1 ?_
      refine x_aload_n (by decide +kernel : am_at co_X9_add 18 = some (1, .aload_n 0)) rfl ?_
      refine x_getF (by decide +kernel : am_at co_X9_add 19 = some (3, .getfield 9)) pq_9_9 (by decide) rfl ob_1 ?_
      refine x_top2 (show 1 + 1 = 2 from rfl) ?_
      refine x_alen (by decide +kernel : am_at co_X9_add 22 = some (1, .arraylength)) (n := 1600) rfl ?_
      refine x_top0 (show ((1600 : Nat) : Int) = 1600 from rfl) ?_
      refine x_icmp (tgt := 52) (by decide +kernel : am_at co_X9_add 23 = some (3, .if_icmp .ge 29)) rfl Iff.rfl (fun c3 => ?_) (fun c3 => ?_)
      · have h := h.1 c3
        obtain ⟨o4, h⟩ := h
        refine x_iinc (L' := [(2, 1), (0, v1), (0, v2 + (-8))]) (by decide +kernel : am_at co_X9_add 52 = some (3, .iinc 2 (-8))) rfl o4 rfl ?_
        refine x_goto (tgt := 3) (by decide +kernel : am_at co_X9_add 55 = some (3, .goto (-52))) rfl ?_
        exact am_weak (lk (lk (lk ln))) h
      · have c3 := (Int.not_le.mp c3)
        have h := h.2 c3
        refine x_aload_n (by decide +kernel : am_at co_X9_add 26 = some (1, .aload_n 0)) rfl ?_
        refine x_getF (by decide +kernel : am_at co_X9_add 27 = some (3, .getfield 9)) pq_9_9 (by decide) rfl ob_1 ?_
        refine x_top2 (show 1 + 1 = 2 from rfl) ?_
        refine x_aload_n (by decide +kernel : am_at co_X9_add 30 = some (1, .aload_n 0)) rfl ?_
        refine x_getf (by decide +kernel : am_at co_X9_add 31 = some (3, .getfield 15)) pq_9_15 rfl ob_1 ?_
        refine x_iload_n (by decide +kernel : am_at co_X9_add 34 = some (1, .iload_n 1)) rfl ?_
        refine x_iload_n (by decide +kernel : am_at co_X9_add 35 = some (1, .iload_n 2)) rfl ?_
        refine x_iushr (by decide +kernel : am_at co_X9_add 36 = some (1, .iushr)) ?_
        refine x_sipush (by decide +kernel : am_at co_X9_add 37 = some (3, .sipush 255)) ?_
        refine x_iand (by decide +kernel : am_at co_X9_add 40 = some (1, .iand)) ?_
        obtain ⟨o5, h⟩ := h
        refine x_iast (by decide +kernel : am_at co_X9_add 41 = some (1, .iastore)) (ow_2 o5.1 o5.2) ?_
        refine x_aload_n (by decide +kernel : am_at co_X9_add 42 = some (1, .aload_n 0)) rfl ?_
        refine x_dup2' (by decide +kernel : am_at co_X9_add 43 = some (1, .dup)) ?_
        refine x_getf (by decide +kernel : am_at co_X9_add 44 = some (3, .getfield 15)) pq_9_15 rfl ob_1 ?_
        refine x_top0 (show (am_up M 2 (M 1 1) (am_band (am_ushr v1 v2) 255)) 1 1 = M 1 1 from by first | rfl | simp [am_up]) ?_
        refine x_iconst (by decide +kernel : am_at co_X9_add 47 = some (1, .iconst 1)) ?_
        obtain ⟨o6, h⟩ := h
        refine x_iadd (by decide +kernel : am_at co_X9_add 48 = some (1, .iadd)) o6 ?_
        refine x_putf0 (by decide +kernel : am_at co_X9_add 49 = some (3, .putfield 15)) pq_9_15 rfl ob_1 ?_
        obtain ⟨o7, h⟩ := h
        refine x_iinc (L' := [(2, 1), (0, v1), (0, v2 + (-8))]) (by decide +kernel : am_at co_X9_add 52 = some (3, .iinc 2 (-8))) rfl o7 rfl ?_
        refine x_goto (tgt := 3) (by decide +kernel : am_at co_X9_add 55 = some (3, .goto (-52))) rfl ?_
        exact am_weak (lk (lk (lk ln))) h
set_option maxRecDepth 20000 in
theorem bk_X9_wipe_0 {d : Nat} {Q : am_Q} {M : am_M} (h : Q (none, sh_T, (am_up M 1 1 0))) : am_g 9 9 co_X9_wipe d Q 0 [(2, 1)] [] sh_T M := by
  refine x_aload_n (by decide +kernel : am_at co_X9_wipe 0 = some (1, .aload_n 0)) rfl ?_
  refine x_iconst (by decide +kernel : am_at co_X9_wipe 1 = some (1, .iconst 0)) ?_
  refine x_putf0 (by decide +kernel : am_at co_X9_wipe 2 = some (3, .putfield 15)) pq_9_15 rfl ob_1 ?_
  exact x_vret (by decide +kernel : am_at co_X9_wipe 5 = some (1, .return_)) h
set_option maxRecDepth 20000 in
theorem bk_X9_byteAt_0 {d : Nat} {Q : am_Q} {M : am_M} {v1 : Int} (h : ((v1 < 0 → Q (some (0, (-1)), sh_T, M)) ∧ (0 ≤ v1 → ((M 1 1 ≤ v1 → Q (some (0, (-1)), sh_T, M)) ∧ (v1 < M 1 1 → ((1600 ≤ v1 → Q (some (0, (-1)), sh_T, M)) ∧ (v1 < 1600 → (0 ≤ v1 ∧ v1 < 1600) ∧ Q (some (0, M 2 v1), sh_T, M)))))))) : am_g 9 0 co_X9_byteAt d Q 0 [(2, 1), (0, v1)] [] sh_T M := by
  refine x_iload_n (by decide +kernel : am_at co_X9_byteAt 0 = some (1, .iload_n 1)) rfl ?_
  refine x_if (tgt := 30) (by decide +kernel : am_at co_X9_byteAt 1 = some (3, .ifCond .lt 29)) rfl Iff.rfl (fun c0 => ?_) (fun c0 => ?_)
  · have h := h.1 c0
    refine x_iconst (by decide +kernel : am_at co_X9_byteAt 30 = some (1, .iconst (-1))) ?_
    exact x_iret (by decide +kernel : am_at co_X9_byteAt 31 = some (1, .ireturn)) h
  · have c0 := (Int.not_lt.mp c0)
    have h := h.2 c0
    refine x_iload_n (by decide +kernel : am_at co_X9_byteAt 4 = some (1, .iload_n 1)) rfl ?_
    refine x_aload_n (by decide +kernel : am_at co_X9_byteAt 5 = some (1, .aload_n 0)) rfl ?_
    refine x_getf (by decide +kernel : am_at co_X9_byteAt 6 = some (3, .getfield 15)) pq_9_15 rfl ob_1 ?_
    refine x_icmp (tgt := 30) (by decide +kernel : am_at co_X9_byteAt 9 = some (3, .if_icmp .ge 21)) rfl Iff.rfl (fun c1 => ?_) (fun c1 => ?_)
    · have h := h.1 c1
      refine x_iconst (by decide +kernel : am_at co_X9_byteAt 30 = some (1, .iconst (-1))) ?_
      exact x_iret (by decide +kernel : am_at co_X9_byteAt 31 = some (1, .ireturn)) h
    · have c1 := (Int.not_le.mp c1)
      have h := h.2 c1
      refine x_iload_n (by decide +kernel : am_at co_X9_byteAt 12 = some (1, .iload_n 1)) rfl ?_
      refine x_aload_n (by decide +kernel : am_at co_X9_byteAt 13 = some (1, .aload_n 0)) rfl ?_
      refine x_getF (by decide +kernel : am_at co_X9_byteAt 14 = some (3, .getfield 9)) pq_9_9 (by decide) rfl ob_1 ?_
      refine x_top2 (show 1 + 1 = 2 from rfl) ?_
      refine x_alen (by decide +kernel : am_at co_X9_byteAt 17 = some (1, .arraylength)) (n := 1600) rfl ?_
      refine x_top0 (show ((1600 : Nat) : Int) = 1600 from rfl) ?_
      refine x_icmp (tgt := 30) (by decide +kernel : am_at co_X9_byteAt 18 = some (3, .if_icmp .ge 12)) rfl Iff.rfl (fun c2 => ?_) (fun c2 => ?_)
      · have h := h.1 c2
        refine x_iconst (by decide +kernel : am_at co_X9_byteAt 30 = some (1, .iconst (-1))) ?_
        exact x_iret (by decide +kernel : am_at co_X9_byteAt 31 = some (1, .ireturn)) h
      · have c2 := (Int.not_le.mp c2)
        have h := h.2 c2
        refine x_aload_n (by decide +kernel : am_at co_X9_byteAt 21 = some (1, .aload_n 0)) rfl ?_
        refine x_getF (by decide +kernel : am_at co_X9_byteAt 22 = some (3, .getfield 9)) pq_9_9 (by decide) rfl ob_1 ?_
        refine x_top2 (show 1 + 1 = 2 from rfl) ?_
        refine x_iload_n (by decide +kernel : am_at co_X9_byteAt 25 = some (1, .iload_n 1)) rfl ?_
        obtain ⟨o3, h⟩ := h
        refine x_iald (by decide +kernel : am_at co_X9_byteAt 26 = some (1, .iaload)) (ia_2 o3.1 o3.2) ?_
        refine x_goto (tgt := 31) (by decide +kernel : am_at co_X9_byteAt 27 = some (3, .goto 4)) rfl ?_
        exact x_iret (by decide +kernel : am_at co_X9_byteAt 31 = some (1, .ireturn)) h
set_option maxRecDepth 20000 in
theorem bk_X9_pairAt_0 {d : Nat} {Q : am_Q} {M : am_M} {v1 : Int} (h : am_cal pg d 92 [(2, 1), (0, v1)] sh_T M (am_c0 sh_T fun x1 M1 => am_r (256 * x1) ∧ am_r (v1 + 1) ∧ am_cal pg d 92 [(2, 1), (0, v1 + 1)] sh_T M1 (am_c0 sh_T fun x4 M4 => am_r ((256 * x1) + x4) ∧ Q (some (0, (256 * x1) + x4), sh_T, M4)))) : am_g 9 0 co_X9_pairAt d Q 0 [(2, 1), (0, v1)] [] sh_T M := by
  refine x_sipush (by decide +kernel : am_at co_X9_pairAt 0 = some (3, .sipush 256)) ?_
  refine x_aload_n (by decide +kernel : am_at co_X9_pairAt 3 = some (1, .aload_n 0)) rfl ?_
  refine x_iload_n (by decide +kernel : am_at co_X9_pairAt 4 = some (1, .iload_n 1)) rfl ?_
  refine x_callV (n := 2) (by decide +kernel : am_at co_X9_pairAt 5 = some (3, .invokevirtual 37)) pq_9_37 pm_X9_byteAt rfl rfl rfl ob_1 h (x_k0 fun x1 M1 h => ?_)
  obtain ⟨o1, h⟩ := h
  refine x_imul (by decide +kernel : am_at co_X9_pairAt 8 = some (1, .imul)) o1 ?_
  refine x_aload_n (by decide +kernel : am_at co_X9_pairAt 9 = some (1, .aload_n 0)) rfl ?_
  refine x_iload_n (by decide +kernel : am_at co_X9_pairAt 10 = some (1, .iload_n 1)) rfl ?_
  refine x_iconst (by decide +kernel : am_at co_X9_pairAt 11 = some (1, .iconst 1)) ?_
  obtain ⟨o2, h⟩ := h
  refine x_iadd (by decide +kernel : am_at co_X9_pairAt 12 = some (1, .iadd)) o2 ?_
  refine x_callV (n := 2) (by decide +kernel : am_at co_X9_pairAt 13 = some (3, .invokevirtual 37)) pq_9_37 pm_X9_byteAt rfl rfl rfl ob_1 h (x_k0 fun x4 M4 h => ?_)
  obtain ⟨o4, h⟩ := h
  refine x_iadd (by decide +kernel : am_at co_X9_pairAt 16 = some (1, .iadd)) o4 ?_
  exact x_iret (by decide +kernel : am_at co_X9_pairAt 17 = some (1, .ireturn)) h
