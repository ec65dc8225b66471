/-! blocks (printed) -/
set_option maxRecDepth 20000 in
theorem bk_X11_status_0 {d : Nat} {Q : am_Q} {M : am_M} {v1 : Int} (h : ((v1 < 0 → Q (some (0, (-1)), sh_T, M)) ∧ (0 ≤ v1 → ((6 ≤ v1 → Q (some (0, (-1)), sh_T, M)) ∧ (v1 < 6 → (0 ≤ v1 ∧ v1 < 6) ∧ Q (some (0, M 151 v1), sh_T, M)))))) : am_g 11 0 co_X11_status d Q 0 [(2, 0), (0, v1)] [] sh_T M := by
  refine x_iload_n (by decide +kernel : am_at co_X11_status 0 = some (1, .iload_n 1)) rfl ?_
  refine x_if (tgt := 22) (by decide +kernel : am_at co_X11_status 1 = some (3, .ifCond .lt 21)) rfl Iff.rfl (fun c0 => ?_) (fun c0 => ?_)
  · have h := h.1 c0
    refine x_iconst (by decide +kernel : am_at co_X11_status 22 = some (1, .iconst (-1))) ?_
    exact x_iret (by decide +kernel : am_at co_X11_status 23 = some (1, .ireturn)) h
  · have c0 := (Int.not_lt.mp c0)
    have h := h.2 c0
    refine x_iload_n (by decide +kernel : am_at co_X11_status 4 = some (1, .iload_n 1)) rfl ?_
    refine x_aload_n (by decide +kernel : am_at co_X11_status 5 = some (1, .aload_n 0)) rfl ?_
    refine x_getF (by decide +kernel : am_at co_X11_status 6 = some (3, .getfield 104)) pq_11_104 (by decide) rfl ob_0 ?_
    refine x_top2 (show 0 + 151 = 151 from rfl) ?_
    refine x_alen (by decide +kernel : am_at co_X11_status 9 = some (1, .arraylength)) (n := 6) rfl ?_
    refine x_top0 (show ((6 : Nat) : Int) = 6 from rfl) ?_
    refine x_icmp (tgt := 22) (by decide +kernel : am_at co_X11_status 10 = some (3, .if_icmp .ge 12)) rfl Iff.rfl (fun c1 => ?_) (fun c1 => ?_)
    · have h := h.1 c1
      refine x_iconst (by decide +kernel : am_at co_X11_status 22 = some (1, .iconst (-1))) ?_
      exact x_iret (by decide +kernel : am_at co_X11_status 23 = some (1, .ireturn)) h
    · have c1 := (Int.not_le.mp c1)
      have h := h.2 c1
      refine x_aload_n (by decide +kernel : am_at co_X11_status 13 = some (1, .aload_n 0)) rfl ?_
      refine x_getF (by decide +kernel : am_at co_X11_status 14 = some (3, .getfield 104)) pq_11_104 (by decide) rfl ob_0 ?_
      refine x_top2 (show 0 + 151 = 151 from rfl) ?_
      refine x_iload_n (by decide +kernel : am_at co_X11_status 17 = some (1, .iload_n 1)) rfl ?_
      obtain ⟨o2, h⟩ := h
      refine x_iald (by decide +kernel : am_at co_X11_status 18 = some (1, .iaload)) (ia_151 o2.1 o2.2) ?_
      refine x_goto (tgt := 23) (by decide +kernel : am_at co_X11_status 19 = some (3, .goto 4)) rfl ?_
      exact x_iret (by decide +kernel : am_at co_X11_status 23 = some (1, .ireturn)) h
set_option maxRecDepth 20000 in
theorem bk_X11_refuse_0 {d : Nat} {Q : am_Q} {M : am_M} {v1 : Int} (h : ((v1 < 0 → Q (some (0, (-1)), sh_T, M)) ∧ (0 ≤ v1 → ((6 ≤ v1 → Q (some (0, (-1)), sh_T, M)) ∧ (v1 < 6 → (0 ≤ v1 ∧ v1 < 6) ∧ am_r ((M 151 v1) + 1) ∧ Q (some (0, (-1)), sh_T, (am_up M 151 v1 ((M 151 v1) + 1)))))))) : am_g 11 0 co_X11_refuse d Q 0 [(2, 0), (0, v1)] [] sh_T M := by
  refine x_iload_n (by decide +kernel : am_at co_X11_refuse 0 = some (1, .iload_n 1)) rfl ?_
  refine x_if (tgt := 23) (by decide +kernel : am_at co_X11_refuse 1 = some (3, .ifCond .lt 22)) rfl Iff.rfl (fun c0 => ?_) (fun c0 => ?_)
  · have h := h.1 c0
    refine x_iconst (by decide +kernel : am_at co_X11_refuse 23 = some (1, .iconst (-1))) ?_
    exact x_iret (by decide +kernel : am_at co_X11_refuse 24 = some (1, .ireturn)) h
  · have c0 := (Int.not_lt.mp c0)
    have h := h.2 c0
    refine x_iload_n (by decide +kernel : am_at co_X11_refuse 4 = some (1, .iload_n 1)) rfl ?_
    refine x_aload_n (by decide +kernel : am_at co_X11_refuse 5 = some (1, .aload_n 0)) rfl ?_
    refine x_getF (by decide +kernel : am_at co_X11_refuse 6 = some (3, .getfield 104)) pq_11_104 (by decide) rfl ob_0 ?_
    refine x_top2 (show 0 + 151 = 151 from rfl) ?_
    refine x_alen (by decide +kernel : am_at co_X11_refuse 9 = some (1, .arraylength)) (n := 6) rfl ?_
    refine x_top0 (show ((6 : Nat) : Int) = 6 from rfl) ?_
    refine x_icmp (tgt := 23) (by decide +kernel : am_at co_X11_refuse 10 = some (3, .if_icmp .ge 13)) rfl Iff.rfl (fun c1 => ?_) (fun c1 => ?_)
    · have h := h.1 c1
      refine x_iconst (by decide +kernel : am_at co_X11_refuse 23 = some (1, .iconst (-1))) ?_
      exact x_iret (by decide +kernel : am_at co_X11_refuse 24 = some (1, .ireturn)) h
    · have c1 := (Int.not_le.mp c1)
      have h := h.2 c1
      refine x_aload_n (by decide +kernel : am_at co_X11_refuse 13 = some (1, .aload_n 0)) rfl ?_
      refine x_getF (by decide +kernel : am_at co_X11_refuse 14 = some (3, .getfield 104)) pq_11_104 (by decide) rfl ob_0 ?_
      refine x_top2 (show 0 + 151 = 151 from rfl) ?_
      refine x_iload_n (by decide +kernel : am_at co_X11_refuse 17 = some (1, .iload_n 1)) rfl ?_
      refine x_dup2 (by decide +kernel : am_at co_X11_refuse 18 = some (1, .dup2)) ?_
      obtain ⟨o2, h⟩ := h
      refine x_iald (by decide +kernel : am_at co_X11_refuse 19 = some (1, .iaload)) (ia_151 o2.1 o2.2) ?_
      refine x_iconst (by decide +kernel : am_at co_X11_refuse 20 = some (1, .iconst 1)) ?_
      obtain ⟨o3, h⟩ := h
      refine x_iadd (by decide +kernel : am_at co_X11_refuse 21 = some (1, .iadd)) o3 ?_
      refine x_iast (by decide +kernel : am_at co_X11_refuse 22 = some (1, .iastore)) (ow_151 o2.1 o2.2) ?_
      refine x_iconst (by decide +kernel : am_at co_X11_refuse 23 = some (1, .iconst (-1))) ?_
      exact x_iret (by decide +kernel : am_at co_X11_refuse 24 = some (1, .ireturn)) h
set_option maxRecDepth 20000 in
theorem bk_X11_isDreamer_0 {d : Nat} {Q : am_Q} {M : am_M} {v1 : Int} (h : ((4 ≤ v1 → Q (some (0, 0), sh_T, M)) ∧ (v1 < 4 → am_ob sh_T 2 (M 0 4) ∧ am_cal pg d 15 [(2, M 0 4), (0, 1), (0, v1)] sh_T M (am_c0 sh_T fun x3 M3 => ((x3 = 0 → Q (some (0, 0), sh_T, M3)) ∧ (¬ x3 = 0 → Q (some (0, 1), sh_T, M3))))))) : am_g 11 5 co_X11_isDreamer d Q 0 [(2, 0), (0, v1)] [] sh_T M := by
  refine x_iload_n (by decide +kernel : am_at co_X11_isDreamer 0 = some (1, .iload_n 1)) rfl ?_
  refine x_aload_n (by decide +kernel : am_at co_X11_isDreamer 1 = some (1, .aload_n 0)) rfl ?_
  refine x_getF (by decide +kernel : am_at co_X11_isDreamer 2 = some (3, .getfield 55)) pq_11_55 (by decide) rfl ob_0 ?_
  refine x_top2 (show 0 + 37 = 37 from rfl) ?_
  refine x_alen (by decide +kernel : am_at co_X11_isDreamer 5 = some (1, .arraylength)) (n := 4) rfl ?_
  refine x_top0 (show ((4 : Nat) : Int) = 4 from rfl) ?_
  refine x_icmp (tgt := 25) (by decide +kernel : am_at co_X11_isDreamer 6 = some (3, .if_icmp .ge 19)) rfl Iff.rfl (fun c0 => ?_) (fun c0 => ?_)
  · have h := h.1 c0
    refine x_iconst (by decide +kernel : am_at co_X11_isDreamer 25 = some (1, .iconst 0)) ?_
    exact x_zret (by decide +kernel : am_at co_X11_isDreamer 26 = some (1, .ireturn)) (by decide) h
  · have c0 := (Int.not_le.mp c0)
    have h := h.2 c0
    refine x_aload_n (by decide +kernel : am_at co_X11_isDreamer 9 = some (1, .aload_n 0)) rfl ?_
    refine x_getf (by decide +kernel : am_at co_X11_isDreamer 10 = some (3, .getfield 44)) pq_11_44 rfl ob_0 ?_
    refine x_iconst (by decide +kernel : am_at co_X11_isDreamer 13 = some (1, .iconst 1)) ?_
    refine x_iload_n (by decide +kernel : am_at co_X11_isDreamer 14 = some (1, .iload_n 1)) rfl ?_
    obtain ⟨o1, h⟩ := h
    refine x_callV (n := 3) (by decide +kernel : am_at co_X11_isDreamer 15 = some (3, .invokevirtual 159)) pq_11_159 pm_X2_isThere rfl rfl rfl o1 h (x_k0 fun x3 M3 h => ?_)
    refine x_if (tgt := 25) (by decide +kernel : am_at co_X11_isDreamer 18 = some (3, .ifCond .eq 7)) rfl Iff.rfl (fun c3 => ?_) (fun c3 => ?_)
    · have h := h.1 c3
      refine x_iconst (by decide +kernel : am_at co_X11_isDreamer 25 = some (1, .iconst 0)) ?_
      exact x_zret (by decide +kernel : am_at co_X11_isDreamer 26 = some (1, .ireturn)) (by decide) h
    · have c3 := c3
      have h := h.2 c3
      refine x_iconst (by decide +kernel : am_at co_X11_isDreamer 21 = some (1, .iconst 1)) ?_
      refine x_goto (tgt := 26) (by decide +kernel : am_at co_X11_isDreamer 22 = some (3, .goto 4)) rfl ?_
      exact x_zret (by decide +kernel : am_at co_X11_isDreamer 26 = some (1, .ireturn)) (by decide) h
set_option maxRecDepth 20000 in
theorem bk_X11_isDread_0 {d : Nat} {Q : am_Q} {M : am_M} {v1 : Int} (h : am_ob sh_T 2 (M 0 4) ∧ am_cal pg d 15 [(2, M 0 4), (0, 0), (0, v1)] sh_T M (am_c0 sh_T fun x2 M2 => (x2 = 0 ∨ x2 = 1) ∧ Q (some (0, x2), sh_T, M2))) : am_g 11 5 co_X11_isDread d Q 0 [(2, 0), (0, v1)] [] sh_T M := by
  refine x_aload_n (by decide +kernel : am_at co_X11_isDread 0 = some (1, .aload_n 0)) rfl ?_
  refine x_getf (by decide +kernel : am_at co_X11_isDread 1 = some (3, .getfield 44)) pq_11_44 rfl ob_0 ?_
  refine x_iconst (by decide +kernel : am_at co_X11_isDread 4 = some (1, .iconst 0)) ?_
  refine x_iload_n (by decide +kernel : am_at co_X11_isDread 5 = some (1, .iload_n 1)) rfl ?_
  obtain ⟨o0, h⟩ := h
  refine x_callV (n := 3) (by decide +kernel : am_at co_X11_isDread 6 = some (3, .invokevirtual 159)) pq_11_159 pm_X2_isThere rfl rfl rfl o0 h (x_k0 fun x2 M2 h => ?_)
  exact x_zret (by decide +kernel : am_at co_X11_isDread 9 = some (1, .ireturn)) h.1 h.2
set_option maxRecDepth 20000 in
theorem bk_X11_countHome_0 {d : Nat} {Q : am_Q} {M : am_M} (h : am_g 11 0 co_X11_countHome d Q 4 [(2, 0), (0, 0), (0, 0)] [] sh_T M) : am_g 11 0 co_X11_countHome d Q 0 [(2, 0), (3, 0), (3, 0)] [] sh_T M := by
  refine x_iconst (by decide +kernel : am_at co_X11_countHome 0 = some (1, .iconst 0)) ?_
  refine x_istore_n (L' := [(2, 0), (0, 0), (3, 0)]) (by decide +kernel : am_at co_X11_countHome 1 = some (1, .istore_n 1)) rfl ?_
  refine x_iconst (by decide +kernel : am_at co_X11_countHome 2 = some (1, .iconst 0)) ?_
  refine x_istore_n (L' := [(2, 0), (0, 0), (0, 0)]) (by decide +kernel : am_at co_X11_countHome 3 = some (1, .istore_n 2)) rfl ?_
  exact am_weak (lk (lk (lk ln))) h
set_option maxRecDepth 20000 in
theorem bk_X11_countHome_4 {d : Nat} {Q : am_Q} {M : am_M} {v1 v2 : Int} (h : am_ob sh_T 2 (M 0 4) ∧ am_cal pg d 14 [(2, M 0 4), (0, 1)] sh_T M (am_c0 sh_T fun x2 M2 => ((x2 ≤ v2 → Q (some (0, v1), sh_T, M2)) ∧ (v2 < x2 → ((4 ≤ v2 → Q (some (0, v1), sh_T, M2)) ∧ (v2 < 4 → (0 ≤ v2 ∧ v2 < 4) ∧ am_ob sh_T 2 (M2 0 4) ∧ am_cal pg d 31 [(2, M2 0 4), (2, 37 + 1 + 2 * v2)] sh_T M2 (am_c0 sh_T fun x7 M7 => ((x7 = 0 → am_r (v2 + 1) ∧ am_g 11 0 co_X11_countHome d Q 4 [(2, 0), (0, v1), (0, v2 + 1)] [] sh_T M7) ∧ (¬ x7 = 0 → am_r (v1 + 1) ∧ am_r (v2 + 1) ∧ am_g 11 0 co_X11_countHome d Q 4 [(2, 0), (0, v1 + 1), (0, v2 + 1)] [] sh_T M7))))))))) : am_g 11 0 co_X11_countHome d Q 4 [(2, 0), (0, v1), (0, v2)] [] sh_T M := by
  refine x_iload_n (by decide +kernel : am_at co_X11_countHome 4 = some (1, .iload_n 2)) rfl ?_
  refine x_aload_n (by decide +kernel : am_at co_X11_countHome 5 = some (1, .aload_n 0)) rfl ?_
  refine x_getf (by decide +kernel : am_at co_X11_countHome 6 = some (3, .getfield 44)) pq_11_44 rfl ob_0 ?_
  refine x_iconst (by decide +kernel : am_at co_X11_countHome 9 = some (1, .iconst 1)) ?_
  obtain ⟨o0, h⟩ := h
  refine x_callV (n := 2) (by decide +kernel : am_at co_X11_countHome 10 = some (3, .invokevirtual 141)) pq_11_141 pm_X2_count rfl rfl rfl o0 h (x_k0 fun x2 M2 h => ?_)
  refine x_icmp (tgt := 50) (by decide +kernel : am_at co_X11_countHome 13 = some (3, .if_icmp .ge 37)) rfl Iff.rfl (fun c2 => ?_) (fun c2 => ?_)
  · have h := h.1 c2
    refine x_iload_n (by decide +kernel : am_at co_X11_countHome 50 = some (1, .iload_n 1)) rfl ?_
    exact x_iret (by decide +kernel : am_at co_X11_countHome 51 = some (1, .ireturn)) h
  · have c2 := (Int.not_le.mp c2)
    have h := h.2 c2
    refine x_iload_n (by decide +kernel : am_at co_X11_countHome 16 = some (1, .iload_n 2)) rfl ?_
    refine x_aload_n (by decide +kernel : am_at co_X11_countHome 17 = some (1, .aload_n 0)) rfl ?_
    refine x_getF (by decide +kernel : am_at co_X11_countHome 18 = some (3, .getfield 55)) pq_11_55 (by decide) rfl ob_0 ?_
    refine x_top2 (show 0 + 37 = 37 from rfl) ?_
    refine x_alen (by decide +kernel : am_at co_X11_countHome 21 = some (1, .arraylength)) (n := 4) rfl ?_
    refine x_top0 (show ((4 : Nat) : Int) = 4 from rfl) ?_
    refine x_icmp (tgt := 50) (by decide +kernel : am_at co_X11_countHome 22 = some (3, .if_icmp .ge 28)) rfl Iff.rfl (fun c3 => ?_) (fun c3 => ?_)
    · have h := h.1 c3
      refine x_iload_n (by decide +kernel : am_at co_X11_countHome 50 = some (1, .iload_n 1)) rfl ?_
      exact x_iret (by decide +kernel : am_at co_X11_countHome 51 = some (1, .ireturn)) h
    · have c3 := (Int.not_le.mp c3)
      have h := h.2 c3
      refine x_aload_n (by decide +kernel : am_at co_X11_countHome 25 = some (1, .aload_n 0)) rfl ?_
      refine x_getf (by decide +kernel : am_at co_X11_countHome 26 = some (3, .getfield 44)) pq_11_44 rfl ob_0 ?_
      refine x_aload_n (by decide +kernel : am_at co_X11_countHome 29 = some (1, .aload_n 0)) rfl ?_
      refine x_getF (by decide +kernel : am_at co_X11_countHome 30 = some (3, .getfield 55)) pq_11_55 (by decide) rfl ob_0 ?_
      refine x_top2 (show 0 + 37 = 37 from rfl) ?_
      refine x_iload_n (by decide +kernel : am_at co_X11_countHome 33 = some (1, .iload_n 2)) rfl ?_
      obtain ⟨o4, h⟩ := h
      refine x_aald (by decide +kernel : am_at co_X11_countHome 34 = some (1, .aaload)) (ia_37 o4.1 o4.2) ?_
      obtain ⟨o5, h⟩ := h
      refine x_callV (n := 2) (by decide +kernel : am_at co_X11_countHome 35 = some (3, .invokevirtual 195)) pq_11_195 pm_X2_isHome rfl rfl rfl o5 h (x_k0 fun x7 M7 h => ?_)
      refine x_if (tgt := 44) (by decide +kernel : am_at co_X11_countHome 38 = some (3, .ifCond .eq 6)) rfl Iff.rfl (fun c7 => ?_) (fun c7 => ?_)
      · have h := h.1 c7
        obtain ⟨o8, h⟩ := h
        refine x_iinc (L' := [(2, 0), (0, v1), (0, v2 + 1)]) (by decide +kernel : am_at co_X11_countHome 44 = some (3, .iinc 2 1)) rfl o8 rfl ?_
        refine x_goto (tgt := 4) (by decide +kernel : am_at co_X11_countHome 47 = some (3, .goto (-43))) rfl ?_
        exact am_weak (lk (lk (lk ln))) h
      · have c7 := c7
        have h := h.2 c7
        obtain ⟨o9, h⟩ := h
        refine x_iinc (L' := [(2, 0), (0, v1 + 1), (0, v2)]) (by decide +kernel : am_at co_X11_countHome 41 = some (3, .iinc 1 1)) rfl o9 rfl ?_
        obtain ⟨o10, h⟩ := h
        refine x_iinc (L' := [(2, 0), (0, v1 + 1), (0, v2 + 1)]) (by decide +kernel : am_at co_X11_countHome 44 = some (3, .iinc 2 1)) rfl o10 rfl ?_
        refine x_goto (tgt := 4) (by decide +kernel : am_at co_X11_countHome 47 = some (3, .goto (-43))) rfl ?_
        exact am_weak (lk (lk (lk ln))) h
set_option maxRecDepth 20000 in
theorem bk_X11_draw_0 {d : Nat} {Q : am_Q} {M : am_M} {v1 : Int} (h : am_rl (1103515245 * (M 0 17)) ∧ am_rl ((1103515245 * (M 0 17)) + 12345) ∧ am_r (am_land ((1103515245 * (M 0 17)) + 12345) 2147483647) ∧ ((v1 ≤ 0 → Q (some (0, 0), sh_T, (am_up M 0 17 (am_land ((1103515245 * (M 0 17)) + 12345) 2147483647)))) ∧ (0 < v1 → ¬ v1 = 0 ∧ Q (some (0, (am_shr (am_land ((1103515245 * (M 0 17)) + 12345) 2147483647) 6).tmod v1), sh_T, (am_up M 0 17 (am_land ((1103515245 * (M 0 17)) + 12345) 2147483647)))))) : am_g 11 0 co_X11_draw d Q 0 [(2, 0), (0, v1)] [] sh_T M := by
  refine x_aload_n (by decide +kernel : am_at co_X11_draw 0 = some (1, .aload_n 0)) rfl ?_
  refine x_ldc2 (by decide +kernel : am_at co_X11_draw 1 = some (3, .ldc2_w 332)) pq_11_332 ?_
  refine x_aload_n (by decide +kernel : am_at co_X11_draw 4 = some (1, .aload_n 0)) rfl ?_
  refine x_getf (by decide +kernel : am_at co_X11_draw 5 = some (3, .getfield 107)) pq_11_107 rfl ob_0 ?_
  refine x_i2l (by decide +kernel : am_at co_X11_draw 8 = some (1, .i2l)) ?_
  obtain ⟨o0, h⟩ := h
  refine x_lmul (by decide +kernel : am_at co_X11_draw 9 = some (1, .lmul)) o0 ?_
  refine x_ldc2 (by decide +kernel : am_at co_X11_draw 10 = some (3, .ldc2_w 334)) pq_11_334 ?_
  obtain ⟨o1, h⟩ := h
  refine x_ladd (by decide +kernel : am_at co_X11_draw 13 = some (1, .ladd)) o1 ?_
  refine x_ldc2 (by decide +kernel : am_at co_X11_draw 14 = some (3, .ldc2_w 336)) pq_11_336 ?_
  refine x_land (by decide +kernel : am_at co_X11_draw 17 = some (1, .land)) ?_
  obtain ⟨o2, h⟩ := h
  refine x_l2i (by decide +kernel : am_at co_X11_draw 18 = some (1, .l2i)) o2 ?_
  refine x_putf0 (by decide +kernel : am_at co_X11_draw 19 = some (3, .putfield 107)) pq_11_107 rfl ob_0 ?_
  refine x_iload_n (by decide +kernel : am_at co_X11_draw 22 = some (1, .iload_n 1)) rfl ?_
  refine x_if (tgt := 38) (by decide +kernel : am_at co_X11_draw 23 = some (3, .ifCond .le 15)) rfl Iff.rfl (fun c3 => ?_) (fun c3 => ?_)
  · have h := h.1 c3
    refine x_iconst (by decide +kernel : am_at co_X11_draw 38 = some (1, .iconst 0)) ?_
    exact x_iret (by decide +kernel : am_at co_X11_draw 39 = some (1, .ireturn)) h
  · have c3 := (Int.not_le.mp c3)
    have h := h.2 c3
    refine x_aload_n (by decide +kernel : am_at co_X11_draw 26 = some (1, .aload_n 0)) rfl ?_
    refine x_getf (by decide +kernel : am_at co_X11_draw 27 = some (3, .getfield 107)) pq_11_107 rfl ob_0 ?_
    refine x_top0 (show (am_up M 0 17 (am_land ((1103515245 * (M 0 17)) + 12345) 2147483647)) 0 17 = am_land ((1103515245 * (M 0 17)) + 12345) 2147483647 from by first | rfl | simp [am_up]) ?_
    refine x_bipush (by decide +kernel : am_at co_X11_draw 30 = some (2, .bipush 6)) ?_
    refine x_ishr (by decide +kernel : am_at co_X11_draw 32 = some (1, .ishr)) ?_
    refine x_iload_n (by decide +kernel : am_at co_X11_draw 33 = some (1, .iload_n 1)) rfl ?_
    obtain ⟨o4, h⟩ := h
    refine x_irem (by decide +kernel : am_at co_X11_draw 34 = some (1, .irem)) o4 ?_
    refine x_goto (tgt := 39) (by decide +kernel : am_at co_X11_draw 35 = some (3, .goto 4)) rfl ?_
    exact x_iret (by decide +kernel : am_at co_X11_draw 39 = some (1, .ireturn)) h
set_option maxRecDepth 20000 in
theorem bk_X11_paint_0 {d : Nat} {Q : am_Q} {M : am_M} {v1 : Int} (h : ((M 0 15 < 0 → Q (none, sh_T, M)) ∧ (0 ≤ M 0 15 → ((53 ≤ M 0 15 → Q (none, sh_T, M)) ∧ (M 0 15 < 53 → (0 ≤ M 0 15 ∧ M 0 15 < 53) ∧ am_r ((M 0 15) + 1) ∧ Q (none, sh_T, (am_up (am_up M 150 (M 0 15) v1) 0 15 ((M 0 15) + 1)))))))) : am_g 11 9 co_X11_paint d Q 0 [(2, 0), (0, v1)] [] sh_T M := by
  refine x_aload_n (by decide +kernel : am_at co_X11_paint 0 = some (1, .aload_n 0)) rfl ?_
  refine x_getf (by decide +kernel : am_at co_X11_paint 1 = some (3, .getfield 101)) pq_11_101 rfl ob_0 ?_
  refine x_if (tgt := 36) (by decide +kernel : am_at co_X11_paint 4 = some (3, .ifCond .lt 32)) rfl Iff.rfl (fun c0 => ?_) (fun c0 => ?_)
  · have h := h.1 c0
    exact x_vret (by decide +kernel : am_at co_X11_paint 36 = some (1, .return_)) h
  · have c0 := (Int.not_lt.mp c0)
    have h := h.2 c0
    refine x_aload_n (by decide +kernel : am_at co_X11_paint 7 = some (1, .aload_n 0)) rfl ?_
    refine x_getf (by decide +kernel : am_at co_X11_paint 8 = some (3, .getfield 101)) pq_11_101 rfl ob_0 ?_
    refine x_bipush (by decide +kernel : am_at co_X11_paint 11 = some (2, .bipush 53)) ?_
    refine x_icmp (tgt := 36) (by decide +kernel : am_at co_X11_paint 13 = some (3, .if_icmp .ge 23)) rfl Iff.rfl (fun c1 => ?_) (fun c1 => ?_)
    · have h := h.1 c1
      exact x_vret (by decide +kernel : am_at co_X11_paint 36 = some (1, .return_)) h
    · have c1 := (Int.not_le.mp c1)
      have h := h.2 c1
      refine x_aload_n (by decide +kernel : am_at co_X11_paint 16 = some (1, .aload_n 0)) rfl ?_
      refine x_getF (by decide +kernel : am_at co_X11_paint 17 = some (3, .getfield 98)) pq_11_98 (by decide) rfl ob_0 ?_
      refine x_top2 (show 0 + 150 = 150 from rfl) ?_
      refine x_aload_n (by decide +kernel : am_at co_X11_paint 20 = some (1, .aload_n 0)) rfl ?_
      refine x_getf (by decide +kernel : am_at co_X11_paint 21 = some (3, .getfield 101)) pq_11_101 rfl ob_0 ?_
      refine x_iload_n (by decide +kernel : am_at co_X11_paint 24 = some (1, .iload_n 1)) rfl ?_
      obtain ⟨o2, h⟩ := h
      refine x_iast (by decide +kernel : am_at co_X11_paint 25 = some (1, .iastore)) (ow_150 o2.1 o2.2) ?_
      refine x_aload_n (by decide +kernel : am_at co_X11_paint 26 = some (1, .aload_n 0)) rfl ?_
      refine x_dup2' (by decide +kernel : am_at co_X11_paint 27 = some (1, .dup)) ?_
      refine x_getf (by decide +kernel : am_at co_X11_paint 28 = some (3, .getfield 101)) pq_11_101 rfl ob_0 ?_
      refine x_top0 (show (am_up M 150 (M 0 15) v1) 0 15 = M 0 15 from by first | rfl | simp [am_up]) ?_
      refine x_iconst (by decide +kernel : am_at co_X11_paint 31 = some (1, .iconst 1)) ?_
      obtain ⟨o3, h⟩ := h
      refine x_iadd (by decide +kernel : am_at co_X11_paint 32 = some (1, .iadd)) o3 ?_
      refine x_putf0 (by decide +kernel : am_at co_X11_paint 33 = some (3, .putfield 101)) pq_11_101 rfl ob_0 ?_
      exact x_vret (by decide +kernel : am_at co_X11_paint 36 = some (1, .return_)) h
set_option maxRecDepth 20000 in
theorem bk_X11_isPicture_0 {d : Nat} {Q : am_Q} {M : am_M} (h : am_ob sh_T 2 (M 0 4) ∧ am_cal pg d 14 [(2, M 0 4), (0, 1)] sh_T M (am_c0 sh_T fun x2 M2 => am_ob sh_T 2 (M2 0 4) ∧ am_cal pg d 14 [(2, M2 0 4), (0, 0)] sh_T M2 (am_c0 sh_T fun x4 M4 => am_r (2 * x4) ∧ am_r (1 + (2 * x4)) ∧ am_r (x2 * (1 + (2 * x4))) ∧ am_r ((x2 * (1 + (2 * x4))) + 1) ∧ ((M4 1 1 = (x2 * (1 + (2 * x4))) + 1 → am_g 11 5 co_X11_isPicture d Q 43 [(2, 0), (0, x2 * (1 + (2 * x4))), (0, 181), (0, 0), (3, 0), (3, 0), (3, 0)] [] sh_T M4) ∧ (¬ M4 1 1 = (x2 * (1 + (2 * x4))) + 1 → Q (some (0, 0), sh_T, M4)))))) : am_g 11 5 co_X11_isPicture d Q 0 [(2, 0), (3, 0), (3, 0), (3, 0), (3, 0), (3, 0), (3, 0)] [] sh_T M := by
  refine x_aload_n (by decide +kernel : am_at co_X11_isPicture 0 = some (1, .aload_n 0)) rfl ?_
  refine x_getf (by decide +kernel : am_at co_X11_isPicture 1 = some (3, .getfield 44)) pq_11_44 rfl ob_0 ?_
  refine x_iconst (by decide +kernel : am_at co_X11_isPicture 4 = some (1, .iconst 1)) ?_
  obtain ⟨o0, h⟩ := h
  refine x_callV (n := 2) (by decide +kernel : am_at co_X11_isPicture 5 = some (3, .invokevirtual 141)) pq_11_141 pm_X2_count rfl rfl rfl o0 h (x_k0 fun x2 M2 h => ?_)
  refine x_iconst (by decide +kernel : am_at co_X11_isPicture 8 = some (1, .iconst 1)) ?_
  refine x_iconst (by decide +kernel : am_at co_X11_isPicture 9 = some (1, .iconst 2)) ?_
  refine x_aload_n (by decide +kernel : am_at co_X11_isPicture 10 = some (1, .aload_n 0)) rfl ?_
  refine x_getf (by decide +kernel : am_at co_X11_isPicture 11 = some (3, .getfield 44)) pq_11_44 rfl ob_0 ?_
  refine x_iconst (by decide +kernel : am_at co_X11_isPicture 14 = some (1, .iconst 0)) ?_
  obtain ⟨o2, h⟩ := h
  refine x_callV (n := 2) (by decide +kernel : am_at co_X11_isPicture 15 = some (3, .invokevirtual 141)) pq_11_141 pm_X2_count rfl rfl rfl o2 h (x_k0 fun x4 M4 h => ?_)
  obtain ⟨o4, h⟩ := h
  refine x_imul (by decide +kernel : am_at co_X11_isPicture 18 = some (1, .imul)) o4 ?_
  obtain ⟨o5, h⟩ := h
  refine x_iadd (by decide +kernel : am_at co_X11_isPicture 19 = some (1, .iadd)) o5 ?_
  obtain ⟨o6, h⟩ := h
  refine x_imul (by decide +kernel : am_at co_X11_isPicture 20 = some (1, .imul)) o6 ?_
  refine x_istore_n (L' := [(2, 0), (0, x2 * (1 + (2 * x4))), (3, 0), (3, 0), (3, 0), (3, 0), (3, 0)]) (by decide +kernel : am_at co_X11_isPicture 21 = some (1, .istore_n 1)) rfl ?_
  refine x_aload_n (by decide +kernel : am_at co_X11_isPicture 22 = some (1, .aload_n 0)) rfl ?_
  refine x_getF (by decide +kernel : am_at co_X11_isPicture 23 = some (3, .getfield 10)) pq_11_10 (by decide) rfl ob_0 ?_
  refine x_top2 (show 0 + 1 = 1 from rfl) ?_
  refine x_getf (by decide +kernel : am_at co_X11_isPicture 26 = some (3, .getfield 110)) pq_11_110 rfl ob_1 ?_
  refine x_iload_n (by decide +kernel : am_at co_X11_isPicture 29 = some (1, .iload_n 1)) rfl ?_
  refine x_iconst (by decide +kernel : am_at co_X11_isPicture 30 = some (1, .iconst 1)) ?_
  obtain ⟨o7, h⟩ := h
  refine x_iadd (by decide +kernel : am_at co_X11_isPicture 31 = some (1, .iadd)) o7 ?_
  refine x_icmp (tgt := 37) (by decide +kernel : am_at co_X11_isPicture 32 = some (3, .if_icmp .eq 5)) rfl Iff.rfl (fun c8 => ?_) (fun c8 => ?_)
  · have h := h.1 c8
    refine x_sipush (by decide +kernel : am_at co_X11_isPicture 37 = some (3, .sipush 181)) ?_
    refine x_istore_n (L' := [(2, 0), (0, x2 * (1 + (2 * x4))), (0, 181), (3, 0), (3, 0), (3, 0), (3, 0)]) (by decide +kernel : am_at co_X11_isPicture 40 = some (1, .istore_n 2)) rfl ?_
    refine x_iconst (by decide +kernel : am_at co_X11_isPicture 41 = some (1, .iconst 0)) ?_
    refine x_istore_n (L' := [(2, 0), (0, x2 * (1 + (2 * x4))), (0, 181), (0, 0), (3, 0), (3, 0), (3, 0)]) (by decide +kernel : am_at co_X11_isPicture 42 = some (1, .istore_n 3)) rfl ?_
    exact am_weak (lk (lk (lk (lk (lk (lk (lk ln))))))) h
  · have c8 := c8
    have h := h.2 c8
    refine x_iconst (by decide +kernel : am_at co_X11_isPicture 35 = some (1, .iconst 0)) ?_
    exact x_zret (by decide +kernel : am_at co_X11_isPicture 36 = some (1, .ireturn)) (by decide) h
set_option maxRecDepth 20000 in
theorem bk_X11_isPicture_43 {d : Nat} {Q : am_Q} {M : am_M} {v1 v2 v3 : Int} (h : ((v1 ≤ v3 → am_cal pg d 92 [(2, 1), (0, v1)] sh_T M (am_c0 sh_T fun x2 M2 => ((x2 = v2 → am_g 11 5 co_X11_isPicture d Q 93 [(2, 0), (3, 0), (3, 0), (0, 0), (0, 1), (0, 0), (3, 0)] [] sh_T M2) ∧ (¬ x2 = v2 → Q (some (0, 0), sh_T, M2))))) ∧ (v3 < v1 → am_r (3 * v2) ∧ am_cal pg d 92 [(2, 1), (0, v3)] sh_T M (am_c0 sh_T fun x5 M5 => am_r ((3 * v2) + x5) ∧ am_r (v3 + 1) ∧ am_g 11 5 co_X11_isPicture d Q 43 [(2, 0), (0, v1), (0, ((3 * v2) + x5).tmod 251), (0, v3 + 1), (3, 0), (3, 0), (3, 0)] [] sh_T M5)))) : am_g 11 5 co_X11_isPicture d Q 43 [(2, 0), (0, v1), (0, v2), (0, v3), (3, 0), (3, 0), (3, 0)] [] sh_T M := by
  refine x_iload_n (by decide +kernel : am_at co_X11_isPicture 43 = some (1, .iload_n 3)) rfl ?_
  refine x_iload_n (by decide +kernel : am_at co_X11_isPicture 44 = some (1, .iload_n 1)) rfl ?_
  refine x_icmp (tgt := 71) (by decide +kernel : am_at co_X11_isPicture 45 = some (3, .if_icmp .ge 26)) rfl Iff.rfl (fun c0 => ?_) (fun c0 => ?_)
  · have h := h.1 c0
    refine x_aload_n (by decide +kernel : am_at co_X11_isPicture 71 = some (1, .aload_n 0)) rfl ?_
    refine x_getF (by decide +kernel : am_at co_X11_isPicture 72 = some (3, .getfield 10)) pq_11_10 (by decide) rfl ob_0 ?_
    refine x_top2 (show 0 + 1 = 1 from rfl) ?_
    refine x_iload_n (by decide +kernel : am_at co_X11_isPicture 75 = some (1, .iload_n 1)) rfl ?_
    refine x_callV (n := 2) (by decide +kernel : am_at co_X11_isPicture 76 = some (3, .invokevirtual 307)) pq_11_307 pm_X9_byteAt rfl rfl rfl ob_1 h (x_k0 fun x2 M2 h => ?_)
    refine x_iload_n (by decide +kernel : am_at co_X11_isPicture 79 = some (1, .iload_n 2)) rfl ?_
    refine x_icmp (tgt := 85) (by decide +kernel : am_at co_X11_isPicture 80 = some (3, .if_icmp .eq 5)) rfl Iff.rfl (fun c2 => ?_) (fun c2 => ?_)
    · have h := h.1 c2
      refine x_iconst (by decide +kernel : am_at co_X11_isPicture 85 = some (1, .iconst 0)) ?_
      refine x_istore_n (L' := [(2, 0), (0, v1), (0, v2), (0, 0), (3, 0), (3, 0), (3, 0)]) (by decide +kernel : am_at co_X11_isPicture 86 = some (1, .istore_n 3)) rfl ?_
      refine x_iconst (by decide +kernel : am_at co_X11_isPicture 87 = some (1, .iconst 1)) ?_
      refine x_istore (L' := [(2, 0), (0, v1), (0, v2), (0, 0), (0, 1), (3, 0), (3, 0)]) (by decide +kernel : am_at co_X11_isPicture 88 = some (2, .istore 4)) rfl ?_
      refine x_iconst (by decide +kernel : am_at co_X11_isPicture 90 = some (1, .iconst 0)) ?_
      refine x_istore (L' := [(2, 0), (0, v1), (0, v2), (0, 0), (0, 1), (0, 0), (3, 0)]) (by decide +kernel : am_at co_X11_isPicture 91 = some (2, .istore 5)) rfl ?_
      exact am_weak (lk (ld (ld (lk (lk (lk (lk ln))))))) h
    · have c2 := c2
      have h := h.2 c2
      refine x_iconst (by decide +kernel : am_at co_X11_isPicture 83 = some (1, .iconst 0)) ?_
      exact x_zret (by decide +kernel : am_at co_X11_isPicture 84 = some (1, .ireturn)) (by decide) h
  · have c0 := (Int.not_le.mp c0)
    have h := h.2 c0
    refine x_iconst (by decide +kernel : am_at co_X11_isPicture 48 = some (1, .iconst 3)) ?_
    refine x_iload_n (by decide +kernel : am_at co_X11_isPicture 49 = some (1, .iload_n 2)) rfl ?_
    obtain ⟨o3, h⟩ := h
    refine x_imul (by decide +kernel : am_at co_X11_isPicture 50 = some (1, .imul)) o3 ?_
    refine x_aload_n (by decide +kernel : am_at co_X11_isPicture 51 = some (1, .aload_n 0)) rfl ?_
    refine x_getF (by decide +kernel : am_at co_X11_isPicture 52 = some (3, .getfield 10)) pq_11_10 (by decide) rfl ob_0 ?_
    refine x_top2 (show 0 + 1 = 1 from rfl) ?_
    refine x_iload_n (by decide +kernel : am_at co_X11_isPicture 55 = some (1, .iload_n 3)) rfl ?_
    refine x_callV (n := 2) (by decide +kernel : am_at co_X11_isPicture 56 = some (3, .invokevirtual 307)) pq_11_307 pm_X9_byteAt rfl rfl rfl ob_1 h (x_k0 fun x5 M5 h => ?_)
    obtain ⟨o5, h⟩ := h
    refine x_iadd (by decide +kernel : am_at co_X11_isPicture 59 = some (1, .iadd)) o5 ?_
    refine x_sipush (by decide +kernel : am_at co_X11_isPicture 60 = some (3, .sipush 251)) ?_
    refine x_irem (by decide +kernel : am_at co_X11_isPicture 63 = some (1, .irem)) (by decide) ?_
    refine x_istore_n (L' := [(2, 0), (0, v1), (0, ((3 * v2) + x5).tmod 251), (0, v3), (3, 0), (3, 0), (3, 0)]) (by decide +kernel : am_at co_X11_isPicture 64 = some (1, .istore_n 2)) rfl ?_
    obtain ⟨o6, h⟩ := h
    refine x_iinc (L' := [(2, 0), (0, v1), (0, ((3 * v2) + x5).tmod 251), (0, v3 + 1), (3, 0), (3, 0), (3, 0)]) (by decide +kernel : am_at co_X11_isPicture 65 = some (3, .iinc 3 1)) rfl o6 rfl ?_
    refine x_goto (tgt := 43) (by decide +kernel : am_at co_X11_isPicture 68 = some (3, .goto (-25))) rfl ?_
    exact am_weak (lk (lk (lk (lk (lk (lk (lk ln))))))) h
set_option maxRecDepth 20000 in
theorem bk_X11_isPicture_93 {d : Nat} {Q : am_Q} {M : am_M} {v3 v4 v5 : Int} (h : am_ob sh_T 2 (M 0 4) ∧ am_cal pg d 14 [(2, M 0 4), (0, 1)] sh_T M (am_c0 sh_T fun x2 M2 => ((x2 ≤ v5 → (v4 = 0 ∨ v4 = 1) ∧ Q (some (0, v4), sh_T, M2)) ∧ (v5 < x2 → ((v4 = 0 → am_g 11 5 co_X11_isPicture d Q 134 [(2, 0), (3, 0), (3, 0), (0, v3), (3, 0), (0, v5), (3, 0)] [] sh_T M2) ∧ (¬ v4 = 0 → am_cal pg d 92 [(2, 1), (0, v3)] sh_T M2 (am_c0 sh_T fun x5 M5 => am_ob sh_T 2 (M5 0 4) ∧ am_cal pg d 14 [(2, M5 0 4), (0, 2)] sh_T M5 (am_c0 sh_T fun x7 M7 => ((x7 < x5 → am_g 11 5 co_X11_isPicture d Q 134 [(2, 0), (3, 0), (3, 0), (0, v3), (3, 0), (0, v5), (3, 0)] [] sh_T M7) ∧ (x5 ≤ x7 → am_r (v3 + 1) ∧ am_g 11 5 co_X11_isPicture d Q 143 [(2, 0), (3, 0), (3, 0), (0, v3 + 1), (0, 1), (0, v5), (0, 0)] [] sh_T M7)))))))))) : am_g 11 5 co_X11_isPicture d Q 93 [(2, 0), (3, 0), (3, 0), (0, v3), (0, v4), (0, v5), (3, 0)] [] sh_T M := by
  refine x_iload (by decide +kernel : am_at co_X11_isPicture 93 = some (2, .iload 5)) rfl ?_
  refine x_aload_n (by decide +kernel : am_at co_X11_isPicture 95 = some (1, .aload_n 0)) rfl ?_
  refine x_getf (by decide +kernel : am_at co_X11_isPicture 96 = some (3, .getfield 44)) pq_11_44 rfl ob_0 ?_
  refine x_iconst (by decide +kernel : am_at co_X11_isPicture 99 = some (1, .iconst 1)) ?_
  obtain ⟨o0, h⟩ := h
  refine x_callV (n := 2) (by decide +kernel : am_at co_X11_isPicture 100 = some (3, .invokevirtual 141)) pq_11_141 pm_X2_count rfl rfl rfl o0 h (x_k0 fun x2 M2 h => ?_)
  refine x_icmp (tgt := 197) (by decide +kernel : am_at co_X11_isPicture 103 = some (3, .if_icmp .ge 94)) rfl Iff.rfl (fun c2 => ?_) (fun c2 => ?_)
  · have h := h.1 c2
    refine x_iload (by decide +kernel : am_at co_X11_isPicture 197 = some (2, .iload 4)) rfl ?_
    exact x_zret (by decide +kernel : am_at co_X11_isPicture 199 = some (1, .ireturn)) h.1 h.2
  · have c2 := (Int.not_le.mp c2)
    have h := h.2 c2
    refine x_iload (by decide +kernel : am_at co_X11_isPicture 106 = some (2, .iload 4)) rfl ?_
    refine x_if (tgt := 134) (by decide +kernel : am_at co_X11_isPicture 108 = some (3, .ifCond .eq 26)) rfl Iff.rfl (fun c3 => ?_) (fun c3 => ?_)
    · have h := h.1 c3
      exact am_weak (lk (lk (lk (lk (ld (lk (lk ln))))))) h
    · have c3 := c3
      have h := h.2 c3
      refine x_aload_n (by decide +kernel : am_at co_X11_isPicture 111 = some (1, .aload_n 0)) rfl ?_
      refine x_getF (by decide +kernel : am_at co_X11_isPicture 112 = some (3, .getfield 10)) pq_11_10 (by decide) rfl ob_0 ?_
      refine x_top2 (show 0 + 1 = 1 from rfl) ?_
      refine x_iload_n (by decide +kernel : am_at co_X11_isPicture 115 = some (1, .iload_n 3)) rfl ?_
      refine x_callV (n := 2) (by decide +kernel : am_at co_X11_isPicture 116 = some (3, .invokevirtual 307)) pq_11_307 pm_X9_byteAt rfl rfl rfl ob_1 h (x_k0 fun x5 M5 h => ?_)
      refine x_aload_n (by decide +kernel : am_at co_X11_isPicture 119 = some (1, .aload_n 0)) rfl ?_
      refine x_getf (by decide +kernel : am_at co_X11_isPicture 120 = some (3, .getfield 44)) pq_11_44 rfl ob_0 ?_
      refine x_iconst (by decide +kernel : am_at co_X11_isPicture 123 = some (1, .iconst 2)) ?_
      obtain ⟨o5, h⟩ := h
      refine x_callV (n := 2) (by decide +kernel : am_at co_X11_isPicture 124 = some (3, .invokevirtual 141)) pq_11_141 pm_X2_count rfl rfl rfl o5 h (x_k0 fun x7 M7 h => ?_)
      refine x_icmp (tgt := 134) (by decide +kernel : am_at co_X11_isPicture 127 = some (3, .if_icmp .gt 7)) rfl Iff.rfl (fun c7 => ?_) (fun c7 => ?_)
      · have h := h.1 c7
        exact am_weak (lk (lk (lk (lk (ld (lk (lk ln))))))) h
      · have c7 := (Int.not_lt.mp c7)
        have h := h.2 c7
        refine x_iconst (by decide +kernel : am_at co_X11_isPicture 130 = some (1, .iconst 1)) ?_
        refine x_goto (tgt := 135) (by decide +kernel : am_at co_X11_isPicture 131 = some (3, .goto 4)) rfl ?_
        refine x_istore (L' := [(2, 0), (3, 0), (3, 0), (0, v3), (0, 1), (0, v5), (3, 0)]) (by decide +kernel : am_at co_X11_isPicture 135 = some (2, .istore 4)) rfl ?_
        obtain ⟨o8, h⟩ := h
        refine x_iinc (L' := [(2, 0), (3, 0), (3, 0), (0, v3 + 1), (0, 1), (0, v5), (3, 0)]) (by decide +kernel : am_at co_X11_isPicture 137 = some (3, .iinc 3 1)) rfl o8 rfl ?_
        refine x_iconst (by decide +kernel : am_at co_X11_isPicture 140 = some (1, .iconst 0)) ?_
        refine x_istore (L' := [(2, 0), (3, 0), (3, 0), (0, v3 + 1), (0, 1), (0, v5), (0, 0)]) (by decide +kernel : am_at co_X11_isPicture 141 = some (2, .istore 6)) rfl ?_
        exact am_weak (lk (lk (lk (lk (lk (lk (lk ln))))))) h
set_option maxRecDepth 20000 in
theorem bk_X11_isPicture_134 {d : Nat} {Q : am_Q} {M : am_M} {v3 v5 : Int} (h : am_r (v3 + 1) ∧ am_g 11 5 co_X11_isPicture d Q 143 [(2, 0), (3, 0), (3, 0), (0, v3 + 1), (0, 0), (0, v5), (0, 0)] [] sh_T M) : am_g 11 5 co_X11_isPicture d Q 134 [(2, 0), (3, 0), (3, 0), (0, v3), (3, 0), (0, v5), (3, 0)] [] sh_T M := by
  refine x_iconst (by decide +kernel : am_at co_X11_isPicture 134 = some (1, .iconst 0)) ?_
  refine x_istore (L' := [(2, 0), (3, 0), (3, 0), (0, v3), (0, 0), (0, v5), (3, 0)]) (by decide +kernel : am_at co_X11_isPicture 135 = some (2, .istore 4)) rfl ?_
  obtain ⟨o0, h⟩ := h
  refine x_iinc (L' := [(2, 0), (3, 0), (3, 0), (0, v3 + 1), (0, 0), (0, v5), (3, 0)]) (by decide +kernel : am_at co_X11_isPicture 137 = some (3, .iinc 3 1)) rfl o0 rfl ?_
  refine x_iconst (by decide +kernel : am_at co_X11_isPicture 140 = some (1, .iconst 0)) ?_
  refine x_istore (L' := [(2, 0), (3, 0), (3, 0), (0, v3 + 1), (0, 0), (0, v5), (0, 0)]) (by decide +kernel : am_at co_X11_isPicture 141 = some (2, .istore 6)) rfl ?_
  exact am_weak (lk (lk (lk (lk (lk (lk (lk ln))))))) h
set_option maxRecDepth 20000 in
theorem bk_X11_isPicture_143 {d : Nat} {Q : am_Q} {M : am_M} {v3 v4 v5 v6 : Int} (h : am_ob sh_T 2 (M 0 4) ∧ am_cal pg d 14 [(2, M 0 4), (0, 0)] sh_T M (am_c0 sh_T fun x2 M2 => ((x2 ≤ v6 → am_r (v5 + 1) ∧ am_g 11 5 co_X11_isPicture d Q 93 [(2, 0), (3, 0), (3, 0), (0, v3), (0, v4), (0, v5 + 1), (3, 0)] [] sh_T M2) ∧ (v6 < x2 → ((v4 = 0 → am_g 11 5 co_X11_isPicture d Q 179 [(2, 0), (3, 0), (3, 0), (0, v3), (3, 0), (0, v5), (0, v6)] [] sh_T M2) ∧ (¬ v4 = 0 → am_cal pg d 93 [(2, 1), (0, v3)] sh_T M2 (am_c0 sh_T fun x6 M6 => ((999 < x6 → am_g 11 5 co_X11_isPicture d Q 179 [(2, 0), (3, 0), (3, 0), (0, v3), (3, 0), (0, v5), (0, v6)] [] sh_T M6) ∧ (x6 ≤ 999 → am_r (v3 + 2) ∧ am_r (v6 + 1) ∧ am_g 11 5 co_X11_isPicture d Q 143 [(2, 0), (3, 0), (3, 0), (0, v3 + 2), (0, 1), (0, v5), (0, v6 + 1)] [] sh_T M6))))))))) : am_g 11 5 co_X11_isPicture d Q 143 [(2, 0), (3, 0), (3, 0), (0, v3), (0, v4), (0, v5), (0, v6)] [] sh_T M := by
  refine x_iload (by decide +kernel : am_at co_X11_isPicture 143 = some (2, .iload 6)) rfl ?_
  refine x_aload_n (by decide +kernel : am_at co_X11_isPicture 145 = some (1, .aload_n 0)) rfl ?_
  refine x_getf (by decide +kernel : am_at co_X11_isPicture 146 = some (3, .getfield 44)) pq_11_44 rfl ob_0 ?_
  refine x_iconst (by decide +kernel : am_at co_X11_isPicture 149 = some (1, .iconst 0)) ?_
  obtain ⟨o0, h⟩ := h
  refine x_callV (n := 2) (by decide +kernel : am_at co_X11_isPicture 150 = some (3, .invokevirtual 141)) pq_11_141 pm_X2_count rfl rfl rfl o0 h (x_k0 fun x2 M2 h => ?_)
  refine x_icmp (tgt := 191) (by decide +kernel : am_at co_X11_isPicture 153 = some (3, .if_icmp .ge 38)) rfl Iff.rfl (fun c2 => ?_) (fun c2 => ?_)
  · have h := h.1 c2
    obtain ⟨o3, h⟩ := h
    refine x_iinc (L' := [(2, 0), (3, 0), (3, 0), (0, v3), (0, v4), (0, v5 + 1), (0, v6)]) (by decide +kernel : am_at co_X11_isPicture 191 = some (3, .iinc 5 1)) rfl o3 rfl ?_
    refine x_goto (tgt := 93) (by decide +kernel : am_at co_X11_isPicture 194 = some (3, .goto (-101))) rfl ?_
    exact am_weak (lk (lk (lk (lk (lk (lk (ld ln))))))) h
  · have c2 := (Int.not_le.mp c2)
    have h := h.2 c2
    refine x_iload (by decide +kernel : am_at co_X11_isPicture 156 = some (2, .iload 4)) rfl ?_
    refine x_if (tgt := 179) (by decide +kernel : am_at co_X11_isPicture 158 = some (3, .ifCond .eq 21)) rfl Iff.rfl (fun c4 => ?_) (fun c4 => ?_)
    · have h := h.1 c4
      exact am_weak (lk (lk (lk (lk (ld (lk (lk ln))))))) h
    · have c4 := c4
      have h := h.2 c4
      refine x_aload_n (by decide +kernel : am_at co_X11_isPicture 161 = some (1, .aload_n 0)) rfl ?_
      refine x_getF (by decide +kernel : am_at co_X11_isPicture 162 = some (3, .getfield 10)) pq_11_10 (by decide) rfl ob_0 ?_
      refine x_top2 (show 0 + 1 = 1 from rfl) ?_
      refine x_iload_n (by decide +kernel : am_at co_X11_isPicture 165 = some (1, .iload_n 3)) rfl ?_
      refine x_callV (n := 2) (by decide +kernel : am_at co_X11_isPicture 166 = some (3, .invokevirtual 329)) pq_11_329 pm_X9_pairAt rfl rfl rfl ob_1 h (x_k0 fun x6 M6 h => ?_)
      refine x_sipush (by decide +kernel : am_at co_X11_isPicture 169 = some (3, .sipush 999)) ?_
      refine x_icmp (tgt := 179) (by decide +kernel : am_at co_X11_isPicture 172 = some (3, .if_icmp .gt 7)) rfl Iff.rfl (fun c6 => ?_) (fun c6 => ?_)
      · have h := h.1 c6
        exact am_weak (lk (lk (lk (lk (ld (lk (lk ln))))))) h
      · have c6 := (Int.not_lt.mp c6)
        have h := h.2 c6
        refine x_iconst (by decide +kernel : am_at co_X11_isPicture 175 = some (1, .iconst 1)) ?_
        refine x_goto (tgt := 180) (by decide +kernel : am_at co_X11_isPicture 176 = some (3, .goto 4)) rfl ?_
        refine x_istore (L' := [(2, 0), (3, 0), (3, 0), (0, v3), (0, 1), (0, v5), (0, v6)]) (by decide +kernel : am_at co_X11_isPicture 180 = some (2, .istore 4)) rfl ?_
        obtain ⟨o7, h⟩ := h
        refine x_iinc (L' := [(2, 0), (3, 0), (3, 0), (0, v3 + 2), (0, 1), (0, v5), (0, v6)]) (by decide +kernel : am_at co_X11_isPicture 182 = some (3, .iinc 3 2)) rfl o7 rfl ?_
        obtain ⟨o8, h⟩ := h
        refine x_iinc (L' := [(2, 0), (3, 0), (3, 0), (0, v3 + 2), (0, 1), (0, v5), (0, v6 + 1)]) (by decide +kernel : am_at co_X11_isPicture 185 = some (3, .iinc 6 1)) rfl o8 rfl ?_
        refine x_goto (tgt := 143) (by decide +kernel : am_at co_X11_isPicture 188 = some (3, .goto (-45))) rfl ?_
        exact am_weak (lk (lk (lk (lk (lk (lk (lk ln))))))) h
set_option maxRecDepth 20000 in
theorem bk_X11_isPicture_179 {d : Nat} {Q : am_Q} {M : am_M} {v3 v5 v6 : Int} (h : am_r (v3 + 2) ∧ am_r (v6 + 1) ∧ am_g 11 5 co_X11_isPicture d Q 143 [(2, 0), (3, 0), (3, 0), (0, v3 + 2), (0, 0), (0, v5), (0, v6 + 1)] [] sh_T M) : am_g 11 5 co_X11_isPicture d Q 179 [(2, 0), (3, 0), (3, 0), (0, v3), (3, 0), (0, v5), (0, v6)] [] sh_T M := by
  refine x_iconst (by decide +kernel : am_at co_X11_isPicture 179 = some (1, .iconst 0)) ?_
  refine x_istore (L' := [(2, 0), (3, 0), (3, 0), (0, v3), (0, 0), (0, v5), (0, v6)]) (by decide +kernel : am_at co_X11_isPicture 180 = some (2, .istore 4)) rfl ?_
  obtain ⟨o0, h⟩ := h
  refine x_iinc (L' := [(2, 0), (3, 0), (3, 0), (0, v3 + 2), (0, 0), (0, v5), (0, v6)]) (by decide +kernel : am_at co_X11_isPicture 182 = some (3, .iinc 3 2)) rfl o0 rfl ?_
  obtain ⟨o1, h⟩ := h
  refine x_iinc (L' := [(2, 0), (3, 0), (3, 0), (0, v3 + 2), (0, 0), (0, v5), (0, v6 + 1)]) (by decide +kernel : am_at co_X11_isPicture 185 = some (3, .iinc 6 1)) rfl o1 rfl ?_
  refine x_goto (tgt := 143) (by decide +kernel : am_at co_X11_isPicture 188 = some (3, .goto (-45))) rfl ?_
  exact am_weak (lk (lk (lk (lk (lk (lk (lk ln))))))) h
