/-! THE REFERENCE READS NAMES -/
theorem pr_ix_no {t : Int → Int} {e en p : Int} : ∀ (ws : List (List Int)) (n : Int), 0 ≤ n → (pr_ix t e en p ws n = -1 ↔ ∀ w ∈ ws, ¬ rd_is t e en p w = true)
  | [], n, _ => ⟨fun _ w hw => (by cases hw), fun _ => rfl⟩
  | w :: ws, n, hn => by
    show (if rd_is t e en p w = true then n else pr_ix t e en p ws (n + 1)) = -1 ↔ _
    by_cases c : rd_is t e en p w = true
    · rw [if_pos c]
      exact ⟨fun z => by omega, fun z => absurd c (z w List.mem_cons_self)⟩
    · rw [if_neg c, pr_ix_no ws (n + 1) (by omega)]
      exact ⟨fun z x hx => (List.mem_cons.mp hx).elim (fun y => by rw [y]; exact c) (fun y => z x y), fun z x hx => z x (List.mem_cons_of_mem _ hx)⟩
section RN
variable {M0 M : am_M} {p en : Int}
theorem rt_own {d : Nat} {f : Int → am_M → Prop} (hw : rw_all M0) (h : rx_ M0 M p en) (h1 : ¬ pr_ix (M0 153) (M0 152 3) en p ow_ 0 = -1 → ∀ M', rx_ M0 M' p en → M' 152 2 = p → tf_ M M' → f 1 M') (h0 : pr_ix (M0 153) (M0 152 3) en p ow_ 0 = -1 → ∀ M', rx_ M0 M' p en → M' 152 2 = p → tf_ M M' → f 0 M') : am_cal pg (d + 3) 182 [(2, 152)] sh_T M (am_c0 sh_T f) := by
  have g239 : ∀ (w : List Int) (M1 : am_M), w ∈ ow_ → ¬ am_b (rd_is (M0 153) (M0 152 3) en p w = true) = 0 → rx_ M0 M1 p en → M1 152 2 = p → tf_ M M1 → am_g 12 5 co_X12_isOwnHere (d + 2) (am_c0 sh_T f) 239 [(3, 0), (3, 0)] [] sh_T M1 := fun w M1 hm y a b c => bk_X12_isOwnHere_239 (am_c0_i (h1 (fun z => (pr_ix_no ow_ 0 (Int.le_refl _)).mp z w hm (am_b_nz y)) M1 a b c))
  have g218 : ∀ (w : List Int) (M1 : am_M), w ∈ ow_ → ¬ am_b (rd_is (M0 153) (M0 152 3) en p w = true) = 0 → rx_ M0 M1 p en → M1 152 2 = p → tf_ M M1 → am_g 12 5 co_X12_isOwnHere (d + 2) (am_c0 sh_T f) 218 [(2, 152), (3, 0)] [] sh_T M1 := fun w M1 hm y a b c => bk_X12_isOwnHere_218 (g239 w M1 hm y a b c)
  have g142 : ∀ (w : List Int) (M1 : am_M), w ∈ ow_ → ¬ am_b (rd_is (M0 153) (M0 152 3) en p w = true) = 0 → rx_ M0 M1 p en → M1 152 2 = p → tf_ M M1 → am_g 12 5 co_X12_isOwnHere (d + 2) (am_c0 sh_T f) 142 [(2, 152), (3, 0)] [] sh_T M1 := fun w M1 hm y a b c => bk_X12_isOwnHere_142 (g218 w M1 hm y a b c)
  have g66 : ∀ (w : List Int) (M1 : am_M), w ∈ ow_ → ¬ am_b (rd_is (M0 153) (M0 152 3) en p w = true) = 0 → rx_ M0 M1 p en → M1 152 2 = p → tf_ M M1 → am_g 12 5 co_X12_isOwnHere (d + 2) (am_c0 sh_T f) 66 [(2, 152), (3, 0)] [] sh_T M1 := fun w M1 hm y a b c => bk_X12_isOwnHere_66 (g142 w M1 hm y a b c)
  refine en_X12_isOwnHere (bk_X12_isOwnHere_0 ?_)
  refine rt_here hw (show ((155 : Int), w_dread) ∈ rws by decide +kernel) h (fun M1 h1 p1 t1' => ⟨fun y => g66 w_dread M1 (by decide) y h1 p1 t1', fun y1 => ?_⟩)
  have t1 : tf_ M M1 := t1'
  refine rt_here hw (show ((156 : Int), w_dreamer) ∈ rws by decide +kernel) h1 (fun M2 h2 p2 t2' => ⟨fun y => g66 w_dreamer M2 (by decide) y h2 p2 (tf_tr t1 t2'), fun y2 => ?_⟩)
  have t2 : tf_ M M2 := (tf_tr t1 t2')
  refine rt_here hw (show ((157 : Int), w_brave) ∈ rws by decide +kernel) h2 (fun M3 h3 p3 t3' => ⟨fun y => g66 w_brave M3 (by decide) y h3 p3 (tf_tr t2 t3'), fun y3 => ?_⟩)
  have t3 : tf_ M M3 := (tf_tr t2 t3')
  refine rt_here hw (show ((158 : Int), w_fears) ∈ rws by decide +kernel) h3 (fun M4 h4 p4 t4' => ⟨fun y => g66 w_fears M4 (by decide) y h4 p4 (tf_tr t3 t4'), fun y4 => ?_⟩)
  have t4 : tf_ M M4 := (tf_tr t3 t4')
  refine rt_here hw (show ((159 : Int), w_guide) ∈ rws by decide +kernel) h4 (fun M5 h5 p5 t5' => ⟨fun y => g66 w_guide M5 (by decide) y h5 p5 (tf_tr t4 t5'), fun y5 => ?_⟩)
  have t5 : tf_ M M5 := (tf_tr t4 t5')
  refine rt_here hw (show ((160 : Int), w_of) ∈ rws by decide +kernel) h5 (fun M6 h6 p6 t6' => ⟨fun y6 => ?_, fun y => g66 w_of M6 (by decide) y h6 p6 (tf_tr t5 t6')⟩)
  have t6 : tf_ M M6 := (tf_tr t5 t6')
  refine rt_here hw (show ((161 : Int), w_meet) ∈ rws by decide +kernel) h6 (fun M7 h7 p7 t7' => ⟨fun y => g142 w_meet M7 (by decide) y h7 p7 (tf_tr t6 t7'), fun y7 => ?_⟩)
  have t7 : tf_ M M7 := (tf_tr t6 t7')
  refine rt_here hw (show ((162 : Int), w_shun) ∈ rws by decide +kernel) h7 (fun M8 h8 p8 t8' => ⟨fun y => g142 w_shun M8 (by decide) y h8 p8 (tf_tr t7 t8'), fun y8 => ?_⟩)
  have t8 : tf_ M M8 := (tf_tr t7 t8')
  refine rt_here hw (show ((163 : Int), w_byday) ∈ rws by decide +kernel) h8 (fun M9 h9 p9 t9' => ⟨fun y => g142 w_byday M9 (by decide) y h9 p9 (tf_tr t8 t9'), fun y9 => ?_⟩)
  have t9 : tf_ M M9 := (tf_tr t8 t9')
  refine rt_here hw (show ((164 : Int), w_home) ∈ rws by decide +kernel) h9 (fun M10 h10 p10 t10' => ⟨fun y => g142 w_home M10 (by decide) y h10 p10 (tf_tr t9 t10'), fun y10 => ?_⟩)
  have t10 : tf_ M M10 := (tf_tr t9 t10')
  refine rt_here hw (show ((165 : Int), w_laugh) ∈ rws by decide +kernel) h10 (fun M11 h11 p11 t11' => ⟨fun y => g142 w_laugh M11 (by decide) y h11 p11 (tf_tr t10 t11'), fun y11 => ?_⟩)
  have t11 : tf_ M M11 := (tf_tr t10 t11')
  refine rt_here hw (show ((166 : Int), w_spite) ∈ rws by decide +kernel) h11 (fun M12 h12 p12 t12' => ⟨fun y12 => ?_, fun y => g142 w_spite M12 (by decide) y h12 p12 (tf_tr t11 t12')⟩)
  have t12 : tf_ M M12 := (tf_tr t11 t12')
  refine rt_here hw (show ((167 : Int), w_weigh) ∈ rws by decide +kernel) h12 (fun M13 h13 p13 t13' => ⟨fun y => g218 w_weigh M13 (by decide) y h13 p13 (tf_tr t12 t13'), fun y13 => ?_⟩)
  have t13 : tf_ M M13 := (tf_tr t12 t13')
  refine rt_here hw (show ((168 : Int), w_worst) ∈ rws by decide +kernel) h13 (fun M14 h14 p14 t14' => ⟨fun y => g218 w_worst M14 (by decide) y h14 p14 (tf_tr t13 t14'), fun y14 => ?_⟩)
  have t14 : tf_ M M14 := (tf_tr t13 t14')
  refine rt_here hw (show ((169 : Int), w_sum) ∈ rws by decide +kernel) h14 (fun M15 h15 p15 t15' => ⟨fun y => g218 w_sum M15 (by decide) y h15 p15 (tf_tr t14 t15'), fun y15 => ?_⟩)
  have t15 : tf_ M M15 := (tf_tr t14 t15')
  refine rt_here hw (show ((170 : Int), w_many) ∈ rws by decide +kernel) h15 (fun M16 h16 p16 t16' => ⟨fun y => g218 w_many M16 (by decide) y h16 p16 (tf_tr t15 t16'), fun y16 => ?_⟩)
  have t16 : tf_ M M16 := (tf_tr t15 t16')
  refine rt_here hw (show ((171 : Int), w_number) ∈ rws by decide +kernel) h16 (fun M17 h17 p17 t17' => ⟨fun y => g218 w_number M17 (by decide) y h17 p17 (tf_tr t16 t17'), fun y17 => ?_⟩)
  have t17 : tf_ M M17 := (tf_tr t16 t17')
  refine rt_here hw (show ((172 : Int), w_min) ∈ rws by decide +kernel) h17 (fun M18 h18 p18 t18' => ⟨fun y18 => ?_, fun y => g218 w_min M18 (by decide) y h18 p18 (tf_tr t17 t18')⟩)
  have t18 : tf_ M M18 := (tf_tr t17 t18')
  refine rt_here hw (show ((173 : Int), w_max) ∈ rws by decide +kernel) h18 (fun M19 h19 p19 t19' => ⟨fun y19 => am_c0_i ?_, fun y => g239 w_max M19 (by decide) y h19 p19 (tf_tr t18 t19')⟩)
  have t19 : tf_ M M19 := (tf_tr t18 t19')
  refine h0 ((pr_ix_no ow_ 0 (Int.le_refl _)).mpr (fun w hm => ?_)) M19 h19 p19 t19
  unfold ow_ at hm
  simp only [List.mem_cons, List.not_mem_nil, or_false] at hm
  rcases hm with rfl | rfl | rfl | rfl | rfl | rfl | rfl | rfl | rfl | rfl | rfl | rfl | rfl | rfl | rfl | rfl | rfl | rfl | rfl
  · exact am_b_z.mp y1
  · exact am_b_z.mp y2
  · exact am_b_z.mp y3
  · exact am_b_z.mp y4
  · exact am_b_z.mp y5
  · exact am_b_z.mp y6
  · exact am_b_z.mp y7
  · exact am_b_z.mp y8
  · exact am_b_z.mp y9
  · exact am_b_z.mp y10
  · exact am_b_z.mp y11
  · exact am_b_z.mp y12
  · exact am_b_z.mp y13
  · exact am_b_z.mp y14
  · exact am_b_z.mp y15
  · exact am_b_z.mp y16
  · exact am_b_z.mp y17
  · exact am_b_z.mp y18
  · exact am_b_z.mp y19
theorem nv_snoc {t : Int → Int} : ∀ (i : Nat) (p v : Int), nv_ (nm_ t (i + 1) p) v = 27 * nv_ (nm_ t i p) v + (t (p + i) - 96)
  | 0, p, v => by
    show 27 * v + (t p - 96) = 27 * v + (t (p + ((0 : Nat) : Int)) - 96)
    rw [show p + ((0 : Nat) : Int) = p by omega]
  | i + 1, p, v => by
    show nv_ (nm_ t (i + 1) (p + 1)) (27 * v + (t p - 96)) = 27 * nv_ (nm_ t i (p + 1)) (27 * v + (t p - 96)) + _
    rw [nv_snoc i (p + 1) (27 * v + (t p - 96)), show p + 1 + (i : Int) = p + ((i + 1 : Nat) : Int) by omega]
theorem nv_bd {t : Int → Int} {e p : Int} {i : Nat} (h : (i : Int) ≤ rd_les t e p) (h6 : i ≤ 6) : 0 ≤ nv_ (nm_ t i p) 0 ∧ nv_ (nm_ t i p) 0 < 387420489 := by
  obtain ⟨a1, a2⟩ := nv_le (nm_ t i p) 0 (fun x hx => by
    obtain ⟨j, j1, j2⟩ := nm_mem _ _ _ hx
    have := is_le_iff.mp ((rd_les_spec (t := t) (e := e) p).2.2.1 (p + j) (by omega) (by omega))
    omega) (Int.le_refl _)
  rw [nm_len] at a1 a2
  have hp : (27 : Int) ^ i ≤ 27 ^ 6 := by
    have := Nat.pow_le_pow_right (n := 27) (by decide) h6
    have q : (((27 : Nat) ^ i : Nat) : Int) ≤ (((27 : Nat) ^ 6 : Nat) : Int) := by omega
    rw [Int.natCast_pow, Int.natCast_pow] at q
    exact q
  have e6 : (27 : Int) ^ 6 = 387420489 := by decide
  omega
/-- a name is read -/
theorem rt_name {d : Nat} {f : Int → am_M → Prop} (hw : rw_all M0) (h : rx_ M0 M p en) (h1 : ∀ k z, pr_name (M0 153) (M0 152 3) p en = .error (k, z) → ∀ M', ru_ M0 M' k z → tg_ M M' → f 0 M') (h2 : ∀ p1 en1 n, pr_name (M0 153) (M0 152 3) p en = .ok (p1, en1, n) → ∀ M', rx_ M0 M' p1 en1 → tf_ M M' → M' 152 29 = p → f (nv_ n 0) M') : am_cal pg (d + 4) 183 [(2, 152)] sh_T M (am_c1 sh_T f) := by
  obtain ⟨i1, i2, i3, i4, i5⟩ := rx_in h
  have tg : ∀ {M1 : am_M} {k z : Int}, tf_ M M1 → tg_ M (rf_bl M1 k z) := fun {M1 k z} t x j y => by rw [rf_bl_el (by omega)]; exact t x j (by omega)
  obtain ⟨e1, e2⟩ := rp_t h.1
  have en1 : M 152 4 = en := h.2.2.2.1
  obtain ⟨L1, L2, L3, L4⟩ := rd_les_spec (t := M0 153) (e := M0 152 3) p
  have hle : p + rd_les (M0 153) (M0 152 3) p ≤ M0 152 3 := by rcases L2 with z | z <;> omega
  unfold pr_name at h1 h2
  -- the letters
  have loop : ∀ (m i : Nat), i + m = 6 → ∀ M1 : am_M, tf_ M M1 → M1 152 4 = en → M1 152 29 = p → M1 152 2 = p + (i : Int) → ¬ p = en → 1 ≤ rd_les (M0 153) (M0 152 3) p → (i : Int) ≤ rd_les (M0 153) (M0 152 3) p → pr_ix (M0 153) (M0 152 3) en p ow_ 0 = -1 → am_g 12 1 co_X12_name (d + 3) (am_c1 sh_T f) 58 [(2, 152), (1, nv_ (nm_ (M0 153) i p) 0), (3, 0)] [] sh_T M1 := by
    have done : ∀ (i : Nat) (M1 : am_M), i ≤ 6 → tf_ M M1 → M1 152 29 = p → M1 152 2 = p + (i : Int) → ¬ p = en → 1 ≤ rd_les (M0 153) (M0 152 3) p → pr_ix (M0 153) (M0 152 3) en p ow_ 0 = -1 → rd_les (M0 153) (M0 152 3) p = (i : Int) → f (nv_ (nm_ (M0 153) i p) 0) (am_up M1 152 4 (M1 152 2)) := fun i M1 hi t1 h29 hp2 hne hW ho hWi => by
      have ew : rd_wd (M0 153) (M0 152 3) en p = (i : Int) := by unfold rd_wd; rw [if_neg hne]; exact hWi
      rw [ew, if_neg (fun y => y.elim (fun y => by omega) (fun y => y ho)), if_neg (by omega)] at h2
      have et : tf_ M (am_up M1 152 4 (M1 152 2)) := fun x j y => (am_up_el (by omega)).trans (t1 x j y)
      have r := h2 _ _ _ rfl (am_up M1 152 4 (M1 152 2)) (rx_at h (j := p + (i : Int)) ((am_up_el (by omega)).trans hp2) (am_up_at.trans hp2) ⟨by omega, by omega⟩ et) et ((am_up_el (by omega)).trans h29)
      rw [show ((i : Int)).toNat = i by omega] at r
      exact r
    -- one letter
    have step : ∀ (i : Nat) (M1 : am_M), i ≤ 6 → tf_ M M1 → M1 152 4 = en → M1 152 29 = p → M1 152 2 = p + (i : Int) → ¬ p = en → 1 ≤ rd_les (M0 153) (M0 152 3) p → (i : Int) ≤ rd_les (M0 153) (M0 152 3) p → pr_ix (M0 153) (M0 152 3) en p ow_ 0 = -1 → (i < 6 → (i : Int) + 1 ≤ rd_les (M0 153) (M0 152 3) p → is_le (M0 153 (p + i)) = true → am_g 12 1 co_X12_name (d + 3) (am_c1 sh_T f) 58 [(2, 152), (1, (((27 * nv_ (nm_ (M0 153) i p) 0) + (M1 153 (M1 152 2))) - 97) + 1), (3, 0)] [] sh_T (am_up M1 152 2 ((M1 152 2) + 1))) → am_g 12 1 co_X12_name (d + 3) (am_c1 sh_T f) 58 [(2, 152), (1, nv_ (nm_ (M0 153) i p) 0), (3, 0)] [] sh_T M1 := fun i M1 hi t1 h4 h29 hp2 hne hW hiW ho hnx => by
      have b3 : M1 152 3 = M0 152 3 := (t1 152 3 (by omega)).trans e2
      have bt : M1 153 = M0 153 := (funext fun j => t1 153 j (by omega) : M1 153 = M 153).trans e1
      have ew : rd_wd (M0 153) (M0 152 3) en p = rd_les (M0 153) (M0 152 3) p := by unfold rd_wd; rw [if_neg hne]
      refine bk_X12_name_58 ⟨fun y => am_c1_i (done i M1 hi t1 h29 hp2 hne hW ho (by omega)), fun y => ⟨⟨by omega, by omega⟩, sp_isLetter ⟨fun z => am_c1_i ?_, fun z => ⟨⟨by omega, by omega⟩, fun z6 => ?_, fun z6 => sp_fail (am_c1_i ?_)⟩⟩⟩⟩
      · refine done i M1 hi t1 h29 hp2 hne hW ho ?_
        by_cases q : rd_les (M0 153) (M0 152 3) p = (i : Int)
        · exact q
        · have := L3 (p + i) (by omega) (by omega)
          rw [bt, hp2] at z
          exact absurd this (am_b_z.mp z)
      · have zl := am_b_nz z
        rw [bt, hp2] at zl
        have hl := is_le_iff.mp zl
        have hb := nv_bd (t := M0 153) (e := M0 152 3) (p := p) hiW (by omega)
        have hlt : (i : Int) + 1 ≤ rd_les (M0 153) (M0 152 3) p := by
          by_cases q : rd_les (M0 153) (M0 152 3) p = (i : Int)
          · have := L4 (by omega)
            rw [q, zl] at this; cases this
          · omega
        have hb2 : M1 153 (M1 152 2) = M0 153 (p + i) := by rw [bt, hp2]
        refine ⟨⟨by omega, by omega⟩, ⟨by omega, by omega⟩, ⟨by omega, by omega⟩, ⟨by omega, by omega⟩, ⟨by omega, by omega⟩, ⟨by omega, by omega⟩, hnx (by omega) hlt zl⟩
      · have zl := am_b_nz z
        rw [bt, hp2] at zl
        have hi6 : i = 6 := by omega
        have hlt : 6 < rd_les (M0 153) (M0 152 3) p := by
          by_cases q : rd_les (M0 153) (M0 152 3) p = (i : Int)
          · have := L4 (by omega)
            rw [q, zl] at this; cases this
          · omega
        rw [ew, if_neg (fun y => y.elim (fun y => by omega) (fun y => y ho)), if_pos hlt] at h1
        have rx := rx_at h (j := p + (i : Int)) hp2 h4 ⟨by omega, by omega⟩ t1
        rw [hp2, hi6]
        exact h1 1 (p + 6) rfl _ (rx_bl rx (by decide)) (tg t1)
    intro m
    induction m with
    | zero => exact fun i hi M1 t1 h4 h29 hp2 hne hW hiW ho => step i M1 (by omega) t1 h4 h29 hp2 hne hW hiW ho (fun z => by omega)
    | succ m ih =>
      intro i hi M1 t1 h4 h29 hp2 hne hW hiW ho
      refine step i M1 (by omega) t1 h4 h29 hp2 hne hW hiW ho (fun z z2 zl => ?_)
      have bt : M1 153 = M0 153 := (funext fun j => t1 153 j (by omega) : M1 153 = M 153).trans e1
      have r := ih (i + 1) (by omega) (am_up M1 152 2 ((M1 152 2) + 1)) (fun x j y => (am_up_el (by omega)).trans (t1 x j y)) ((am_up_el (by omega)).trans h4) ((am_up_el (by omega)).trans h29) (by rw [am_up_at, hp2]; omega) hne hW (by omega) ho
      rw [nv_snoc] at r
      rw [show ((27 * nv_ (nm_ (M0 153) i p) 0 + M1 153 (M1 152 2)) - 97) + 1 = 27 * nv_ (nm_ (M0 153) i p) 0 + (M0 153 (p + (i : Int)) - 96) by rw [bt, hp2]; omega]
      exact r
  have bad : rd_wd (M0 153) (M0 152 3) en p = 0 ∨ ¬ pr_ix (M0 153) (M0 152 3) en p ow_ 0 = -1 → ∀ M1, rx_ M0 M1 p en → M1 152 2 = p → tf_ M M1 → f 0 (rf_bl M1 1 (M1 152 2)) := fun y M1 r1 p1 t1 => by
    rw [if_pos y] at h1
    rw [p1]
    exact h1 1 p rfl _ (rx_bl r1 (by decide)) (tg t1)
  refine en_X12_name (bk_X12_name_0 ⟨fun _ => rt_look h (fun M1 r1 p1 t1 => sp_isLetter ⟨fun z => sp_fail (am_c1_i (bad (Or.inl ?_) M1 r1 p1 t1)), fun z => ⟨fun y => sp_fail (am_c1_i (bad (Or.inl ?_) M1 r1 p1 t1)), fun y => rt_own hw r1 (fun o M2 r2 p2 t2 => ⟨fun w => absurd w (by decide), fun _ => sp_fail (am_c1_i (bad (Or.inr o) M2 r2 p2 (tf_tr t1 t2)))⟩) (fun o M2 r2 p2 t2 => ⟨fun _ => ?_, fun w => absurd rfl w⟩)⟩⟩), fun y => absurd h.2.2.2.2.1 y⟩)
  · unfold rd_wd
    by_cases q : p = en
    · rw [if_pos q]
    · rw [if_neg q]
      by_cases w : rd_les (M0 153) (M0 152 3) p = 0
      · exact w
      · have := L3 p (by omega) (by omega)
        have hrc : rc (M0 153) (M0 152 3) p = M0 153 p := if_pos (by omega)
        rw [hrc] at z
        exact absurd this (am_b_z.mp z)
  · have y2 : p = en := by rw [p1, r1.2.2.2.1] at y; exact y
    unfold rd_wd
    rw [if_pos y2]
  · have y2 : ¬ p = en := fun q => y (by rw [p1, r1.2.2.2.1]; exact q)
    have zl := am_b_nz z
    have hl := is_le_iff.mp zl
    have hlt := rc_lt (c := rc (M0 153) (M0 152 3) p) rfl (by omega)
    rw [← hlt.2] at zl
    have hW : 1 ≤ rd_les (M0 153) (M0 152 3) p := by
      by_cases w : rd_les (M0 153) (M0 152 3) p = 0
      · rw [w, Int.add_zero] at L4
        have := L4 hlt.1
        rw [zl] at this; cases this
      · omega
    exact loop 6 0 rfl (am_up M2 152 29 (M2 152 2)) (fun x j q => (am_up_el (by omega)).trans (tf_tr t1 t2 x j q)) ((am_up_el (by omega)).trans r2.2.2.2.1) (by rw [am_up_at]; exact p2) (by rw [am_up_el (by omega), p2]; omega) y2 hW (by omega) o
end RN
