/-! told ON BOTH SIDES -/
def ka_ (M M' : am_M) : Prop := ∀ x j, ((x = 0 ∧ (j = 4 ∨ j = 5)) ∨ (11 ≤ x ∧ x ≤ 36) ∨ (155 ≤ x ∧ x ≤ 182) ∨ (193 ≤ x ∧ x ≤ 210) ∨ 2000000 ≤ x) → M' x j = M x j
theorem ka_ok {M M' : am_M} {T : tt_} (hf : ka_ M M') (h1 : lt_ M T) (h2 : so_ M) (h3 : xw_ M) (h4 : rw_all M) : lt_ M' T ∧ so_ M' ∧ xw_ M' ∧ rw_all M' := by
  have hu : (M 0 4 = 11 ∨ M 0 4 = 24) ∧ (M 0 5 = 11 ∨ M 0 5 = 24) := ⟨h2.1, h2.2.1⟩
  have e4 : M' 0 4 = M 0 4 := hf 0 4 (by omega)
  have e5 : M' 0 5 = M 0 5 := hf 0 5 (by omega)
  refine ⟨⟨h1.1, ⟨fun k k0 k1 => ?_, fun k k0 k1 i j i1 j1 => ?_⟩, fun k k0 k1 => ?_, fun k k0 k1 i i1 => ?_⟩, ?_, ⟨fun k k0 k1 => ?_, fun i hi => ?_, fun j => ?_⟩, fun x hx => ?_⟩
  · rw [e4, hf _ _ (by omega)]; exact h1.2.1.1 k k0 k1
  · rw [e4, hf _ _ (by omega)]; exact h1.2.1.2 k k0 k1 i j i1 j1
  · rw [hf _ _ (by omega)]; exact h1.2.2.1 k k0 k1
  · rw [hf _ _ (by omega)]; exact h1.2.2.2 k k0 k1 i i1
  · unfold so_; rw [e4, e5]; exact h2
  · rw [hf _ _ (by omega)]; exact h3.1 k k0 k1
  · rw [hf 2000001 i (by omega), hf 2000002 i (by omega)]; exact h3.2.1 i hi
  · rw [hf 2000003 j (by omega)]; exact h3.2.2 j
  · obtain ⟨w1, w2, w3, w4⟩ := h4 x hx
    have hi := rws_ab x hx
    exact ⟨w1, w2, fun i hl => (hf x.1 i (by omega)).trans (w3 i hl), w4⟩
def kb_ (M M' : am_M) : Prop := ∀ x j, ((x = 0 ∧ j = 17) ∨ (37 ≤ x ∧ x ≤ 87) ∨ (x = 152 ∧ 58 ≤ j ∧ j ≤ 60) ∨ x = 186 ∨ x = 191) → M' x j = M x j
theorem kb_ok {M M' : am_M} {D : dm_D} {G : Int → Int} {W : Int → Int → Int} (ha : ka_ M M') (hf : kb_ M M') (h1 : bt_ok M D G W) (h2 : ac_ok M D G W) (h3 : lo_ok M) : bt_ok M' D G W ∧ ac_ok M' D G W ∧ lo_ok M' := by
  have e0 : M' 0 4 = M 0 4 := ha 0 4 (by omega)
  have e174 : ∀ j, M' 174 j = M 174 j := fun j => ha 174 j (by omega)
  have hcc := h1.1.1
  unfold dr_is at hcc
  refine ⟨?_, ?_, ?_⟩
  · obtain ⟨b1, b2, b3, b4, b5⟩ := h1
    refine ⟨?_, rg_is_fr (fun x j x1 x2 => ha x j (by omega)) b2, ?_, ?_, fun a a0 a1 => ⟨sm_ok_fr (hf _ _ (by omega)) (hf _ _ (by omega)) (fun j => hf _ _ (by omega)) (b5 a a0 a1).1, rs_ok_fr (fun j => hf 186 j (by omega)) (b5 a a0 a1).2⟩⟩
    · rw [e0]
      exact dm_ok_fr (fun x j x1 x2 x3 x4 x5 x6 => ha x j (by omega)) b1
    · rw [e0, e174, ha (M 0 4 + 2) 1 (by omega)]; exact b3
    · rw [e0, e174, ha (M 0 4 + 2) 2 (by omega)]; exact b4
  · obtain ⟨n, h, c1, c2, c3, c4, c5⟩ := h2
    have f1 : M' 46 1 = M 46 1 := hf 46 1 (by omega)
    have f2 : M' 46 2 = M 46 2 := hf 46 2 (by omega)
    have f3 : M' 152 58 = M 152 58 := hf 152 58 (by omega)
    have f4 : M' 152 59 = M 152 59 := hf 152 59 (by omega)
    refine ⟨n, h, c1, by rw [f2, f3]; exact c2, by rw [f1]; exact c3, by rw [f4]; exact c4, fun k hk => ?_⟩
    obtain ⟨q1, q2⟩ := c5 k hk
    rw [f1, f4]
    refine ⟨sm_ok_fr (hf _ _ (by omega)) (hf _ _ (by omega)) (fun j => hf _ _ (by omega)) q1, fun a a0 a1 => ⟨?_, fun i i0 i1 => ?_⟩⟩
    · rw [hf _ _ (by omega)]; exact (q2 a a0 a1).1
    · rw [hf _ _ (by omega)]; exact (q2 a a0 a1).2 i i0 i1
  · unfold lo_ok
    rw [hf 0 17 (by omega), hf 152 60 (by omega)]
    exact h3
/-- a tape tells of dreads alone -/
def tb_ (M : am_M) (a : Int) : Prop := (0 ≤ a ∧ a < M 174 4) ∧ (1 ≤ M 1 1 ∧ M 1 1 ≤ 20) ∧ ∀ j : Int, 0 ≤ j → j < M 1 1 → 0 ≤ M 2 j ∧ M 2 j < M 174 3
theorem st_told {d : Nat} {M : am_M} {f : Int → am_M → Prop} {D : dm_D} {G : Int → Int} {W : Int → Int → Int} {a : Int} (hb : bt_ok M D G W) (ht : 0 ≤ M 1 1 ∧ M 1 1 ≤ 1600) (hr : 0 ≤ M 151 1 ∧ M 151 1 ≤ 1000000) (h1 : tb_ M a → ∀ M', (∀ x j, ¬ x = 149 → ¬ (x = 1 ∧ j = 1) → ¬ (x = 0 ∧ (j = 12 ∨ j = 13)) → M' x j = M x j) → M' 1 1 = 0 → M' 0 12 = M 1 1 → M' 0 13 = a → (∀ j : Int, 0 ≤ j → j < M 1 1 → M' 149 j = M 2 j) → f (M 1 1) M') (h0 : ¬ tb_ M a → f (-1) (am_up (am_up M 1 1 0) 151 1 (M 151 1 + 1))) : am_cal pg (d + 5) 153 [(2, 0), (0, a)] sh_T M (am_c0 sh_T f) := by
  have fail : ¬ tb_ M a → ∀ v1, am_g 11 0 co_X11_told (d + 4) (am_c0 sh_T f) 108 [(2, 0), (0, v1), (0, M 1 1), (0, 0), (3, 0)] [] sh_T M := fun y v1 => by
    have z := h0 y
    refine bk_X11_told_108 (en_X9_wipe (bk_X9_wipe_0 (am_cv_i ⟨fun w => absurd rfl w, fun _ => st_refuse (by decide) (by rw [am_up_el (by omega)]; exact hr) (am_c0_i ?_)⟩)))
    rw [am_up_el (by omega)]
    exact z
  have fail66 : ¬ tb_ M a → ∀ v1, am_g 11 0 co_X11_told (d + 4) (am_c0 sh_T f) 66 [(2, 0), (0, v1), (0, M 1 1), (0, 0), (3, 0)] [] sh_T M := fun y v1 => bk_X11_told_66 (bk_X11_told_69 ⟨fun _ => fail y v1, fun _ => ⟨fun _ => fail y v1, fun _ => ⟨fun _ => fail y v1, fun w => absurd rfl w⟩⟩⟩)
  have fail36 : ¬ tb_ M a → ∀ v1 v4, am_g 11 0 co_X11_told (d + 4) (am_c0 sh_T f) 36 [(2, 0), (0, v1), (0, M 1 1), (0, 0), (0, v4)] [] sh_T M := fun y v1 v4 => bk_X11_told_36 ⟨fun _ => fail66 y v1, fun _ => ⟨fun _ => fail66 y v1, fun w => absurd rfl w⟩⟩
  have copy : tb_ M a → ∀ (m i : Nat), (i : Int) + m = M 1 1 → ∀ M1 : am_M, (∀ x j, ¬ x = 149 → M1 x j = M x j) → (∀ j : Int, 0 ≤ j → j < i → M1 149 j = M 2 j) → am_g 11 0 co_X11_told (d + 4) (am_c0 sh_T f) 69 [(2, 0), (0, a), (0, M 1 1), (0, 1), (0, (i : Int))] [] sh_T M1 := by
    intro hT m
    have h20 := hT.2.1
    induction m with
    | zero =>
      intro i hi M1 g1 g2
      refine bk_X11_told_69 ⟨fun _ => bk_X11_told_108 (en_X9_wipe (bk_X9_wipe_0 (am_cv_i ⟨fun _ => am_c0_i (h1 hT _ (fun x j y1 y2 y3 => ?_) ?_ am_up_at ?_ (fun j j0 j1 => ?_)), fun w => absurd w (by decide)⟩))), fun y => by omega⟩
      · rw [am_up_el (by omega), am_up_el (by omega), am_up_el (by omega)]; exact g1 x j y1
      · rw [am_up_el (by omega), am_up_el (by omega), am_up_at]
      · rw [am_up_el (by omega), am_up_at]
      · rw [am_up_el (by omega), am_up_el (by omega), am_up_el (by omega)]; exact g2 j j0 (by omega)
    | succ m ih =>
      intro i hi M1 g1 g2
      refine bk_X11_told_69 ⟨fun y => by omega, fun _ => ⟨fun y => by omega, fun _ => ⟨fun y => absurd y (by decide), fun _ => st_byteAt (by rw [g1 1 1 (by omega)]; exact ht.2) ⟨⟨by omega, by omega⟩, ⟨by omega, by omega⟩, ih (i + 1) (by omega) _ (fun x j y => ?_) (fun j j0 j1 => ?_)⟩⟩⟩⟩
      · rw [am_up_el (by omega)]; exact g1 x j y
      · by_cases z : j = (i : Int)
        · rw [z, am_up_at]
          unfold rd_by
          rw [g1 1 1 (by omega), if_pos ⟨by omega, by omega⟩, g1 2 _ (by omega)]
        · rw [am_up_el (by omega)]; exact g2 j j0 (by omega)
  have test : (0 ≤ a ∧ a < M 174 4) → (1 ≤ M 1 1 ∧ M 1 1 ≤ 20) → ∀ (m i : Nat), (i : Int) + m = M 1 1 → (∀ j : Int, 0 ≤ j → j < i → 0 ≤ M 2 j ∧ M 2 j < M 174 3) → am_g 11 0 co_X11_told (d + 4) (am_c0 sh_T f) 36 [(2, 0), (0, a), (0, M 1 1), (0, 1), (0, (i : Int))] [] sh_T M := by
    intro ha hR m
    induction m with
    | zero =>
      intro i hi hB
      exact bk_X11_told_36 ⟨fun _ => bk_X11_told_66 (copy ⟨ha, hR, fun j j0 j1 => hB j j0 (by omega)⟩ (M 1 1).toNat 0 (by omega) M (fun x j _ => rfl) (fun j j0 j1 => by omega)), fun y => by omega⟩
    | succ m ih =>
      intro i hi hB
      refine bk_X11_told_36 ⟨fun y => by omega, fun _ => ⟨fun y => absurd y (by decide), fun _ => st_byteAt ht.2 (st_isDread hb ⟨⟨by omega, by omega⟩, ?_⟩)⟩⟩
      have eb : rd_by (M 2) (M 1 1) (i : Int) = M 2 i := if_pos ⟨by omega, by omega⟩
      rw [eb]
      by_cases c : 0 ≤ M 2 i ∧ M 2 i < M 174 3
      · rw [am_b_1 c]
        refine ih (i + 1) (by omega) (fun j j0 j1 => ?_)
        by_cases z : j = (i : Int)
        · rw [z]; exact c
        · exact hB j j0 (by omega)
      · rw [am_b_0 c]
        exact fail36 (fun w => c (w.2.2 i (by omega) (by omega))) _ _
  refine en_X11_told (bk_X11_told_0 (st_isDreamer hb ⟨fun y => bk_X11_told_31 (fail36 (fun w => absurd w.1 (am_b_z.mp y)) _ _), fun y => ⟨fun y2 => bk_X11_told_31 (fail36 (fun w => by have := w.2.1; omega) _ _), fun y2 => ⟨fun y3 => bk_X11_told_31 (fail36 (fun w => by have := w.2.1; omega) _ _), fun y3 => test (am_b_nz y) ⟨y2, y3⟩ (M 1 1).toNat 0 (by omega) (fun j j0 j1 => by omega)⟩⟩⟩))
theorem sp_told {d : Nat} {M : am_M} {f : Int → am_M → Prop} {a R : Int} {t : Int → Int} (hc : rf_cn M) (hc4 : 0 ≤ M 174 4 ∧ M 174 4 ≤ 4) (hR : M 152 1 = R) (ht : ∀ j, M 153 j = t j) (hR0 : 0 ≤ R ∧ R ≤ 1600) (hr : am_r (M 154 1 + 1)) (h1 : ((0 ≤ a ∧ a < M 174 4) ∧ (1 ≤ R ∧ R ≤ 20) ∧ ∀ j : Int, 0 ≤ j → j < R → 0 ≤ t j ∧ t j < M 174 3) → ∀ M', (∀ x j, ¬ x = 192 → ¬ (x = 152 ∧ (j = 1 ∨ j = 61 ∨ j = 62)) → M' x j = M x j) → M' 152 1 = 0 → M' 152 61 = R → M' 152 62 = a → (∀ j : Int, 0 ≤ j → j < R → M' 192 j = t j) → f R M') (h0 : ¬ ((0 ≤ a ∧ a < M 174 4) ∧ (1 ≤ R ∧ R ≤ 20) ∧ ∀ j : Int, 0 ≤ j → j < R → 0 ≤ t j ∧ t j < M 174 3) → f (-1) (am_up (am_up M 152 1 0) 154 1 (M 154 1 + 1))) : am_cal pg (d + 3) 274 [(2, 152), (0, a)] sh_T M (am_c0 sh_T f) := by
  have e0 : ∀ x j, ¬ (x = 152 ∧ j = 1) → am_up M 152 1 0 x j = M x j := fun x j y => am_up_el y
  have hcN : rf_cn (am_up M 152 1 0) := hc
  have fail : ¬ ((0 ≤ a ∧ a < M 174 4) ∧ (1 ≤ R ∧ R ≤ 20) ∧ ∀ j : Int, 0 ≤ j → j < R → 0 ≤ t j ∧ t j < M 174 3) → ∀ v4, am_g 12 0 co_X12_told (d + 2) (am_c0 sh_T f) 39 [(2, 152), (0, a), (0, R), (0, 0), (0, v4)] [] sh_T (am_up M 152 1 0) := fun y v4 => by
    have z := h0 y
    refine bk_X12_told_39 ⟨fun _ => ⟨fun w => absurd rfl w, fun _ => ?_⟩, fun _ => ⟨fun _ => ?_, fun w => absurd rfl w⟩⟩ <;> (rw [e0 154 1 (by omega)]; exact ⟨hr, am_c0_i z⟩)
  have copy : ((0 ≤ a ∧ a < M 174 4) ∧ (1 ≤ R ∧ R ≤ 20) ∧ ∀ j : Int, 0 ≤ j → j < R → 0 ≤ t j ∧ t j < M 174 3) → ∀ (m i : Nat), (i : Int) + m = R → ∀ M1 : am_M, (∀ x j, ¬ x = 192 → ¬ (x = 152 ∧ j = 1) → M1 x j = M x j) → M1 152 1 = 0 → (∀ j : Int, 0 ≤ j → j < i → M1 192 j = t j) → am_g 12 0 co_X12_told (d + 2) (am_c0 sh_T f) 86 [(2, 152), (0, a), (0, R), (3, 0), (0, (i : Int))] [] sh_T M1 := by
    intro hT m
    induction m with
    | zero =>
      intro i hi M1 g1 g2 g3
      refine bk_X12_told_86 ⟨fun _ => am_c0_i (h1 hT _ (fun x j y1 y2 => ?_) ?_ ?_ am_up_at (fun j j0 j1 => ?_)), fun y => by omega⟩
      · rw [am_up_el (by omega), am_up_el (by omega)]; exact g1 x j y1 (by omega)
      · rw [am_up_el (by omega), am_up_el (by omega)]; exact g2
      · rw [am_up_el (by omega), am_up_at]
      · rw [am_up_el (by omega), am_up_el (by omega)]; exact g3 j j0 (by omega)
    | succ m ih =>
      intro i hi M1 g1 g2 g3
      refine bk_X12_told_86 ⟨fun y => by omega, fun _ => ⟨⟨by omega, by omega⟩, ⟨by omega, by omega⟩, ⟨by omega, by omega⟩, ih (i + 1) (by omega) _ (fun x j y1 y2 => ?_) ?_ (fun j j0 j1 => ?_)⟩⟩
      · rw [am_up_el (by omega)]; exact g1 x j y1 y2
      · rw [am_up_el (by omega)]; exact g2
      · by_cases z : j = (i : Int)
        · rw [z, am_up_at, g1 153 _ (by omega) (by omega)]; exact ht _
        · rw [am_up_el (by omega)]; exact g3 j j0 (by omega)
  have test : (0 ≤ a ∧ a < M 174 4) → (1 ≤ R ∧ R ≤ 20) → ∀ (m i : Nat), (i : Int) + m = R → (∀ j : Int, 0 ≤ j → j < i → 0 ≤ t j ∧ t j < M 174 3) → am_g 12 0 co_X12_told (d + 2) (am_c0 sh_T f) 39 [(2, 152), (0, a), (0, R), (0, 1), (0, (i : Int))] [] sh_T (am_up M 152 1 0) := by
    intro ha hR2 m
    induction m with
    | zero =>
      intro i hi hB
      exact bk_X12_told_39 ⟨fun _ => ⟨fun _ => copy ⟨ha, hR2, fun j j0 j1 => hB j j0 (by omega)⟩ R.toNat 0 (by omega) _ (fun x j y1 y2 => e0 x j y2) am_up_at (fun j j0 j1 => by omega), fun w => absurd w (by decide)⟩, fun y => by omega⟩
    | succ m ih =>
      intro i hi hB
      refine bk_X12_told_39 ⟨fun y => by omega, fun _ => ⟨fun w => absurd w (by decide), fun _ => ⟨⟨by omega, by omega⟩, sp_isDread hcN ⟨⟨by omega, by omega⟩, ?_⟩⟩⟩⟩
      rw [e0 153 _ (by omega), e0 174 3 (by omega), ht]
      by_cases c : 0 ≤ t i ∧ t i < M 174 3
      · rw [am_b_1 c]
        refine ih (i + 1) (by omega) (fun j j0 j1 => ?_)
        by_cases z : j = (i : Int)
        · rw [z]; exact c
        · exact hB j j0 (by omega)
      · rw [am_b_0 c]
        exact fail (fun w => c (w.2.2 i (by omega) (by omega))) _
  refine en_X12_told (bk_X12_told_0 (sp_isDreamer (by rw [e0 174 4 (by omega)]; exact hc4) ?_))
  rw [e0 174 4 (by omega), hR]
  refine ⟨fun y => fail (fun w => absurd w.1 (am_b_z.mp y)) 0, fun y => sp_isIn ⟨fun y2 => fail (fun w => absurd w.2.1 (am_b_z.mp y2)) 0, fun y2 => test (am_b_nz y) (am_b_nz y2) R.toNat 0 (by omega) (fun j j0 j1 => by omega)⟩⟩
theorem iv_told {d n : Nat} {M : am_M} {a : Int} (hn : n < 600) (h : iv_ n M) : tr_two (d + 5) 153 274 [(0, a)] M (iv_ (n + 1)) := by
  have hI := h
  have hq := rq_of h
  have r1 := hq 1 (by decide) (by decide)
  obtain ⟨⟨D, ⟨G, W, a1, a2, a3, a4⟩, h2, h3⟩, ⟨T, h5⟩, ⟨t1, t2, t3, t4⟩, ⟨l1, l2⟩, h6, ⟨p1, p2, p3⟩, h8, h9⟩ := h
  have hu : (M 0 4 = 11 ∨ M 0 4 = 24) := h6.1
  have hcn : rf_cn M := by
    have := h5.2.2.1 0 (by decide) (by decide)
    have e : M 174 3 = ((tN T 0).length : Int) := this
    have := h5.1.2.1
    unfold rf_cn
    omega
  have hc4 := a1.2.2.1.2
  refine st_told (d := d) a1 t3 ⟨r1.2.1, by omega⟩ (fun hT M1 f1 b11 b12 b13 b149 => ⟨fun j => f1 _ _ (by omega) (by omega) (by omega), ?_⟩) (fun hT => ⟨fun j => by rw [am_up_el (by omega), am_up_el (by omega)], ?_⟩)
  · have e : ∀ x j, 150 ≤ x → M1 x j = M x j := fun x j y => f1 x j (by omega) (by omega) (by omega)
    have e174 : ∀ j, M1 174 j = M 174 j := fun j => e 174 j (by omega)
    refine sp_told (d := d + 2) (R := M 1 1) (t := M 2) (by unfold rf_cn; rw [e174]; exact hcn) (by rw [e174]; exact hc4) (by rw [e 152 1 (by omega)]; exact t2.symm) (fun j => by rw [e 153 j (by omega)]; exact (t1 j).symm) t3 (by rw [e 154 1 (by omega)]; exact ⟨by omega, by omega⟩) (fun _ M2 f2 c1 c61 c62 c192 => ⟨rfl, ?_⟩) (fun y => absurd (by rw [e174, e174]; exact hT) y)
    have g : ∀ x j, ¬ x = 149 → ¬ x = 192 → ¬ (x = 1 ∧ j = 1) → ¬ (x = 0 ∧ (j = 12 ∨ j = 13)) → ¬ (x = 152 ∧ (j = 1 ∨ j = 61 ∨ j = 62)) → M2 x j = M x j := fun x j y1 y2 y3 y4 y5 => by rw [f2 x j y2 y5, f1 x j y1 y3 y4]
    have lo : ∀ x j, x < 152 → M2 x j = M1 x j := fun x j y => f2 x j (by omega) (by omega)
    have ka : ka_ M M2 := fun x j y => g x j (by omega) (by omega) (by omega) (by omega) (by omega)
    have kb : kb_ M M2 := fun x j y => g x j (by omega) (by omega) (by omega) (by omega) (by omega)
    obtain ⟨w1, w2, w3, w4⟩ := ka_ok ka h5 h6 h8 h9
    obtain ⟨v1, v2, v3⟩ := kb_ok ka kb a1 a2 a4
    refine ⟨⟨D, ⟨G, W, v1, v2, rq_ok_s (fun k k0 k1 => ?_), v3⟩, Or.inr ⟨(M 1 1).toNat, by have := hT.2.1; omega, ?_, ?_, ?_, ?_, fun s hs => ?_⟩, h3⟩, ⟨T, w1⟩, ⟨fun j => ?_, ?_, ?_, fun j j0 j1 => ?_⟩, ⟨?_, ?_⟩, w2, ⟨?_, ?_, fun j j0 j1 => ?_⟩, w3, w4⟩
    · rw [g 151 k (by omega) (by omega) (by omega) (by omega) (by omega), g 154 k (by omega) (by omega) (by omega) (by omega) (by omega)]; exact hq k k0 k1
    · rw [c61]; omega
    · rw [lo 0 12 (by omega), b12]; omega
    · rw [lo 0 13 (by omega), b13, c62]
    · rw [c62, g 174 4 (by omega) (by omega) (by omega) (by omega) (by omega)]; exact hT.1
    · have hs' : (s : Int) < M 1 1 := by omega
      have eN : M 174 3 = (dN D : Int) := a1.2.1.2.1
      rw [lo 149 s (by omega), b149 s (by omega) hs', c192 s (by omega) hs', ← eN]
      exact ⟨rfl, hT.2.2 s (by omega) hs'⟩
    · rw [g 2 j (by omega) (by omega) (by omega) (by omega) (by omega), g 153 j (by omega) (by omega) (by omega) (by omega) (by omega)]; exact t1 j
    · rw [lo 1 1 (by omega), b11, c1]
    · rw [lo 1 1 (by omega), b11]; decide
    · rw [lo 1 1 (by omega), b11] at j1; omega
    · rw [g 1 3 (by omega) (by omega) (by omega) (by omega) (by omega), g 152 7 (by omega) (by omega) (by omega) (by omega) (by omega)]; exact l1
    · rw [g 1 4 (by omega) (by omega) (by omega) (by omega) (by omega), g 152 8 (by omega) (by omega) (by omega) (by omega) (by omega)]; exact l2
    · rw [g 0 15 (by omega) (by omega) (by omega) (by omega) (by omega), g 152 93 (by omega) (by omega) (by omega) (by omega) (by omega)]; exact p1
    · rw [g 0 15 (by omega) (by omega) (by omega) (by omega) (by omega)]; exact p2
    · rw [g 0 15 (by omega) (by omega) (by omega) (by omega) (by omega)] at j1
      rw [g 150 j (by omega) (by omega) (by omega) (by omega) (by omega), g 214 j (by omega) (by omega) (by omega) (by omega) (by omega)]; exact p3 j j0 j1
  · have e : ∀ x j, 152 ≤ x → am_up (am_up M 1 1 0) 151 1 (M 151 1 + 1) x j = M x j := fun x j y => by rw [am_up_el (by omega), am_up_el (by omega)]
    have e174 : ∀ j, am_up (am_up M 1 1 0) 151 1 (M 151 1 + 1) 174 j = M 174 j := fun j => e 174 j (by omega)
    refine sp_told (d := d + 2) (R := M 1 1) (t := M 2) (by unfold rf_cn; rw [e174]; exact hcn) (by rw [e174]; exact hc4) (by rw [e 152 1 (by omega)]; exact t2.symm) (fun j => by rw [e 153 j (by omega)]; exact (t1 j).symm) t3 (by rw [e 154 1 (by omega)]; exact ⟨by omega, by omega⟩) (fun y => absurd (by rw [e174, e174] at y; exact y) hT) (fun _ => ⟨rfl, ?_⟩)
    rw [e 154 1 (by omega)]
    have g : ∀ x j, ¬ (x = 1 ∧ j = 1) → ¬ (x = 152 ∧ j = 1) → ¬ (x = 151 ∧ j = 1) → ¬ (x = 154 ∧ j = 1) → am_up (am_up (am_up (am_up M 1 1 0) 151 1 (M 151 1 + 1)) 152 1 0) 154 1 (M 154 1 + 1) x j = M x j := fun x j y1 y2 y3 y4 => by rw [am_up_el (by omega), am_up_el (by omega), am_up_el (by omega), am_up_el (by omega)]
    have n11 : am_up (am_up (am_up (am_up M 1 1 0) 151 1 (M 151 1 + 1)) 152 1 0) 154 1 (M 154 1 + 1) 1 1 = 0 := by rw [am_up_el (by omega), am_up_el (by omega), am_up_el (by omega), am_up_at]
    have n1521 : am_up (am_up (am_up (am_up M 1 1 0) 151 1 (M 151 1 + 1)) 152 1 0) 154 1 (M 154 1 + 1) 152 1 = 0 := by rw [am_up_el (by omega), am_up_at]
    refine iv_up hI (fun x j y => g x j (by omega) (by omega) (by omega) (by omega)) (rq_step (k := 1) (by decide) hq (fun j => ?_) (fun j => ?_)) ⟨fun j => ?_, ?_, ?_, fun j j0 j1 => ?_⟩ ⟨?_, ?_⟩
    · by_cases w : j = 1
      · rw [if_pos w, w, am_up_el (by omega), am_up_el (by omega), am_up_at]
      · rw [if_neg w]; exact g _ _ (by omega) (by omega) (by omega) (by omega)
    · by_cases w : j = 1
      · rw [if_pos w, w, am_up_at]
      · rw [if_neg w]; exact g _ _ (by omega) (by omega) (by omega) (by omega)
    · rw [g 2 j (by omega) (by omega) (by omega) (by omega), g 153 j (by omega) (by omega) (by omega) (by omega)]; exact t1 j
    · rw [n11, n1521]
    · rw [n11]; decide
    · rw [n11] at j1; omega
    · rw [g 1 3 (by omega) (by omega) (by omega) (by omega), g 152 7 (by omega) (by omega) (by omega) (by omega)]; exact l1
    · rw [g 1 4 (by omega) (by omega) (by omega) (by omega), g 152 8 (by omega) (by omega) (by omega) (by omega)]; exact l2
