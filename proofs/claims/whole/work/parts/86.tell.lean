/-! DREAMER, WEIGH: the same answers on both sides -/
theorem sm_we {M : am_M} {D : dm_D} {v a g : Int} {w : Int → Int} (h : sm_ok M D v a g w) : we_ok (M (v + 1)) := we_ok_eq (we_eq_sy h.2.2.2.1) h.2.2.2.2.1
theorem sm_sum {M : am_M} {D : dm_D} {v a g : Int} {w : Int → Int} (h : sm_ok M D v a g w) : pu_sum (M (v + 1)) 6 = pu_sum w 6 := pu_sum_we (by decide) h.2.2.2.1
theorem sm_max {M : am_M} {D : dm_D} {v a g : Int} {w : Int → Int} (h : sm_ok M D v a g w) : pu_max (M (v + 1)) 6 = pu_max w 6 := pu_max_eq 6 (fun k hk => h.2.2.2.1 k (by omega) (by omega))
theorem sm_many {M : am_M} {D : dm_D} {v a g : Int} {w : Int → Int} (h : sm_ok M D v a g w) : pu_many (M (v + 1)) 6 = pu_many w 6 := pu_many_eq 6 (fun k hk => h.2.2.2.1 k (by omega) (by omega))
theorem rg_n {M : am_M} {D : dm_D} (h : rg_is M D) : (M 174 3).toNat = dN D := by have := h.2.1; omega
theorem rw_sum {M : am_M} {D : dm_D} {r : Int} {w : Int → Int} (hd : rg_is M D) (h : rw_ok M D r w) : pu_sum (ro M r) (M 174 3).toNat = pu_sum w 6 := by rw [rg_n hd, pu_sum_we hd.1.1 h.2.1, ← pu_sum_6 hd.1.1 h.2.2.1 h.2.2.2]
theorem rw_max {M : am_M} {D : dm_D} {r : Int} {w : Int → Int} (hd : rg_is M D) (h : rw_ok M D r w) : pu_max (ro M r) (M 174 3).toNat = pu_max w 6 := by
  have h6 := hd.1.1
  rw [rg_n hd, pu_max_6 h6 h.2.2.1 h.2.2.2]
  exact pu_max_eq (dN D) (fun k hk => h.2.1 k (by omega) (by omega))
theorem rw_many {M : am_M} {D : dm_D} {r : Int} {w : Int → Int} (hd : rg_is M D) (h : rw_ok M D r w) : pu_many (ro M r) (M 174 3).toNat = pu_many w 6 := by
  have h6 := hd.1.1
  rw [rg_n hd, pu_many_6 h6 h.2.2.1 h.2.2.2]
  exact pu_many_eq (dN D) (fun k hk => h.2.1 k (by omega) (by omega))
/-- the reference's answer of a dreamer -/
def dr_ans (D : dm_D) (a g : Int) (w : Int → Int) (what : Int) : Int :=
  if what = 0 then dB D a else if what = 1 then g else if what = 2 then pu_sum w 6 else if what = 3 then pu_max w 6 else if what = 4 then pu_many w 6 else if what = 5 then pu_hv D g w (-1) else if what = 6 then pu_hv D g w (pu_hv D g w (-1)) else if what = 7 then am_b (pu_home D w) else -1
theorem sp_dreamer {d : Nat} {M : am_M} {f : Int → am_M → Prop} {D : dm_D} {a g b : Int} {w : Int → Int} (hd : rg_is M D) (hs : rs_ok M D a g w) (hm : 0 ≤ M 174 4 ∧ M 174 4 ≤ 4) (ha : 0 ≤ a ∧ a < M 174 4) (h : ∀ M', sc_fr M M' → f (dr_ans D a g w b) M') : am_cal pg (d + 5) 234 [(2, 152), (0, a), (0, b)] sh_T M (am_c0 sh_T f) := by
  refine en_X12_dreamer (bk_X12_dreamer_0 (sp_isDreamer hm ⟨fun _ => ?_, fun z => absurd ha (am_b_z.mp z)⟩))
  refine sp_lays hd hs (fun M1 p1 p2 p3 p4 => sp_guideOf (v4 hs.1) ?_)
  rw [p3.2.1.1]
  refine sp_hv p2 p4 hs.2.1.2 ?_
  unfold dr_ans at h
  have hB := p2.2.2.2.2.2.1 a hs.1.1 hs.1.2
  refine ⟨fun q => am_c0_i ?_, fun q => ⟨⟨by omega, by omega⟩, ⟨by omega, by omega⟩, am_c0_i ?_⟩, fun q => sp_guideOf (v4 hs.1) (am_c0_i ?_), fun q => sp_sumAt (rg_cn p2) (rw_ro p4) (am_c0_i ?_), fun q => sp_greatestAt (rg_cn p2) (rw_ro p4) (am_c0_i ?_), fun q => sp_manyAt (rg_cn p2) (rw_ro p4) (am_c0_i ?_), fun q => am_c0_i ?_, fun q => sp_guideOf (v4 hs.1) ?_, fun q => sp_home p2 p4 ⟨fun z => am_c0_i ?_, fun z => am_c0_i ?_⟩⟩
  · have q2 := h M1 p1
    rw [if_neg (by omega), if_neg (by omega), if_neg (by omega), if_neg (by omega), if_neg (by omega), if_neg (by omega), if_neg (by omega), if_neg (by omega)] at q2
    exact q2
  · subst q
    rw [hB]
    exact h M1 p1
  · subst q
    rw [p3.2.1.1]
    exact h M1 p1
  · subst q
    rw [rw_sum p2 p4]
    exact h M1 p1
  · subst q
    rw [rw_max p2 p4]
    exact h M1 p1
  · subst q
    rw [rw_many p2 p4]
    exact h M1 p1
  · subst q
    exact h M1 p1
  · subst q
    rw [p3.2.1.1]
    exact sp_hv p2 p4 hs.2.1.2 (am_c0_i (h M1 p1))
  · subst q
    have q2 := h M1 p1
    rw [← z]
    exact q2
  · subst q
    have q2 := h M1 p1
    rw [← am_b_1 (am_b_nz z)]
    exact q2
theorem qu_dreamer {d : Nat} {M : am_M} {D : dm_D} {G : Int → Int} {W : Int → Int → Int} {a b : Int} (hb : bt_ok M D G W) : qu_two (d + 7) 132 234 [(0, a), (0, b)] M := by
  have h3 := hb.2.2.1
  have hd := hb.1
  refine en_X11_dreamer (bk_X11_dreamer_0 (st_isDreamer hb ⟨fun q => ?_, fun q => ?_⟩))
  · have ha := am_b_nz q
    have h5 := hb.2.2.2.2 a ha.1 (by omega)
    have hs := h5.1
    have key : ∀ z : Int, z = dr_ans D a (G a) (W a) b → am_cal pg (d + 7) 234 [(2, 152), (0, a), (0, b)] sh_T M (am_c0 sh_T fun y M2 => z = y ∧ sc_fr M M2) := fun z hz => sp_dreamer hb.2.1 h5.2 h3.2 ha (fun M' hf => ⟨hz, hf⟩)
    unfold dr_ans at key
    refine ⟨⟨by omega, by omega⟩, fun y => am_c0_i ⟨sc_rf, key _ ?_⟩, fun y => ⟨dr_ob hd.1, st_braveryOf hd.1 ha.1 (by omega) (am_c0_i ⟨sc_rf, key _ ?_⟩)⟩, fun y => ⟨hs.1.1, am_c0_i ⟨sc_rf, key _ ?_⟩⟩, fun y => ⟨hs.1.1, st_total hs.1 (sm_we hs) (am_c0_i ⟨sc_rf, key _ ?_⟩)⟩, fun y => ⟨hs.1.1, st_greatest hs.1 (am_c0_i ⟨sc_rf, key _ ?_⟩)⟩, fun y => ⟨hs.1.1, st_countHeavy hs.1 (am_c0_i ⟨sc_rf, key _ ?_⟩)⟩, fun y => ⟨dr_ob hd.1, st_hv hd hs (am_c0_i ⟨sc_rf, key _ ?_⟩)⟩, fun y => ⟨dr_ob hd.1, st_hv hd hs (st_hv hd hs (am_c0_i ⟨sc_rf, key _ ?_⟩))⟩, fun y => ⟨dr_ob hd.1, st_home hd hs ⟨fun z => am_c0_i ⟨sc_rf, key _ ?_⟩, fun z => am_c0_i ⟨sc_rf, key _ ?_⟩⟩⟩⟩
    · rw [if_neg (by omega), if_neg (by omega), if_neg (by omega), if_neg (by omega), if_neg (by omega), if_neg (by omega), if_neg (by omega), if_neg (by omega)]
    · subst y; exact hd.2.2.2.2.2.2.1 a ha.1 (by omega)
    · subst y; exact hs.2.2.1.1
    · subst y; exact sm_sum hs
    · subst y; exact sm_max hs
    · subst y; exact sm_many hs
    · subst y; rfl
    · subst y; rfl
    · subst y; exact z.symm
    · subst y; exact (am_b_1 (am_b_nz z)).symm
  · exact am_c0_i ⟨sc_rf, en_X12_dreamer (bk_X12_dreamer_0 (sp_isDreamer h3.2 ⟨fun y => absurd q y, fun y => am_c0_i ⟨rfl, sc_rf⟩⟩))⟩
/-- the reference's answer of a weight -/
def we_ans (D : dm_D) (a g : Int) (w : Int → Int) (b what : Int) : Int := if what = 0 then w b else if what = 1 then pu_cnt g (df_ D g) (w b) b else pu_made (dO D (what - 2)) w 6 b (dB D a)
theorem sp_weigh {d : Nat} {M : am_M} {f : Int → am_M → Prop} {D : dm_D} {a g b x : Int} {w : Int → Int} (hd : rg_is M D) (hs : rs_ok M D a g w) (hm : 0 ≤ M 174 4 ∧ M 174 4 ≤ 4) (ha : 0 ≤ a ∧ a < M 174 4) (hb : 0 ≤ b ∧ b < M 174 3) (h : ∀ M', sc_fr M M' → f (if 0 ≤ x ∧ x ≤ 4 then we_ans D a g w b x else -1) M') : am_cal pg (d + 5) 235 [(2, 152), (0, a), (0, b), (0, x)] sh_T M (am_c0 sh_T f) := by
  have hcn := rg_cn hd
  have hcn0 := hcn
  unfold rf_cn at hcn0
  refine en_X12_weigh (bk_X12_weigh_0 (sp_isDreamer hm ⟨fun z => absurd ha (am_b_z.mp z), fun _ => sp_isDread hcn ⟨fun z => absurd hb (am_b_z.mp z), fun _ => sp_isIn ⟨fun z => ?_, fun z => am_c0_i ?_⟩⟩⟩))
  · have hx := am_b_nz z
    rw [if_pos hx] at h
    unfold we_ans at h
    refine sp_lays hd hs (fun M1 p1 p2 p3 p4 => ⟨fun q => ⟨fun q2 => ⟨⟨by omega, by omega⟩, sp_mk p2 p4 hs.1 (by omega) (by omega) (fun M2 r1 => am_c0_i ?_)⟩, fun q2 => ⟨⟨by omega, by omega⟩, sp_guideOf (v4 hs.1) ?_⟩⟩, fun q => ⟨⟨by omega, by omega⟩, am_c0_i ?_⟩⟩)
    · have y := h M2 (sc_tr p1 (sc_mf r1))
      rw [if_neg q, if_neg q2] at y
      exact y
    · have e0 : M1 187 b = w b := by
        have e := p4.2.1 b hb.1 (by omega)
        unfold ro at e
        rw [show (0 : Int) + b = b by omega] at e
        exact e
      have hwb := hs.2.2.2.1 b hb.1 (by omega)
      rw [p3.2.1.1, e0]
      refine sp_counts hwb (vm4 hs.2.1.2) (am_c0_i ?_)
      rw [pu_cnt_g (rg_fear p2 hs.2.1.2)]
      have y := h M1 p1
      rw [if_neg q, if_pos q2] at y
      exact y
    · have e0 : M1 187 b = w b := by
        have e := p4.2.1 b hb.1 (by omega)
        unfold ro at e
        rw [show (0 : Int) + b = b by omega] at e
        exact e
      rw [e0]
      have y := h M1 p1
      rw [if_pos q] at y
      exact y
  · have hx := am_b_z.mp z
    rw [if_neg hx] at h
    exact h M sc_rf
theorem qu_weigh {d : Nat} {M : am_M} {D : dm_D} {G : Int → Int} {W : Int → Int → Int} {a b x : Int} (hb : bt_ok M D G W) : qu_two (d + 7) 133 235 [(0, a), (0, b), (0, x)] M := by
  have h3 := hb.2.2.1
  have hd := hb.1
  have hcn := rg_cn hb.2.1
  have hcn0 := hcn
  unfold rf_cn at hcn0
  refine en_X11_weigh (bk_X11_weigh_0 (st_isDreamer hb ⟨fun q => ?_, fun q => st_isDread hb ⟨fun q2 => ?_, fun q2 => ?_⟩⟩))
  · exact am_c0_i ⟨sc_rf, en_X12_weigh (bk_X12_weigh_0 (sp_isDreamer h3.2 ⟨fun y => am_c0_i ⟨rfl, sc_rf⟩, fun y => absurd q y⟩))⟩
  · have ha := am_b_nz q
    have hbb := am_b_nz q2
    have hb6 : b < 6 := by omega
    have h5 := hb.2.2.2.2 a ha.1 (by omega)
    have hs := h5.1
    have hg := hs.2.2.1
    have key : ∀ (M1 : am_M) (z : Int), sc_fr M M1 → (z = if 0 ≤ x ∧ x ≤ 4 then we_ans D a (G a) (W a) b x else -1) → am_cal pg (d + 7) 235 [(2, 152), (0, a), (0, b), (0, x)] sh_T M1 (am_c0 sh_T fun y M2 => z = y ∧ sc_fr M M2) := fun M1 z hf hz => by
      have hb1 := bt_ok_fr hf hb
      have e4 : M1 174 4 = M 174 4 := hf 174 4 (by unfold sc_; omega)
      have e3 : M1 174 3 = M 174 3 := hf 174 3 (by unfold sc_; omega)
      exact sp_weigh hb1.2.1 (hb1.2.2.2.2 a ha.1 (by omega)).2 (by rw [e4]; exact h3.2) (by rw [e4]; exact ha) (by rw [e3]; exact hbb) (fun M' hf2 => ⟨hz, sc_tr hf hf2⟩)
    unfold we_ans at key
    refine ⟨⟨by omega, by omega⟩, fun y => am_c0_i ⟨sc_rf, key M _ sc_rf ?_⟩, fun y => ⟨hs.1.1, st_at hs.1 (am_c0_i ⟨sc_rf, key M _ sc_rf ?_⟩)⟩, fun y => ⟨dr_ob hd.1, st_counts hd.1 hs.1 (by omega) hbb.1 hb6 (sm_we hs) (am_c0_i ⟨sc_rf, key M _ sc_rf ?_⟩)⟩, fun y => ⟨dr_ob hd.1, st_mk hd hs ⟨hbb.1, hb6⟩ (by decide) (fun M1 hf => am_c0_i ⟨sc_bf hd.1 hf, key M1 _ (sc_bf hd.1 hf) ?_⟩)⟩, fun y => ⟨dr_ob hd.1, st_mk hd hs ⟨hbb.1, hb6⟩ (by decide) (fun M1 hf => am_c0_i ⟨sc_bf hd.1 hf, key M1 _ (sc_bf hd.1 hf) ?_⟩)⟩, fun y => ⟨dr_ob hd.1, st_mk hd hs ⟨hbb.1, hb6⟩ (by decide) (fun M1 hf => am_c0_i ⟨sc_bf hd.1 hf, key M1 _ (sc_bf hd.1 hf) ?_⟩)⟩⟩
    · rw [if_neg (by omega)]
    · subst y
      rw [if_pos ⟨hbb.1, hb6⟩]
      exact hs.2.2.2.1 b hbb.1 hb6
    · subst y
      show pu_cnt (M (37 + 1 + 2 * a) 2) (M (M 0 4 + 5) (M (37 + 1 + 2 * a) 2)) (M (37 + 1 + 2 * a + 1) b) b = pu_cnt (G a) (df_ D (G a)) (W a b) b
      rw [hg.1, pu_cnt_g (dm_fear hd hg.2), hs.2.2.2.1 b hbb.1 hb6]
    · subst y; rfl
    · subst y; rfl
    · subst y; rfl
  · exact am_c0_i ⟨sc_rf, en_X12_weigh (bk_X12_weigh_0 (sp_isDreamer h3.2 ⟨fun y => absurd y q, fun y => sp_isDread hcn ⟨fun y => am_c0_i ⟨rfl, sc_rf⟩, fun y => absurd q2 y⟩⟩))⟩
