/-! HAS, DREAMER, WEIGH, GUIDE: the same answers on both sides -/
theorem dm_fear {M : am_M} {c g : Int} {D : dm_D} (h : dm_ok M c D) (hg : -1 ≤ g ∧ g < 4 ∧ g < dG D) : g = -1 ∨ M (c + 5) g = df_ D g := by
  by_cases q : g = -1
  · exact Or.inl q
  · refine Or.inr ?_
    unfold df_
    rw [if_neg q]
    exact h.2.2.2.2.2.2.2.1 g (by omega) hg.2
theorem rg_fear {M : am_M} {g : Int} {D : dm_D} (h : rg_is M D) (hg : -1 ≤ g ∧ g < 4 ∧ g < dG D) : g = -1 ∨ M 178 (4 + g) = df_ D g := by
  by_cases q : g = -1
  · exact Or.inl q
  · refine Or.inr ?_
    unfold df_
    rw [if_neg q]
    exact h.2.2.2.2.2.2.1 g (by omega) hg.2
def dO (D : dm_D) (w : Int) : Option (List Int) := if w = 0 then dM D else if w = 1 then dP D else dY D
theorem dm_sum {M : am_M} {c w : Int} {D : dm_D} (h : dm_ok M c D) (hw : 0 ≤ w ∧ w < 3) : dr_sum M c w (dO D w) := by
  rcases (show w = 0 ∨ w = 1 ∨ w = 2 by omega) with rfl | rfl | rfl
  · exact h.2.2.2.2.2.2.2.2.1
  · exact h.2.2.2.2.2.2.2.2.2.1
  · exact h.2.2.2.2.2.2.2.2.2.2
theorem rg_sum {M : am_M} {w : Int} {D : dm_D} (h : rg_is M D) (hw : 0 ≤ w ∧ w < 3) : rf_sum M w (dO D w) := by
  rcases (show w = 0 ∨ w = 1 ∨ w = 2 by omega) with rfl | rfl | rfl
  · exact h.2.2.2.2.2.2.2.1
  · exact h.2.2.2.2.2.2.2.2.1
  · exact h.2.2.2.2.2.2.2.2.2
def pu_hv (D : dm_D) (g : Int) (w : Int → Int) (but : Int) : Int := pu_wo (fun k => pu_cnt g (df_ D g) (w k) k) but (dN D)
theorem st_hv {d : Nat} {M : am_M} {f : Int → am_M → Prop} {c v a g but : Int} {D : dm_D} {w : Int → Int} (hd : dm_ok M c D) (hs : sm_ok M D v a g w) (h : f (pu_hv D g w but) M) : am_cal pg (d + 3) 30 [(2, c), (2, v), (0, but)] sh_T M (am_c0 sh_T f) := by
  have hn := hd.2.2.1
  have h6 := hd.2.1.1
  have hg := hs.2.2.1
  refine st_heaviest hd.1 hs.1 (by omega) (we_ok_eq (we_eq_sy hs.2.2.2.1) hs.2.2.2.2.1) (by omega) ?_
  have e : pu_wo (sl_cnt M c v) but (M (c + 2) 0).toNat = pu_hv D g w but := by
    have en : (M (c + 2) 0).toNat = dN D := by omega
    rw [en]
    refine pu_wo_eq (dN D) (fun k hk => ?_)
    show pu_cnt (M v 2) (M (c + 5) (M v 2)) (M (v + 1) k) k = pu_cnt g (df_ D g) (w k) k
    rw [hg.1, pu_cnt_g (dm_fear hd hg.2), hs.2.2.2.1 k (by omega) (by omega)]
  rw [e]
  exact h
theorem sp_hv {d : Nat} {M : am_M} {f : Int → am_M → Prop} {r g but : Int} {D : dm_D} {w : Int → Int} (hd : rg_is M D) (hr : rw_ok M D r w) (hg : -1 ≤ g ∧ g < 4 ∧ g < dG D) (h : f (pu_hv D g w but) M) : am_cal pg (d + 2) 226 [(2, 152), (0, r), (0, g), (0, but)] sh_T M (am_c0 sh_T f) := by
  have hn := hd.2.1
  have h6 := hd.1.1
  refine sp_worstAt (rg_cn hd) (rw_ro hr) (vm4 hg) ?_
  have e : pu_wo (ro_cnt M r g) but (M 174 3).toNat = pu_hv D g w but := by
    have en : (M 174 3).toNat = dN D := by omega
    rw [en]
    refine pu_wo_eq (dN D) (fun k hk => ?_)
    show pu_cnt g (M 178 (4 + g)) (ro M r k) k = pu_cnt g (df_ D g) (w k) k
    rw [pu_cnt_g (rg_fear hd hg), hr.2.1 k (by omega) (by omega)]
  rw [e]
  exact h
theorem st_mk {d : Nat} {M : am_M} {f : Int → am_M → Prop} {c v a g k x : Int} {D : dm_D} {w : Int → Int} (hd : dm_ok M c D) (hs : sm_ok M D v a g w) (hk : 0 ≤ k ∧ k < 6) (hx : 0 ≤ x ∧ x < 3) (h : ∀ M', dr_bf c M M' → f (pu_made (dO D x) w 6 k (dB D a)) M') : am_cal pg (d + 4) 32 [(2, c), (2, v), (0, k), (0, x)] sh_T M (am_c0 sh_T f) := by
  have ha := hs.2.1
  have hb := hd.2.2.2.2.2.2.1 a ha.2.1 ha.2.2
  have hb9 := hd.2.1.2.2 a ha.2.1 ha.2.2
  refine st_becomes hd.1 hs.1 (we_ok_eq (we_eq_sy hs.2.2.2.1) hs.2.2.2.2.1) hk hx (by omega) (by rw [ha.1, hb]; exact hb9) (dm_sum hd hx) (fun M' hf => ?_)
  rw [ha.1, hb, pu_made_eq (by decide) hs.2.2.2.1 hk]
  exact h M' hf
theorem sp_mk {d : Nat} {M : am_M} {f : Int → am_M → Prop} {r a k x : Int} {D : dm_D} {w : Int → Int} (hd : rg_is M D) (hr : rw_ok M D r w) (ha : 0 ≤ a ∧ a < 4 ∧ a < dA D) (hk : 0 ≤ k ∧ k < 6) (hx : 0 ≤ x ∧ x < 3) (h : ∀ M', rf_mf M M' → f (pu_made (dO D x) w 6 k (dB D a)) M') : am_cal pg (d + 3) 227 [(2, 152), (0, x), (0, r), (0, k), (0, a)] sh_T M (am_c0 sh_T f) := by
  have hn := hd.2.1
  have hb := hd.2.2.2.2.2.1 a ha.1 ha.2
  have hb9 := hd.1.2.2 a ha.1 ha.2
  refine sp_made hx (rg_cn hd) (rw_ro hr) hk (v4 ha) (by rw [hb]; exact hb9) (rg_sum hd hx) (fun M' hf => ?_)
  have en : (M 174 3).toNat = dN D := by omega
  rw [en, hb, pu_made_eq hd.1.1 hr.2.1 hk, ← pu_made_6 hd.1.1 hr.2.2.1 hr.2.2.2]
  exact h M' hf
theorem sc_bf {M M' : am_M} {c : Int} (hc : dr_is c) (h : dr_bf c M M') : sc_fr M M' := fun x j y => by
  unfold sc_ at y
  rcases hc with rfl | rfl <;> exact h x j (by omega) (by omega) (by omega) (by omega)
theorem sc_mf {M M' : am_M} (h : rf_mf M M') : sc_fr M M' := fun x j y => by
  unfold sc_ at y
  exact h x j (by omega) (by omega) (by omega)
theorem sp_lays {d : Nat} {M : am_M} {f : am_M → Prop} {a g : Int} {D : dm_D} {w : Int → Int} (hd : rg_is M D) (hs : rs_ok M D a g w) (h : ∀ M', sc_fr M M' → rg_is M' D → rs_ok M' D a g w → rw_ok M' D 0 w → f M') : am_cal pg (d + 2) 218 [(2, 152), (0, a), (0, 0)] sh_T M (am_cv sh_T f) := by
  refine sp_laysNow (v4 hs.1) (by decide) (h _ (fun x j y => ?_) (rg_is_fr (fun x j x1 x2 => ?_) hd) (rs_ok_fr (fun j => ?_) hs) ⟨by decide, fun k k0 k1 => ?_, hs.2.2.2⟩)
  · unfold sc_ at y
    rw [am_rs_el (by omega)]
  · rw [am_rs_el (by omega)]
  · rw [am_rs_el (by decide)]
  · show am_rs M 187 0 _ 6 187 (0 + k) = w k
    rw [am_rs_at (by omega) (by omega), show 0 + k - 0 = k by omega]
    exact hs.2.2.1 k k0 k1
def pu_nh (D : dm_D) (W : Int → Int → Int) : Nat → Int
  | 0 => 0
  | n + 1 => pu_nh D W n + am_b (pu_home D (W n))
theorem pu_nh_le {D : dm_D} {W : Int → Int → Int} : ∀ n : Nat, 0 ≤ pu_nh D W n ∧ pu_nh D W n ≤ n
  | 0 => ⟨Int.le_refl _, Int.le_refl _⟩
  | n + 1 => by
    have ih := pu_nh_le (D := D) (W := W) n
    have q := am_b_01 (p := pu_home D (W n))
    unfold pu_nh
    omega
theorem st_countHome {d : Nat} {M : am_M} {f : Int → am_M → Prop} {D : dm_D} {G : Int → Int} {W : Int → Int → Int} (hb : bt_ok M D G W) (h : f (pu_nh D W (M 174 4).toNat) M) : am_cal pg (d + 3) 163 [(2, 0)] sh_T M (am_c0 sh_T f) := by
  have h3 := hb.2.2.1
  have go : ∀ (n k : Nat), k + n = (M 174 4).toNat → am_g 11 0 co_X11_countHome (d + 2) (am_c0 sh_T f) 4 [(2, 0), (0, pu_nh D W k), (0, (k : Int))] [] sh_T M := by
    intro n
    induction n with
    | zero =>
      intro k hk
      refine bk_X11_countHome_4 ⟨dr_ob hb.1.1, st_count hb.1.1 ?_⟩
      rw [if_pos (by decide), h3.1.1]
      refine ⟨fun _ => am_c0_i ?_, fun z => by omega⟩
      rw [show k = (M 174 4).toNat by omega]
      exact h
    | succ n ih =>
      intro k hk
      have hle := pu_nh_le (D := D) (W := W) k
      refine bk_X11_countHome_4 ⟨dr_ob hb.1.1, st_count hb.1.1 ?_⟩
      rw [if_pos (by decide), h3.1.1]
      refine ⟨fun z => by omega, fun _ => ⟨fun z => by omega, fun _ => ⟨⟨by omega, by omega⟩, dr_ob hb.1.1, st_home hb.1 (hb.2.2.2.2 k (by omega) (by omega)).1 ⟨fun z => ⟨⟨by omega, by omega⟩, ?_⟩, fun z => ⟨⟨by omega, by omega⟩, ⟨by omega, by omega⟩, ?_⟩⟩⟩⟩⟩
      · have e : pu_nh D W (k + 1) = pu_nh D W k := by
          show pu_nh D W k + am_b (pu_home D (W k)) = _
          rw [z]; omega
        have q := ih (k + 1) (by omega)
        rw [e] at q
        exact q
      · have e : pu_nh D W (k + 1) = pu_nh D W k + 1 := by
          show pu_nh D W k + am_b (pu_home D (W k)) = _
          rw [am_b_1 (am_b_nz z)]
        have q := ih (k + 1) (by omega)
        rw [e] at q
        exact q
  exact en_X11_countHome (bk_X11_countHome_0 (go _ 0 (Nat.zero_add _)))
theorem sp_atHome {d : Nat} {M : am_M} {f : Int → am_M → Prop} {D : dm_D} {G : Int → Int} {W : Int → Int → Int} (hd : rg_is M D) (hm : M 174 4 = dA D ∧ 0 ≤ M 174 4 ∧ M 174 4 ≤ 4) (hs : ∀ a : Int, 0 ≤ a → (a < 4 ∧ a < dA D) → rs_ok M D a (G a) (W a)) (h : ∀ M', sc_fr M M' → f (pu_nh D W (M 174 4).toNat) M') : am_cal pg (d + 4) 231 [(2, 152)] sh_T M (am_c0 sh_T f) := by
  have go : ∀ (n k : Nat), k + n = (M 174 4).toNat → ∀ M1, sc_fr M M1 → rg_is M1 D → (∀ a : Int, 0 ≤ a → (a < 4 ∧ a < dA D) → rs_ok M1 D a (G a) (W a)) → am_g 12 0 co_X12_atHome (d + 3) (am_c0 sh_T f) 4 [(2, 152), (0, pu_nh D W k), (0, (k : Int))] [] sh_T M1 := by
    intro n
    induction n with
    | zero =>
      intro k hk M1 p1 p2 p3
      refine bk_X12_atHome_4 (sp_dreamerMany ?_)
      rw [p1 174 4 (by unfold sc_; omega)]
      refine ⟨fun _ => am_c0_i ?_, fun z => by omega⟩
      rw [show k = (M 174 4).toNat by omega]
      exact h M1 p1
    | succ n ih =>
      intro k hk M1 p1 p2 p3
      have hle := pu_nh_le (D := D) (W := W) k
      refine bk_X12_atHome_4 (sp_dreamerMany ?_)
      rw [p1 174 4 (by unfold sc_; omega)]
      refine ⟨fun z => by omega, fun _ => sp_lays p2 (p3 k (by omega) (by omega)) (fun M3 q1 q2 q3 q4 => sp_home q2 q4 ⟨fun z => ⟨⟨by omega, by omega⟩, ?_⟩, fun z => ⟨⟨by omega, by omega⟩, ⟨by omega, by omega⟩, ?_⟩⟩)⟩
      · have e : pu_nh D W (k + 1) = pu_nh D W k := by
          show pu_nh D W k + am_b (pu_home D (W k)) = _
          rw [z]; omega
        have q := ih (k + 1) (by omega) M3 (sc_tr p1 q1) q2 (fun a a0 a1 => rs_ok_fr (fun j => q1 186 j (by unfold sc_; omega)) (p3 a a0 a1))
        rw [e] at q
        exact q
      · have e : pu_nh D W (k + 1) = pu_nh D W k + 1 := by
          show pu_nh D W k + am_b (pu_home D (W k)) = _
          rw [am_b_1 (am_b_nz z)]
        have q := ih (k + 1) (by omega) M3 (sc_tr p1 q1) q2 (fun a a0 a1 => rs_ok_fr (fun j => q1 186 j (by unfold sc_; omega)) (p3 a a0 a1))
        rw [e] at q
        exact q
  exact en_X12_atHome (bk_X12_atHome_0 (go _ 0 (Nat.zero_add _) M sc_rf hd hs))
theorem qu_has {d : Nat} {M : am_M} {D : dm_D} {G : Int → Int} {W : Int → Int → Int} {a : Int} (hb : bt_ok M D G W) (hk : M 46 2 = M 152 58) : qu_two (d + 7) 130 232 [(0, a)] M := by
  have h3 := hb.2.2.1
  have hd := hb.1
  have hg := hb.2.1
  refine en_X11_has (bk_X11_has_0 ⟨fun q => ?_, fun q => ?_, fun q => ?_, fun q => ?_, fun q => ?_, fun q => ?_, fun q => ?_, fun q => ?_, fun q => ?_⟩)
  · refine am_c0_i ⟨sc_rf, en_X12_has (bk_X12_has_0 ⟨fun _ => am_c0_i ⟨rfl, sc_rf⟩, fun z => by omega, fun z => by omega, fun z => by omega, fun z => by omega, fun z => by omega, fun z => by omega, fun z => by omega, fun z => by omega⟩)⟩
  · refine ⟨dr_ob hd.1, st_count hd.1 ?_⟩
    rw [if_pos (by decide)]
    refine am_c0_i ⟨sc_rf, en_X12_has (bk_X12_has_0 ⟨fun z => by omega, fun _ => sp_dreadMany (am_c0_i ⟨?_, sc_rf⟩), fun z => by omega, fun z => by omega, fun z => by omega, fun z => by omega, fun z => by omega, fun z => by omega, fun z => by omega⟩)⟩
    exact hd.2.2.1.trans hg.2.1.symm
  · refine ⟨dr_ob hd.1, st_count hd.1 ?_⟩
    rw [if_pos (by decide)]
    exact am_c0_i ⟨sc_rf, en_X12_has (bk_X12_has_0 ⟨fun z => by omega, fun z => by omega, fun _ => sp_dreamerMany (am_c0_i ⟨h3.1.1, sc_rf⟩), fun z => by omega, fun z => by omega, fun z => by omega, fun z => by omega, fun z => by omega, fun z => by omega⟩)⟩
  · refine ⟨dr_ob hd.1, st_count hd.1 ?_⟩
    rw [if_pos (by decide)]
    exact am_c0_i ⟨sc_rf, en_X12_has (bk_X12_has_0 ⟨fun z => by omega, fun z => by omega, fun z => by omega, fun _ => sp_guideMany (am_c0_i ⟨hb.2.2.2.1.1.1, sc_rf⟩), fun z => by omega, fun z => by omega, fun z => by omega, fun z => by omega, fun z => by omega⟩)⟩
  · subst q
    exact ⟨dr_ob hd.1, am_c0_i ⟨sc_rf, en_X12_has (bk_X12_has_0 ⟨fun z => by omega, fun z => by omega, fun z => by omega, fun z => by omega, fun _ => ⟨by decide, sp_settingOf (by decide) (by decide) (am_c0_i ⟨hd.2.2.2.1.trans hg.2.2.1.symm, sc_rf⟩)⟩, fun z => by omega, fun z => by omega, fun z => by omega, fun z => by omega⟩)⟩⟩
  · subst q
    exact ⟨dr_ob hd.1, am_c0_i ⟨sc_rf, en_X12_has (bk_X12_has_0 ⟨fun z => by omega, fun z => by omega, fun z => by omega, fun z => by omega, fun z => by omega, fun _ => ⟨by decide, sp_settingOf (by decide) (by decide) (am_c0_i ⟨hd.2.2.2.2.1.trans hg.2.2.2.1.symm, sc_rf⟩)⟩, fun z => by omega, fun z => by omega, fun z => by omega⟩)⟩⟩
  · subst q
    exact ⟨dr_ob hd.1, am_c0_i ⟨sc_rf, en_X12_has (bk_X12_has_0 ⟨fun z => by omega, fun z => by omega, fun z => by omega, fun z => by omega, fun z => by omega, fun z => by omega, fun _ => ⟨by decide, sp_settingOf (by decide) (by decide) (am_c0_i ⟨hd.2.2.2.2.2.1.trans hg.2.2.2.2.1.symm, sc_rf⟩)⟩, fun z => by omega, fun z => by omega⟩)⟩⟩
  · exact st_countHome hb (am_c0_i ⟨sc_rf, en_X12_has (bk_X12_has_0 ⟨fun z => by omega, fun z => by omega, fun z => by omega, fun z => by omega, fun z => by omega, fun z => by omega, fun z => by omega, fun _ => sp_atHome hg ⟨h3.1.2, h3.2⟩ (fun a a0 a1 => (hb.2.2.2.2 a a0 a1).2) (fun M' hf => am_c0_i ⟨rfl, hf⟩), fun z => by omega⟩)⟩)
  · exact am_c0_i ⟨sc_rf, en_X12_has (bk_X12_has_0 ⟨fun z => by omega, fun z => by omega, fun z => by omega, fun z => by omega, fun z => by omega, fun z => by omega, fun z => by omega, fun z => by omega, fun _ => am_c0_i ⟨hk, sc_rf⟩⟩)⟩
theorem qu_guide {d : Nat} {M : am_M} {D : dm_D} {G : Int → Int} {W : Int → Int → Int} {a : Int} (hb : bt_ok M D G W) : qu_two (d + 7) 134 236 [(0, a)] M := by
  have h4 := hb.2.2.2.1
  have hd := hb.1
  have hg := hb.2.1
  refine en_X11_guide (bk_X11_guide_0 ⟨dr_ob hd.1, st_isThere hd.1 (by decide) ?_⟩)
  rw [h4.1.1]
  refine ⟨fun q => am_c0_i ⟨sc_rf, en_X12_guide (bk_X12_guide_0 (sp_guideMany ⟨⟨by omega, by omega⟩, sp_isIn ⟨fun z => am_c0_i ⟨rfl, sc_rf⟩, fun z => ?_⟩⟩))⟩, fun q => ?_⟩
  · have y := am_b_nz z
    have x := am_b_z.mp q
    omega
  · have y := am_b_nz q
    refine ⟨dr_ob hd.1, st_dreadOf hd.1 y.1 (by omega) (am_c0_i ⟨sc_rf, en_X12_guide (bk_X12_guide_0 (sp_guideMany ⟨⟨by omega, by omega⟩, sp_isIn ⟨fun z => ?_, fun z => ⟨⟨by omega, by omega⟩, ⟨by omega, by omega⟩, am_c0_i ⟨?_, sc_rf⟩⟩⟩⟩))⟩)⟩
    · have x := am_b_z.mp z
      omega
    · rw [hd.2.2.2.2.2.2.2.1 a y.1 (by omega), hg.2.2.2.2.2.2.1 a y.1 (by omega)]
