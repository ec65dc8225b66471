/-! BOTH OBJECTS OF ONE DREAM: what is scratch; the answers over the walk ahead -/
/-- cells that no answer hangs on: readers, reckoners' stacks, walkers, ways, fates; the reference's reader, pile and rows -/
def sc_ (x j : Int) : Prop := (3 ≤ x ∧ x ≤ 10) ∨ (19 ≤ x ∧ x ≤ 21) ∨ (32 ≤ x ∧ x ≤ 34) ∨ ((x = 17 ∨ x = 30) ∧ j = 3) ∨ (x = 88 ∧ 2 ≤ j ∧ j ≤ 3) ∨ (89 ≤ x ∧ x ≤ 148) ∨ (183 ≤ x ∧ x ≤ 185) ∨ (187 ≤ x ∧ x ≤ 190) ∨ (211 ≤ x ∧ x ≤ 213) ∨ (x = 1 ∧ (j = 2 ∨ (5 ≤ j ∧ j ≤ 7))) ∨ (x = 152 ∧ ((2 ≤ j ∧ j ≤ 6) ∨ (9 ≤ j ∧ j ≤ 57) ∨ (63 ≤ j ∧ j ≤ 92)))
def sc_fr (M M' : am_M) : Prop := ∀ x j, ¬ sc_ x j → M' x j = M x j
theorem sc_rf {M : am_M} : sc_fr M M := fun _ _ _ => rfl
theorem sc_tr {M M1 M2 : am_M} (h : sc_fr M M1) (k : sc_fr M1 M2) : sc_fr M M2 := fun x j y => (k x j y).trans (h x j y)
theorem sc_go {M M' : am_M} {c : Int} (hc : dr_is c) (h : go_fr c M M') : sc_fr M M' := fun x j y => by
  unfold sc_ at y
  rcases hc with rfl | rfl <;> exact h x j (by omega) (by omega) (by omega) (by omega) (by omega) (by omega)
theorem sc_ga {M M' : am_M} (h : ga_fr M M') : sc_fr M M' := fun x j y => by
  unfold sc_ at y
  exact h x j (by omega) (by omega) (by omega) (by omega) (by omega)
/-- both hold the dream D, its sleepers guided by G, with the weights W -/
def bt_ok (M : am_M) (D : dm_D) (G : Int → Int) (W : Int → Int → Int) : Prop := dm_ok M (M 0 4) D ∧ rg_is M D ∧ ((M (M 0 4 + 2) 1 = M 174 4 ∧ M 174 4 = dA D) ∧ 0 ≤ M 174 4 ∧ M 174 4 ≤ 4) ∧ ((M (M 0 4 + 2) 2 = M 174 5 ∧ M 174 5 = dG D) ∧ 0 ≤ M 174 5 ∧ M 174 5 ≤ 4) ∧ ∀ a : Int, 0 ≤ a → (a < 4 ∧ a < dA D) → sm_ok M D (37 + 1 + 2 * a) a (G a) (W a) ∧ rs_ok M D a (G a) (W a)
theorem rs_ok_fr {M M' : am_M} {D : dm_D} {a g : Int} {w : Int → Int} (h : ∀ j, M' 186 j = M 186 j) (hs : rs_ok M D a g w) : rs_ok M' D a g w :=
  ⟨hs.1, ⟨(h _).trans hs.2.1.1, hs.2.1.2⟩, fun k k0 k1 => (h _).trans (hs.2.2.1 k k0 k1), hs.2.2.2⟩
theorem bt_ok_fr {M M' : am_M} {D : dm_D} {G : Int → Int} {W : Int → Int → Int} (hf : sc_fr M M') (h : bt_ok M D G W) : bt_ok M' D G W := by
  obtain ⟨h1, h2, h3, h4, h5⟩ := h
  have e0 : M' 0 4 = M 0 4 := hf 0 4 (by unfold sc_; omega)
  have e174 : ∀ j, M' 174 j = M 174 j := fun j => hf 174 j (by unfold sc_; omega)
  have hcc := h1.1
  refine ⟨?_, rg_is_fr (fun x j x1 x2 => hf x j (by unfold sc_; omega)) h2, ?_, ?_, fun a a0 a1 => ⟨sm_ok_fr ?_ ?_ ?_ (h5 a a0 a1).1, rs_ok_fr (fun j => hf 186 j (by unfold sc_; omega)) (h5 a a0 a1).2⟩⟩
  · rw [e0]
    refine dm_ok_fr (fun x j x1 x2 x3 x4 x5 x6 => hf x j ?_) h1
    unfold sc_
    unfold dr_is at hcc
    omega
  · rw [e0, e174, hf (M 0 4 + 2) 1 (by unfold sc_; unfold dr_is at hcc; omega)]; exact h3
  · rw [e0, e174, hf (M 0 4 + 2) 2 (by unfold sc_; unfold dr_is at hcc; omega)]; exact h4
  · exact hf _ _ (by unfold sc_; omega)
  · exact hf _ _ (by unfold sc_; omega)
  · intro j
    exact hf _ _ (by unfold sc_; omega)
/-- the class's answer, then the reference's: alike, and nothing but scratch written -/
def qu_two (d mc mr : Nat) (As : List am_V) (M : am_M) : Prop := am_cal pg d mc ((2, 0) :: As) sh_T M (am_c0 sh_T fun x M1 => sc_fr M M1 ∧ am_cal pg d mr ((2, 152) :: As) sh_T M1 (am_c0 sh_T fun y M2 => x = y ∧ sc_fr M M2))
theorem st_isDreamer {d : Nat} {M : am_M} {f : Int → am_M → Prop} {D : dm_D} {G : Int → Int} {W : Int → Int → Int} {a : Int} (hb : bt_ok M D G W) (h : f (am_b (0 ≤ a ∧ a < M 174 4)) M) : am_cal pg (d + 3) 161 [(2, 0), (0, a)] sh_T M (am_c0 sh_T f) := by
  have h3 := hb.2.2.1
  refine en_X11_isDreamer (bk_X11_isDreamer_0 ⟨fun q => am_c0_i ?_, fun q => ⟨dr_ob hb.1.1, st_isThere hb.1.1 (by decide) ?_⟩⟩)
  · rw [am_b_0 (by omega)] at h; exact h
  · rw [h3.1.1]
    refine ⟨fun z => am_c0_i ?_, fun z => am_c0_i ?_⟩
    · rw [am_b_0 (am_b_z.mp z)] at h; exact h
    · rw [am_b_1 (Classical.byContradiction fun y => z (am_b_0 y))] at h; exact h
theorem st_isDread {d : Nat} {M : am_M} {f : Int → am_M → Prop} {D : dm_D} {G : Int → Int} {W : Int → Int → Int} {a : Int} (hb : bt_ok M D G W) (h : f (am_b (0 ≤ a ∧ a < M 174 3)) M) : am_cal pg (d + 3) 162 [(2, 0), (0, a)] sh_T M (am_c0 sh_T f) := by
  refine en_X11_isDread (bk_X11_isDread_0 ⟨dr_ob hb.1.1, st_isThere hb.1.1 (by decide) ⟨am_b_01, am_c0_i ?_⟩⟩)
  rw [show M (M 0 4 + 2) 0 = M 174 3 from hb.1.2.2.1.trans hb.2.1.2.1.symm]
  exact h
theorem am_b_nz {p : Prop} [Decidable p] (h : ¬ am_b p = 0) : p := Classical.byContradiction fun y => h (am_b_0 y)
theorem qu_till {d : Nat} {M : am_M} {D : dm_D} {G : Int → Int} {W : Int → Int → Int} {a : Int} (hb : bt_ok M D G W) : qu_two (d + 7) 137 240 [(0, a)] M := by
  have h3 := hb.2.2.1
  refine en_X11_till (bk_X11_till_0 (st_isDreamer hb ⟨fun q => ?_, fun q => ?_⟩))
  · have ha := am_b_nz q
    have h5 := hb.2.2.2.2 a ha.1 (by omega)
    refine ⟨⟨by omega, by omega⟩, st_go hb.1 h5.1 (by omega) (fun T M' w1 w2 w3 w4 w5 w6 w7 => ?_)⟩
    have hf1 := sc_go hb.1.1 w7
    have hb1 := bt_ok_fr hf1 hb
    have key : ∀ z : Int, z = (if pu_home D (wk D a (G a) (W a) T) then (T : Int) else -1) → am_cal pg (d + 7) 240 [(2, 152), (0, a)] sh_T M' (am_c0 sh_T fun y M2 => z = y ∧ sc_fr M M2) := by
      intro z hz
      have e4 : M' 174 4 = M 174 4 := hf1 174 4 (by unfold sc_; omega)
      refine en_X12_till (bk_X12_till_0 (sp_isDreamer (by rw [e4]; exact h3.2) ⟨fun _ => ?_, fun y => ?_⟩))
      · refine sp_goesAhead hb1.2.1 (hb1.2.2.2.2 a ha.1 (by omega)).2 (fun S M2 x1 x2 x3 x4 x5 x6 => ?_)
        have eT := wk_is_eq x1 w1
        subst eT
        have hf2 := sc_tr hf1 (sc_ga x6)
        have hs := x1.1
        refine ⟨by rw [x3]; exact ⟨by omega, by omega⟩, ?_⟩
        rw [x3]
        refine sp_home x2 ⟨⟨by omega, by omega⟩, fun k k0 k1 => x4 S (Nat.le_refl _) k k0 k1, wk_ok hb.1.2.1 h5.1.2.2.2.2 S x1.2.1⟩ ⟨fun y => am_c0_i ⟨?_, hf2⟩, fun y => am_c0_i ⟨?_, hf2⟩⟩
        · rw [hz, if_neg (am_b_z.mp y)]
        · rw [hz, if_pos (am_b_nz y)]; exact x3.symm
      · rw [e4] at y
        exact absurd ha (am_b_z.mp y)
    rw [w4, w3]
    refine ⟨fun y => am_c0_i ⟨hf1, key _ (by rw [if_neg (am_b_z.mp y)])⟩, fun y => am_c0_i ⟨hf1, key _ (by rw [if_pos (am_b_nz y)])⟩⟩
  · refine am_c0_i ⟨sc_rf, en_X12_till (bk_X12_till_0 (sp_isDreamer h3.2 ⟨fun y => absurd q y, fun y => am_c0_i ⟨rfl, sc_rf⟩⟩))⟩
theorem st_dreadIn {d : Nat} {M : am_M} {f : Int → am_M → Prop} {k : Int} (h : f (if 0 ≤ k ∧ k < M 88 2 ∧ k < 200 then M 90 k else -1) M) : am_cal pg (d + 1) 6 [(2, 88), (0, k)] sh_T M (am_c0 sh_T f) := by
  refine en_X1_dreadIn (bk_X1_dreadIn_0 ⟨fun q => am_c0_i ?_, fun q => ⟨fun q2 => am_c0_i ?_, fun q2 => ⟨fun q3 => am_c0_i ?_, fun q3 => ⟨⟨by omega, by omega⟩, am_c0_i ?_⟩⟩⟩⟩)
  · rw [if_neg (by omega)] at h; exact h
  · rw [if_neg (by omega)] at h; exact h
  · rw [if_neg (by omega)] at h; exact h
  · rw [if_pos ⟨q, q2, q3⟩] at h; exact h
theorem st_weightAt {d : Nat} {M : am_M} {f : Int → am_M → Prop} {t k : Int} (h0 : 0 ≤ t ∧ t ≤ 200) (h1 : 0 ≤ k ∧ k < 6) (h : f (M 89 (6 * t + k)) M) : am_cal pg (d + 1) 7 [(2, 88), (0, t), (0, k)] sh_T M (am_c0 sh_T f) := by
  refine en_X1_weightAt (bk_X1_weightAt_0 ⟨⟨by omega, by omega⟩, ⟨by omega, by omega⟩, fun q => by omega, fun q => ⟨fun q2 => by omega, fun q2 => ⟨⟨by omega, by omega⟩, am_c0_i ?_⟩⟩⟩)
  rw [show t * 6 + k = 6 * t + k by omega]
  exact h
theorem qu_room {d : Nat} {M : am_M} {D : dm_D} {G : Int → Int} {W : Int → Int → Int} {a k : Int} (hb : bt_ok M D G W) : qu_two (d + 7) 135 238 [(0, a), (0, k)] M := by
  have h3 := hb.2.2.1
  refine en_X11_room (bk_X11_room_0 (st_isDreamer hb ⟨fun q => ?_, fun q => ?_⟩))
  · have ha := am_b_nz q
    have h5 := hb.2.2.2.2 a ha.1 (by omega)
    refine ⟨⟨by omega, by omega⟩, st_go hb.1 h5.1 (by omega) (fun T M' w1 w2 w3 w4 w5 w6 w7 => ?_)⟩
    have hf1 := sc_go hb.1.1 w7
    have hb1 := bt_ok_fr hf1 hb
    have e4 : M' 174 4 = M 174 4 := hf1 174 4 (by unfold sc_; omega)
    have hT := w1.1
    refine st_dreadIn (am_c0_i ⟨hf1, en_X12_room (bk_X12_room_0 (sp_isDreamer (by rw [e4]; exact h3.2) ⟨fun y => ?_, fun _ => sp_isIn ⟨fun y => ?_, fun y => am_c0_i ⟨?_, hf1⟩⟩⟩))⟩)
    · rw [e4] at y
      exact absurd ha (am_b_z.mp y)
    · have hk := am_b_nz y
      refine sp_goesAhead hb1.2.1 (hb1.2.2.2.2 a ha.1 (by omega)).2 (fun S M2 x1 x2 x3 x4 x5 x6 => ?_)
      have eT := wk_is_eq x1 w1
      subst eT
      have hf2 := sc_tr hf1 (sc_ga x6)
      rw [w3, x3]
      refine ⟨fun z => am_c0_i ⟨if_neg (by omega), hf2⟩, fun z => ⟨⟨by omega, by omega⟩, am_c0_i ⟨?_, hf2⟩⟩⟩
      rw [if_pos ⟨hk.1, z, by omega⟩]
      have g1 := w6 k.toNat (by omega)
      have g2 := x5 k.toNat (by omega)
      rw [show ((k.toNat : Nat) : Int) = k by omega] at g1 g2
      rw [g1, g2]
    · have := am_b_z.mp y
      exact if_neg (by omega)
  · refine am_c0_i ⟨sc_rf, en_X12_room (bk_X12_room_0 (sp_isDreamer h3.2 ⟨fun y => am_c0_i ⟨rfl, sc_rf⟩, fun y => absurd q y⟩))⟩
theorem qu_later {d : Nat} {M : am_M} {D : dm_D} {G : Int → Int} {W : Int → Int → Int} {a b k : Int} (hb : bt_ok M D G W) : qu_two (d + 7) 136 239 [(0, a), (0, b), (0, k)] M := by
  have h3 := hb.2.2.1
  have hcn := rg_cn hb.2.1
  have hcn0 := hcn
  unfold rf_cn at hcn0
  refine en_X11_later (bk_X11_later_0 (st_isDreamer hb ⟨fun q => ?_, fun q => st_isDread hb ⟨fun q2 => ?_, fun q2 => ⟨fun q3 => ?_, fun q3 => ⟨fun q4 => ?_, fun q4 => ?_⟩⟩⟩⟩))
  · refine am_c0_i ⟨sc_rf, en_X12_later (bk_X12_later_0 (sp_isDreamer h3.2 ⟨fun y => am_c0_i ⟨rfl, sc_rf⟩, fun y => absurd q y⟩))⟩
  · refine am_c0_i ⟨sc_rf, en_X12_later (bk_X12_later_0 (sp_isDreamer h3.2 ⟨fun y => absurd y q, fun y => sp_isDread hcn ⟨fun y => am_c0_i ⟨rfl, sc_rf⟩, fun y => absurd q2 y⟩⟩))⟩
  · refine am_c0_i ⟨sc_rf, en_X12_later (bk_X12_later_0 (sp_isDreamer h3.2 ⟨fun y => absurd y q, fun y => sp_isDread hcn ⟨fun y => absurd y q2, fun y => sp_isIn ⟨fun z => ?_, fun z => am_c0_i ⟨rfl, sc_rf⟩⟩⟩⟩))⟩
    have := am_b_nz z
    omega
  · have ha := am_b_nz q
    have hbb := am_b_nz q2
    have h5 := hb.2.2.2.2 a ha.1 (by omega)
    refine ⟨⟨by omega, by omega⟩, st_go hb.1 h5.1 (by omega) (fun T M' w1 w2 w3 w4 w5 w6 w7 => ?_)⟩
    have hf1 := sc_go hb.1.1 w7
    have hb1 := bt_ok_fr hf1 hb
    have e4 : M' 174 4 = M 174 4 := hf1 174 4 (by unfold sc_; omega)
    have e3 : M' 174 3 = M 174 3 := hf1 174 3 (by unfold sc_; omega)
    have hT := w1.1
    have hb6 : b < 6 := by omega
    refine st_min (st_weightAt (by rw [w3]; split <;> omega) ⟨hbb.1, hb6⟩ (am_c0_i ⟨hf1, en_X12_later (bk_X12_later_0 (sp_isDreamer (by rw [e4]; exact h3.2) ⟨fun y => ?_, fun _ => sp_isDread (rg_cn hb1.2.1) ⟨fun y => ?_, fun _ => sp_isIn ⟨fun y => ?_, fun y => ?_⟩⟩⟩))⟩))
    · rw [e4] at y
      exact absurd ha (am_b_z.mp y)
    · rw [e3] at y
      exact absurd hbb (am_b_z.mp y)
    · refine sp_goesAhead hb1.2.1 (hb1.2.2.2.2 a ha.1 (by omega)).2 (fun S M2 x1 x2 x3 x4 x5 x6 => ?_)
      have eT := wk_is_eq x1 w1
      subst eT
      have hf2 := sc_tr hf1 (sc_ga x6)
      rw [w3, x3]
      refine ⟨fun z => ⟨⟨by omega, by omega⟩, ⟨by omega, by omega⟩, ⟨by omega, by omega⟩, am_c0_i ⟨?_, hf2⟩⟩, fun z => ⟨⟨by omega, by omega⟩, ⟨by omega, by omega⟩, ⟨by omega, by omega⟩, am_c0_i ⟨?_, hf2⟩⟩⟩
      · rw [x4 S (Nat.le_refl _) b hbb.1 hb6, ← w5 S (Nat.le_refl _) b hbb.1 hb6]
        by_cases y : (S : Int) < k
        · rw [if_pos y]
        · rw [if_neg y, show k = (S : Int) by omega]
      · have g1 := w5 k.toNat (by omega) b hbb.1 hb6
        have g2 := x4 k.toNat (by omega) b hbb.1 hb6
        rw [show ((k.toNat : Nat) : Int) = k by omega] at g1 g2
        rw [if_neg (by omega), g1, g2]
    · have := am_b_z.mp y
      omega
  · refine am_c0_i ⟨sc_rf, en_X12_later (bk_X12_later_0 (sp_isDreamer h3.2 ⟨fun y => absurd y q, fun y => sp_isDread hcn ⟨fun y => absurd y q2, fun y => sp_isIn ⟨fun z => ?_, fun z => am_c0_i ⟨rfl, sc_rf⟩⟩⟩⟩))⟩
    have := am_b_nz z
    omega
