/-! A DREAM AS A VALUE: what both objects hold of it; a room and a walk over it -/
/-- how many dreads; home, laugh, spite; the braveries; what the guides fear; the sums of meeting, shunning, day -/
def dm_D : Type := Nat × (Int × Int × Int) × (Int → Int) × (Int → Int) × Option (List Int) × Option (List Int) × Option (List Int) × Int × Int
def dN (D : dm_D) : Nat := D.1
def dH (D : dm_D) : Int := D.2.1.1
def dL (D : dm_D) : Int := D.2.1.2.1
def dS (D : dm_D) : Int := D.2.1.2.2
def dB (D : dm_D) : Int → Int := D.2.2.1
def dF (D : dm_D) : Int → Int := D.2.2.2.1
def dM (D : dm_D) : Option (List Int) := D.2.2.2.2.1
def dP (D : dm_D) : Option (List Int) := D.2.2.2.2.2.1
def dY (D : dm_D) : Option (List Int) := D.2.2.2.2.2.2.1
/-- how many dreamers, guides -/
def dA (D : dm_D) : Int := D.2.2.2.2.2.2.2.1
def dG (D : dm_D) : Int := D.2.2.2.2.2.2.2.2
def dg_ok (D : dm_D) : Prop := dN D ≤ 6 ∧ 0 ≤ dH D ∧ ∀ k : Int, 0 ≤ k → (k < 4 ∧ k < dA D) → 0 ≤ dB D k ∧ dB D k ≤ 9
/-- the class's dream at c holds D -/
def dm_ok (M : am_M) (c : Int) (D : dm_D) : Prop := dr_is c ∧ dg_ok D ∧ M (c + 2) 0 = dN D ∧ M c 5 = dH D ∧ M c 6 = dL D ∧ M c 7 = dS D ∧ (∀ k : Int, 0 ≤ k → (k < 4 ∧ k < dA D) → M (c + 3) k = dB D k) ∧ (∀ k : Int, 0 ≤ k → (k < 4 ∧ k < dG D) → M (c + 5) k = dF D k) ∧ dr_sum M c 0 (dM D) ∧ dr_sum M c 1 (dP D) ∧ dr_sum M c 2 (dY D)
/-- the reference holds D -/
def rg_is (M : am_M) (D : dm_D) : Prop := dg_ok D ∧ M 174 3 = dN D ∧ M 179 3 = dH D ∧ M 179 4 = dL D ∧ M 179 5 = dS D ∧ (∀ k : Int, 0 ≤ k → (k < 4 ∧ k < dA D) → M 176 (4 + k) = dB D k) ∧ (∀ k : Int, 0 ≤ k → (k < 4 ∧ k < dG D) → M 178 (4 + k) = dF D k) ∧ rf_sum M 0 (dM D) ∧ rf_sum M 1 (dP D) ∧ rf_sum M 2 (dY D)
/-- weights that a sleeper of D may have -/
def dw_ok (D : dm_D) (w : Int → Int) : Prop := we_ok w ∧ we_z (dN D) w
/-- the class's sleeper at v: the a-th, guided by g, with the weights w -/
def sm_ok (M : am_M) (D : dm_D) (v a g : Int) (w : Int → Int) : Prop := sl_is v ∧ (M v 1 = a ∧ 0 ≤ a ∧ a < 4 ∧ a < dA D) ∧ (M v 2 = g ∧ -1 ≤ g ∧ g < 4 ∧ g < dG D) ∧ we_eq (M (v + 1)) w ∧ dw_ok D w
/-- the reference's row at r: the weights w -/
def rw_ok (M : am_M) (D : dm_D) (r : Int) (w : Int → Int) : Prop := (0 ≤ r ∧ r ≤ 1490) ∧ we_eq (ro M r) w ∧ dw_ok D w
theorem v4 {a x : Int} (h : 0 ≤ a ∧ a < 4 ∧ a < x) : 0 ≤ a ∧ a < 4 := ⟨h.1, h.2.1⟩
theorem vm4 {a x : Int} (h : -1 ≤ a ∧ a < 4 ∧ a < x) : -1 ≤ a ∧ a < 4 := ⟨h.1, h.2.1⟩
def df_ (D : dm_D) (g : Int) : Int := if g = -1 then 0 else dF D g
def pu_step (D : dm_D) (a g : Int) (round : Bool) (w : Int → Int) : Int → Int := pu_go (dN D) 6 g (df_ D g) (dM D) (dP D) (dB D a) round w
def pu_dread (D : dm_D) (g : Int) (round : Bool) (w : Int → Int) : Int := pu_with (dN D) g (df_ D g) round w
abbrev pu_home (D : dm_D) (w : Int → Int) : Prop := pu_sum w 6 ≤ dH D
theorem pu_cnt_g {g r s w k : Int} (h : g = -1 ∨ r = s) : pu_cnt g r w k = pu_cnt g s w k := by
  rcases h with rfl | rfl
  · unfold pu_cnt; rw [if_pos rfl, if_pos rfl]
  · rfl
theorem pu_wst_g {n : Nat} {g r s : Int} {w : Int → Int} (h : g = -1 ∨ r = s) : pu_wst n g r w = pu_wst n g s w := by
  unfold pu_wst
  rw [show (fun k => pu_cnt g r (w k) k) = (fun k => pu_cnt g s (w k) k) from funext (fun k => pu_cnt_g h)]
theorem pu_snd_g {n : Nat} {g r s : Int} {w : Int → Int} (h : g = -1 ∨ r = s) : pu_snd n g r w = pu_snd n g s w := by
  unfold pu_snd
  rw [pu_wst_g h, show (fun k => pu_cnt g r (w k) k) = (fun k => pu_cnt g s (w k) k) from funext (fun k => pu_cnt_g h)]
theorem pu_go_g {n m : Nat} {g r s b : Int} {om os : Option (List Int)} {round : Bool} {w : Int → Int} (h : g = -1 ∨ r = s) : pu_go n m g r om os b round w = pu_go n m g s om os b round w := by
  unfold pu_go
  rw [pu_wst_g h, pu_snd_g h]
theorem pu_with_g {n : Nat} {g r s : Int} {round : Bool} {w : Int → Int} (h : g = -1 ∨ r = s) : pu_with n g r round w = pu_with n g s round w := by
  unfold pu_with
  rw [pu_wst_g h, pu_snd_g h]
theorem pu_step_ok {D : dm_D} {a g : Int} {round : Bool} {w : Int → Int} (hD : dg_ok D) (h0 : 0 < dN D) (hr : round = true → 1 < dN D) (hw : dw_ok D w) : dw_ok D (pu_step D a g round w) := ⟨pu_go_ok ⟨h0, hD.1⟩ hr hw.1, pu_go_z h0 hr hw.2⟩
theorem pu_step_eq {D : dm_D} {a g : Int} {round : Bool} {w u : Int → Int} (hD : dg_ok D) (h0 : 0 < dN D) (hr : round = true → 1 < dN D) (h : we_eq w u) : we_eq (pu_step D a g round w) (pu_step D a g round u) := pu_go_eq ⟨h0, hD.1⟩ hr (by decide) h
theorem pu_sum_we {w u : Int → Int} {n : Nat} (hn : n ≤ 6) (h : we_eq w u) : pu_sum w n = pu_sum u n := pu_sum_eq n (fun j hj => h j (by omega) (by omega))
theorem pu_sum_0 {w : Int → Int} (h : we_z 0 w) : pu_sum w 6 = 0 := by
  exact (pu_sum_we (u := fun _ : Int => (0 : Int)) (by decide) (fun k k0 k1 => h k (by omega) k1)).trans rfl
theorem pu_away {D : dm_D} {w : Int → Int} (hD : dg_ok D) (hw : dw_ok D w) (h : ¬ pu_home D w) : 0 < dN D := by
  rcases Nat.eq_zero_or_pos (dN D) with q | q
  · refine absurd ?_ h
    have hz := hw.2
    rw [q] at hz
    show pu_sum w 6 ≤ dH D
    rw [pu_sum_0 hz]
    exact hD.2.1
  · exact q
theorem dw_eq {D : dm_D} {w u : Int → Int} (h : we_eq w u) (hw : dw_ok D w) : dw_ok D u := ⟨we_ok_eq h hw.1, fun k k0 k1 => by rw [← h k (by omega) k1]; exact hw.2 k k0 k1⟩
/-- what may be written without touching the class's dream -/
def dm_fr (c : Int) (M M' : am_M) : Prop := ∀ a j, c ≤ a → a ≤ c + 12 → ¬ a = c + 8 → ¬ a = c + 9 → ¬ a = c + 10 → ¬ (a = c + 6 ∧ j = 3) → M' a j = M a j
theorem dm_ok_fr {M M' : am_M} {c : Int} {D : dm_D} (hf : dm_fr c M M') (h : dm_ok M c D) : dm_ok M' c D := by
  obtain ⟨h1, h2, h3, h4, h5, h6, h7, h8, h9, h10, h11⟩ := h
  have e11 : ∀ j, M' (c + 11) j = M (c + 11) j := fun j => hf _ j (by omega) (by omega) (by omega) (by omega) (by omega) (by omega)
  have e12 : ∀ j, M' (c + 12) j = M (c + 12) j := fun j => hf _ j (by omega) (by omega) (by omega) (by omega) (by omega) (by omega)
  have e7 : ∀ j, M' (c + 7) j = M (c + 7) j := fun j => hf _ j (by omega) (by omega) (by omega) (by omega) (by omega) (by omega)
  have e6 : M' (c + 6) 1 = M (c + 6) 1 := hf _ 1 (by omega) (by omega) (by omega) (by omega) (by omega) (by omega)
  refine ⟨h1, h2, ?_, ?_, ?_, ?_, ?_, ?_, dr_sum_fr h1 e11 e12 e6 e7 h9, dr_sum_fr h1 e11 e12 e6 e7 h10, dr_sum_fr h1 e11 e12 e6 e7 h11⟩
  · rw [hf _ _ (by omega) (by omega) (by omega) (by omega) (by omega) (by omega)]; exact h3
  · rw [hf _ _ (by omega) (by omega) (by omega) (by omega) (by omega) (by omega)]; exact h4
  · rw [hf _ _ (by omega) (by omega) (by omega) (by omega) (by omega) (by omega)]; exact h5
  · rw [hf _ _ (by omega) (by omega) (by omega) (by omega) (by omega) (by omega)]; exact h6
  · intro k k0 k1
    rw [hf _ _ (by omega) (by omega) (by omega) (by omega) (by omega) (by omega)]; exact h7 k k0 k1
  · intro k k0 k1
    rw [hf _ _ (by omega) (by omega) (by omega) (by omega) (by omega) (by omega)]; exact h8 k k0 k1
theorem dm_range {M : am_M} {c : Int} {D : dm_D} (h : dm_ok M c D) : 11 ≤ c ∧ c ≤ 24 := by
  rcases h.1 with q | q <;> rw [q] <;> exact ⟨by decide, by decide⟩
/-- a sleeper at home, in the class -/
theorem st_home {d : Nat} {M : am_M} {f : Int → am_M → Prop} {c v a g : Int} {D : dm_D} {w : Int → Int} (hd : dm_ok M c D) (hs : sm_ok M D v a g w) (h : f (am_b (pu_home D w)) M) : am_cal pg (d + 2) 31 [(2, c), (2, v)] sh_T M (am_c0 sh_T f) := by
  refine st_isHome hd.1 hs.1 (we_ok_eq (we_eq_sy hs.2.2.2.1) hs.2.2.2.2.1) ?_
  rw [am_b_eq (show (pu_sum (M (v + 1)) 6 ≤ M c 5) ↔ pu_home D w by rw [pu_sum_we (by decide) hs.2.2.2.1, hd.2.2.2.1])]
  exact h
/-- a room, in the class -/
theorem st_room {d : Nat} {M : am_M} {f : Int → am_M → Prop} {c v a g : Int} {D : dm_D} {w : Int → Int} {round : Bool} (hd : dm_ok M c D) (hs : sm_ok M D v a g w) (hh : ¬ pu_home D w) (hr : round = true → 1 < dN D)
    (h : ∀ M', en_fr c v M M' → dm_ok M' c D → sm_ok M' D v a g (pu_step D a g round w) → f (pu_dread D g round w) M') : am_cal pg (d + 5) 34 [(2, c), (2, v), (0, am_b (round = true))] sh_T M (am_c0 sh_T f) := by
  have hcr := dm_range hd
  have hd0 := hd
  have hs0 := hs
  obtain ⟨h1, h2, h3, h4, h5, h6, h7, h8, h9, h10, h11⟩ := hd
  obtain ⟨s1, ⟨s2, s3, s4⟩, ⟨s5, s6, s7⟩, s8, s9⟩ := hs
  have hvr := s1.2.2.2.2
  have hn0 := pu_away h2 s9 hh
  have hb := h2.2.2 a s3 s4
  have hwo : we_ok (M (v + 1)) := we_ok_eq (we_eq_sy s8) s9.1
  have esum : pu_sum (M (v + 1)) 6 = pu_sum w 6 := pu_sum_we (by decide) s8
  have eg : g = -1 ∨ M (c + 5) g = df_ D g := by
    by_cases q : g = -1
    · exact Or.inl q
    · refine Or.inr ?_
      unfold df_
      rw [if_neg q]
      exact h8 g (by omega) s7
  refine st_enter (om := dM D) (os := dP D) ⟨h1, s1, hwo, ⟨by omega, by omega⟩, ⟨by omega, by omega⟩, by rw [s2, h7 a s3 s4]; exact hb, ⟨by omega, by have := h2.1; omega⟩, h9, h10⟩ ?_ ?_
  · intro q
    refine absurd ⟨?_, ?_⟩ q
    · cases round with
      | false => rw [am_b_0 (by decide)]; omega
      | true => rw [am_b_1 rfl]; have := hr rfl; omega
    · rw [esum, h4]; exact hh
  · intro _ _ M' hf hrow
    have en : (M (c + 2) 0).toNat = dN D := by omega
    rw [en, s5, pu_with_g eg]
    rw [show pu_with (dN D) g (df_ D g) round (M (v + 1)) = pu_dread D g round w from pu_with_eq h2.1 s8]
    refine h M' hf (dm_ok_fr (fun x j p1 p2 p3 p4 p5 p6 => hf x j p3 p4 p5 p6 (by omega)) hd0) ⟨s1, ⟨?_, s3, s4⟩, ⟨?_, s6, s7⟩, ?_, pu_step_ok h2 hn0 hr s9⟩
    · rw [hf v 1 (by omega) (by omega) (by omega) (by omega) (by omega)]; exact s2
    · rw [hf v 2 (by omega) (by omega) (by omega) (by omega) (by omega)]; exact s5
    · intro k k0 k1
      rw [hrow k, en, s5, s2, h7 a s3 s4, pu_go_g eg]
      exact pu_step_eq h2 hn0 hr s8 k k0 k1
/-- what may be written without touching the reference's dream -/
def rg_fr (M M' : am_M) : Prop := ∀ a j, 174 ≤ a → a ≤ 182 → M' a j = M a j
theorem rg_is_fr {M M' : am_M} {D : dm_D} (hf : rg_fr M M') (h : rg_is M D) : rg_is M' D := by
  obtain ⟨h2, h3, h4, h5, h6, h7, h8, h9, h10, h11⟩ := h
  have e0 : ∀ j, M' 180 j = M 180 j := fun j => hf _ j (by decide) (by decide)
  have e1 : ∀ j, M' 181 j = M 181 j := fun j => hf _ j (by decide) (by decide)
  have e2 : ∀ j, M' 182 j = M 182 j := fun j => hf _ j (by decide) (by decide)
  refine ⟨h2, by rw [hf _ _ (by decide) (by decide)]; exact h3, by rw [hf _ _ (by decide) (by decide)]; exact h4, by rw [hf _ _ (by decide) (by decide)]; exact h5, by rw [hf _ _ (by decide) (by decide)]; exact h6, ?_, ?_, rf_sum_fr e0 e1 e2 h9, rf_sum_fr e0 e1 e2 h10, rf_sum_fr e0 e1 e2 h11⟩
  · intro k k0 k1
    rw [hf _ _ (by decide) (by decide)]; exact h7 k k0 k1
  · intro k k0 k1
    rw [hf _ _ (by decide) (by decide)]; exact h8 k k0 k1
theorem rg_cn {M : am_M} {D : dm_D} (h : rg_is M D) : rf_cn M := ⟨by rw [h.2.1]; omega, by rw [h.2.1]; have := h.1.1; omega⟩
theorem rw_ro {M : am_M} {D : dm_D} {r : Int} {w : Int → Int} (h : rw_ok M D r w) : ro_ok M r := ⟨h.1.1, h.1.2, fun k k0 k1 => by have e := h.2.1 k k0 k1; have b := h.2.2.1 k k0 k1; unfold ro at e; omega⟩
/-- at home, in the reference -/
theorem sp_home {d : Nat} {M : am_M} {f : Int → am_M → Prop} {r : Int} {D : dm_D} {w : Int → Int} (hd : rg_is M D) (hr : rw_ok M D r w) (h : f (am_b (pu_home D w)) M) : am_cal pg (d + 3) 224 [(2, 152), (0, r)] sh_T M (am_c0 sh_T f) := by
  refine sp_isHomeAt (rg_cn hd) (rw_ro hr) ?_
  have en : (M 174 3).toNat = dN D := by have := hd.2.1; omega
  rw [am_b_eq (show (pu_sum (ro M r) (M 174 3).toNat ≤ M 179 3) ↔ pu_home D w by rw [en, pu_sum_we hd.1.1 hr.2.1, hd.2.2.1, ← pu_sum_6 hd.1.1 hr.2.2.1 hr.2.2.2])]
  exact h
/-- a room, in the reference -/
theorem sp_room {d : Nat} {M : am_M} {f : Int → am_M → Prop} {r a g : Int} {D : dm_D} {w : Int → Int} {round : Bool} (hd : rg_is M D) (hw : rw_ok M D r w) (ha : 0 ≤ a ∧ a < 4 ∧ a < dA D) (hg : -1 ≤ g ∧ g < 4 ∧ g < dG D) (hh : ¬ pu_home D w) (hr : round = true → 1 < dN D)
    (h : ∀ M', ro_fr r M M' → rg_is M' D → rw_ok M' D r (pu_step D a g round w) → f (pu_dread D g round w) M') : am_cal pg (d + 4) 228 [(2, 152), (0, r), (0, a), (0, g), (0, am_b (round = true))] sh_T M (am_c0 sh_T f) := by
  have hd0 := hd
  obtain ⟨h2, h3, h4, h5, h6, h7, h8, h9, h10, h11⟩ := hd
  have hn0 := pu_away h2 hw.2.2 hh
  have hb := h2.2.2 a ha.1 ha.2
  have en : (M 174 3).toNat = dN D := by omega
  have eg : g = -1 ∨ M 178 (4 + g) = df_ D g := by
    by_cases q : g = -1
    · exact Or.inl q
    · refine Or.inr ?_
      unfold df_
      rw [if_neg q]
      exact h8 g (by omega) hg.2
  refine sp_roomGoes (om := dM D) (os := dP D) ⟨rg_cn hd0, rw_ro hw, ⟨ha.1, ha.2.1⟩, ⟨hg.1, hg.2.1⟩, by rw [h7 a ha.1 ha.2]; exact hb, h9, h10⟩ (by omega) (fun q => by have := hr q; omega) ?_
  intro M' hf hrow
  rw [en, pu_with_g eg, show pu_with (dN D) g (df_ D g) round (ro M r) = pu_dread D g round w from pu_with_eq h2.1 hw.2.1]
  refine h M' hf (rg_is_fr (fun x j p1 p2 => hf x j (by omega) (by omega) (by omega) (by omega)) hd0) ⟨hw.1, ?_, pu_step_ok h2 hn0 hr hw.2.2⟩
  intro k k0 k1
  show M' 187 (r + k) = _
  have hwr : dw_ok D (ro M r) := dw_eq (we_eq_sy hw.2.1) hw.2.2
  rw [hrow k k0 k1, en, h7 a ha.1 ha.2, pu_go_g eg, ← pu_go_6 h2.1 hwr.1 hwr.2]
  exact pu_step_eq h2 hn0 hr hw.2.1 k k0 k1
