/-! AGAINST THE DREAM: the same answers on both sides -/
theorem sp_isSafe {d : Nat} {M : am_M} {f : Int → am_M → Prop} {a g : Int} {D : dm_D} {w : Int → Int} {n : Nat} (hn : n ≤ 3) (hS : 0 ≤ dS D ∧ dS D ≤ 1000000) (hd : rg_is M D) (hs : rs_ok M D a g w) (hw : rw_ok M D 28 w) (h1 : ∀ M', sc_fr M M' → es D a g n w → f 1 M') (h0 : ∀ M', sc_fr M M' → ¬ es D a g n w → f 0 M') : am_cal pg (d + 9) 255 [(2, 152), (0, 28), (0, (n : Int)), (0, a)] sh_T M (am_c0 sh_T f) := by
  have yes : pu_home D w → f 1 M := fun y => h1 M sc_rf (by cases n with
    | zero => exact y
    | succ m => exact Or.inl y)
  refine en_X12_isSafe (bk_X12_isSafe_0 (sp_home hd hw ⟨fun z => ⟨fun q => ⟨fun q2 => ⟨fun q3 => ?_, fun q3 => ?_⟩, fun q2 => ?_⟩, fun q => ?_⟩, fun z => am_c0_i (yes (am_b_nz z))⟩))
  · have e : n = 3 := by omega
    subst e
    have hh := am_b_z.mp z
    exact sp_isSafeByThree hS (by decide) hd hs hw hh (fun M' k y => ⟨Or.inr rfl, am_c0_i (h1 M' k.1 (Or.inr y))⟩) (fun M' k y => ⟨Or.inl rfl, am_c0_i (h0 M' k.1 (fun x => x.elim hh y))⟩)
  · have e : n = 2 := by omega
    subst e
    have hh := am_b_z.mp z
    exact sp_isSafeByTwo hS (by decide) hd hs hw hh (fun M' k y => ⟨Or.inr rfl, am_c0_i (h1 M' k.1 (Or.inr y))⟩) (fun M' k y => ⟨Or.inl rfl, am_c0_i (h0 M' k.1 (fun x => x.elim hh y))⟩)
  · have e : n = 1 := by omega
    subst e
    have hh := am_b_z.mp z
    exact sp_isSafeByOne hS (by decide) hd hs hw hh (fun M' k y => ⟨Or.inr rfl, am_c0_i (h1 M' k.1 (Or.inr y))⟩) (fun M' k y => ⟨Or.inl rfl, am_c0_i (h0 M' k.1 (fun x => x.elim hh y))⟩)
  · have e : n = 0 := by omega
    subst e
    exact am_c0_i (h0 M sc_rf (fun x => (am_b_z (p := pu_home D w)).mp z x))
theorem sp_against {d : Nat} {M : am_M} {f : Int → am_M → Prop} {a g : Int} {D : dm_D} {w : Int → Int} {n : Nat} (hn : n ≤ 3) (hS : 0 ≤ dS D ∧ dS D ≤ 1000000) (hd : rg_is M D) (hs : rs_ok M D a g w) (hm : 0 ≤ M 174 4 ∧ M 174 4 ≤ 4) (ha : 0 ≤ a ∧ a < M 174 4) (h1 : ∀ M', sc_fr M M' → es D a g n w → f 1 M') (h0 : ∀ M', sc_fr M M' → ¬ es D a g n w → f 0 M') : am_cal pg (d + 10) 261 [(2, 152), (0, a), (0, (n : Int))] sh_T M (am_c0 sh_T f) := by
  refine en_X12_against (bk_X12_against_0 (sp_isDreamer hm ⟨fun z => absurd ha (am_b_z.mp z), fun _ => sp_isIn ⟨fun _ => sp_lays_at (by decide) hs (fun M1 f1 w1 => ?_), fun z => ?_⟩⟩))
  · have k1 : sc_fr M M1 := fun x j y => by
      unfold sc_ at y
      exact f1 x j (by omega)
    have d1 : rg_is M1 D := rg_is_fr (fun x j x1 x2 => f1 x j (by omega)) hd
    have s1 : rs_ok M1 D a g w := rs_ok_fr (fun j => f1 186 j (by omega)) hs
    exact sp_isSafe hn hS d1 s1 w1 (fun M' k y => ⟨fun x => absurd x (by decide), fun _ => am_c0_i (h1 M' (sc_tr k1 k) y)⟩) (fun M' k y => ⟨fun _ => am_c0_i (h0 M' (sc_tr k1 k) y), fun x => absurd rfl x⟩)
  · have := am_b_z.mp z
    omega
theorem qu_against {d : Nat} {M : am_M} {D : dm_D} {G : Int → Int} {W : Int → Int → Int} {a n : Int} (hb : bt_ok M D G W) (hS : 0 ≤ dS D ∧ dS D ≤ 1000000) : qu_two (d + 16) 144 261 [(0, a), (0, n)] M := by
  have h3 := hb.2.2.1
  refine en_X11_against (bk_X11_against_0 (st_isDreamer hb ⟨fun q => ?_, fun q => ⟨fun q3 => ?_, fun q3 => ⟨fun q4 => ?_, fun q4 => ?_⟩⟩⟩))
  · exact am_c0_i ⟨sc_rf, en_X12_against (bk_X12_against_0 (sp_isDreamer h3.2 ⟨fun y => am_c0_i ⟨rfl, sc_rf⟩, fun y => absurd q y⟩))⟩
  · refine am_c0_i ⟨sc_rf, en_X12_against (bk_X12_against_0 (sp_isDreamer h3.2 ⟨fun y => absurd y q, fun _ => sp_isIn ⟨fun z => ?_, fun z => am_c0_i ⟨rfl, sc_rf⟩⟩⟩))⟩
    have := am_b_nz z
    omega
  · have ha := am_b_nz q
    have h5 := hb.2.2.2.2 a ha.1 (by omega)
    obtain ⟨m, rfl⟩ : ∃ m : Nat, n = m := ⟨n.toNat, by omega⟩
    refine ⟨⟨by omega, by omega⟩, en_X4_canBeHome (bk_X4_canBeHome_0 (st_copy sl_130 h5.1.1 (by omega) (by omega) (by omega) ?_))⟩
    have c1 : sm_ok (sl_cp M 130 (37 + 1 + 2 * a)) D 130 a (G a) (W a) := cp_ok sl_130 h5.1
    have cf : sc_fr M (sl_cp M 130 (37 + 1 + 2 * a)) := fun x j y => by
      unfold sc_ at y
      exact cp_fr (by omega) (by omega)
    generalize sl_cp M 130 (37 + 1 + 2 * a) = M1 at c1 cf ⊢
    have hb1 := bt_ok_fr cf hb
    have e0 : M1 0 4 = M 0 4 := cf 0 4 (by unfold sc_; omega)
    have d1 : dm_ok M1 (M 0 4) D := by have := hb1.1; rw [e0] at this; exact this
    have key : ∀ (M2 : am_M) (z : Int), sc_fr M M2 → (es D a (G a) m (W a) → z = 1) → (¬ es D a (G a) m (W a) → z = 0) → am_cal pg (d + 16) 261 [(2, 152), (0, a), (0, (m : Int))] sh_T M2 (am_c0 sh_T fun y M3 => z = y ∧ sc_fr M M3) := fun M2 z k z1 z0 => by
      have hb2 := bt_ok_fr k hb
      have e4 : M2 174 4 = M 174 4 := k 174 4 (by unfold sc_; omega)
      exact sp_against (by omega) hS hb2.2.1 (hb2.2.2.2.2 a ha.1 (by omega)).2 (by rw [e4]; exact h3.2) (by rw [e4]; exact ha) (fun M3 k3 y => ⟨z1 y, sc_tr k k3⟩) (fun M3 k3 y => ⟨z0 y, sc_tr k k3⟩)
    exact st_escapes (n := m) (by omega) hS m 0 M1 (W a) (d + 14) _ (by omega) d1 (by exact c1) (by omega)
      (fun M2 k y => ⟨Or.inr rfl, am_c0_i ⟨fun x => absurd x (by decide), fun _ => am_c0_i ⟨sc_tr cf k.1, key M2 1 (sc_tr cf k.1) (fun _ => rfl) (fun x => absurd y x)⟩⟩⟩)
      (fun M2 k y => ⟨Or.inl rfl, am_c0_i ⟨fun _ => am_c0_i ⟨sc_tr cf k.1, key M2 0 (sc_tr cf k.1) (fun x => absurd x y) (fun _ => rfl)⟩, fun x => absurd rfl x⟩⟩)
  · refine am_c0_i ⟨sc_rf, en_X12_against (bk_X12_against_0 (sp_isDreamer h3.2 ⟨fun y => absurd y q, fun _ => sp_isIn ⟨fun z => ?_, fun z => am_c0_i ⟨rfl, sc_rf⟩⟩⟩))⟩
    have := am_b_nz z
    omega
