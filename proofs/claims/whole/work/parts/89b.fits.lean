/-! FITS: the same answers on both sides -/
/-- what is told, alike on both sides -/
def to_ok (M : am_M) (D : dm_D) : Prop := (¬ (0 ≤ M 0 13 ∧ M 0 13 < M 174 4) ∧ M 152 61 = 0) ∨ (∃ R : Nat, (1 ≤ R ∧ R ≤ 20) ∧ M 152 61 = R ∧ M 0 12 = R ∧ M 0 13 = M 152 62 ∧ (0 ≤ M 152 62 ∧ M 152 62 < M 174 4) ∧ ∀ t : Nat, t < R → M 149 t = M 192 t ∧ 0 ≤ M 192 t ∧ M 192 t < dN D)
theorem to_ok_fr {M M' : am_M} {D : dm_D} (hf : sc_fr M M') (h : to_ok M D) : to_ok M' D := by
  have e1 : M' 0 13 = M 0 13 := hf 0 13 (by unfold sc_; omega)
  have e2 : M' 0 12 = M 0 12 := hf 0 12 (by unfold sc_; omega)
  have e3 : M' 152 61 = M 152 61 := hf 152 61 (by unfold sc_; omega)
  have e4 : M' 152 62 = M 152 62 := hf 152 62 (by unfold sc_; omega)
  have e5 : M' 174 4 = M 174 4 := hf 174 4 (by unfold sc_; omega)
  unfold to_ok
  rw [e1, e2, e3, e4, e5]
  rcases h with h | ⟨R, h1, h2, h3, h4, h5, h6⟩
  · exact Or.inl h
  · refine Or.inr ⟨R, h1, h2, h3, h4, h5, fun t ht => ?_⟩
    rw [hf 149 t (by unfold sc_; omega), hf 192 t (by unfold sc_; omega)]
    exact h6 t ht
def fi_ans (what c f l : Int) : Int := if what = 0 then c else if what = 1 then f else l
theorem fi_yes {P : Int → Prop} {n : Nat} {c f l : Int} (h : fi_is P n c f l) (hp : P n) : fi_is P (n + 1) (c + 1) (if f = -1 then (n : Int) else f) n := ⟨c, f, l, h, Or.inl ⟨hp, rfl, rfl, rfl⟩⟩
theorem fi_no {P : Int → Prop} {n : Nat} {c f l : Int} (h : fi_is P n c f l) (hp : ¬ P n) : fi_is P (n + 1) c f l := ⟨c, f, l, h, Or.inr ⟨hp, rfl, rfl, rfl⟩⟩
theorem qu_fits {d : Nat} {M : am_M} {D : dm_D} {G : Int → Int} {W : Int → Int → Int} {x what : Int} (hb : bt_ok M D G W) (ht : to_ok M D) : qu_two (d + 8) 154 276 [(0, x), (0, what)] M := by
  have h3 := hb.2.2.1
  have hcn := rg_cn hb.2.1
  refine en_X11_fits (bk_X11_fits_0 (st_isDreamer hb ⟨fun q => ?_, fun q => ?_⟩))
  · have q' := am_b_z.mp q
    have hz : M 152 61 = 0 := by
      rcases ht with h | ⟨R, h1, h2, h3, h4, h5, h6⟩
      · exact h.2
      · rw [h4] at q'
        exact absurd h5 q'
    exact am_c0_i ⟨sc_rf, en_X12_fits (bk_X12_fits_0 ⟨fun _ => am_c0_i ⟨rfl, sc_rf⟩, fun y => absurd hz y⟩)⟩
  · have q' := am_b_nz q
    rcases ht with h | ⟨R, hR, hc, hcc, hw, hwa, hrow⟩
    · exact absurd q' h.1
    · have hnz : ¬ M 152 61 = 0 := by rw [hc]; omega
      have h5 := hb.2.2.2.2 (M 152 62) hwa.1 (by omega)
      refine st_isDread hb ⟨fun q2 => ?_, fun q2 => ⟨fun q3 => ?_, fun q3 => ⟨fun q4 => ?_, fun q4 => ?_⟩⟩⟩
      · exact am_c0_i ⟨sc_rf, en_X12_fits (bk_X12_fits_0 ⟨fun y => absurd y hnz, fun _ => sp_isDread hcn ⟨fun _ => am_c0_i ⟨rfl, sc_rf⟩, fun y => absurd q2 y⟩⟩)⟩
      · refine am_c0_i ⟨sc_rf, en_X12_fits (bk_X12_fits_0 ⟨fun y => absurd y hnz, fun _ => sp_isDread hcn ⟨fun y => absurd y q2, fun _ => sp_isIn ⟨fun z => ?_, fun z => am_c0_i ⟨rfl, sc_rf⟩⟩⟩⟩)⟩
        have := am_b_nz z
        omega
      · have hx := am_b_nz q2
        have hn := hb.2.1.2.1
        have hxD : x < dN D := by omega
        -- the reference, at its loop
        have rgo : ∀ (P : Int → Prop), (P = fun n => fo D (M 152 62) (G (M 152 62)) (pu_up (W (M 152 62)) x n) (fun t => M 192 t) R) → ∀ z : Int, (∀ c f l, fi_is P 1000 c f l → z = fi_ans what c f l) → ∀ (m i : Nat), i + m = 1000 → ∀ (M1 : am_M) (c f l : Int), sc_fr M M1 → fi_is P i c f l → am_g 12 0 co_X12_fits (d + 7) (am_c0 sh_T fun y M2 => z = y ∧ sc_fr M M2) 40 [(2, 152), (0, x), (0, what), (0, c), (0, f), (0, l), (0, (i : Int))] [] sh_T M1 := by
          intro P hP z hz m
          induction m with
          | zero =>
            intro i hi M1 c f l hf hfi
            have e : i = 1000 := by omega
            subst e
            have k := hz c f l hfi
            unfold fi_ans at k
            refine bk_X12_fits_40 ⟨fun _ => ⟨fun y => ⟨fun y2 => am_c0_i ⟨?_, hf⟩, fun y2 => am_c0_i ⟨?_, hf⟩⟩, fun y => am_c0_i ⟨?_, hf⟩⟩, fun z => by omega⟩
            · rw [if_neg y, if_neg y2] at k; exact k
            · rw [if_neg y, if_pos y2] at k; exact k
            · rw [if_pos y] at k; exact k
          | succ m ih =>
            intro i hi M1 c f l hf hfi
            have hle := fi_is_le i c f l hfi
            have hb1 := bt_ok_fr hf hb
            have e61 : M1 152 61 = R := (hf 152 61 (by unfold sc_; omega)).trans hc
            have e62 : M1 152 62 = M 152 62 := hf 152 62 (by unfold sc_; omega)
            refine bk_X12_fits_40 ⟨fun z => by omega, fun _ => sp_isFitting (row := fun t => M 192 t) (R := R) hb1.2.1 (hb1.2.2.2.2 (M 152 62) hwa.1 (by omega)).2 ⟨hx.1, hxD⟩ (by omega) hR.2 e61 e62 (fun t ht => ⟨hf 192 t (by unfold sc_; omega), (hrow t ht).2⟩) (fun M2 f2 hy => ⟨fun _ => ⟨⟨by omega, by omega⟩, fun y => ⟨⟨by omega, by omega⟩, ih (i + 1) (by omega) M2 _ _ _ (sc_tr hf f2) ?_⟩, fun y => ⟨⟨by omega, by omega⟩, ih (i + 1) (by omega) M2 _ _ _ (sc_tr hf f2) ?_⟩⟩, fun y => absurd y (by decide)⟩) (fun M2 f2 hy => ⟨fun y => absurd rfl y, fun _ => ⟨⟨by omega, by omega⟩, ih (i + 1) (by omega) M2 _ _ _ (sc_tr hf f2) ?_⟩⟩)⟩
            · have k := fi_yes hfi (by rw [hP]; exact hy)
              rw [if_neg y] at k
              exact k
            · have k := fi_yes hfi (by rw [hP]; exact hy)
              rw [if_pos y] at k
              exact k
            · exact fi_no hfi (by rw [hP]; exact hy)
        have ref : ∀ (P : Int → Prop), (P = fun n => fo D (M 152 62) (G (M 152 62)) (pu_up (W (M 152 62)) x n) (fun t => M 192 t) R) → ∀ (M1 : am_M) (z : Int), sc_fr M M1 → (∀ c f l, fi_is P 1000 c f l → z = fi_ans what c f l) → am_cal pg (d + 8) 276 [(2, 152), (0, x), (0, what)] sh_T M1 (am_c0 sh_T fun y M2 => z = y ∧ sc_fr M M2) := by
          intro P hP M1 z hf hz
          have hb1 := bt_ok_fr hf hb
          have e61 : M1 152 61 = M 152 61 := hf 152 61 (by unfold sc_; omega)
          have e3 : M1 174 3 = M 174 3 := hf 174 3 (by unfold sc_; omega)
          refine en_X12_fits (bk_X12_fits_0 ⟨fun y => ?_, fun _ => sp_isDread (rg_cn hb1.2.1) ⟨fun y => ?_, fun _ => sp_isIn ⟨fun y => rgo P hP z hz 1000 0 rfl M1 0 (-1) (-1) hf ⟨rfl, rfl, rfl⟩, fun y => ?_⟩⟩⟩)
          · rw [e61] at y
            exact absurd y hnz
          · rw [e3] at y
            exact absurd hx (am_b_z.mp y)
          · have := am_b_z.mp y
            omega
        -- the class, at its loop
        have go : ∀ (P : Int → Prop), (P = fun n => fo D (M 152 62) (G (M 152 62)) (pu_up (W (M 152 62)) x n) (fun t => M 192 t) R) → ∀ (m i : Nat), i + m = 1000 → ∀ (M1 : am_M) (c f l : Int), sc_fr M M1 → fi_is P i c f l → am_g 11 0 co_X11_fits (d + 7) (am_c0 sh_T fun x1 M1 => sc_fr M M1 ∧ am_cal pg (d + 8) 276 [(2, 152), (0, x), (0, what)] sh_T M1 (am_c0 sh_T fun y M2 => x1 = y ∧ sc_fr M M2)) 41 [(2, 0), (0, x), (0, what), (0, c), (0, f), (0, l), (0, (i : Int))] [] sh_T M1 := by
          intro P hP m
          induction m with
          | zero =>
            intro i hi M1 c f l hf hfi
            have e : i = 1000 := by omega
            subst e
            have k : ∀ c' f' l', fi_is P 1000 c' f' l' → fi_ans what c f l = fi_ans what c' f' l' := fun c' f' l' h => by
              obtain ⟨e1, e2, e3⟩ := fi_is_eq 1000 _ _ _ _ _ _ hfi h
              rw [e1, e2, e3]
            have r := fun z (hz : z = fi_ans what c f l) => ref P hP M1 z hf (fun c' f' l' h => hz.trans (k c' f' l' h))
            unfold fi_ans at r
            refine bk_X11_fits_41 ⟨fun _ => ⟨fun y => ⟨fun y2 => am_c0_i ⟨hf, r _ ?_⟩, fun y2 => am_c0_i ⟨hf, r _ ?_⟩⟩, fun y => am_c0_i ⟨hf, r _ ?_⟩⟩, fun z => by omega⟩
            · rw [if_neg y, if_neg y2]
            · rw [if_neg y, if_pos y2]
            · rw [if_pos y]
          | succ m ih =>
            intro i hi M1 c f l hf hfi
            have hle := fi_is_le i c f l hfi
            have hb1 := bt_ok_fr hf hb
            have e13 : M1 0 13 = M 152 62 := (hf 0 13 (by unfold sc_; omega)).trans hw
            have e12 : M1 0 12 = R := (hf 0 12 (by unfold sc_; omega)).trans hcc
            refine bk_X11_fits_41 ⟨fun z => by omega, fun _ => ⟨by rw [e13]; omega, ?_⟩⟩
            rw [e13, e12]
            refine st_follows (row := fun t => M 192 t) (R := R) hb1.1 (hb1.2.2.2.2 (M 152 62) hwa.1 (by omega)).1 (by omega) ⟨hx.1, hxD⟩ (by omega) hR.2 (fun t ht => ⟨(hf 149 t (by unfold sc_; omega)).trans (hrow t ht).1, (hrow t ht).2.1⟩) (fun M2 f2 hy => ⟨fun y => absurd y (by decide), fun _ => ⟨⟨by omega, by omega⟩, fun y => ⟨⟨by omega, by omega⟩, ih (i + 1) (by omega) M2 _ _ _ (sc_tr hf f2) ?_⟩, fun y => ⟨⟨by omega, by omega⟩, ih (i + 1) (by omega) M2 _ _ _ (sc_tr hf f2) ?_⟩⟩⟩) (fun M2 f2 hy => ⟨fun _ => ⟨⟨by omega, by omega⟩, ih (i + 1) (by omega) M2 _ _ _ (sc_tr hf f2) ?_⟩, fun y => absurd rfl y⟩)
            · have k := fi_yes hfi (by rw [hP]; exact hy)
              rw [if_neg y] at k
              exact k
            · have k := fi_yes hfi (by rw [hP]; exact hy)
              rw [if_pos y] at k
              exact k
            · exact fi_no hfi (by rw [hP]; exact hy)
        exact go _ rfl 1000 0 rfl M 0 (-1) (-1) sc_rf ⟨rfl, rfl, rfl⟩
      · refine am_c0_i ⟨sc_rf, en_X12_fits (bk_X12_fits_0 ⟨fun y => absurd y hnz, fun _ => sp_isDread hcn ⟨fun y => absurd y q2, fun _ => sp_isIn ⟨fun z => ?_, fun z => am_c0_i ⟨rfl, sc_rf⟩⟩⟩⟩)⟩
        have := am_b_nz z
        omega
