/-! HAND IN HAND in the reference; the same answers on both sides -/
theorem rw_fr {M M' : am_M} {D : dm_D} {r : Int} {w : Int → Int} (h : ∀ k : Int, 0 ≤ k → k < 6 → M' 187 (r + k) = M 187 (r + k)) (hr : rw_ok M D r w) : rw_ok M' D r w := ⟨hr.1, fun k k0 k1 => (h k k0 k1).trans (hr.2.1 k k0 k1), hr.2.2⟩
theorem rw_put {M : am_M} {D : dm_D} {r k x j : Int} {w : Int → Int} (h : rw_ok M D r w) (hk : k < dN D) (hx : 0 ≤ x ∧ x ≤ 999) (hj : j = r + k) : rw_ok (am_up M 187 j x) D r (pu_up w k x) := by
  refine ⟨h.1, fun i i0 i1 => ?_, pu_up_ok h.2.2.1 hx, pu_up_z hk h.2.2.2⟩
  show am_up M 187 j x 187 (r + i) = _
  unfold pu_up
  by_cases e : i = k
  · rw [if_pos e, e, hj]; exact am_up_at
  · rw [if_neg e, am_up_el (by omega)]
    exact h.2.1 i i0 i1
theorem sp_lays_at {d : Nat} {M : am_M} {f : am_M → Prop} {a g r : Int} {D : dm_D} {w : Int → Int} (hr : 0 ≤ r ∧ r ≤ 1490) (hs : rs_ok M D a g w) (h : ∀ M', (∀ x j, ¬ (x = 187 ∧ r ≤ j ∧ j < r + 6) → M' x j = M x j) → rw_ok M' D r w → f M') : am_cal pg (d + 2) 218 [(2, 152), (0, a), (0, r)] sh_T M (am_cv sh_T f) := by
  refine sp_laysNow (v4 hs.1) hr (h _ (fun x j y => ?_) ⟨hr, fun k k0 k1 => ?_, hs.2.2.2⟩)
  · by_cases e : x = 187
    · subst e
      exact am_rs_out (by omega)
    · rw [am_rs_el e]
  · show am_rs M 187 r _ 6 187 (r + k) = w k
    rw [am_rs_at (by omega) (by omega), show r + k - r = k by omega]
    exact hs.2.2.1 k k0 k1
def hd_ans (D : dm_D) (a b : Int) (p : (Int → Int) × (Int → Int)) (k : Int) (T : Nat) : Int := if hd_home D (hk D a b p T) then (if k = -1 then (T : Int) else if 0 ≤ k ∧ k < T then hd_x D (hk D a b p k.toNat) else -1) else -1
theorem sp_hand_40 {d : Nat} {M : am_M} {f : Int → am_M → Prop} {D : dm_D} {a b g u k : Int} {p : (Int → Int) × (Int → Int)} (hd : rg_is M D) (h1 : rs_ok M D a g p.1) (h2 : rs_ok M D b u p.2) (hk0 : -1 ≤ k) (h : ∀ (T : Nat) (M' : am_M), hk_is D a b p T → sc_fr M M' → f (hd_ans D a b p k T) M') : am_g 12 0 co_X12_hand (d + 4) (am_c0 sh_T f) 40 [(2, 152), (0, a), (0, b), (0, k), (3, 0), (3, 0), (3, 0)] [] sh_T M := by
  have ha := h1.1
  have hb := h2.1
  have fin : ∀ (T : Nat) (M1 : am_M) (v5 : Int), hk_is D a b p T → sc_fr M M1 → rg_is M1 D → rw_ok M1 D 0 (hk D a b p T).1 → rw_ok M1 D 7 (hk D a b p T).2 → v5 = (if 0 ≤ k ∧ k < T then hd_x D (hk D a b p k.toNat) else -1) → am_g 12 0 co_X12_hand (d + 4) (am_c0 sh_T f) 142 [(2, 152), (3, 0), (3, 0), (0, k), (0, (T : Int)), (0, v5), (3, 0)] [] sh_T M1 := by
    intro T M1 v5 x1 x2 x3 x4 x5 x6
    have q := h T M1 x1 x2
    unfold hd_ans at q
    refine bk_X12_hand_142 (sp_home x3 x4 ⟨fun y => bk_X12_hand_159 (am_c0_i ?_), fun y => sp_home x3 x5 ⟨fun z => ⟨fun e => am_c0_i ?_, fun e => am_c0_i ?_⟩, fun z => bk_X12_hand_159 (am_c0_i ?_)⟩⟩)
    · rw [if_neg (fun e => am_b_z.mp y e.1)] at q; exact q
    · rw [if_pos ⟨am_b_nz y, am_b_nz z⟩, if_neg e, ← x6] at q; exact q
    · rw [if_pos ⟨am_b_nz y, am_b_nz z⟩, if_pos e] at q; exact q
    · rw [if_neg (fun e => am_b_z.mp z e.2)] at q; exact q
  have go : ∀ (n i : Nat) (v5 : Int), i + n = 200 → ∀ M1 : am_M, (∀ t : Nat, t < i → ¬ hd_home D (hk D a b p t)) → sc_fr M M1 → rg_is M1 D → rw_ok M1 D 0 (hk D a b p i).1 → rw_ok M1 D 7 (hk D a b p i).2 → v5 = (if 0 ≤ k ∧ k < i then hd_x D (hk D a b p k.toNat) else -1) → am_g 12 0 co_X12_hand (d + 4) (am_c0 sh_T f) 59 [(2, 152), (0, a), (0, b), (0, k), (0, (i : Int)), (0, v5), (3, 0)] [] sh_T M1 := by
    intro n
    induction n with
    | zero =>
      intro i v5 hi M1 p1 p2 p3 p4 p5 p6
      exact bk_X12_hand_59 ⟨fun _ => fin i M1 v5 ⟨by omega, p1, fun z => by omega⟩ p2 p3 p4 p5 p6, fun z => by omega⟩
    | succ n ih =>
      intro i v5 hi M1 p1 p2 p3 p4 p5 p6
      have on : ¬ hd_home D (hk D a b p i) → am_g 12 0 co_X12_hand (d + 4) (am_c0 sh_T f) 84 [(2, 152), (0, a), (0, b), (0, k), (0, (i : Int)), (0, v5), (3, 0)] [] sh_T M1 := by
        intro hh
        have hn0 := hd_away p3.1 p4.2.2 p5.2.2 hh
        have hx := hd_x_in (p := hk D a b p i) hn0
        have h6 := p3.1.1
        have nx : ∀ y : Int, y = (if 0 ≤ k ∧ k < ((i + 1 : Nat) : Int) then hd_x D (hk D a b p k.toNat) else -1) → am_g 12 0 co_X12_hand (d + 4) (am_c0 sh_T f) 100 [(2, 152), (0, a), (0, b), (0, k), (0, (i : Int)), (0, y), (0, hd_x D (hk D a b p i))] [] sh_T M1 := by
          intro y hy
          refine bk_X12_hand_100 (sp_mk p3 p4 ha (by omega) (by decide) (fun M2 f2 => ⟨⟨by omega, by omega⟩, ⟨by omega, by omega⟩, ?_⟩))
          have m1 := pu_made_le (o := dO D 0) (n := 6) (k := hd_x D (hk D a b p i)) (b := dB D a) p4.2.2.1 (by omega)
          have m2 := pu_made_le (o := dO D 0) (n := 6) (k := hd_x D (hk D a b p i)) (b := dB D b) p5.2.2.1 (by omega)
          have a2 : rw_ok M2 D 0 (hk D a b p i).1 := rw_fr (fun k _ _ => f2 187 _ (by decide) (by decide) (by omega)) p4
          have b2 : rw_ok M2 D 7 (hk D a b p i).2 := rw_fr (fun k _ _ => f2 187 _ (by decide) (by decide) (by omega)) p5
          have g2 : rg_is M2 D := rg_is_fr (fun x j x1 x2 => f2 x j (by omega) (by omega) (by omega)) p3
          have a3 := rw_put (j := hd_x D (hk D a b p i)) a2 hx.2 m1 (by omega)
          have b3 : rw_ok (am_up M2 187 (hd_x D (hk D a b p i)) (pu_made (dO D 0) (hk D a b p i).1 6 (hd_x D (hk D a b p i)) (dB D a))) D 7 (hk D a b p i).2 := rw_fr (fun k _ _ => am_up_el (by omega)) b2
          have g3 : rg_is (am_up M2 187 (hd_x D (hk D a b p i)) (pu_made (dO D 0) (hk D a b p i).1 6 (hd_x D (hk D a b p i)) (dB D a))) D := rg_is_fr (fun x j x1 x2 => am_up_el (by omega)) g2
          have f3 : sc_fr M (am_up M2 187 (hd_x D (hk D a b p i)) (pu_made (dO D 0) (hk D a b p i).1 6 (hd_x D (hk D a b p i)) (dB D a))) := fun x j y => by
            have e := sc_tr p2 (sc_mf f2) x j y
            unfold sc_ at y
            rw [am_up_el (by omega)]
            exact e
          generalize am_up M2 187 (hd_x D (hk D a b p i)) (pu_made (dO D 0) (hk D a b p i).1 6 (hd_x D (hk D a b p i)) (dB D a)) = M3 at a3 b3 g3 f3 ⊢
          refine sp_mk g3 b3 hb (by omega) (by decide) (fun M4 f4 => ⟨⟨by omega, by omega⟩, ⟨by omega, by omega⟩, ih (i + 1) y (by omega) _ ?_ ?_ ?_ ?_ ?_ hy⟩)
          · intro t ht
            by_cases e : t = i
            · rw [e]; exact hh
            · exact p1 t (by omega)
          · intro x j z
            have e := sc_tr f3 (sc_mf f4) x j z
            unfold sc_ at z
            rw [am_up_el (by omega)]
            exact e
          · exact rg_is_fr (fun x j x1 x2 => by rw [am_up_el (by omega), f4 x j (by omega) (by omega) (by omega)]) g3
          · exact rw_fr (fun k k0 k1 => by rw [am_up_el (by omega), f4 187 _ (by decide) (by decide) (by omega)]) a3
          · exact rw_put (rw_fr (fun k _ _ => f4 187 _ (by decide) (by decide) (by omega)) b3) hx.2 m2 rfl
        refine bk_X12_hand_84 (sp_worstOfTwo p3 p4 p5 ⟨fun e => nx v5 ?_, fun e => nx _ ?_⟩)
        · rw [p6]
          by_cases y : 0 ≤ k ∧ k < i
          · rw [if_pos y, if_pos (by omega)]
          · rw [if_neg y, if_neg (by omega)]
        · rw [if_pos (by omega), show k.toNat = i by omega]
      refine bk_X12_hand_59 ⟨fun z => by omega, fun _ => sp_home p3 p4 ⟨fun y => on (fun e => am_b_z.mp y e.1), fun y => sp_home p3 p5 ⟨fun z => fin i M1 v5 ⟨by omega, p1, fun _ => ⟨am_b_nz y, am_b_nz z⟩⟩ p2 p3 p4 p5 p6, fun z => on (fun e => am_b_z.mp z e.2)⟩⟩⟩
  refine bk_X12_hand_40 (sp_lays_at (by decide) h1 (fun M1 f1 r1 => sp_lays_at (by decide) (rs_ok_fr (fun j => f1 186 j (by omega)) h2) (fun M2 f2 r2 => go 200 0 (-1) rfl M2 (fun t ht => by omega) (fun x j y => ?_) (rg_is_fr (fun x j x1 x2 => by rw [f2 x j (by omega), f1 x j (by omega)]) hd) (rw_fr (fun k k0 k1 => f2 _ _ (by omega)) r1) r2 (by rw [if_neg (by omega)]))))
  unfold sc_ at y
  rw [f2 x j (by omega), f1 x j (by omega)]
theorem qu_hand {d : Nat} {M : am_M} {D : dm_D} {G : Int → Int} {W : Int → Int → Int} {a b k : Int} (hb : bt_ok M D G W) : qu_two (d + 7) 143 254 [(0, a), (0, b), (0, k)] M := by
  have h3 := hb.2.2.1
  refine en_X11_hand (bk_X11_hand_0 (st_isDreamer hb ⟨fun q => ?_, fun q => st_isDreamer hb ⟨fun q2 => ?_, fun q2 => ⟨fun q3 => ?_, fun q3 => ?_⟩⟩⟩))
  · exact am_c0_i ⟨sc_rf, en_X12_hand (bk_X12_hand_0 (sp_isDreamer h3.2 ⟨fun y => bk_X12_hand_38 (am_c0_i ⟨rfl, sc_rf⟩), fun y => absurd q y⟩))⟩
  · exact am_c0_i ⟨sc_rf, en_X12_hand (bk_X12_hand_0 (sp_isDreamer h3.2 ⟨fun y => absurd y q, fun y => sp_isDreamer h3.2 ⟨fun y => bk_X12_hand_38 (am_c0_i ⟨rfl, sc_rf⟩), fun y => absurd q2 y⟩⟩))⟩
  · have ha := am_b_nz q
    have hbb := am_b_nz q2
    have h5 := hb.2.2.2.2 a ha.1 (by omega)
    have h6 := hb.2.2.2.2 b hbb.1 (by omega)
    refine ⟨⟨by omega, by omega⟩, ⟨by omega, by omega⟩, st_goTogether (p := (W a, W b)) hb.1 h5.1 h6.1 (by omega) (by omega) (fun T M' w1 w2 w3 w4 => ?_)⟩
    have hb1 := bt_ok_fr w4 hb
    have e4 : M' 174 4 = M 174 4 := w4 174 4 (by unfold sc_; omega)
    have hT := w1.1
    have key : ∀ z : Int, z = hd_ans D a b (W a, W b) k T → am_cal pg (d + 7) 254 [(2, 152), (0, a), (0, b), (0, k)] sh_T M' (am_c0 sh_T fun y M2 => z = y ∧ sc_fr M M2) := by
      intro z hz
      have h55 := hb1.2.2.2.2 a ha.1 (by omega)
      have h66 := hb1.2.2.2.2 b hbb.1 (by omega)
      have on : -1 ≤ k → am_g 12 0 co_X12_hand (d + 6) (am_c0 sh_T fun y M2 => z = y ∧ sc_fr M M2) 40 [(2, 152), (0, a), (0, b), (0, k), (3, 0), (3, 0), (3, 0)] [] sh_T M' := fun hk => sp_hand_40 (p := (W a, W b)) hb1.2.1 h55.2 h66.2 hk (fun S M2 x1 x2 => by
        have e := hk_is_eq x1 w1
        subst e
        exact ⟨hz, sc_tr w4 x2⟩)
      refine en_X12_hand (bk_X12_hand_0 (sp_isDreamer (by rw [e4]; exact h3.2) ⟨fun y => ?_, fun _ => sp_isDreamer (by rw [e4]; exact h3.2) ⟨fun y => ?_, fun _ => ⟨fun y => absurd y q3, fun _ => ⟨fun y => on (by omega), fun y => sp_isIn ⟨fun x => on (by have := am_b_nz x; omega), fun x => bk_X12_hand_38 (am_c0_i ⟨?_, w4⟩)⟩⟩⟩⟩⟩))
      · rw [e4] at y
        exact absurd ha (am_b_z.mp y)
      · rw [e4] at y
        exact absurd hbb (am_b_z.mp y)
      · have x' := am_b_z.mp x
        rw [hz]
        unfold hd_ans
        by_cases hh : hd_home D (hk D a b (W a, W b) T)
        · rw [if_pos hh, if_neg y, if_neg (by omega)]
        · rw [if_neg hh]
    unfold hd_ans at key
    refine ⟨fun y => am_c0_i ⟨w4, key _ ?_⟩, fun y => ⟨fun x => st_dreadIn (am_c0_i ⟨w4, key _ ?_⟩), fun x => am_c0_i ⟨w4, key _ ?_⟩⟩⟩
    · by_cases hh : hd_home D (hk D a b (W a, W b) T)
      · rw [if_pos hh, if_pos hh, if_pos y]
      · rw [if_neg hh, if_neg hh]
    · have hh : hd_home D (hk D a b (W a, W b) T) := Classical.byContradiction fun z => x (if_neg z)
      rw [if_pos hh, if_neg y, w2]
      by_cases z : 0 ≤ k ∧ k < (T : Int)
      · rw [if_pos z, if_pos ⟨z.1, z.2, by omega⟩]
        have e := w3 k.toNat (by omega)
        rw [show ((k.toNat : Nat) : Int) = k by omega] at e
        exact e
      · rw [if_neg z, if_neg (by omega)]
    · by_cases hh : hd_home D (hk D a b (W a, W b) T)
      · rw [if_pos hh] at x
        omega
      · rw [if_neg hh, if_neg hh]
  · exact am_c0_i ⟨sc_rf, en_X12_hand (bk_X12_hand_0 (sp_isDreamer h3.2 ⟨fun y => absurd y q, fun y => sp_isDreamer h3.2 ⟨fun y => absurd y q2, fun y => ⟨fun _ => bk_X12_hand_38 (am_c0_i ⟨rfl, sc_rf⟩), fun y => absurd q3 y⟩⟩⟩))⟩
