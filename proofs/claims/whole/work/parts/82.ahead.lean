/-! THE WALK AHEAD: the same rooms in the class and in the reference -/
def wk (D : dm_D) (a g : Int) (w : Int → Int) : Nat → Int → Int
  | 0 => w
  | t + 1 => pu_step D a g false (wk D a g w t)
def wk_is (D : dm_D) (a g : Int) (w : Int → Int) (T : Nat) : Prop := T ≤ 200 ∧ (∀ t : Nat, t < T → ¬ pu_home D (wk D a g w t)) ∧ (T < 200 → pu_home D (wk D a g w T))
theorem wk_is_eq {D : dm_D} {a g : Int} {w : Int → Int} {T S : Nat} (h : wk_is D a g w T) (k : wk_is D a g w S) : T = S := by
  rcases Nat.lt_trichotomy T S with q | q | q
  · exact absurd (h.2.2 (by have := k.1; omega)) (k.2.1 T q)
  · exact q
  · exact absurd (k.2.2 (by have := h.1; omega)) (h.2.1 S q)
theorem wk_ok {D : dm_D} {a g : Int} {w : Int → Int} (hD : dg_ok D) (hw : dw_ok D w) : ∀ t : Nat, (∀ s : Nat, s < t → ¬ pu_home D (wk D a g w s)) → dw_ok D (wk D a g w t)
  | 0, _ => hw
  | t + 1, h => by
    have ih := wk_ok hD hw t (fun s hs => h s (by omega))
    exact pu_step_ok hD (pu_away hD ih (h t (by omega))) (fun q => by cases q) ih
theorem sm_ok_fr {M M' : am_M} {D : dm_D} {v a g : Int} {w : Int → Int} (h1 : M' v 1 = M v 1) (h2 : M' v 2 = M v 2) (h3 : ∀ j, M' (v + 1) j = M (v + 1) j) (h : sm_ok M D v a g w) : sm_ok M' D v a g w :=
  ⟨h.1, ⟨h1.trans h.2.1.1, h.2.1.2⟩, ⟨h2.trans h.2.2.1.1, h.2.2.1.2⟩, fun k k0 k1 => (h3 k).trans (h.2.2.2.1 k k0 k1), h.2.2.2.2⟩
theorem st_room0 {d : Nat} {M : am_M} {f : Int → am_M → Prop} {c v a g : Int} {D : dm_D} {w : Int → Int} (hd : dm_ok M c D) (hs : sm_ok M D v a g w) (hh : ¬ pu_home D w)
    (h : ∀ M', en_fr c v M M' → dm_ok M' c D → sm_ok M' D v a g (pu_step D a g false w) → f (pu_dread D g false w) M') : am_cal pg (d + 5) 34 [(2, c), (2, v), (0, 0)] sh_T M (am_c0 sh_T f) := by
  have q := st_room (d := d) (f := f) (round := false) hd hs hh (fun z => by cases z) h
  rw [am_b_0 (show ¬ (false = true) by decide)] at q
  exact q
theorem st_room1 {d : Nat} {M : am_M} {f : Int → am_M → Prop} {c v a g : Int} {D : dm_D} {w : Int → Int} (hd : dm_ok M c D) (hs : sm_ok M D v a g w) (hh : ¬ pu_home D w) (hr : 1 < dN D)
    (h : ∀ M', en_fr c v M M' → dm_ok M' c D → sm_ok M' D v a g (pu_step D a g true w) → f (pu_dread D g true w) M') : am_cal pg (d + 5) 34 [(2, c), (2, v), (0, 1)] sh_T M (am_c0 sh_T f) := by
  have q := st_room (d := d) (f := f) (round := true) hd hs hh (fun _ => hr) h
  rw [am_b_1 (show (true = true) by decide)] at q
  exact q
theorem sp_room0 {d : Nat} {M : am_M} {f : Int → am_M → Prop} {r a g : Int} {D : dm_D} {w : Int → Int} (hd : rg_is M D) (hw : rw_ok M D r w) (ha : 0 ≤ a ∧ a < 4 ∧ a < dA D) (hg : -1 ≤ g ∧ g < 4 ∧ g < dG D) (hh : ¬ pu_home D w)
    (h : ∀ M', ro_fr r M M' → rg_is M' D → rw_ok M' D r (pu_step D a g false w) → f (pu_dread D g false w) M') : am_cal pg (d + 4) 228 [(2, 152), (0, r), (0, a), (0, g), (0, 0)] sh_T M (am_c0 sh_T f) := by
  have q := sp_room (d := d) (f := f) (round := false) hd hw ha hg hh (fun z => by cases z) h
  rw [am_b_0 (show ¬ (false = true) by decide)] at q
  exact q
theorem sp_room1 {d : Nat} {M : am_M} {f : Int → am_M → Prop} {r a g : Int} {D : dm_D} {w : Int → Int} (hd : rg_is M D) (hw : rw_ok M D r w) (ha : 0 ≤ a ∧ a < 4 ∧ a < dA D) (hg : -1 ≤ g ∧ g < 4 ∧ g < dG D) (hh : ¬ pu_home D w) (hr : 1 < dN D)
    (h : ∀ M', ro_fr r M M' → rg_is M' D → rw_ok M' D r (pu_step D a g true w) → f (pu_dread D g true w) M') : am_cal pg (d + 4) 228 [(2, 152), (0, r), (0, a), (0, g), (0, 1)] sh_T M (am_c0 sh_T f) := by
  have q := sp_room (d := d) (f := f) (round := true) hd hw ha hg hh (fun _ => hr) h
  rw [am_b_1 (show (true = true) by decide)] at q
  exact q
theorem st_writeTo {d : Nat} {M : am_M} {f : am_M → Prop} {v lo : Int} (hv : sl_is v) (hne : ¬ v + 1 = 89) (h0 : 0 ≤ lo) (h1 : lo + 6 ≤ 1206) (h : f (am_rs M 89 lo (M (v + 1)) 6)) : am_cal pg (d + 1) 79 [(2, v), (2, 89), (0, lo)] sh_T M (am_cv sh_T f) := by
  obtain ⟨v1, v2, v3, v4, v5⟩ := hv
  have go : ∀ (n k : Nat), k + n = 6 → am_g 7 9 co_X7_writeTo d (am_cv sh_T f) 2 [(2, v), (2, 89), (0, lo), (0, (k : Int))] [] sh_T (am_rs M 89 lo (M (v + 1)) k) := by
    intro n
    induction n with
    | zero =>
      intro k hk
      have : k = 6 := by omega
      subst this
      exact bk_X7_writeTo_2 ⟨v1, 6, v2, fun _ => am_cv_i h, fun c => absurd c (by decide)⟩
    | succ n ih =>
      intro k hk
      refine bk_X7_writeTo_2 ⟨v1, 6, v2, fun c => by omega, fun c => ⟨fun q => by omega, fun q => ⟨⟨by omega, by omega⟩, 1206, rfl, fun q2 => by omega, fun q2 => ⟨⟨by omega, by omega⟩, v3 _ (by omega) (by omega), ow_89 (by omega) (by omega), ⟨by omega, by omega⟩, ?_⟩⟩⟩⟩
      rw [am_rs_el (b := v + 1) hne, am_rs_s rfl rfl]
      exact ih (k + 1) (by omega)
  have := go 6 0 rfl
  rw [am_rs_0] at this
  exact en_X7_writeTo (bk_X7_writeTo_0 this)
/-- what the walk writes, in the class -/
def go_fr (c : Int) (M M' : am_M) : Prop := ∀ a j, ¬ a = c + 8 → ¬ a = c + 9 → ¬ a = c + 10 → ¬ (a = c + 6 ∧ j = 3) → ¬ (a = 88 ∧ 2 ≤ j ∧ j ≤ 3) → ¬ (89 ≤ a ∧ a ≤ 92) → M' a j = M a j
theorem st_go {d : Nat} {M : am_M} {f : am_M → Prop} {c v a g : Int} {D : dm_D} {w : Int → Int} (hd : dm_ok M c D) (hs : sm_ok M D v a g w) (hv1 : ¬ v = 90 ∧ ¬ v = 91 ∧ ¬ v = 92)
    (h : ∀ (T : Nat) (M' : am_M), wk_is D a g w T → dm_ok M' c D → M' 88 2 = T → M' 88 3 = am_b (pu_home D (wk D a g w T)) → (∀ t : Nat, t ≤ T → ∀ k : Int, 0 ≤ k → k < 6 → M' 89 (6 * t + k) = wk D a g w t k) → (∀ t : Nat, t < T → M' 90 t = pu_dread D g false (wk D a g w t)) → go_fr c M M' → f M') : am_cal pg (d + 6) 5 [(2, 88), (2, c), (2, v)] sh_T M (am_cv sh_T f) := by
  have hcr := dm_range hd
  have hvr := hs.1.2.2.2.2
  have go : ∀ (n i : Nat), i + n = 200 → ∀ M1 : am_M, (∀ t : Nat, t < i → ¬ pu_home D (wk D a g w t)) → dm_ok M1 c D → sm_ok M1 D 91 a g (wk D a g w i) → M1 88 2 = i → M1 88 3 = am_b (pu_home D (wk D a g w i)) → (∀ t : Nat, t ≤ i → ∀ k : Int, 0 ≤ k → k < 6 → M1 89 (6 * t + k) = wk D a g w t k) → (∀ t : Nat, t < i → M1 90 t = pu_dread D g false (wk D a g w t)) → go_fr c M M1 →
      am_g 1 9 co_X1_go (d + 5) (am_cv sh_T f) 39 [(2, 88), (2, c), (3, 0), (0, (i : Int))] [] sh_T M1 := by
    intro n
    induction n with
    | zero =>
      intro i hi M1 p1 p2 p3 p4 p5 p6 p7 p8
      exact bk_X1_go_39 ⟨fun _ => am_cv_i (h i M1 ⟨by omega, p1, fun z => by omega⟩ p2 p4 p5 p6 p7 p8), fun z => by omega⟩
    | succ n ih =>
      intro i hi M1 p1 p2 p3 p4 p5 p6 p7 p8
      refine bk_X1_go_39 ⟨fun z => by omega, fun z => ⟨fun q => ?_, fun q => ?_⟩⟩
      · rw [p5] at q
        exact am_cv_i (h i M1 ⟨by omega, p1, fun _ => Classical.byContradiction fun y => q (am_b_0 y)⟩ p2 p4 p5 p6 p7 p8)
      · rw [p5] at q
        have hh : ¬ pu_home D (wk D a g w i) := am_b_z.mp q
        refine ⟨dr_ob p2.1, st_room0 p2 p3 hh (fun M4 hf4 hd4 hs4 => ⟨⟨by omega, by omega⟩, ⟨by omega, by omega⟩, ⟨by omega, by omega⟩, st_writeTo sl_91 (by decide) (by omega) (by omega) ?_⟩)⟩
        have e1 : ∀ x j, ¬ x = 90 → ¬ x = 88 → am_up (am_up M4 90 i (pu_dread D g false (wk D a g w i))) 88 2 ((i : Int) + 1) x j = M4 x j := fun x j x1 x2 => by rw [am_up_el (fun y => x2 y.1), am_up_el (fun y => x1 y.1)]
        have e90 : ∀ j, am_up (am_up M4 90 i (pu_dread D g false (wk D a g w i))) 88 2 ((i : Int) + 1) 90 j = if j = (i : Int) then pu_dread D g false (wk D a g w i) else M4 90 j := fun j => by
          rw [am_up_el (by omega)]
          split
          · rename_i y; rw [y]; exact am_up_at
          · rename_i y; exact am_up_el (fun x => y x.2)
        have e882 : am_up (am_up M4 90 i (pu_dread D g false (wk D a g w i))) 88 2 ((i : Int) + 1) 88 2 = (i : Int) + 1 := am_up_at
        have e88 : ∀ j, ¬ j = 2 → am_up (am_up M4 90 i (pu_dread D g false (wk D a g w i))) 88 2 ((i : Int) + 1) 88 j = M4 88 j := fun j x1 => by rw [am_up_el (fun y => x1 y.2), am_up_el (by omega)]
        generalize am_up (am_up M4 90 i (pu_dread D g false (wk D a g w i))) 88 2 ((i : Int) + 1) = M5 at e1 e90 e882 e88 ⊢
        have e89 : ∀ x, ¬ x = 89 → am_rs M5 89 (((i : Int) + 1) * 6) (M5 (91 + 1)) 6 x = M5 x := fun x y => am_rs_el y
        have e89i : ∀ k : Int, 0 ≤ k → k < 6 → am_rs M5 89 (((i : Int) + 1) * 6) (M5 (91 + 1)) 6 89 (((i : Int) + 1) * 6 + k) = wk D a g w (i + 1) k := fun k k0 k1 => by
          rw [am_rs_at (by omega) (by omega), show ((i : Int) + 1) * 6 + k - ((i : Int) + 1) * 6 = k by omega, e1 _ _ (by decide) (by decide)]
          exact hs4.2.2.2.1 k k0 k1
        have e89o : ∀ j, j < ((i : Int) + 1) * 6 → am_rs M5 89 (((i : Int) + 1) * 6) (M5 (91 + 1)) 6 89 j = M5 89 j := fun j y => am_rs_out (Or.inl y)
        generalize am_rs M5 89 (((i : Int) + 1) * 6) (M5 (91 + 1)) 6 = M8 at e89 e89i e89o ⊢
        have hd8 : dm_ok M8 c D := dm_ok_fr (fun x j x1 x2 _ _ _ _ => by rw [e89 x (by omega), e1 x j (by omega) (by omega)]) hd4
        have hs8 : sm_ok M8 D 91 a g (wk D a g w (i + 1)) := sm_ok_fr (by rw [e89 91 (by decide), e1 91 1 (by decide) (by decide)]) (by rw [e89 91 (by decide), e1 91 2 (by decide) (by decide)]) (fun j => by rw [e89 (91 + 1) (by decide), e1 (91 + 1) j (by decide) (by decide)]) hs4
        refine st_home hd8 hs8 ⟨am_b_01, ⟨by omega, by omega⟩, ih (i + 1) (by omega) _ ?_ ?_ ?_ ?_ am_up_at ?_ ?_ ?_⟩
        · intro t ht
          by_cases y : t = i
          · rw [y]; exact hh
          · exact p1 t (by omega)
        · exact dm_ok_fr (fun x j x1 x2 _ _ _ _ => am_up_el (by omega)) hd8
        · exact sm_ok_fr (am_up_el (by decide)) (am_up_el (by decide)) (fun j => am_up_el (fun y => absurd y.1 (by decide))) hs8
        · rw [am_up_el (by decide), e89 88 (by decide), e882]; omega
        · intro t ht k k0 k1
          rw [am_up_el (by omega)]
          by_cases y : t = i + 1
          · rw [y, show 6 * ((i + 1 : Nat) : Int) + k = ((i : Int) + 1) * 6 + k by omega]
            exact e89i k k0 k1
          · rw [e89o _ (by omega), e1 89 _ (by decide) (by decide), hf4 89 _ (by omega) (by omega) (by omega) (by omega) (by decide)]
            exact p6 t (by omega) k k0 k1
        · intro t ht
          rw [am_up_el (by omega), e89 90 (by decide), e90]
          by_cases y : t = i
          · rw [if_pos (by omega), y]
          · rw [if_neg (by omega), hf4 90 _ (by omega) (by omega) (by omega) (by omega) (by decide)]
            exact p7 t (by omega)
        · intro x j x1 x2 x3 x4 x5 x6
          rw [am_up_el (by omega), e89 x (by omega)]
          have e5 : M5 x j = M4 x j := by
            by_cases y : x = 88
            · rw [y]; exact e88 j (by omega)
            · exact e1 x j (by omega) y
          rw [e5, hf4 x j x1 x2 x3 x4 (by omega)]
          exact p8 x j x1 x2 x3 x4 x5 x6
  refine en_X1_go (bk_X1_go_0 (st_copy sl_91 hs.1 (by omega) (by omega) (by omega) (st_writeTo sl_91 (by decide) (by decide) (by decide) ?_)))
  have a1 : ∀ x j, ¬ x = 91 → ¬ x = 92 → sl_cp M 91 v x j = M x j := fun x j x1 x2 => by
    unfold sl_cp
    rw [am_rs_el (by omega), am_up_el (fun y => x1 y.1), am_up_el (fun y => x1 y.1)]
  have a2 : sl_cp M 91 v 91 1 = M v 1 := by
    unfold sl_cp
    rw [am_rs_el (by decide), am_up_el (by decide)]; exact am_up_at
  have a3 : sl_cp M 91 v 91 2 = M v 2 := by
    unfold sl_cp
    rw [am_rs_el (by decide)]; exact am_up_at
  have a4 : ∀ k : Int, 0 ≤ k → k < 6 → sl_cp M 91 v (91 + 1) k = M (v + 1) k := fun k k0 k1 => by
    unfold sl_cp
    rw [am_rs_at k0 (by omega), Int.sub_zero]
  have a5 : ∀ j, sl_cp M 91 v 91 j = if j = 1 then M v 1 else if j = 2 then M v 2 else M 91 j := fun j => by
    split
    · rename_i y; rw [y]; exact a2
    · split
      · rename_i y; rw [y]; exact a3
      · unfold sl_cp
        rw [am_rs_el (by decide), am_up_el (by omega), am_up_el (by omega)]
  generalize sl_cp M 91 v = M1 at a1 a2 a3 a4 a5 ⊢
  have b1 : ∀ x, ¬ x = 89 → am_rs M1 89 0 (M1 (91 + 1)) 6 x = M1 x := fun x y => am_rs_el y
  have b2 : ∀ k : Int, 0 ≤ k → k < 6 → am_rs M1 89 0 (M1 (91 + 1)) 6 89 k = M (v + 1) k := fun k k0 k1 => by
    rw [am_rs_at k0 (by omega), Int.sub_zero]; exact a4 k k0 k1
  generalize am_rs M1 89 0 (M1 (91 + 1)) 6 = M2 at b1 b2 ⊢
  have hd2 : dm_ok (am_up M2 88 2 0) c D := dm_ok_fr (fun x j x1 x2 _ _ _ _ => by rw [am_up_el (by omega), b1 x (by omega), a1 x j (by omega) (by omega)]) hd
  have hs2 : sm_ok (am_up M2 88 2 0) D 91 a g w := by
    refine ⟨sl_91, ⟨?_, hs.2.1.2⟩, ⟨?_, hs.2.2.1.2⟩, ?_, hs.2.2.2.2⟩
    · rw [am_up_el (by decide), b1 91 (by decide), a2]; exact hs.2.1.1
    · rw [am_up_el (by decide), b1 91 (by decide), a3]; exact hs.2.2.1.1
    · intro k k0 k1
      rw [am_up_el (by intro y; exact absurd y.1 (by decide)), b1 (91 + 1) (by decide), a4 k k0 k1]
      exact hs.2.2.2.1 k k0 k1
  refine ⟨dr_ob hd.1, st_home hd2 hs2 ⟨am_b_01, go 200 0 rfl _ (fun t ht => by omega) ?_ ?_ ?_ am_up_at ?_ (fun t ht => by omega) ?_⟩⟩
  · exact dm_ok_fr (fun x j x1 x2 _ _ _ _ => am_up_el (by omega)) hd2
  · exact sm_ok_fr (am_up_el (by decide)) (am_up_el (by decide)) (fun j => am_up_el (fun y => absurd y.1 (by decide))) hs2
  · rw [am_up_el (by decide)]; exact am_up_at
  · intro t ht k k0 k1
    have t0 : t = 0 := by omega
    rw [t0, am_up_el (by omega), am_up_el (by omega), show 6 * ((0 : Nat) : Int) + k = k by omega, b2 k k0 k1]
    exact hs.2.2.2.1 k k0 k1
  · intro x j x1 x2 x3 x4 x5 x6
    rw [am_up_el (by omega), am_up_el (by omega), b1 x (by omega), a1 x j (by omega) (by omega)]
/-- the reference's a-th sleeper -/
def rs_ok (M : am_M) (D : dm_D) (a g : Int) (w : Int → Int) : Prop := (0 ≤ a ∧ a < 4 ∧ a < dA D) ∧ (M 186 (7 * a) = g ∧ -1 ≤ g ∧ g < 4 ∧ g < dG D) ∧ we_eq (fun k => M 186 (7 * a + 1 + k)) w ∧ dw_ok D w
/-- what the walk writes, in the reference -/
def ga_fr (M M' : am_M) : Prop := ∀ a j, ¬ a = 184 → ¬ a = 185 → ¬ (a = 152 ∧ (j = 46 ∨ j = 50)) → ¬ a = 187 → ¬ a = 188 → M' a j = M a j
theorem sp_goesAhead {d : Nat} {M : am_M} {f : am_M → Prop} {a g : Int} {D : dm_D} {w : Int → Int} (hd : rg_is M D) (hs : rs_ok M D a g w)
    (h : ∀ (T : Nat) (M' : am_M), wk_is D a g w T → rg_is M' D → M' 152 50 = T → (∀ t : Nat, t ≤ T → ∀ k : Int, 0 ≤ k → k < 6 → M' 187 (7 * t + k) = wk D a g w t k) → (∀ t : Nat, t < T → M' 188 t = pu_dread D g false (wk D a g w t)) → ga_fr M M' → f M') : am_cal pg (d + 5) 237 [(2, 152), (0, a)] sh_T M (am_cv sh_T f) := by
  obtain ⟨⟨ha0, ha1⟩, ⟨hg, hg0, hg1⟩, hw, hwo⟩ := hs
  have go : ∀ (n i : Nat), i + n = 200 → ∀ M1 : am_M, (∀ t : Nat, t < i → ¬ pu_home D (wk D a g w t)) → rg_is M1 D → M1 152 50 = i → (∀ t : Nat, t ≤ i → ∀ k : Int, 0 ≤ k → k < 6 → M1 187 (7 * t + k) = wk D a g w t k) → (∀ t : Nat, t < i → M1 188 t = pu_dread D g false (wk D a g w t)) → ga_fr M M1 →
      am_g 12 9 co_X12_goesAhead (d + 4) (am_cv sh_T f) 11 [(2, 152), (0, a)] [] sh_T M1 := by
    intro n
    induction n with
    | zero =>
      intro i hi M1 p1 p2 p3 p4 p5 p6
      exact bk_X12_goesAhead_11 ⟨fun _ => am_cv_i (h i M1 ⟨by omega, p1, fun z => by omega⟩ p2 p3 p4 p5 p6), fun z => by omega⟩
    | succ n ih =>
      intro i hi M1 p1 p2 p3 p4 p5 p6
      have hwi := wk_ok p2.1 hwo i p1
      have hrw : rw_ok M1 D (7 * (i : Int)) (wk D a g w i) := ⟨⟨by omega, by omega⟩, fun k k0 k1 => p4 i (Nat.le_refl _) k k0 k1, hwi⟩
      refine bk_X12_goesAhead_11 ⟨fun z => by omega, fun z => ⟨⟨by omega, by omega⟩, ?_⟩⟩
      rw [p3]
      refine sp_home p2 hrw ⟨fun q => ?_, fun q => ?_⟩
      · exact am_cv_i (h i M1 ⟨by omega, p1, fun _ => Classical.byContradiction fun y => q (am_b_0 y)⟩ p2 p3 p4 p5 p6)
      · have hh : ¬ pu_home D (wk D a g w i) := am_b_z.mp q
        rw [p3]
        refine ⟨⟨by omega, by omega⟩, ⟨by omega, by omega⟩, ⟨by omega, by omega⟩, sp_laysRow ⟨by omega, by omega⟩ ⟨by omega, by omega⟩ (by omega) ?_⟩
        have e1 : ∀ x, ¬ x = 187 → am_rs M1 187 (7 * (i : Int) + 7) (ro M1 (7 * (i : Int))) 6 x = M1 x := fun x y => am_rs_el y
        have e2 : ∀ k : Int, 0 ≤ k → k < 6 → am_rs M1 187 (7 * (i : Int) + 7) (ro M1 (7 * (i : Int))) 6 187 (7 * (i : Int) + 7 + k) = wk D a g w i k := fun k k0 k1 => by
          rw [am_rs_at (by omega) (by omega), show 7 * (i : Int) + 7 + k - (7 * (i : Int) + 7) = k by omega]
          exact p4 i (Nat.le_refl _) k k0 k1
        have e3 : ∀ j, j < 7 * (i : Int) + 7 → am_rs M1 187 (7 * (i : Int) + 7) (ro M1 (7 * (i : Int))) 6 187 j = M1 187 j := fun j y => am_rs_out (Or.inl y)
        generalize am_rs M1 187 (7 * (i : Int) + 7) (ro M1 (7 * (i : Int))) 6 = M8 at e1 e2 e3 ⊢
        have hd8 : rg_is M8 D := rg_is_fr (fun x j x1 x2 => by rw [e1 x (by omega)]) p2
        have e8 : M8 152 50 = i := by rw [e1 152 (by decide)]; exact p3
        have hr8 : rw_ok M8 D (7 * (i : Int) + 7) (wk D a g w i) := ⟨⟨by omega, by omega⟩, fun k k0 k1 => e2 k k0 k1, hwi⟩
        have eg : M8 186 (7 * a) = g := by rw [e1 186 (by decide), p6 186 _ (by decide) (by decide) (by omega) (by decide) (by decide)]; exact hg
        rw [e8]
        refine ⟨⟨by omega, by omega⟩, ⟨by omega, by omega⟩, sp_guideOf ⟨ha0, ha1.1⟩ ?_⟩
        rw [eg]
        refine sp_room0 hd8 hr8 ⟨ha0, ha1⟩ ⟨hg0, hg1⟩ hh (fun M9 hf9 hd9 hr9 => ?_)
        have e9 : M9 152 50 = i := by rw [hf9 152 50 (by decide) (by decide) (by decide) (by omega)]; exact e8
        rw [e9]
        refine ⟨⟨by omega, by omega⟩, ⟨by omega, by omega⟩, ih (i + 1) (by omega) _ ?_ ?_ ?_ ?_ ?_ ?_⟩
        · intro t ht
          by_cases y : t = i
          · rw [y]; exact hh
          · exact p1 t (by omega)
        · exact rg_is_fr (fun x j x1 x2 => by rw [am_up_el (by omega), am_up_el (by omega)]) hd9
        · rw [am_up_at]; omega
        · intro t ht k k0 k1
          rw [am_up_el (by omega), am_up_el (by omega)]
          by_cases y : t = i + 1
          · rw [y, show 7 * ((i + 1 : Nat) : Int) + k = 7 * (i : Int) + 7 + k by omega]
            exact hr9.2.1 k k0 k1
          · rw [hf9 187 _ (by decide) (by decide) (by omega) (by omega), e3 _ (by omega)]
            exact p4 t (by omega) k k0 k1
        · intro t ht
          rw [am_up_el (by omega)]
          by_cases y : t = i
          · rw [y]; exact am_up_at
          · rw [am_up_el (by omega), hf9 188 _ (by decide) (by decide) (by omega) (by omega), e1 188 (by decide)]
            exact p5 t (by omega)
        · intro x j x1 x2 x3 x4 x5
          rw [am_up_el (by omega), am_up_el (by omega), hf9 x j x1 x2 (by omega) (by omega), e1 x x4]
          exact p6 x j x1 x2 x3 x4 x5
  refine en_X12_goesAhead (bk_X12_goesAhead_0 (sp_laysNow ⟨ha0, ha1.1⟩ ⟨by decide, by decide⟩ ?_))
  have e1 : ∀ x, ¬ x = 187 → am_rs (am_up M 152 50 0) 187 0 (fun k => am_up M 152 50 0 186 (7 * a + 1 + k)) 6 x = am_up M 152 50 0 x := fun x y => am_rs_el y
  have e2 : ∀ k : Int, 0 ≤ k → k < 6 → am_rs (am_up M 152 50 0) 187 0 (fun k => am_up M 152 50 0 186 (7 * a + 1 + k)) 6 187 k = w k := fun k k0 k1 => by
    rw [am_rs_at k0 (by omega), Int.sub_zero]
    show am_up M 152 50 0 186 (7 * a + 1 + k) = w k
    rw [am_up_el (by omega)]
    exact hw k k0 k1
  generalize am_rs (am_up M 152 50 0) 187 0 (fun k => am_up M 152 50 0 186 (7 * a + 1 + k)) 6 = M1 at e1 e2 ⊢
  refine go 200 0 rfl _ (fun t ht => by omega) ?_ ?_ ?_ (fun t ht => by omega) ?_
  · exact rg_is_fr (fun x j x1 x2 => by rw [e1 x (by omega), am_up_el (by omega)]) hd
  · rw [e1 152 (by decide)]; exact am_up_at
  · intro t ht k k0 k1
    have t0 : t = 0 := by omega
    rw [t0, show 7 * ((0 : Nat) : Int) + k = k by omega]
    exact e2 k k0 k1
  · intro x j x1 x2 x3 x4 x5
    rw [e1 x x4, am_up_el (by omega)]
