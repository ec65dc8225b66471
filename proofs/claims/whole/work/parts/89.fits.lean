/-! FITS: which weights make the rooms that are told -/
theorem st_room_home {d : Nat} {M : am_M} {f : Int → am_M → Prop} {c v a g : Int} {D : dm_D} {w : Int → Int} (hd : dm_ok M c D) (hs : sm_ok M D v a g w) (hh : pu_home D w) (h : f (-1) M) : am_cal pg (d + 5) 34 [(2, c), (2, v), (0, 0)] sh_T M (am_c0 sh_T f) := by
  have ha := hs.2.1
  have hb := hd.2.2.2.2.2.2.1 a ha.2.1 ha.2.2
  have hb9 := hd.2.1.2.2 a ha.2.1 ha.2.2
  have hg := hs.2.2.1
  have q := st_enter (d := d) (f := f) (round := false) (M := M) (c := c) (v := v) (om := dM D) (os := dP D) ⟨hd.1, hs.1, sm_we hs, ⟨by omega, by omega⟩, ⟨by omega, by omega⟩, by rw [ha.1, hb]; exact hb9, ⟨by have := hd.2.2.1; omega, by have := hd.2.2.1; have := hd.2.1.1; omega⟩, dm_sum hd (w := 0) (by decide), dm_sum hd (w := 1) (by decide)⟩ (fun _ => h) (fun _ x => by
    rw [sm_sum hs, hd.2.2.2.1] at x
    exact absurd hh x)
  rw [am_b_0 (show ¬ (false = true) by decide)] at q
  exact q
def fo (D : dm_D) (a g : Int) (w : Int → Int) (row : Int → Int) (R : Nat) : Prop := ∀ t : Nat, t < R → ¬ pu_home D (wk D a g w t) ∧ pu_dread D g false (wk D a g w t) = row t
theorem st_follows {d : Nat} {M : am_M} {f : Int → am_M → Prop} {c u a g x n : Int} {D : dm_D} {w : Int → Int} {row : Int → Int} {R : Nat} (hd : dm_ok M c D) (hs : sm_ok M D u a g w) (hu : u < 90) (hx : 0 ≤ x ∧ x < dN D) (hn : 0 ≤ n ∧ n ≤ 999) (hR : R ≤ 20) (hrow : ∀ t : Nat, t < R → M 149 t = row t ∧ 0 ≤ row t)
    (h1 : ∀ M', sc_fr M M' → fo D a g (pu_up w x n) row R → f 1 M') (h0 : ∀ M', sc_fr M M' → ¬ fo D a g (pu_up w x n) row R → f 0 M') : am_cal pg (d + 6) 11 [(2, 88), (2, c), (2, u), (0, x), (0, n), (2, 149), (0, (R : Int))] sh_T M (am_c0 sh_T f) := by
  have hcc := hd.1
  have hcr := dm_range hd
  have h6 := hd.2.1.1
  have go : ∀ (m i : Nat), i + m = R → ∀ M1 : am_M, (∀ t : Nat, t < i → ¬ pu_home D (wk D a g (pu_up w x n) t) ∧ pu_dread D g false (wk D a g (pu_up w x n) t) = row t) → dm_ok M1 c D → sm_ok M1 D 91 a g (wk D a g (pu_up w x n) i) → sc_fr M M1 → am_g 1 5 co_X1_follows (d + 5) (am_c0 sh_T f) 24 [(2, 88), (2, c), (3, 0), (3, 0), (3, 0), (2, 149), (0, (R : Int)), (0, 1), (0, (i : Int))] [] sh_T M1 := by
    intro m
    induction m with
    | zero =>
      intro i hi M1 p1 p2 p3 p4
      refine bk_X1_follows_24 ⟨fun _ => ⟨Or.inr rfl, am_c0_i (h1 M1 p4 (fun t ht => p1 t (by omega)))⟩, fun z => by omega⟩
    | succ m ih =>
      intro i hi M1 p1 p2 p3 p4
      have no : ∀ M2, sc_fr M M2 → ¬ (¬ pu_home D (wk D a g (pu_up w x n) i) ∧ pu_dread D g false (wk D a g (pu_up w x n) i) = row i) → am_g 1 5 co_X1_follows (d + 5) (am_c0 sh_T f) 24 [(2, 88), (2, c), (3, 0), (3, 0), (3, 0), (2, 149), (0, (R : Int)), (0, 0), (0, (i : Int) + 1)] [] sh_T M2 := by
        intro M2 q1 q2
        have nf : ¬ fo D a g (pu_up w x n) row R := fun e => q2 (e i (by omega))
        exact bk_X1_follows_24 ⟨fun _ => ⟨Or.inl rfl, am_c0_i (h0 M2 q1 nf)⟩, fun _ => ⟨20, rfl, fun _ => ⟨Or.inl rfl, am_c0_i (h0 M2 q1 nf)⟩, fun _ => ⟨fun _ => ⟨Or.inl rfl, am_c0_i (h0 M2 q1 nf)⟩, fun z => absurd rfl z⟩⟩⟩
      have hr := hrow i (by omega)
      refine bk_X1_follows_24 ⟨fun z => by omega, fun _ => ⟨20, rfl, fun z => by omega, fun _ => ⟨fun z => absurd z (by decide), fun _ => ⟨dr_ob hd.1, ?_⟩⟩⟩⟩
      by_cases hh : pu_home D (wk D a g (pu_up w x n) i)
      · refine st_room_home p2 p3 hh ⟨ia_149 (by omega) (by omega), ?_⟩
        have e9 : M1 149 i = row i := (p4 149 i (by unfold sc_; omega)).trans hr.1
        rw [e9]
        exact ⟨fun _ => ⟨⟨by omega, by omega⟩, no M1 p4 (fun e => e.1 hh)⟩, fun z => by omega⟩
      · refine st_room0 p2 p3 hh (fun M2 f2 d2 s2 => ⟨ia_149 (by omega) (by omega), ?_⟩)
        have q4 : sc_fr M M2 := fun y j z => by
          have e := p4 y j z
          unfold sc_ at z
          rw [f2 y j (by rcases hcc with e | e <;> omega) (by rcases hcc with e | e <;> omega) (by rcases hcc with e | e <;> omega) (by rcases hcc with e | e <;> omega) (by omega)]
          exact e
        have e9 : M2 149 i = row i := (q4 149 i (by unfold sc_; omega)).trans hr.1
        rw [e9]
        refine ⟨fun z => ⟨⟨by omega, by omega⟩, no M2 q4 (fun e => z e.2)⟩, fun z => ⟨⟨by omega, by omega⟩, ih (i + 1) (by omega) M2 (fun t ht => ?_) d2 s2 q4⟩⟩
        by_cases e : t = i
        · rw [e]; exact ⟨hh, z⟩
        · exact p1 t (by omega)
  refine en_X1_follows (bk_X1_follows_0 (st_copy sl_91 hs.1 (by omega) (by omega) (by omega) (st_put sl_91 hx.1 (by omega) ?_)))
  have s1 : sm_ok (sl_cp M 91 u) D 91 a g w := cp_ok sl_91 hs
  have f1 : ∀ y j, ¬ y = 91 → ¬ y = 92 → sl_cp M 91 u y j = M y j := fun y j x1 x2 => cp_fr x1 x2
  generalize sl_cp M 91 u = M1 at s1 f1 ⊢
  have s2 := sm_put s1 hx.2 hn
  refine go R 0 (Nat.zero_add _) _ (fun t ht => by omega) ?_ s2 ?_
  · exact dm_ok_fr (fun y j x1 x2 _ _ _ _ => by rw [am_up_el (by omega), f1 y j (by omega) (by omega)]) hd
  · intro y j z
    unfold sc_ at z
    rw [am_up_el (by omega), f1 y j (by omega) (by omega)]
theorem pu_dread0 {D : dm_D} {g : Int} {w : Int → Int} : pu_dread D g false w = pu_hv D g w (-1) := by
  unfold pu_dread pu_with
  rw [if_neg (by decide)]
  rfl
theorem pu_step0 {D : dm_D} {a g : Int} {w : Int → Int} : pu_step D a g false w = pu_up w (pu_hv D g w (-1)) (pu_made (dO D 0) w 6 (pu_hv D g w (-1)) (dB D a)) := by
  unfold pu_step pu_go
  rw [if_neg (by decide)]
  rfl
theorem sp_isFitting {d : Nat} {M : am_M} {f : Int → am_M → Prop} {a g x n : Int} {D : dm_D} {w : Int → Int} {row : Int → Int} {R : Nat} (hd : rg_is M D) (hs : rs_ok M D a g w) (hx : 0 ≤ x ∧ x < dN D) (hn : 0 ≤ n ∧ n ≤ 999) (hR : R ≤ 20) (hc : M 152 61 = R) (hw : M 152 62 = a) (hrow : ∀ t : Nat, t < R → M 192 t = row t ∧ 0 ≤ row t ∧ row t < dN D)
    (h1 : ∀ M', sc_fr M M' → fo D a g (pu_up w x n) row R → f 1 M') (h0 : ∀ M', sc_fr M M' → ¬ fo D a g (pu_up w x n) row R → f 0 M') : am_cal pg (d + 4) 275 [(2, 152), (0, x), (0, n)] sh_T M (am_c0 sh_T f) := by
  have ha := hs.1
  have h6 := hd.1.1
  have go : ∀ (m i : Nat), i + m = R → ∀ M1 : am_M, (∀ t : Nat, t < i → ¬ pu_home D (wk D a g (pu_up w x n) t) ∧ pu_dread D g false (wk D a g (pu_up w x n) t) = row t) → rg_is M1 D → rs_ok M1 D a g w → rw_ok M1 D 0 (wk D a g (pu_up w x n) i) → sc_fr M M1 → am_g 12 5 co_X12_isFitting (d + 3) (am_c0 sh_T f) 18 [(2, 152), (3, 0), (3, 0), (0, (i : Int))] [] sh_T M1 := by
    intro m
    induction m with
    | zero =>
      intro i hi M1 p1 p2 p3 p4 p5
      refine bk_X12_isFitting_18 ?_
      rw [p5 152 61 (by unfold sc_; omega), hc]
      exact ⟨fun _ => am_c0_i (h1 M1 p5 (fun t ht => p1 t (by omega))), fun z => by omega⟩
    | succ m ih =>
      intro i hi M1 p1 p2 p3 p4 p5
      have hr := hrow i (by omega)
      refine bk_X12_isFitting_18 ?_
      rw [p5 152 61 (by unfold sc_; omega), hc]
      refine ⟨fun z => by omega, fun _ => sp_home p2 p4 ⟨fun z => am_c0_i (h0 M1 p5 (fun e => (e i (by omega)).1 (am_b_nz z))), fun z => ?_⟩⟩
      have hh := am_b_z.mp z
      rw [p5 152 62 (by unfold sc_; omega), hw]
      refine sp_guideOf (v4 ha) ?_
      rw [p3.2.1.1]
      refine sp_hv p2 p4 hs.2.1.2 ⟨⟨by omega, by omega⟩, ?_⟩
      have e9 : M1 192 i = row i := (p5 192 i (by unfold sc_; omega)).trans hr.1
      rw [e9, p5 152 62 (by unfold sc_; omega), hw]
      refine ⟨fun y => sp_mk p2 p4 ha (by omega) (by decide) (fun M2 f2 => ?_), fun y => am_c0_i (h0 M1 p5 (fun e => y (pu_dread0.symm.trans (e i (by omega)).2)))⟩
      have mk := pu_made_le (o := dO D 0) (n := 6) (k := row i) (b := dB D a) p4.2.2.1 (by omega)
      refine ⟨⟨by omega, by omega⟩, ⟨by omega, by omega⟩, ih (i + 1) (by omega) _ (fun t ht => ?_) ?_ ?_ ?_ ?_⟩
      · by_cases e : t = i
        · rw [e]; exact ⟨hh, pu_dread0.trans y⟩
        · exact p1 t (by omega)
      · exact rg_is_fr (fun q j x1 x2 => by rw [am_up_el (by omega), f2 q j (by omega) (by omega) (by omega)]) p2
      · exact rs_ok_fr (fun j => by rw [am_up_el (by omega), f2 186 j (by decide) (by decide) (by omega)]) p3
      · show rw_ok _ D 0 (pu_step D a g false (wk D a g (pu_up w x n) i))
        rw [pu_step0, y]
        exact rw_put (rw_fr (fun k _ _ => f2 187 _ (by decide) (by decide) (by omega)) p4) hr.2.2 mk (by omega)
      · intro q j z2
        have e := p5 q j z2
        unfold sc_ at z2
        rw [am_up_el (by omega), f2 q j (by omega) (by omega) (by omega)]
        exact e
  refine en_X12_isFitting (bk_X12_isFitting_0 ?_)
  rw [hw]
  refine sp_lays hd hs (fun M1 q1 q2 q3 q4 => ⟨⟨by omega, by omega⟩, go R 0 (Nat.zero_add _) _ (fun t ht => by omega) ?_ ?_ ?_ ?_⟩)
  · exact rg_is_fr (fun q j x1 x2 => am_up_el (by omega)) q2
  · exact rs_ok_fr (fun j => am_up_el (by omega)) q3
  · exact rw_put q4 hx.2 hn (by omega)
  · intro q j z
    have e := q1 q j z
    unfold sc_ at z
    rw [am_up_el (by omega)]
    exact e
/-- how many of the first n, the first, the last -/
def fi_is (P : Int → Prop) : Nat → Int → Int → Int → Prop
  | 0, c, f, l => c = 0 ∧ f = -1 ∧ l = -1
  | n + 1, c, f, l => ∃ c' f' l' : Int, fi_is P n c' f' l' ∧ ((P n ∧ c = c' + 1 ∧ l = n ∧ f = if f' = -1 then (n : Int) else f') ∨ (¬ P n ∧ c = c' ∧ f = f' ∧ l = l'))
theorem fi_is_eq {P : Int → Prop} : ∀ (n : Nat) (c f l c' f' l' : Int), fi_is P n c f l → fi_is P n c' f' l' → c = c' ∧ f = f' ∧ l = l'
  | 0, c, f, l, c', f', l', h, k => ⟨h.1.trans k.1.symm, h.2.1.trans k.2.1.symm, h.2.2.trans k.2.2.symm⟩
  | n + 1, c, f, l, c', f', l', h, k => by
    obtain ⟨a1, a2, a3, h1, h2⟩ := h
    obtain ⟨b1, b2, b3, k1, k2⟩ := k
    obtain ⟨e1, e2, e3⟩ := fi_is_eq n _ _ _ _ _ _ h1 k1
    subst e1 e2 e3
    rcases h2 with ⟨x1, x2, x3, x4⟩ | ⟨x1, x2, x3, x4⟩
    · rcases k2 with ⟨y1, y2, y3, y4⟩ | ⟨y1, y2, y3, y4⟩
      · exact ⟨x2.trans y2.symm, x4.trans y4.symm, x3.trans y3.symm⟩
      · exact absurd x1 y1
    · rcases k2 with ⟨y1, y2, y3, y4⟩ | ⟨y1, y2, y3, y4⟩
      · exact absurd y1 x1
      · exact ⟨x2.trans y2.symm, x3.trans y3.symm, x4.trans y4.symm⟩
theorem fi_is_le {P : Int → Prop} : ∀ (n : Nat) (c f l : Int), fi_is P n c f l → 0 ≤ c ∧ c ≤ n
  | 0, c, f, l, h => by rw [h.1]; exact ⟨Int.le_refl _, Int.le_refl _⟩
  | n + 1, c, f, l, h => by
    obtain ⟨a1, a2, a3, h1, h2⟩ := h
    have q := fi_is_le n _ _ _ h1
    omega
