/-! AGAINST THE DREAM, in the class -/
def sp_v (D : dm_D) (w : Int → Int) (i : Int) : Int := if w i + dS D < 999 then w i + dS D else 999
/-- he escapes in r rooms, whatever the dream does -/
def es (D : dm_D) (a g : Int) : Nat → (Int → Int) → Prop
  | 0, w => pu_home D w
  | r + 1, w => pu_home D w ∨ ∃ round : Bool, (round = true → 1 < dN D) ∧ ∀ i : Nat, i < dN D → es D a g r (pu_up (pu_step D a g round w) i (sp_v D (pu_step D a g round w) i))
def br_ (D : dm_D) (a g : Int) (r : Nat) (round : Bool) (w : Int → Int) : Prop := (round = true → 1 < dN D) ∧ ∀ i : Nat, i < dN D → es D a g r (pu_up (pu_step D a g round w) i (sp_v D (pu_step D a g round w) i))
/-- what the class's fates write at a depth -/
def ft_fr (k : Nat) (M M' : am_M) : Prop := sc_fr M M' ∧ (∀ x j, 129 ≤ x → x ≤ 131 + 2 * (k : Int) → M' x j = M x j) ∧ (∀ x j, 138 ≤ x → x ≤ 138 + 2 * (k : Int) → M' x j = M x j)
theorem ft_rf {k : Nat} {M : am_M} : ft_fr k M M := ⟨sc_rf, fun _ _ _ _ => rfl, fun _ _ _ _ => rfl⟩
theorem ft_tr {k : Nat} {M M1 M2 : am_M} (h : ft_fr k M M1) (q : ft_fr k M1 M2) : ft_fr k M M2 := ⟨sc_tr h.1 q.1, fun x j x1 x2 => (q.2.1 x j x1 x2).trans (h.2.1 x j x1 x2), fun x j x1 x2 => (q.2.2 x j x1 x2).trans (h.2.2 x j x1 x2)⟩
theorem dm_ok_sc {M M' : am_M} {c : Int} {D : dm_D} (hf : sc_fr M M') (h : dm_ok M c D) : dm_ok M' c D := by
  have hcc := h.1
  refine dm_ok_fr (fun x j x1 x2 x3 x4 x5 x6 => hf x j ?_) h
  unfold sc_
  unfold dr_is at hcc
  omega
theorem st_room_no {d : Nat} {M : am_M} {f : Int → am_M → Prop} {c v a g : Int} {D : dm_D} {w : Int → Int} (hd : dm_ok M c D) (hs : sm_ok M D v a g w) (hn : ¬ 1 < dN D) (h : f (-1) M) : am_cal pg (d + 5) 34 [(2, c), (2, v), (0, am_b (true = true))] sh_T M (am_c0 sh_T f) := by
  have ha := hs.2.1
  have hb := hd.2.2.2.2.2.2.1 a ha.2.1 ha.2.2
  have hb9 := hd.2.1.2.2 a ha.2.1 ha.2.2
  have hg := hs.2.2.1
  have hN := hd.2.2.1
  exact st_enter (d := d) (f := f) (round := true) (M := M) (c := c) (v := v) (om := dM D) (os := dP D) ⟨hd.1, hs.1, sm_we hs, ⟨by omega, by omega⟩, ⟨by omega, by omega⟩, by rw [ha.1, hb]; exact hb9, ⟨by omega, by have := hd.2.1.1; omega⟩, dm_sum hd (w := 0) (by decide), dm_sum hd (w := 1) (by decide)⟩ (fun _ => h) (fun x _ => by
    rw [am_b_1 rfl] at x
    omega)
def P_es (D : dm_D) (c a g : Int) (n r : Nat) : Prop := ∀ (k : Nat) (M : am_M) (w : Int → Int) (e : Nat) (f : Int → am_M → Prop), k + r = n → dm_ok M c D → sm_ok M D (129 + 1 + 2 * (k : Int)) a g w → 8 + 2 * r ≤ e → (∀ M', ft_fr k M M' → es D a g r w → f 1 M') → (∀ M', ft_fr k M M' → ¬ es D a g r w → f 0 M') → am_cal pg e 48 [(2, 128), (2, c), (0, (k : Int)), (0, (n : Int))] sh_T M (am_c0 sh_T f)
theorem st_bears {D : dm_D} {c a g : Int} {n r : Nat} (hn : n ≤ 3) (hS : 0 ≤ dS D ∧ dS D ≤ 1000000) (ih : P_es D c a g n r) (k : Nat) (M : am_M) (w : Int → Int) (e : Nat) (f : Int → am_M → Prop) (round : Bool) (hk : k + (r + 1) = n) (hd : dm_ok M c D) (hs : sm_ok M D (129 + 1 + 2 * (k : Int)) a g w) (hh : ¬ pu_home D w) (he : 9 + 2 * r ≤ e) (h1 : ∀ M', ft_fr k M M' → br_ D a g r round w → f 1 M') (h0 : ∀ M', ft_fr k M M' → ¬ br_ D a g r round w → f 0 M') : am_cal pg e 49 [(2, 128), (2, c), (0, (k : Int)), (0, (n : Int)), (0, am_b (round = true))] sh_T M (am_c0 sh_T f) := by
  obtain ⟨e', rfl⟩ : ∃ e', e = (e' + 5) + 1 := ⟨e - 6, by omega⟩
  have hcc := hd.1
  have hcr := dm_range hd
  have h6 := hd.2.1.1
  have sA : sl_is (129 + 1 + 2 * ((k : Int) + 1)) := sl_row_129 (by omega) (by omega)
  have sB : sl_is (138 + 1 + 2 * (k : Int)) := sl_row_138 (by omega) (by omega)
  have stop : ∀ (i : Nat) (M1 : am_M), ft_fr k M M1 → dm_ok M1 c D → ¬ br_ D a g r round w → am_g 4 5 co_X4_bears (e' + 5) (am_c0 sh_T f) 67 [(2, 128), (2, c), (0, (k : Int)), (0, (n : Int)), (3, 0), (0, 0), (0, (i : Int))] [] sh_T M1 := by
    intro i M1 p1 p2 p3
    refine bk_X4_bears_67 ⟨dr_ob hd.1, st_count hd.1 ?_⟩
    exact ⟨fun _ => ⟨Or.inl rfl, am_c0_i (h0 M1 p1 p3)⟩, fun _ => ⟨fun _ => ⟨Or.inl rfl, am_c0_i (h0 M1 p1 p3)⟩, fun z => absurd rfl z⟩⟩
  have go : (round = true → 1 < dN D) → ∀ (m i : Nat), i + m = dN D → ∀ M1 : am_M, ft_fr k M M1 → dm_ok M1 c D → sm_ok M1 D (138 + 1 + 2 * (k : Int)) a g (pu_step D a g round w) → (∀ j : Nat, j < i → es D a g r (pu_up (pu_step D a g round w) j (sp_v D (pu_step D a g round w) j))) → am_g 4 5 co_X4_bears (e' + 5) (am_c0 sh_T f) 67 [(2, 128), (2, c), (0, (k : Int)), (0, (n : Int)), (3, 0), (0, 1), (0, (i : Int))] [] sh_T M1 := by
    intro hr m
    induction m with
    | zero =>
      intro i hi M1 p1 p2 p3 p4
      refine bk_X4_bears_67 ⟨dr_ob hd.1, st_count hd.1 ?_⟩
      rw [if_pos (by decide), p2.2.2.1]
      exact ⟨fun _ => ⟨Or.inr rfl, am_c0_i (h1 M1 p1 ⟨hr, fun j hj => p4 j (by omega)⟩)⟩, fun z => by omega⟩
    | succ m ihm =>
      intro i hi M1 p1 p2 p3 p4
      refine bk_X4_bears_67 ⟨dr_ob hd.1, st_count hd.1 ?_⟩
      rw [if_pos (by decide), p2.2.2.1]
      refine ⟨fun z => by omega, fun _ => ⟨fun z => absurd z (by decide), fun _ => ⟨⟨by omega, by omega⟩, ⟨by omega, by omega⟩, ⟨by omega, by omega⟩, sA.1, st_copy sA sB (by omega) (by omega) (by omega) ⟨⟨by omega, by omega⟩, sB.1, st_at sB ?_⟩⟩⟩⟩
      have c1 : sm_ok (sl_cp M1 (129 + 1 + 2 * ((k : Int) + 1)) (138 + 1 + 2 * (k : Int))) D (129 + 1 + 2 * ((k : Int) + 1)) a g (pu_step D a g round w) := cp_ok sA p3
      have c2 : sm_ok (sl_cp M1 (129 + 1 + 2 * ((k : Int) + 1)) (138 + 1 + 2 * (k : Int))) D (138 + 1 + 2 * (k : Int)) a g (pu_step D a g round w) := sm_ok_fr (cp_fr (by omega) (by omega)) (cp_fr (by omega) (by omega)) (fun j => cp_fr (by omega) (by omega)) p3
      have cf : ∀ x j, ¬ x = 132 + 2 * (k : Int) → ¬ x = 133 + 2 * (k : Int) → sl_cp M1 (129 + 1 + 2 * ((k : Int) + 1)) (138 + 1 + 2 * (k : Int)) x j = M1 x j := fun x j x1 x2 => cp_fr (by omega) (by omega)
      generalize sl_cp M1 (129 + 1 + 2 * ((k : Int) + 1)) (138 + 1 + 2 * (k : Int)) = M2 at c1 c2 cf ⊢
      have e7 : M2 c 7 = dS D := by rw [cf c 7 (by omega) (by omega)]; exact p2.2.2.2.2.2.1
      have ew := c2.2.2.2.1 i (by omega) (by omega)
      have hwb := c2.2.2.2.2.1 i (by omega) (by omega)
      rw [if_pos ⟨by omega, by omega⟩, ew, e7]
      refine ⟨⟨by omega, by omega⟩, st_min (st_put sA (by omega) (by omega) ?_)⟩
      have es1 : (if pu_step D a g round w i + dS D < 999 then pu_step D a g round w i + dS D else 999) = sp_v D (pu_step D a g round w) i := rfl
      rw [es1]
      have hv : 0 ≤ sp_v D (pu_step D a g round w) i ∧ sp_v D (pu_step D a g round w) i ≤ 999 := by
        unfold sp_v
        split <;> omega
      have c3 := sm_put c1 (show (i : Int) < dN D by omega) hv
      have c4 : sm_ok (am_up M2 (129 + 1 + 2 * ((k : Int) + 1) + 1) i (sp_v D (pu_step D a g round w) i)) D (138 + 1 + 2 * (k : Int)) a g (pu_step D a g round w) := sm_ok_fr (am_up_el (by omega)) (am_up_el (by omega)) (fun j => am_up_el (by omega)) c2
      have cg : ∀ x j, ¬ x = 132 + 2 * (k : Int) → ¬ x = 133 + 2 * (k : Int) → am_up M2 (129 + 1 + 2 * ((k : Int) + 1) + 1) i (sp_v D (pu_step D a g round w) i) x j = M1 x j := fun x j x1 x2 => by rw [am_up_el (by omega), cf x j x1 x2]
      generalize am_up M2 (129 + 1 + 2 * ((k : Int) + 1) + 1) i (sp_v D (pu_step D a g round w) i) = M3 at c3 c4 cg ⊢
      have d3 : dm_ok M3 c D := dm_ok_fr (fun x j x1 x2 _ _ _ _ => cg x j (by omega) (by omega)) p2
      have f3 : ft_fr k M M3 := ft_tr p1 ⟨fun x j y => by unfold sc_ at y; exact cg x j (by omega) (by omega), fun x j x1 x2 => cg x j (by omega) (by omega), fun x j x1 x2 => cg x j (by omega) (by omega)⟩
      have up : ∀ M4, ft_fr (k + 1) M3 M4 → ft_fr k M M4 ∧ dm_ok M4 c D ∧ sm_ok M4 D (138 + 1 + 2 * (k : Int)) a g (pu_step D a g round w) := fun M4 q => ⟨ft_tr f3 ⟨q.1, fun x j x1 x2 => q.2.1 x j x1 (by omega), fun x j x1 x2 => q.2.2 x j x1 (by omega)⟩, dm_ok_sc q.1 d3, sm_ok_fr (q.2.2 _ _ (by omega) (by omega)) (q.2.2 _ _ (by omega) (by omega)) (fun j => q.2.2 _ _ (by omega) (by omega)) c4⟩
      refine ⟨⟨by omega, by omega⟩, ih (k + 1) M3 _ (e' + 5) _ (by omega) d3 (by exact c3) (by omega) (fun M4 q1 q2 => ⟨⟨by omega, by omega⟩, ?_⟩) (fun M4 q1 q2 => ⟨⟨by omega, by omega⟩, ?_⟩)⟩
      · obtain ⟨u1, u2, u3⟩ := up M4 q1
        refine ihm (i + 1) (by omega) M4 u1 u2 u3 (fun j hj => ?_)
        by_cases y : j = i
        · rw [y]; exact q2
        · exact p4 j (by omega)
      · obtain ⟨u1, u2, u3⟩ := up M4 q1
        exact stop (i + 1) M4 u1 u2 (fun y => q2 (y.2 i (by omega)))
  refine en_X4_bears (bk_X4_bears_0 ⟨fun z => by omega, fun _ => ⟨⟨by omega, by omega⟩, fun z => by omega, fun _ => ⟨fun _ => ⟨⟨by omega, by omega⟩, ⟨by omega, by omega⟩, sB.1, st_copy sB hs.1 (by omega) (by omega) (by omega) ⟨dr_ob hd.1, ?_⟩⟩, fun z => by omega⟩⟩⟩)
  have c1 : sm_ok (sl_cp M (138 + 1 + 2 * (k : Int)) (129 + 1 + 2 * (k : Int))) D (138 + 1 + 2 * (k : Int)) a g w := cp_ok sB hs
  have cf : ∀ x j, ¬ x = 139 + 2 * (k : Int) → ¬ x = 140 + 2 * (k : Int) → sl_cp M (138 + 1 + 2 * (k : Int)) (129 + 1 + 2 * (k : Int)) x j = M x j := fun x j x1 x2 => cp_fr (by omega) (by omega)
  generalize sl_cp M (138 + 1 + 2 * (k : Int)) (129 + 1 + 2 * (k : Int)) = M1 at c1 cf ⊢
  have d1 : dm_ok M1 c D := dm_ok_fr (fun x j x1 x2 _ _ _ _ => cf x j (by omega) (by omega)) hd
  have f1 : ft_fr k M M1 := ⟨fun x j y => by unfold sc_ at y; exact cf x j (by omega) (by omega), fun x j x1 x2 => cf x j (by omega) (by omega), fun x j x1 x2 => cf x j (by omega) (by omega)⟩
  by_cases hr : round = true → 1 < dN D
  · refine st_room d1 c1 hh hr (fun M2 f2 d2 s2 => ?_)
    have hn0 := pu_away hd.2.1 hs.2.2.2.2 hh
    have dr0 : ¬ pu_dread D g round w = -1 := by
      unfold pu_dread pu_with
      split
      · rename_i y
        have := (pu_snd_in (g := g) (r := df_ D g) (w := w) (hr y)).1
        omega
      · have := (pu_wst_in (g := g) (r := df_ D g) (w := w) hn0).1
        omega
    have f2' : ft_fr k M M2 := ft_tr f1 ⟨fun x j y => by unfold sc_ at y; exact f2 x j (by rcases hcc with e | e <;> omega) (by rcases hcc with e | e <;> omega) (by rcases hcc with e | e <;> omega) (by rcases hcc with e | e <;> omega) (by omega), fun x j x1 x2 => f2 x j (by omega) (by omega) (by omega) (by omega) (by omega), fun x j x1 x2 => f2 x j (by omega) (by omega) (by omega) (by omega) (by omega)⟩
    exact ⟨fun z => absurd z dr0, fun _ => go hr (dN D) 0 (Nat.zero_add _) M2 f2' d2 s2 (fun j hj => by omega)⟩
  · have hrt : round = true := by
      cases round with
      | true => rfl
      | false => exact absurd (fun z => by cases z) hr
    have hno : ¬ 1 < dN D := fun z => hr (fun _ => z)
    subst hrt
    exact st_room_no d1 c1 hno ⟨fun _ => stop 0 M1 f1 d1 (fun y => hr y.1), fun z => absurd rfl z⟩
theorem st_escapes {D : dm_D} {c a g : Int} {n : Nat} (hn : n ≤ 3) (hS : 0 ≤ dS D ∧ dS D ≤ 1000000) : ∀ r : Nat, P_es D c a g n r
  | 0 => by
    intro k M w e f hk hd hs he h1 h0
    obtain ⟨e', rfl⟩ : ∃ e', e = (e' + 2) + 1 := ⟨e - 3, by omega⟩
    refine en_X4_escapes (bk_X4_escapes_0 ⟨fun z => by omega, fun _ => ⟨fun _ => ⟨⟨by omega, by omega⟩, dr_ob hd.1, st_home hd hs ⟨fun z => ⟨fun _ => am_c0_i (h0 M ft_rf (fun q => (am_b_z (p := pu_home D w)).mp z q)), fun y => by omega⟩, fun z => am_c0_i (h1 M ft_rf (am_b_nz (p := pu_home D w) z))⟩⟩, fun z => by omega⟩⟩)
  | r + 1 => by
    intro k M w e f hk hd hs he h1 h0
    have ih := st_escapes (c := c) (a := a) (g := g) hn hS r
    obtain ⟨e', rfl⟩ : ∃ e', e = (e' + 2) + 1 := ⟨e - 3, by omega⟩
    refine en_X4_escapes (bk_X4_escapes_0 ⟨fun z => by omega, fun _ => ⟨fun _ => ⟨⟨by omega, by omega⟩, dr_ob hd.1, st_home hd hs ⟨fun z => ⟨fun y => by omega, fun _ => ?_⟩, fun z => am_c0_i (h1 M ft_rf (Or.inl (am_b_nz z)))⟩⟩, fun z => by omega⟩⟩)
    have hh := am_b_z.mp z
    have b0 : ∀ F, (∀ M', ft_fr k M M' → br_ D a g r false w → F 1 M') → (∀ M', ft_fr k M M' → ¬ br_ D a g r false w → F 0 M') → am_cal pg (e' + 2) 49 [(2, 128), (2, c), (0, (k : Int)), (0, (n : Int)), (0, 0)] sh_T M (am_c0 sh_T F) := fun F q1 q2 => by
      have q := st_bears hn hS ih k M w (e' + 2) F false (by omega) hd hs hh (by omega) q1 q2
      rw [am_b_0 (show ¬ (false = true) by decide)] at q
      exact q
    refine b0 _ (fun M1 q1 q2 => ⟨fun _ => am_c0_i (h1 M1 q1 (Or.inr ⟨false, q2.1, q2.2⟩)), fun y => absurd y (by decide)⟩) (fun M1 q1 q2 => ⟨fun y => absurd rfl y, fun _ => ?_⟩)
    have d1 := dm_ok_sc q1.1 hd
    have s1 : sm_ok M1 D (129 + 1 + 2 * (k : Int)) a g w := sm_ok_fr (q1.2.1 _ _ (by omega) (by omega)) (q1.2.1 _ _ (by omega) (by omega)) (fun j => q1.2.1 _ _ (by omega) (by omega)) hs
    have b1 : ∀ F, (∀ M', ft_fr k M1 M' → br_ D a g r true w → F 1 M') → (∀ M', ft_fr k M1 M' → ¬ br_ D a g r true w → F 0 M') → am_cal pg (e' + 2) 49 [(2, 128), (2, c), (0, (k : Int)), (0, (n : Int)), (0, 1)] sh_T M1 (am_c0 sh_T F) := fun F q3 q4 => by
      have q := st_bears hn hS ih k M1 w (e' + 2) F true (by omega) d1 s1 hh (by omega) q3 q4
      rw [am_b_1 (show (true = true) by decide)] at q
      exact q
    refine b1 _ (fun M2 q3 q4 => ⟨fun y => absurd y (by decide), fun _ => am_c0_i (h1 M2 (ft_tr q1 q3) (Or.inr ⟨true, q4.1, q4.2⟩))⟩) (fun M2 q3 q4 => ⟨fun _ => am_c0_i (h0 M2 (ft_tr q1 q3) (fun y => ?_)), fun y => absurd rfl y⟩)
    rcases y with y | ⟨b, y1, y2⟩
    · exact hh y
    · cases b with
      | false => exact q2 ⟨y1, y2⟩
      | true => exact q4 ⟨y1, y2⟩
