/-! THE CLASS READS SUMS as they are read as a value -/
section CS
variable {M0 : am_M} {q : Bool} {v : Int}
theorem cf_part {d : Nat} {M : am_M} {f : am_M → Prop} {k z x : Int} (h : cf_ M0 M v k z) (hf : ∀ M', cf_ M0 M' v k z → f M') : am_cal pg (d + 2) 86 [(2, 3), (0, x)] sh_T M (am_cv sh_T f) :=
  en_X8_readPart (bk_X8_readPart_0 (cf_failed h ⟨fun y => absurd y (by decide), fun _ => am_cv_i (hf M h)⟩))
theorem cf_prod {d : Nat} {M : am_M} {f : am_M → Prop} {k z x : Int} (h : cf_ M0 M v k z) (hf : ∀ M', cf_ M0 M' v k z → f M') : am_cal pg (d + 3) 85 [(2, 3), (0, x)] sh_T M (am_cv sh_T f) :=
  en_X8_readProduct (bk_X8_readProduct_0 (cf_part h (fun M1 h1 => bk_X8_readProduct_7 ⟨fun y => absurd y (by decide), fun _ => cf_failed h1 ⟨fun _ => am_cv_i (hf M1 h1), fun y => absurd y (by decide)⟩⟩)))
theorem cf_sum {d : Nat} {M : am_M} {f : am_M → Prop} {k z x : Int} (h : cf_ M0 M v k z) (hf : ∀ M', cf_ M0 M' v k z → f M') : am_cal pg (d + 4) 84 [(2, 3), (0, x)] sh_T M (am_cv sh_T f) :=
  en_X8_readSum (bk_X8_readSum_0 (cf_prod h (fun M1 h1 => bk_X8_readSum_7 ⟨fun y => absurd y (by decide), fun _ => cf_failed h1 ⟨fun _ => am_cv_i (hf M1 h1), fun y => absurd y (by decide)⟩⟩)))
/-- what reading gives, for the class -/
def ck_ (M0 : am_M) (q : Bool) (v : Int) (C : List Int) (f : am_M → Prop) (x : pr_ (List Int)) : Prop := match x with
  | .error (k, z) => ∀ M', cf_ M0 M' v k z → f M'
  | .ok (p1, en1, ds) => ∀ M', cs_ M0 M' q v p1 en1 (C ++ ds) → f M'
theorem ck_b {α : Type} {C : List Int} {f : am_M → Prop} {x : pr_ α} {g : Int → Int → α → pr_ (List Int)} (h : ck_ M0 q v C f (pr_b x g)) : (∀ k z, x = .error (k, z) → ∀ M', cf_ M0 M' v k z → f M') ∧ ∀ p1 en1 a, x = .ok (p1, en1, a) → ck_ M0 q v C f (g p1 en1 a) := by
  match x, h with
  | .error (k, z), h => exact ⟨fun k' z' hx => (by cases hx; exact h), fun p1 en1 a hx => (by cases hx)⟩
  | .ok (p1, en1, a), h => exact ⟨fun k' z' hx => (by cases hx), fun p1' en1' a' hx => (by cases hx; exact h)⟩
theorem ck_mk {C : List Int} {f : am_M → Prop} {x : pr_ (List Int)} (h1 : ∀ k z, x = .error (k, z) → ∀ M', cf_ M0 M' v k z → f M') (h2 : ∀ p1 en1 ds, x = .ok (p1, en1, ds) → ∀ M', cs_ M0 M' q v p1 en1 (C ++ ds) → f M') : ck_ M0 q v C f x := by
  match x, h1, h2 with
  | .error (k, z), h1, _ => exact h1 k z rfl
  | .ok (p1, en1, a), _, h2 => exact h2 p1 en1 a rfl
/-- a method of the class's that reads as a value does, where a depth is left -/
def cm_ (M0 : am_M) (q : Bool) (v : Int) (m K : Nat) (a : Int) (sub : Int → Int → pr_ (List Int)) : Prop := ∀ (M : am_M) (p en : Int) (C : List Int) (e : Nat) (f : am_M → Prop), cs_ M0 M q v p en C → (C.length : Int) ≤ p → K ≤ e → ck_ M0 q v C f (sub p en) → am_cal pg e m [(2, 3), (0, a)] sh_T M (am_cv sh_T f)
theorem cm_prod (hg : cg_ M0 q v) {K : Nat} {a : Int} {sub : Int → Int → pr_ (List Int)} (hK : 4 ≤ K) (hs : pz_gs (M0 2) (M0 1 1) sub) (hP : cm_ M0 q v 86 K a sub) : cm_ M0 q v 85 (K + 1) a (pz_prod (M0 2) (M0 1 1) sub) := by
  intro M p en C e f h hC he hk
  obtain ⟨e', rfl⟩ : ∃ e', e = (e' + 3) + 1 := ⟨e - 4, by omega⟩
  obtain ⟨b1, b2⟩ := ck_b hk
  obtain ⟨i1, i2, i3, i4, -⟩ := cs_in hg h
  have hgp := hs p en i1 i2 i3
  have fault : ∀ M1 k z (i : Int), i < 1600 → cf_ M0 M1 v k z → f M1 → am_g 8 9 co_X8_readProduct (e' + 3) (am_cv sh_T f) 7 [(2, 3), (0, a), (0, i), (3, 0)] [] sh_T M1 := fun M1 k z i hi h1 hf => bk_X8_readProduct_7 ⟨fun y => by omega, fun _ => cf_failed h1 ⟨fun _ => am_cv_i hf, fun y => absurd y (by decide)⟩⟩
  have loop : ∀ (m i : Nat), i + m = 1600 → ∀ (M1 : am_M) (p1 en1 : Int) (ds : List Int), cs_ M0 M1 q v p1 en1 (C ++ ds) → ((C ++ ds).length : Int) ≤ p1 → (M0 1 1 - p1 < m) → ck_ M0 q v C f (pz_lp (M0 2) (M0 1 1) 42 47 3 4 sub m p1 en1 ds) → am_g 8 9 co_X8_readProduct (e' + 3) (am_cv sh_T f) 7 [(2, 3), (0, a), (0, (i : Int)), (3, 0)] [] sh_T M1 := by
    intro m
    induction m with
    | zero =>
      intro i hi M1 p1 en1 ds h1 hl hm hk
      have := (cs_in hg h1).2.1
      omega
    | succ m ih =>
      intro i hi M1 p1 en1 ds h1 hl hm hk
      obtain ⟨j1, j2, j3, j4, -⟩ := cs_in hg h1
      -- behind a sign
      have go : ∀ (ca sg : Int), 1 ≤ ca ∧ ca ≤ 6 → 0 ≤ sg → rc (M0 2) (M0 1 1) p1 = sg → ck_ M0 q v C f (pr_b (sub (rd_at (M0 2) (M0 1 1) (p1 + 1)) en1) (fun p' en' fs => pz_lp (M0 2) (M0 1 1) 42 47 3 4 sub m p' en' (ds ++ fs ++ [ca]))) → ∀ M2, cs_ M0 M2 q v p1 en1 (C ++ ds) → M2 1 2 = p1 → am_cal pg (e' + 3) 100 [(2, 1)] sh_T M2 (am_cv sh_T fun M8 => am_cal pg (e' + 3) 86 [(2, 3), (0, a)] sh_T M8 (am_cv sh_T fun M9 => am_cal pg (e' + 3) 82 [(2, 3), (0, cq q ca)] sh_T M9 (am_cv sh_T fun M10 => am_r ((i : Int) + 1) ∧ am_g 8 9 co_X8_readProduct (e' + 3) (am_cv sh_T f) 7 [(2, 3), (0, a), (0, (i : Int) + 1), (3, 0)] [] sh_T M10))) := fun ca sg hca hsg hc hk M2 h2 hp2 => by
        have hlt := (rc_lt hc hsg).1
        have hr := rd_at_le (t := M0 2) (e := M0 1 1) (i := p1 + 1) (by omega)
        obtain ⟨d1, d2⟩ := ck_b hk
        have hgs := hs (rd_at (M0 2) (M0 1 1) (p1 + 1)) en1 (by omega) hr.2 rd_at_at
        refine ct_step hg h2 hp2 hlt (fun M8 h8 => hP M8 _ _ _ _ _ h8 (by omega) (by omega) (ck_mk (fun k z hx M' hM => ?_) (fun p2 en2 fs hx M' hM => ?_)))
        · exact cf_emit hg hM (fun M'' hM2 => ⟨⟨by omega, by omega⟩, by
            by_cases hi6 : (i : Int) + 1 < 1600
            · exact fault M'' k z _ hi6 hM2 (d1 k z hx M'' hM2)
            · exact bk_X8_readProduct_7 ⟨fun _ => am_cv_i (d1 k z hx M'' hM2), fun y => absurd y hi6⟩⟩)
        · obtain ⟨g1, g2, g3, g4, g5⟩ := pz_g_o hgs hx
          rw [List.length_append] at hl
          have el : (C ++ ds ++ fs).length = C.length + ds.length + fs.length := by rw [List.length_append, List.length_append]
          refine ct_emit hg hM (by omega) rfl (fun M'' hM2 => ⟨⟨by omega, by omega⟩, ?_⟩)
          have ea : C ++ ds ++ fs ++ [ca] = C ++ (ds ++ fs ++ [ca]) := by simp only [List.append_assoc]
          rw [ea] at hM2
          have el2 : (C ++ (ds ++ fs ++ [ca])).length = C.length + ds.length + fs.length + 1 := by rw [← ea, List.length_append, el, List.length_singleton]
          exact ih (i + 1) (by omega) M'' p2 en2 _ hM2 (by omega) (by omega) (d2 p2 en2 fs hx)
      unfold pz_lp at hk
      refine bk_X8_readProduct_7 ⟨fun z => by omega, fun _ => ct_failed h1 ⟨fun z => absurd rfl z, fun _ => ct_sees hg h1 (fun M2 h2 hp2 => ⟨fun z => ct_sees hg h2 (fun M3 h3 hp3 => ⟨fun y => am_cv_i ?_, fun y => ?_⟩), fun z => ?_⟩)⟩⟩
      · rw [if_neg (am_b_z.mp z), if_neg (am_b_z.mp y)] at hk
        exact hk M3 h3
      · have y' := am_b_nz y
        rw [if_neg (am_b_z.mp z), if_pos y'] at hk
        have r := go 4 47 (by decide) (by decide) y' hk M3 h3 hp3
        rw [show cq q 4 = -4 by cases q <;> rfl] at r
        exact r
      · have z' := am_b_nz z
        rw [if_pos z'] at hk
        have r := go 3 42 (by decide) (by decide) z' hk M2 h2 hp2
        rw [show cq q 3 = -3 by cases q <;> rfl] at r
        exact r
  refine en_X8_readProduct (bk_X8_readProduct_0 (hP M p en C _ _ h hC (by omega) (ck_mk (fun k z hx M1 h1 => fault M1 k z 0 (by decide) h1 (b1 k z hx M1 h1)) (fun p1 en1 ds hx M1 h1 => ?_))))
  obtain ⟨g1, g2, g3, g4, g5⟩ := pz_g_o hgp hx
  exact loop 1600 0 rfl M1 p1 en1 ds h1 (by rw [List.length_append]; omega) (by omega) (b2 p1 en1 ds hx)
theorem cm_sum (hg : cg_ M0 q v) {K : Nat} {a : Int} {sub : Int → Int → pr_ (List Int)} (hK : 4 ≤ K) (hs : pz_gs (M0 2) (M0 1 1) sub) (hP : cm_ M0 q v 86 K a sub) : cm_ M0 q v 84 (K + 2) a (pz_sum (M0 2) (M0 1 1) sub) := by
  have hP := cm_prod hg hK hs hP
  have hs := pz_prod_g hs
  intro M p en C e f h hC he hk
  obtain ⟨e', rfl⟩ : ∃ e', e = (e' + 3) + 1 := ⟨e - 4, by omega⟩
  obtain ⟨b1, b2⟩ := ck_b hk
  obtain ⟨i1, i2, i3, i4, -⟩ := cs_in hg h
  have hgp := hs p en i1 i2 i3
  have fault : ∀ M1 k z (i : Int), i < 1600 → cf_ M0 M1 v k z → f M1 → am_g 8 9 co_X8_readSum (e' + 3) (am_cv sh_T f) 7 [(2, 3), (0, a), (0, i), (3, 0)] [] sh_T M1 := fun M1 k z i hi h1 hf => bk_X8_readSum_7 ⟨fun y => by omega, fun _ => cf_failed h1 ⟨fun _ => am_cv_i hf, fun y => absurd y (by decide)⟩⟩
  have loop : ∀ (m i : Nat), i + m = 1600 → ∀ (M1 : am_M) (p1 en1 : Int) (ds : List Int), cs_ M0 M1 q v p1 en1 (C ++ ds) → ((C ++ ds).length : Int) ≤ p1 → (M0 1 1 - p1 < m) → ck_ M0 q v C f (pz_lp (M0 2) (M0 1 1) 43 45 1 2 (pz_prod (M0 2) (M0 1 1) sub) m p1 en1 ds) → am_g 8 9 co_X8_readSum (e' + 3) (am_cv sh_T f) 7 [(2, 3), (0, a), (0, (i : Int)), (3, 0)] [] sh_T M1 := by
    intro m
    induction m with
    | zero =>
      intro i hi M1 p1 en1 ds h1 hl hm hk
      have := (cs_in hg h1).2.1
      omega
    | succ m ih =>
      intro i hi M1 p1 en1 ds h1 hl hm hk
      obtain ⟨j1, j2, j3, j4, -⟩ := cs_in hg h1
      have go : ∀ (ca sg : Int), 1 ≤ ca ∧ ca ≤ 6 → 0 ≤ sg → rc (M0 2) (M0 1 1) p1 = sg → ck_ M0 q v C f (pr_b (pz_prod (M0 2) (M0 1 1) sub (rd_at (M0 2) (M0 1 1) (p1 + 1)) en1) (fun p' en' fs => pz_lp (M0 2) (M0 1 1) 43 45 1 2 (pz_prod (M0 2) (M0 1 1) sub) m p' en' (ds ++ fs ++ [ca]))) → ∀ M2, cs_ M0 M2 q v p1 en1 (C ++ ds) → M2 1 2 = p1 → am_cal pg (e' + 3) 100 [(2, 1)] sh_T M2 (am_cv sh_T fun M8 => am_cal pg (e' + 3) 85 [(2, 3), (0, a)] sh_T M8 (am_cv sh_T fun M9 => am_cal pg (e' + 3) 82 [(2, 3), (0, cq q ca)] sh_T M9 (am_cv sh_T fun M10 => am_r ((i : Int) + 1) ∧ am_g 8 9 co_X8_readSum (e' + 3) (am_cv sh_T f) 7 [(2, 3), (0, a), (0, (i : Int) + 1), (3, 0)] [] sh_T M10))) := fun ca sg hca hsg hc hk M2 h2 hp2 => by
        have hlt := (rc_lt hc hsg).1
        have hr := rd_at_le (t := M0 2) (e := M0 1 1) (i := p1 + 1) (by omega)
        obtain ⟨d1, d2⟩ := ck_b hk
        have hgs := hs (rd_at (M0 2) (M0 1 1) (p1 + 1)) en1 (by omega) hr.2 rd_at_at
        refine ct_step hg h2 hp2 hlt (fun M8 h8 => hP M8 _ _ _ _ _ h8 (by omega) (by omega) (ck_mk (fun k z hx M' hM => ?_) (fun p2 en2 fs hx M' hM => ?_)))
        · exact cf_emit hg hM (fun M'' hM2 => ⟨⟨by omega, by omega⟩, by
            by_cases hi6 : (i : Int) + 1 < 1600
            · exact fault M'' k z _ hi6 hM2 (d1 k z hx M'' hM2)
            · exact bk_X8_readSum_7 ⟨fun _ => am_cv_i (d1 k z hx M'' hM2), fun y => absurd y hi6⟩⟩)
        · obtain ⟨g1, g2, g3, g4, g5⟩ := pz_g_o hgs hx
          rw [List.length_append] at hl
          have el : (C ++ ds ++ fs).length = C.length + ds.length + fs.length := by rw [List.length_append, List.length_append]
          refine ct_emit hg hM (by omega) rfl (fun M'' hM2 => ⟨⟨by omega, by omega⟩, ?_⟩)
          have ea : C ++ ds ++ fs ++ [ca] = C ++ (ds ++ fs ++ [ca]) := by simp only [List.append_assoc]
          rw [ea] at hM2
          have el2 : (C ++ (ds ++ fs ++ [ca])).length = C.length + ds.length + fs.length + 1 := by rw [← ea, List.length_append, el, List.length_singleton]
          exact ih (i + 1) (by omega) M'' p2 en2 _ hM2 (by omega) (by omega) (d2 p2 en2 fs hx)
      unfold pz_lp at hk
      refine bk_X8_readSum_7 ⟨fun z => by omega, fun _ => ct_failed h1 ⟨fun z => absurd rfl z, fun _ => ct_sees hg h1 (fun M2 h2 hp2 => ⟨fun z => ct_sees hg h2 (fun M3 h3 hp3 => ⟨fun y => am_cv_i ?_, fun y => ?_⟩), fun z => ?_⟩)⟩⟩
      · rw [if_neg (am_b_z.mp z), if_neg (am_b_z.mp y)] at hk
        exact hk M3 h3
      · have y' := am_b_nz y
        rw [if_neg (am_b_z.mp z), if_pos y'] at hk
        have r := go 2 45 (by decide) (by decide) y' hk M3 h3 hp3
        rw [show cq q 2 = -2 by cases q <;> rfl] at r
        exact r
      · have z' := am_b_nz z
        rw [if_pos z'] at hk
        have r := go 1 43 (by decide) (by decide) z' hk M2 h2 hp2
        rw [show cq q 1 = -1 by cases q <;> rfl] at r
        exact r
  refine en_X8_readSum (bk_X8_readSum_0 (hP M p en C _ _ h hC (by omega) (ck_mk (fun k z hx M1 h1 => fault M1 k z 0 (by decide) h1 (b1 k z hx M1 h1)) (fun p1 en1 ds hx M1 h1 => ?_))))
  obtain ⟨g1, g2, g3, g4, g5⟩ := pz_g_o hgp hx
  exact loop 1600 0 rfl M1 p1 en1 ds h1 (by rw [List.length_append]; omega) (by omega) (b2 p1 en1 ds hx)
theorem sw_8 : pg_str 1000008 = wj_ ((ts_ true).map Prod.fst) ∧ pg_str 1000008 ≠ [] ∧ (pg_str 1000008).length ≤ 1000 := by decide +kernel
theorem sw_9 : pg_str 1000009 = wj_ ((ts_ false).map Prod.fst) ∧ pg_str 1000009 ≠ [] ∧ (pg_str 1000009).length ≤ 1000 := by decide +kernel
theorem ts_w (q : Bool) : ((ts_ q).map Prod.fst) ≠ [] ∧ ∀ w ∈ (ts_ q).map Prod.fst, w ≠ [] ∧ ∀ c ∈ w, c ≠ 32 := by cases q <;> decide +kernel
/-- the step of a word's code -/
theorem cq_w {c : Int} (h : c = 0 ∨ c = 5 ∨ c = 6 ∨ (q = false ∧ 7 ≤ c ∧ c ≤ 12) ∨ (q = true ∧ (c = 60 ∨ 40 ≤ c ∧ c ≤ 44))) : (cq q c = 0 ↔ c = 0) ∧ (cq q c = -5 ↔ c = 5) ∧ (cq q c = -6 ↔ c = 6) ∧ (cq q c = -13 ↔ c = 60) := by
  rcases h with rfl | rfl | rfl | ⟨rfl, h1, h2⟩ | ⟨rfl, rfl | ⟨h1, h2⟩⟩
  · cases q <;> decide
  · cases q <;> decide
  · cases q <;> decide
  · rcases (show c = 7 ∨ c = 8 ∨ c = 9 ∨ c = 10 ∨ c = 11 ∨ c = 12 by omega) with rfl | rfl | rfl | rfl | rfl | rfl <;> decide
  · decide
  · rcases (show c = 40 ∨ c = 41 ∨ c = 42 ∨ c = 43 ∨ c = 44 by omega) with rfl | rfl | rfl | rfl | rfl <;> decide
/-- the pair behind min and max -/
theorem cm_pair (hg : cg_ M0 q v) {K r : Nat} (hr : r ≤ 6) {o : Option (Int → Int → pr_ (List Int))} (hK : 8 ≤ K) (ho : (o = none ∧ r = 0) ∨ ∃ sub r', o = some sub ∧ r = r' + 1 ∧ pz_gs (M0 2) (M0 1 1) sub ∧ ∃ L, L + 3 ≤ K ∧ 4 ≤ L ∧ cm_ M0 q v 86 L (6 - (r' : Int)) sub) {c : Int} {M : am_M} {p en : Int} {C : List Int} {e : Nat} {f : am_M → Prop} (h : cs_ M0 M q v p en C) (hC : (C.length : Int) ≤ p) (he : K ≤ e) (hE : ∀ M' k z, cf_ M0 M' v k z → (∀ M'', cf_ M0 M'' v k z → f M'') → f M') (hk : ck_ M0 q v C f (pz_pair (M0 2) (M0 1 1) o c p en)) (f2 : am_M → Prop) (hf2 : ∀ (p1 en1 : Int) (ds : List Int) (M' : am_M), cs_ M0 M' q v p1 en1 (C ++ ds) → ((C ++ ds).length : Int) < p1 → (∀ M'', cs_ M0 M'' q v p1 en1 (C ++ (ds ++ [c])) → f M'') → f2 M') (hf3 : ∀ (k z : Int) (M' : am_M), cf_ M0 M' v k z → (∀ M'', cf_ M0 M'' v k z → f M'') → f2 M') : am_cal pg e 88 [(2, 3), (0, 6 - (r : Int))] sh_T M (am_cv sh_T f2) := by
  obtain ⟨e', rfl⟩ : ∃ e', e = (e' + 7) + 1 := ⟨e - 8, by omega⟩
  obtain ⟨i1, i2, i3, i4, -⟩ := cs_in hg h
  unfold pz_pair at hk
  refine en_X8_readPair (bk_X8_readPair_0 (ct_sees hg h (fun M1 h1 hp1 => ⟨fun y => ?_, fun y => ?_⟩)))
  · have y' := am_b_nz y
    rw [if_pos y'] at hk
    have hlt := (rc_lt y' (by decide)).1
    have hrd := rd_at_le (t := M0 2) (e := M0 1 1) (i := p + 1) (by omega)
    refine ct_open hg h1 hr (fun hr0 M2 h2 => ⟨fun _ => am_cv_i ?_, fun z => absurd rfl z⟩) (fun r' hr' => ⟨fun z => absurd z (by decide), fun _ => ct_step hg h1 hp1 hlt (fun M2 h2 => ?_)⟩)
    · rcases ho with ⟨o1, o2⟩ | ⟨sub, r', o1, o2, o3, L, o4, o5, o6⟩
      · rw [o1] at hk
        exact hf3 4 p M2 h2 hk
      · omega
    · rcases ho with ⟨o1, o2⟩ | ⟨sub, r2, o1, o2, o3, L, o4, o5, o6⟩
      · omega
      · have er : (6 : Int) - (r : Int) + 1 = 6 - (r2 : Int) := by omega
        rw [o1] at hk
        rw [er]
        have hk : ck_ M0 q v C f (pr_b (pz_sum (M0 2) (M0 1 1) sub (rd_at (M0 2) (M0 1 1) (p + 1)) en) (fun p1 en1 cs => pr_b (pr_sg (M0 2) (M0 1 1) 44 cs p1 en1) (fun p2 en2 cs => pr_b (pz_sum (M0 2) (M0 1 1) sub p2 en2) (fun p3 en3 ds => pr_sg (M0 2) (M0 1 1) 41 (cs ++ ds ++ [c]) p3 en3)))) := hk
        have hS := cm_sum hg o5 o3 o6
        have hsg := pz_sum_g o3
        obtain ⟨b1, b2⟩ := ck_b hk
        have hgp := hsg (rd_at (M0 2) (M0 1 1) (p + 1)) en (by omega) hrd.2 rd_at_at
        refine ⟨⟨by omega, by omega⟩, hS M2 _ _ C _ _ h2 (by omega) (by omega) (ck_mk (fun k z hx M3 h3 => ?_) (fun p1 en1 cs hx M3 h3 => ?_))⟩
        · exact cf_demand (by decide) hg h3 (fun M4 h4 => ⟨⟨by omega, by omega⟩, cf_sum h4 (fun M5 h5 => cf_demand (by decide) hg h5 (fun M6 h6 => am_cv_i (hf3 k z M6 h6 (b1 k z hx))))⟩)
        · obtain ⟨g1, g2, g3, g4, g5⟩ := pz_g_o hgp hx
          obtain ⟨d1, d2⟩ := ck_b (b2 p1 en1 cs hx)
          refine ct_demand (by decide) hg h3 (fun y2 M4 h4 => ?_) (fun y2 M4 h4 => ⟨⟨by omega, by omega⟩, cf_sum h4 (fun M5 h5 => cf_demand (by decide) hg h5 (fun M6 h6 => am_cv_i (hf3 1 p1 M6 h6 (d1 1 p1 (if_neg y2)))))⟩)
          have hlt1 := (rc_lt y2 (by decide)).1
          have hrd1 := rd_at_le (t := M0 2) (e := M0 1 1) (i := p1 + 1) (by omega)
          have hk2 := d2 (rd_at (M0 2) (M0 1 1) (p1 + 1)) en1 cs (if_pos y2)
          obtain ⟨c1, c2⟩ := ck_b hk2
          have hgp2 := hsg (rd_at (M0 2) (M0 1 1) (p1 + 1)) en1 (by omega) hrd1.2 rd_at_at
          have elc : (C ++ cs).length = C.length + cs.length := List.length_append
          refine ⟨⟨by omega, by omega⟩, hS M4 _ _ (C ++ cs) _ _ h4 (by omega) (by omega) (ck_mk (fun k z hx2 M5 h5 => ?_) (fun p3 en3 ds hx2 M5 h5 => ?_))⟩
          · exact cf_demand (by decide) hg h5 (fun M6 h6 => am_cv_i (hf3 k z M6 h6 (c1 k z hx2)))
          · obtain ⟨j1, j2, j3, j4, j5⟩ := pz_g_o hgp2 hx2
            have hk3 := c2 p3 en3 ds hx2
            unfold pr_sg at hk3
            have eld : (C ++ (cs ++ ds)).length = C.length + cs.length + ds.length := by rw [List.length_append, List.length_append]; omega
            refine ct_demand (by decide) hg h5 (fun y3 M6 h6 => ?_) (fun y3 M6 h6 => ?_)
            · rw [if_pos y3] at hk3
              have hlt3 := (rc_lt y3 (by decide)).1
              have hrd3 := rd_at_le (t := M0 2) (e := M0 1 1) (i := p3 + 1) (by omega)
              rw [List.append_assoc] at h6
              exact am_cv_i (hf2 _ _ (cs ++ ds) M6 h6 (by omega) hk3)
            · rw [if_neg y3] at hk3
              exact am_cv_i (hf3 1 p3 M6 h6 hk3)
  · have y' := am_b_z.mp y
    rw [if_neg y'] at hk
    exact ct_blame hg h1 (by decide) (fun M2 h2 => am_cv_i (hf3 1 p M2 h2 hk))
theorem cm_word (hg : cg_ M0 q v) {K r : Nat} (hr : r ≤ 6) {o : Option (Int → Int → pr_ (List Int))} (hK : 9 ≤ K) (ho : (o = none ∧ r = 0) ∨ ∃ sub r', o = some sub ∧ r = r' + 1 ∧ pz_gs (M0 2) (M0 1 1) sub ∧ ∃ L, L + 4 ≤ K ∧ 4 ≤ L ∧ cm_ M0 q v 86 L (6 - (r' : Int)) sub) : cm_ M0 q v 87 K (6 - (r : Int)) (pz_word q (M0 2) (M0 1 1) o) := by
  intro M p en C e f h hC he hk
  obtain ⟨e', rfl⟩ : ∃ e', e = (e' + 8) + 1 := ⟨e - 9, by omega⟩
  obtain ⟨i1, i2, i3, i4, -⟩ := cs_in hg h
  obtain ⟨hk1, hv, ⟨h31, h32⟩, hrow⟩ := hg
  have hg : cg_ M0 q v := ⟨hk1, hv, ⟨h31, h32⟩, hrow⟩
  have e32 : ∀ M', cs_ M0 M' q v p en C → M' 3 2 = am_b (q = true) := fun M' h' => (h'.1 3 2 (by omega) (by omega) (by omega)).trans h32
  have e1 : ∀ M', cs_ M0 M' q v p en C → ∀ i : Nat, i < 8 → M' 2000001 i = cv ((ts_ false).getD i ([], 0)).2 ∧ M' 2000002 i = qv ((ts_ true).getD i ([], 0)).2 := fun M' h' i hi => by
    rw [h'.1 2000001 i (by omega) (by omega) (by omega), h'.1 2000002 i (by omega) (by omega) (by omega)]
    exact hrow i hi
  have hcw := pr_wc_in (q := q) (t := M0 2) (e := M0 1 1) (en := en) (p := p)
  obtain ⟨w0, w5, w6, w60⟩ := cq_w hcw
  have hl8 : (ts_ q).length = 8 := by cases q <;> rfl
  unfold pz_word at hk
  have hl := rd_wd_le (t := M0 2) (en := en) i2
  have hrd := rd_at_le (t := M0 2) (e := M0 1 1) (i := p + rd_wd (M0 2) (M0 1 1) en p) hl.2
  -- the step is known
  have main : ∀ M1, cs_ M0 M1 q v p en C → M1 1 2 = p → am_g 8 9 co_X8_readWord (e' + 8) (am_cv sh_T f) 65 [(2, 3), (0, 6 - (r : Int)), (3, 0), (0, cq q (pr_wc (M0 2) (M0 1 1) en p (ts_ q)))] [] sh_T M1 := by
    intro M1 h1 hp1
    have pair : pr_wc (M0 2) (M0 1 1) en p (ts_ q) = 5 ∨ pr_wc (M0 2) (M0 1 1) en p (ts_ q) = 6 → am_g 8 9 co_X8_readWord (e' + 8) (am_cv sh_T f) 92 [(2, 3), (0, 6 - (r : Int)), (3, 0), (0, cq q (pr_wc (M0 2) (M0 1 1) en p (ts_ q)))] [] sh_T M1 := fun y => by
      have hw0 := pr_wc_0 (t := M0 2) (e := M0 1 1) (en := en) (p := p) (ts_ q) (by omega)
      rw [if_neg (by omega), if_pos y] at hk
      refine bk_X8_readWord_92 (ct_skip hg h1 (fun M2 h2 => ?_))
      refine cm_pair hg hr (K := K - 1) (by omega) ?_ h2 (by omega) (by omega) (fun M' k z hM hf => hf M' hM) hk _ (fun p1 en1 ds M' hM hlen hf => ?_) (fun k z M' hM hf => ?_)
      · rcases ho with o1 | ⟨sub, r', o1, o2, o3, L, o4, o5⟩
        · exact Or.inl o1
        · exact Or.inr ⟨sub, r', o1, o2, o3, L, by omega, o5⟩
      · have := (cs_in hg hM).2.1
        refine ct_emit hg hM (by omega) rfl (fun M'' hM2 => am_cv_i (hf M'' ?_))
        rw [List.append_assoc] at hM2
        exact hM2
      · exact cf_emit hg hM (fun M'' hM2 => am_cv_i (hf M'' hM2))
    refine bk_X8_readWord_65 ⟨fun y => ⟨fun y2 => pair (Or.inl (w5.mp y2)), fun y2 => ⟨fun y3 => ⟨fun y4 => ?_, fun y4 => ?_⟩, fun y3 => pair (Or.inr (w6.mp y3))⟩⟩, fun y => ?_⟩
    · have z60 := w60.mp y4
      have hw0 := pr_wc_0 (t := M0 2) (e := M0 1 1) (en := en) (p := p) (ts_ q) (by omega)
      rw [if_neg (by omega), if_neg (by omega), if_pos z60] at hk
      refine ct_open hg h1 hr (fun hr0 M2 h2 => ⟨fun _ => am_cv_i ?_, fun z => absurd rfl z⟩) (fun r' hr' => ⟨fun z => absurd z (by decide), fun _ => ct_skip hg h1 (fun M2 h2 => ?_)⟩)
      · rcases ho with ⟨o1, o2⟩ | ⟨sub, r', o1, o2, -⟩
        · rw [o1] at hk
          exact hk M2 h2
        · omega
      · rcases ho with ⟨o1, o2⟩ | ⟨sub, r2, o1, o2, o3, L, o4, o5, o6⟩
        · omega
        · rw [o1] at hk
          obtain ⟨b1, b2⟩ := ck_b hk
          have hgp := o3 (rd_at (M0 2) (M0 1 1) (p + rd_wd (M0 2) (M0 1 1) en p)) (p + rd_wd (M0 2) (M0 1 1) en p) (by omega) hrd.2 rd_at_at
          rw [show (6 : Int) - (r : Int) + 1 = 6 - (r2 : Int) by omega]
          refine ⟨⟨by omega, by omega⟩, o6 M2 _ _ C _ _ h2 (by omega) (by omega) (ck_mk (fun k z hx M3 h3 => ?_) (fun p1 en1 ds hx M3 h3 => ?_))⟩
          · exact cf_emit hg h3 (fun M4 h4 => am_cv_i (b1 k z hx M4 h4))
          · obtain ⟨g1, g2, g3, g4, g5⟩ := pz_g_o hgp hx
            have el : (C ++ ds).length = C.length + ds.length := List.length_append
            refine ct_emit (c := 60) hg h3 (by omega) (by rw [z60]) (fun M4 h4 => am_cv_i ?_)
            rw [List.append_assoc] at h4
            exact b2 p1 en1 ds hx M4 h4
    · have z0 : ¬ pr_wc (M0 2) (M0 1 1) en p (ts_ q) = 0 := fun z => y (w0.mpr z)
      have z5 : ¬ (pr_wc (M0 2) (M0 1 1) en p (ts_ q) = 5 ∨ pr_wc (M0 2) (M0 1 1) en p (ts_ q) = 6) := fun z => z.elim (fun z => y2 (w5.mpr z)) (fun z => y3 (w6.mpr z))
      have z60 : ¬ pr_wc (M0 2) (M0 1 1) en p (ts_ q) = 60 := fun z => y4 (w60.mpr z)
      have hw0 := pr_wc_0 (t := M0 2) (e := M0 1 1) (en := en) (p := p) (ts_ q) z0
      rw [if_neg z0, if_neg z5, if_neg z60] at hk
      exact ct_skip hg h1 (fun M2 h2 => ct_emit hg h2 (by omega) rfl (fun M3 h3 => am_cv_i (hk M3 h3)))
    · rw [if_pos (w0.mp y)] at hk
      exact ct_blame hg h1 (by decide) (fun M2 h2 => am_cv_i (hk M2 h2))
  -- the word looked up
  have look : ∀ M1, cs_ M0 M1 q v p en C → M1 1 2 = p → ∀ x, x = pr_ix (M0 2) (M0 1 1) en p ((ts_ q).map Prod.fst) 0 → ((x < 0 → am_g 8 9 co_X8_readWord (e' + 8) (am_cv sh_T f) 65 [(2, 3), (0, 6 - (r : Int)), (3, 0), (0, 0)] [] sh_T M1) ∧ (0 ≤ x → ((8 ≤ x → am_g 8 9 co_X8_readWord (e' + 8) (am_cv sh_T f) 65 [(2, 3), (0, 6 - (r : Int)), (3, 0), (0, 0)] [] sh_T M1) ∧ (x < 8 → ((M1 3 2 = 0 → (0 ≤ x ∧ x < 8) ∧ am_g 8 9 co_X8_readWord (e' + 8) (am_cv sh_T f) 65 [(2, 3), (0, 6 - (r : Int)), (3, 0), (0, M1 2000001 x)] [] sh_T M1) ∧ (¬ M1 3 2 = 0 → (0 ≤ x ∧ x < 8) ∧ am_g 8 9 co_X8_readWord (e' + 8) (am_cv sh_T f) 65 [(2, 3), (0, 6 - (r : Int)), (3, 0), (0, M1 2000002 x)] [] sh_T M1)))))) := by
    intro M1 h1 hp1 x hx
    have mm := main M1 h1 hp1
    rcases ix_wc (t := M0 2) (e := M0 1 1) (en := en) (p := p) (ts_ q) 0 with ⟨y1, y2⟩ | ⟨i, y1, y2, y3⟩
    · rw [y2, show cq q 0 = 0 by cases q <;> rfl] at mm
      exact ⟨fun _ => mm, fun y => by omega⟩
    · have hx2 : x = (i : Int) := by rw [hx, y2, Int.zero_add]
      rw [hl8] at y1
      rw [hx2]
      obtain ⟨r1, r2⟩ := e1 M1 h1 i y1
      have e3 := e32 M1 h1
      rw [y3] at mm
      refine ⟨fun y => by omega, fun _ => ⟨fun y => by omega, fun _ => ⟨fun y => ⟨by omega, ?_⟩, fun y => ⟨by omega, ?_⟩⟩⟩⟩
      · have qf : q = false := by
          cases q with
          | false => rfl
          | true => rw [e3, am_b_1 rfl] at y; exact absurd y (by decide)
        subst qf
        rw [r1]
        exact mm
      · have qf : q = true := by
          cases q with
          | true => rfl
          | false => rw [e3, am_b_0 (by decide)] at y; exact absurd rfl y
        subst qf
        rw [r2]
        exact mm
  refine en_X8_readWord (bk_X8_readWord_0 ?_)
  rw [e32 M h]
  refine ⟨fun y => ?_, fun y => ?_⟩
  · have qf : q = false := by
      cases q with
      | false => rfl
      | true => rw [am_b_1 rfl] at y; exact absurd y (by decide)
    subst qf
    exact ct_word hg h sw_9.1 (ts_w false).1 (ts_w false).2 sw_9.2 (fun M1 h1 hp1 => look M1 h1 hp1 _ rfl)
  · have qf : q = true := by
      cases q with
      | true => rfl
      | false => rw [am_b_0 (by decide)] at y; exact absurd rfl y
    subst qf
    exact ct_word hg h sw_8.1 (ts_w true).1 (ts_w true).2 sw_8.2 (fun M1 h1 hp1 => look M1 h1 hp1 _ rfl)
theorem cm_body (hg : cg_ M0 q v) {K r : Nat} (hr : r ≤ 6) {o : Option (Int → Int → pr_ (List Int))} (hK : 10 ≤ K) (ho : (o = none ∧ r = 0) ∨ ∃ sub r', o = some sub ∧ r = r' + 1 ∧ pz_gs (M0 2) (M0 1 1) sub ∧ ∃ L, L + 5 ≤ K ∧ 4 ≤ L ∧ cm_ M0 q v 86 L (6 - (r' : Int)) sub) : cm_ M0 q v 86 K (6 - (r : Int)) (pz_body q (M0 2) (M0 1 1) o) := by
  intro M p en C e f h hC he hk
  obtain ⟨e', rfl⟩ : ∃ e', e = (e' + 9) + 1 := ⟨e - 10, by omega⟩
  obtain ⟨i1, i2, i3, i4, -⟩ := cs_in hg h
  unfold pz_body at hk
  refine en_X8_readPart (bk_X8_readPart_0 (ct_failed h ⟨fun _ => ct_digit hg h (fun M1 h1 hp1 => ⟨fun y => ct_sees hg h1 (fun M2 h2 hp2 => ⟨fun y2 => ?_, fun y2 => ?_⟩), fun y => ?_⟩), fun y => absurd rfl y⟩))
  · rw [if_neg (am_b_z.mp y), if_neg (am_b_z.mp y2)] at hk
    have hW := cm_word hg hr (K := K - 1) (by omega) (o := o) (by
      rcases ho with o1 | ⟨sub, r', o1, o2, o3, L, o4, o5⟩
      · exact Or.inl o1
      · exact Or.inr ⟨sub, r', o1, o2, o3, L, by omega, o5⟩)
    exact hW M2 p en C _ _ h2 hC (by omega) (ck_mk (fun k z hx M3 h3 => am_cv_i (by rw [hx] at hk; exact hk M3 h3)) (fun p1 en1 ds hx M3 h3 => am_cv_i (by rw [hx] at hk; exact hk M3 h3)))
  · have y2' := am_b_nz y2
    rw [if_neg (am_b_z.mp y), if_pos y2'] at hk
    have hlt := (rc_lt y2' (by decide)).1
    have hrd := rd_at_le (t := M0 2) (e := M0 1 1) (i := p + 1) (by omega)
    refine ct_open hg h2 hr (fun hr0 M3 h3 => ⟨fun _ => am_cv_i ?_, fun z => absurd rfl z⟩) (fun r' hr' => ⟨fun z => absurd z (by decide), fun _ => ct_step hg h2 hp2 hlt (fun M3 h3 => ?_)⟩)
    · rcases ho with ⟨o1, o2⟩ | ⟨sub, r', o1, o2, -⟩
      · rw [o1] at hk
        exact hk M3 h3
      · omega
    · rcases ho with ⟨o1, o2⟩ | ⟨sub, r2, o1, o2, o3, L, o4, o5, o6⟩
      · omega
      · rw [o1] at hk
        obtain ⟨b1, b2⟩ := ck_b hk
        have hS := cm_sum hg o5 o3 o6
        rw [show (6 : Int) - (r : Int) + 1 = 6 - (r2 : Int) by omega]
        refine ⟨⟨by omega, by omega⟩, hS M3 _ _ C _ _ h3 (by omega) (by omega) (ck_mk (fun k z hx M4 h4 => ?_) (fun p1 en1 ds hx M4 h4 => ?_))⟩
        · exact cf_demand (by decide) hg h4 (fun M5 h5 => am_cv_i (b1 k z hx M5 h5))
        · have hk2 := b2 p1 en1 ds hx
          unfold pr_sg at hk2
          refine ct_demand (by decide) hg h4 (fun y3 M5 h5 => am_cv_i ?_) (fun y3 M5 h5 => am_cv_i ?_)
          · rw [if_pos y3] at hk2
            exact hk2 M5 h5
          · rw [if_neg y3] at hk2
            exact hk2 M5 h5
  · rw [if_pos (am_b_nz y)] at hk
    obtain ⟨b1, b2⟩ := ck_b hk
    have hn := pr_num_g (t := M0 2) (e := M0 1 1) (g := 9999) (en := en) i1 i2
    refine ct_num hg h1 (fun k z hx x M2 h2 => cf_emit hg h2 (fun M3 h3 => am_cv_i (b1 k z hx M3 h3))) (fun p1 en1 w hx M2 h2 => ?_)
    rw [hx] at hn
    obtain ⟨g1, g2, g3, g4, g5⟩ := hn
    refine ct_emit (c := 1000 + w) hg h2 (by omega) ?_ (fun M3 h3 => am_cv_i (b2 p1 en1 w hx M3 h3))
    cases q with
    | false =>
      show w = cv (1000 + w)
      unfold cv
      rw [if_pos (by omega)]; omega
    | true =>
      show w = qv (1000 + w)
      unfold qv
      rw [if_pos (by omega)]; omega
theorem cm_part (hg : cg_ M0 q v) : ∀ r : Nat, r ≤ 6 → cm_ M0 q v 86 (10 + 5 * r) (6 - (r : Int)) (pz_part q (M0 2) (M0 1 1) r)
  | 0, hr => cm_body hg hr (Nat.le_refl _) (Or.inl ⟨rfl, rfl⟩)
  | r + 1, hr => cm_body hg hr (by omega) (Or.inr ⟨_, r, rfl, rfl, pz_part_g r, 10 + 5 * r, by omega, by omega, cm_part hg r (by omega)⟩)
theorem cm_top (hg : cg_ M0 q v) (r : Nat) (hr : r ≤ 6) : cm_ M0 q v 84 (12 + 5 * r) (6 - (r : Int)) (pz_sum (M0 2) (M0 1 1) (pz_part q (M0 2) (M0 1 1) r)) := by
  have h := cm_sum hg (by omega) (pz_part_g r) (cm_part hg r hr)
  rw [show 10 + 5 * r + 2 = 12 + 5 * r by omega] at h
  exact h
end CS
