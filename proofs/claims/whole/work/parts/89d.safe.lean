/-! AGAINST THE DREAM, in the reference -/
def sb (D : dm_D) (a g : Int) (r : Nat) (w : Int → Int) : Prop := ∃ round : Bool, br_ D a g r round w
def lt_fr (q : Int) (M M' : am_M) : Prop := sc_fr M M' ∧ ∀ j, q ≤ j → M' 187 j = M 187 j
theorem lt_rf {q : Int} {M : am_M} : lt_fr q M M := ⟨sc_rf, fun _ _ => rfl⟩
theorem lt_tr {q : Int} {M M1 M2 : am_M} (h : lt_fr q M M1) (k : lt_fr q M1 M2) : lt_fr q M M2 := ⟨sc_tr h.1 k.1, fun j y => (k.2 j y).trans (h.2 j y)⟩
theorem lt_le {q p : Int} {M M' : am_M} (hq : q ≤ p) (h : lt_fr q M M') : lt_fr p M M' := ⟨h.1, fun j y => h.2 j (by omega)⟩
theorem lt_rg {q : Int} {M M' : am_M} {D : dm_D} (h : lt_fr q M M') (k : rg_is M D) : rg_is M' D := rg_is_fr (fun x j x1 x2 => h.1 x j (by unfold sc_; omega)) k
theorem lt_rs {q : Int} {M M' : am_M} {D : dm_D} {a g : Int} {w : Int → Int} (h : lt_fr q M M') (k : rs_ok M D a g w) : rs_ok M' D a g w := rs_ok_fr (fun j => h.1 186 j (by unfold sc_; omega)) k
theorem lt_rw {q r : Int} {M M' : am_M} {D : dm_D} {w : Int → Int} (hq : q ≤ r) (h : lt_fr q M M') (k : rw_ok M D r w) : rw_ok M' D r w := rw_fr (fun i i0 i1 => h.2 _ (by omega)) k
theorem sp_answers {d : Nat} {M : am_M} {f : am_M → Prop} {a g r q rb i : Int} {D : dm_D} {w0 w : Int → Int} {round : Bool} (hrb : rb = am_b (round = true)) (hS : 0 ≤ dS D ∧ dS D ≤ 1000000) (hd : rg_is M D) (hs : rs_ok M D a g w0) (hw : rw_ok M D r w) (hq : 0 ≤ q ∧ q + 7 ≤ r) (hh : ¬ pu_home D w) (hr : round = true → 1 < dN D) (hi : 0 ≤ i ∧ i < dN D)
    (h : ∀ M', lt_fr (q + 7) M M' → rw_ok M' D q (pu_up (pu_step D a g round w) i (sp_v D (pu_step D a g round w) i)) → f M') : am_cal pg (d + 5) 257 [(2, 152), (0, r), (0, q), (0, a), (0, rb), (0, i)] sh_T M (am_cv sh_T f) := by
  subst hrb
  have hr0 := hw.1
  have h6 := hd.1.1
  have hn0 := pu_away hd.1 hw.2.2 hh
  refine en_X12_answers (bk_X12_answers_0 (sp_laysRow hr0 ⟨by omega, by omega⟩ (by omega) ?_))
  have e1 : ∀ x, ¬ x = 187 → am_rs M 187 q (ro M r) 6 x = M x := fun x y => am_rs_el y
  have e2 : ∀ k : Int, 0 ≤ k → k < 6 → am_rs M 187 q (ro M r) 6 187 (q + k) = w k := fun k k0 k1 => by
    rw [am_rs_at (by omega) (by omega), show q + k - q = k by omega]
    exact hw.2.1 k k0 k1
  have e3 : ∀ j, q + 6 ≤ j → am_rs M 187 q (ro M r) 6 187 j = M 187 j := fun j y => am_rs_out (Or.inr (by omega))
  generalize am_rs M 187 q (ro M r) 6 = M1 at e1 e2 e3 ⊢
  have f1 : lt_fr (q + 7) M M1 := ⟨fun x j y => by unfold sc_ at y; rw [e1 x (by omega)], fun j y => e3 j (by omega)⟩
  have d1 := lt_rg f1 hd
  have s1 := lt_rs f1 hs
  have w1 : rw_ok M1 D q w := ⟨⟨by omega, by omega⟩, fun k k0 k1 => e2 k k0 k1, hw.2.2⟩
  refine sp_guideOf (v4 hs.1) ?_
  rw [s1.2.1.1]
  refine sp_room d1 w1 hs.1 hs.2.1.2 hh hr (fun M2 f2 d2 w2 => ?_)
  have dr0 : ¬ pu_dread D g round w = -1 := by
    unfold pu_dread pu_with
    split
    · rename_i y
      have := (pu_snd_in (g := g) (r := df_ D g) (w := w) (hr y)).1
      omega
    · have := (pu_wst_in (g := g) (r := df_ D g) (w := w) hn0).1
      omega
  have wi : M2 187 (q + i) = pu_step D a g round w i := w2.2.1 i hi.1 (by omega)
  have wb := w2.2.2.1 i hi.1 (by omega)
  have f2' : lt_fr (q + 7) M M2 := lt_tr f1 ⟨fun x j y => by unfold sc_ at y; exact f2 x j (by omega) (by omega) (by omega) (by omega), fun j y => f2 187 j (by decide) (by decide) (by omega) (by omega)⟩
  refine ⟨⟨by omega, by omega⟩, ⟨by omega, by omega⟩, sp_settingOf (by decide) (by decide) ?_⟩
  have eS : M2 179 (3 + 2) = dS D := d2.2.2.2.2.1
  rw [wi, eS]
  have last : ∀ x, x = sp_v D (pu_step D a g round w) i → f (am_up M2 187 (q + i) x) := fun x hx => by
    rw [hx]
    refine h _ ⟨fun y j z => ?_, fun j y => ?_⟩ (rw_put w2 hi.2 ?_ rfl)
    · have e := f2'.1 y j z
      unfold sc_ at z
      rw [am_up_el (by omega)]
      exact e
    · rw [am_up_el (by omega)]
      exact f2'.2 j y
    · unfold sp_v
      split <;> omega
  refine ⟨⟨by omega, by omega⟩, ⟨by omega, by omega⟩, fun z => absurd z dr0, fun _ => ⟨fun y => am_cv_i (last _ ?_), fun y => am_cv_i (last _ ?_)⟩⟩
  · unfold sp_v
    split <;> omega
  · unfold sp_v
    rw [if_neg (by omega)]
theorem sp_canGo {d : Nat} {M : am_M} {f : Int → am_M → Prop} {rb : Int} {D : dm_D} {round : Bool} (hrb : rb = am_b (round = true)) (hd : rg_is M D) (h1 : (round = true → 1 < dN D) → f 1 M) (h0 : ¬ (round = true → 1 < dN D) → f 0 M) : am_cal pg (d + 2) 256 [(2, 152), (0, rb)] sh_T M (am_c0 sh_T f) := by
  subst hrb
  have hn := hd.2.1
  refine en_X12_canGo (bk_X12_canGo_0 ⟨fun z => am_c0_i (h1 (fun y => absurd y (am_b_z.mp z))), fun z => sp_dreadMany ?_⟩)
  rw [hn]
  exact ⟨fun y => am_c0_i (h0 (fun e => by have := e (am_b_nz z); omega)), fun y => am_c0_i (h1 (fun _ => by omega))⟩
theorem sp_isSafeByOne {d : Nat} {M : am_M} {f : Int → am_M → Prop} {a g src : Int} {D : dm_D} {w0 w : Int → Int} (hS : 0 ≤ dS D ∧ dS D ≤ 1000000) (hsrc : 14 ≤ src) (hd : rg_is M D) (hs : rs_ok M D a g w0) (hw : rw_ok M D src w) (hh : ¬ pu_home D w) (h1 : ∀ M', lt_fr 14 M M' → sb D a g 0 w → f 1 M') (h0 : ∀ M', lt_fr 14 M M' → ¬ sb D a g 0 w → f 0 M') : am_cal pg (d + 6) 258 [(2, 152), (0, src), (0, a)] sh_T M (am_c0 sh_T f) := by
  have h6 := hd.1.1
  have inner : ∀ (rb : Int) (round : Bool), rb = am_b (round = true) → (∀ M1, lt_fr 14 M M1 → ¬ br_ D a g 0 round w → am_g 12 5 co_X12_isSafeByOne (d + 5) (am_c0 sh_T f) 2 [(2, 152), (0, src), (0, a), (0, rb + 1), (3, 0), (3, 0)] [] sh_T M1) → ∀ M1, lt_fr 14 M M1 →
      ((round = true → 1 < dN D) → am_g 12 5 co_X12_isSafeByOne (d + 5) (am_c0 sh_T f) 26 [(2, 152), (0, src), (0, a), (0, rb), (0, 1), (0, 0)] [] sh_T M1) ∧ (¬ (round = true → 1 < dN D) → am_g 12 5 co_X12_isSafeByOne (d + 5) (am_c0 sh_T f) 26 [(2, 152), (0, src), (0, a), (0, rb), (0, 0), (0, 0)] [] sh_T M1) := by
    intro rb round hrb next M1 p1
    have rb01 : rb = 0 ∨ rb = 1 := by rw [hrb]; exact am_b_01
    have stop : ∀ (i : Nat) (M2 : am_M), lt_fr 14 M M2 → ¬ br_ D a g 0 round w → am_g 12 5 co_X12_isSafeByOne (d + 5) (am_c0 sh_T f) 26 [(2, 152), (0, src), (0, a), (0, rb), (0, 0), (0, (i : Int))] [] sh_T M2 := by
      intro i M2 q1 q2
      have n2 : am_r (rb + 1) ∧ am_g 12 5 co_X12_isSafeByOne (d + 5) (am_c0 sh_T f) 2 [(2, 152), (0, src), (0, a), (0, rb + 1), (3, 0), (3, 0)] [] sh_T M2 := ⟨⟨by omega, by omega⟩, next M2 q1 q2⟩
      refine bk_X12_isSafeByOne_26 (sp_dreadMany ⟨fun _ => ⟨fun _ => n2, fun z => absurd rfl z⟩, fun _ => ⟨fun _ => n2, fun z => absurd rfl z⟩⟩)
    have go : (round = true → 1 < dN D) → ∀ (m i : Nat), i + m = dN D → ∀ M2 : am_M, lt_fr 14 M M2 → (∀ j : Nat, j < i → es D a g 0 (pu_up (pu_step D a g round w) j (sp_v D (pu_step D a g round w) j))) → am_g 12 5 co_X12_isSafeByOne (d + 5) (am_c0 sh_T f) 26 [(2, 152), (0, src), (0, a), (0, rb), (0, 1), (0, (i : Int))] [] sh_T M2 := by
      intro hr m
      induction m with
      | zero =>
        intro i hi M2 q1 q2
        have d2 := lt_rg q1 hd
        have yes : f 1 M2 := h1 M2 q1 ⟨round, hr, fun j hj => q2 j (by omega)⟩
        refine bk_X12_isSafeByOne_26 (sp_dreadMany ?_)
        rw [d2.2.1]
        exact ⟨fun _ => ⟨fun z => absurd z (by decide), fun _ => am_c0_i yes⟩, fun z => by omega⟩
      | succ m ihm =>
        intro i hi M2 q1 q2
        have d2 := lt_rg q1 hd
        have s2 := lt_rs q1 hs
        have w2 := lt_rw hsrc q1 hw
        have hi0 : (0 : Int) ≤ i ∧ (i : Int) < dN D := by omega
        have fin : ∀ M3, lt_fr 14 M2 M3 → (es D a g 0 (pu_up (pu_step D a g round w) i (sp_v D (pu_step D a g round w) i)) → am_g 12 5 co_X12_isSafeByOne (d + 5) (am_c0 sh_T f) 26 [(2, 152), (0, src), (0, a), (0, rb), (0, 1), (0, (i : Int) + 1)] [] sh_T M3) ∧ (¬ es D a g 0 (pu_up (pu_step D a g round w) i (sp_v D (pu_step D a g round w) i)) → am_g 12 5 co_X12_isSafeByOne (d + 5) (am_c0 sh_T f) 26 [(2, 152), (0, src), (0, a), (0, rb), (0, 0), (0, (i : Int) + 1)] [] sh_T M3) := by
          intro M3 q3
          refine ⟨fun y => ihm (i + 1) (by omega) M3 (lt_tr q1 q3) (fun j hj => ?_), fun y => stop (i + 1) M3 (lt_tr q1 q3) (fun z => y (z.2 i (by omega)))⟩
          by_cases e : j = i
          · rw [e]; exact y
          · exact q2 j (by omega)
        have ri : am_r ((i : Int) + 1) := ⟨by omega, by omega⟩
        have ans : ∀ (rc : Int) (F : am_M → Prop), rc = am_b (round = true) → (∀ M3, lt_fr 14 M2 M3 → rg_is M3 D → rs_ok M3 D a g w0 → rw_ok M3 D 7 (pu_up (pu_step D a g round w) i (sp_v D (pu_step D a g round w) i)) → F M3) → am_cal pg (d + 5) 257 [(2, 152), (0, src), (0, 7), (0, a), (0, rc), (0, (i : Int))] sh_T M2 (am_cv sh_T F) := fun rc F hrc hF => sp_answers hrc hS d2 s2 w2 ⟨by decide, by omega⟩ hh hr hi0 (fun M3 q3 w3 => hF M3 (lt_le (by decide) q3) (lt_rg q3 d2) (lt_rs q3 s2) w3)
        refine bk_X12_isSafeByOne_26 (sp_dreadMany ?_)
        rw [d2.2.1]
        refine ⟨fun z => by omega, fun _ => ⟨fun z => absurd z (by decide), fun _ => ⟨fun z => ans 0 _ (by omega) (fun M3 q3 d3 s3 w3 => ?_), fun z => ans 1 _ (by omega) (fun M3 q3 d3 s3 w3 => ?_)⟩⟩⟩
        all_goals
          exact sp_home d3 w3 ⟨ri, by
            by_cases e : pu_home D (pu_up (pu_step D a g round w) i (sp_v D (pu_step D a g round w) i))
            · rw [am_b_1 e]; exact (fin M3 q3).1 e
            · rw [am_b_0 e]; exact (fin M3 q3).2 e⟩
    exact ⟨fun hr => go hr (dN D) 0 (Nat.zero_add _) M1 p1 (fun j hj => by omega), fun hr => stop 0 M1 p1 (fun y => hr y.1)⟩
  have fail : (¬ br_ D a g 0 false w) → (¬ br_ D a g 0 true w) → ¬ sb D a g 0 w := fun x y z => by
    obtain ⟨b, hb⟩ := z
    cases b with
    | false => exact x hb
    | true => exact y hb
  refine en_X12_isSafeByOne (bk_X12_isSafeByOne_0 (bk_X12_isSafeByOne_2 ⟨fun z => absurd z (by decide), fun _ => ⟨fun _ => sp_canGo (round := false) (by decide) hd (fun y => ?_) (fun y => absurd (fun z => by cases z) y), fun z => absurd z (by decide)⟩⟩))
  refine (inner 0 false (by decide) (fun M1 q1 n1 => ?_) M lt_rf).1 y
  refine bk_X12_isSafeByOne_2 ⟨fun z => absurd z (by decide), fun _ => ⟨fun z => absurd rfl z, fun _ => sp_canGo (round := true) (by decide) (lt_rg q1 hd) (fun y => ?_) (fun y => ?_)⟩⟩
  · exact (inner 1 true (by decide) (fun M2 q2 n2 => bk_X12_isSafeByOne_2 ⟨fun _ => am_c0_i (h0 M2 q2 (fail n1 n2)), fun z => absurd z (by decide)⟩) M1 q1).1 y
  · exact (inner 1 true (by decide) (fun M2 q2 n2 => bk_X12_isSafeByOne_2 ⟨fun _ => am_c0_i (h0 M2 q2 (fail n1 n2)), fun z => absurd z (by decide)⟩) M1 q1).2 y
theorem sp_isSafeByTwo {d : Nat} {M : am_M} {f : Int → am_M → Prop} {a g src : Int} {D : dm_D} {w0 w : Int → Int} (hS : 0 ≤ dS D ∧ dS D ≤ 1000000) (hsrc : 21 ≤ src) (hd : rg_is M D) (hs : rs_ok M D a g w0) (hw : rw_ok M D src w) (hh : ¬ pu_home D w) (h1 : ∀ M', lt_fr 21 M M' → sb D a g 1 w → f 1 M') (h0 : ∀ M', lt_fr 21 M M' → ¬ sb D a g 1 w → f 0 M') : am_cal pg (d + 7) 259 [(2, 152), (0, src), (0, a)] sh_T M (am_c0 sh_T f) := by
  have h6 := hd.1.1
  have inner : ∀ (rb : Int) (round : Bool), rb = am_b (round = true) → (∀ M1, lt_fr 21 M M1 → ¬ br_ D a g 1 round w → am_g 12 5 co_X12_isSafeByTwo (d + 6) (am_c0 sh_T f) 2 [(2, 152), (0, src), (0, a), (0, rb + 1), (3, 0), (3, 0)] [] sh_T M1) → ∀ M1, lt_fr 21 M M1 →
      ((round = true → 1 < dN D) → am_g 12 5 co_X12_isSafeByTwo (d + 6) (am_c0 sh_T f) 26 [(2, 152), (0, src), (0, a), (0, rb), (0, 1), (0, 0)] [] sh_T M1) ∧ (¬ (round = true → 1 < dN D) → am_g 12 5 co_X12_isSafeByTwo (d + 6) (am_c0 sh_T f) 26 [(2, 152), (0, src), (0, a), (0, rb), (0, 0), (0, 0)] [] sh_T M1) := by
    intro rb round hrb next M1 p1
    have rb01 : rb = 0 ∨ rb = 1 := by rw [hrb]; exact am_b_01
    have stop : ∀ (i : Nat) (M2 : am_M), lt_fr 21 M M2 → ¬ br_ D a g 1 round w → am_g 12 5 co_X12_isSafeByTwo (d + 6) (am_c0 sh_T f) 26 [(2, 152), (0, src), (0, a), (0, rb), (0, 0), (0, (i : Int))] [] sh_T M2 := by
      intro i M2 q1 q2
      have n2 : am_r (rb + 1) ∧ am_g 12 5 co_X12_isSafeByTwo (d + 6) (am_c0 sh_T f) 2 [(2, 152), (0, src), (0, a), (0, rb + 1), (3, 0), (3, 0)] [] sh_T M2 := ⟨⟨by omega, by omega⟩, next M2 q1 q2⟩
      refine bk_X12_isSafeByTwo_26 (sp_dreadMany ⟨fun _ => bk_X12_isSafeByTwo_92 ⟨fun _ => n2, fun z => absurd rfl z⟩, fun _ => ⟨fun _ => bk_X12_isSafeByTwo_92 ⟨fun _ => n2, fun z => absurd rfl z⟩, fun z => absurd rfl z⟩⟩)
    have go : (round = true → 1 < dN D) → ∀ (m i : Nat), i + m = dN D → ∀ M2 : am_M, lt_fr 21 M M2 → (∀ j : Nat, j < i → es D a g 1 (pu_up (pu_step D a g round w) j (sp_v D (pu_step D a g round w) j))) → am_g 12 5 co_X12_isSafeByTwo (d + 6) (am_c0 sh_T f) 26 [(2, 152), (0, src), (0, a), (0, rb), (0, 1), (0, (i : Int))] [] sh_T M2 := by
      intro hr m
      induction m with
      | zero =>
        intro i hi M2 q1 q2
        have d2 := lt_rg q1 hd
        have yes : f 1 M2 := h1 M2 q1 ⟨round, hr, fun j hj => q2 j (by omega)⟩
        refine bk_X12_isSafeByTwo_26 (sp_dreadMany ?_)
        rw [d2.2.1]
        exact ⟨fun _ => bk_X12_isSafeByTwo_92 ⟨fun z => absurd z (by decide), fun _ => am_c0_i yes⟩, fun z => by omega⟩
      | succ m ihm =>
        intro i hi M2 q1 q2
        have d2 := lt_rg q1 hd
        have s2 := lt_rs q1 hs
        have w2 := lt_rw hsrc q1 hw
        have hi0 : (0 : Int) ≤ i ∧ (i : Int) < dN D := by omega
        have fin : ∀ M3, lt_fr 21 M2 M3 → (es D a g 1 (pu_up (pu_step D a g round w) i (sp_v D (pu_step D a g round w) i)) → am_g 12 5 co_X12_isSafeByTwo (d + 6) (am_c0 sh_T f) 26 [(2, 152), (0, src), (0, a), (0, rb), (0, 1), (0, (i : Int) + 1)] [] sh_T M3) ∧ (¬ es D a g 1 (pu_up (pu_step D a g round w) i (sp_v D (pu_step D a g round w) i)) → am_g 12 5 co_X12_isSafeByTwo (d + 6) (am_c0 sh_T f) 26 [(2, 152), (0, src), (0, a), (0, rb), (0, 0), (0, (i : Int) + 1)] [] sh_T M3) := by
          intro M3 q3
          refine ⟨fun y => ihm (i + 1) (by omega) M3 (lt_tr q1 q3) (fun j hj => ?_), fun y => stop (i + 1) M3 (lt_tr q1 q3) (fun z => y (z.2 i (by omega)))⟩
          by_cases e : j = i
          · rw [e]; exact y
          · exact q2 j (by omega)
        have ri : am_r ((i : Int) + 1) := ⟨by omega, by omega⟩
        have ans : ∀ (rc : Int) (F : am_M → Prop), rc = am_b (round = true) → (∀ M3, lt_fr 21 M2 M3 → rg_is M3 D → rs_ok M3 D a g w0 → rw_ok M3 D 14 (pu_up (pu_step D a g round w) i (sp_v D (pu_step D a g round w) i)) → F M3) → am_cal pg (d + 6) 257 [(2, 152), (0, src), (0, 14), (0, a), (0, rc), (0, (i : Int))] sh_T M2 (am_cv sh_T F) := fun rc F hrc hF => sp_answers hrc hS d2 s2 w2 ⟨by decide, by omega⟩ hh hr hi0 (fun M3 q3 w3 => hF M3 (lt_le (by decide) q3) (lt_rg q3 d2) (lt_rs q3 s2) w3)
        refine bk_X12_isSafeByTwo_26 (sp_dreadMany ?_)
        rw [d2.2.1]
        refine ⟨fun z => by omega, fun _ => ⟨fun z => absurd z (by decide), fun _ => ⟨fun z => ans 0 _ (by omega) (fun M3 q3 d3 s3 w3 => ?_), fun z => ans 1 _ (by omega) (fun M3 q3 d3 s3 w3 => ?_)⟩⟩⟩
        all_goals
          exact sp_home d3 w3 ⟨fun e => bk_X12_isSafeByTwo_79 ⟨ri, (fin M3 q3).1 (Or.inl (am_b_nz e))⟩, fun e => sp_isSafeByOne hS (by decide) d3 s3 w3 (am_b_z.mp e) (fun M4 q4 y => ⟨fun x => absurd x (by decide), fun _ => bk_X12_isSafeByTwo_79 ⟨ri, (fin M4 (lt_tr q3 (lt_le (by decide) q4))).1 (Or.inr y)⟩⟩) (fun M4 q4 y => ⟨fun _ => ⟨ri, (fin M4 (lt_tr q3 (lt_le (by decide) q4))).2 (fun x => x.elim (am_b_z.mp e) y)⟩, fun x => absurd rfl x⟩)⟩
    exact ⟨fun hr => go hr (dN D) 0 (Nat.zero_add _) M1 p1 (fun j hj => by omega), fun hr => stop 0 M1 p1 (fun y => hr y.1)⟩
  have fail : (¬ br_ D a g 1 false w) → (¬ br_ D a g 1 true w) → ¬ sb D a g 1 w := fun x y z => by
    obtain ⟨b, hb⟩ := z
    cases b with
    | false => exact x hb
    | true => exact y hb
  refine en_X12_isSafeByTwo (bk_X12_isSafeByTwo_0 (bk_X12_isSafeByTwo_2 ⟨fun z => absurd z (by decide), fun _ => ⟨fun _ => sp_canGo (round := false) (by decide) hd (fun y => ?_) (fun y => absurd (fun z => by cases z) y), fun z => absurd z (by decide)⟩⟩))
  refine (inner 0 false (by decide) (fun M1 q1 n1 => ?_) M lt_rf).1 y
  refine bk_X12_isSafeByTwo_2 ⟨fun z => absurd z (by decide), fun _ => ⟨fun z => absurd rfl z, fun _ => sp_canGo (round := true) (by decide) (lt_rg q1 hd) (fun y => ?_) (fun y => ?_)⟩⟩
  · exact (inner 1 true (by decide) (fun M2 q2 n2 => bk_X12_isSafeByTwo_2 ⟨fun _ => am_c0_i (h0 M2 q2 (fail n1 n2)), fun z => absurd z (by decide)⟩) M1 q1).1 y
  · exact (inner 1 true (by decide) (fun M2 q2 n2 => bk_X12_isSafeByTwo_2 ⟨fun _ => am_c0_i (h0 M2 q2 (fail n1 n2)), fun z => absurd z (by decide)⟩) M1 q1).2 y
theorem sp_isSafeByThree {d : Nat} {M : am_M} {f : Int → am_M → Prop} {a g src : Int} {D : dm_D} {w0 w : Int → Int} (hS : 0 ≤ dS D ∧ dS D ≤ 1000000) (hsrc : 28 ≤ src) (hd : rg_is M D) (hs : rs_ok M D a g w0) (hw : rw_ok M D src w) (hh : ¬ pu_home D w) (h1 : ∀ M', lt_fr 28 M M' → sb D a g 2 w → f 1 M') (h0 : ∀ M', lt_fr 28 M M' → ¬ sb D a g 2 w → f 0 M') : am_cal pg (d + 8) 260 [(2, 152), (0, src), (0, a)] sh_T M (am_c0 sh_T f) := by
  have h6 := hd.1.1
  have inner : ∀ (rb : Int) (round : Bool), rb = am_b (round = true) → (∀ M1, lt_fr 28 M M1 → ¬ br_ D a g 2 round w → am_g 12 5 co_X12_isSafeByThree (d + 7) (am_c0 sh_T f) 2 [(2, 152), (0, src), (0, a), (0, rb + 1), (3, 0), (3, 0)] [] sh_T M1) → ∀ M1, lt_fr 28 M M1 →
      ((round = true → 1 < dN D) → am_g 12 5 co_X12_isSafeByThree (d + 7) (am_c0 sh_T f) 26 [(2, 152), (0, src), (0, a), (0, rb), (0, 1), (0, 0)] [] sh_T M1) ∧ (¬ (round = true → 1 < dN D) → am_g 12 5 co_X12_isSafeByThree (d + 7) (am_c0 sh_T f) 26 [(2, 152), (0, src), (0, a), (0, rb), (0, 0), (0, 0)] [] sh_T M1) := by
    intro rb round hrb next M1 p1
    have rb01 : rb = 0 ∨ rb = 1 := by rw [hrb]; exact am_b_01
    have stop : ∀ (i : Nat) (M2 : am_M), lt_fr 28 M M2 → ¬ br_ D a g 2 round w → am_g 12 5 co_X12_isSafeByThree (d + 7) (am_c0 sh_T f) 26 [(2, 152), (0, src), (0, a), (0, rb), (0, 0), (0, (i : Int))] [] sh_T M2 := by
      intro i M2 q1 q2
      have n2 : am_r (rb + 1) ∧ am_g 12 5 co_X12_isSafeByThree (d + 7) (am_c0 sh_T f) 2 [(2, 152), (0, src), (0, a), (0, rb + 1), (3, 0), (3, 0)] [] sh_T M2 := ⟨⟨by omega, by omega⟩, next M2 q1 q2⟩
      refine bk_X12_isSafeByThree_26 (sp_dreadMany ⟨fun _ => bk_X12_isSafeByThree_92 ⟨fun _ => n2, fun z => absurd rfl z⟩, fun _ => ⟨fun _ => bk_X12_isSafeByThree_92 ⟨fun _ => n2, fun z => absurd rfl z⟩, fun z => absurd rfl z⟩⟩)
    have go : (round = true → 1 < dN D) → ∀ (m i : Nat), i + m = dN D → ∀ M2 : am_M, lt_fr 28 M M2 → (∀ j : Nat, j < i → es D a g 2 (pu_up (pu_step D a g round w) j (sp_v D (pu_step D a g round w) j))) → am_g 12 5 co_X12_isSafeByThree (d + 7) (am_c0 sh_T f) 26 [(2, 152), (0, src), (0, a), (0, rb), (0, 1), (0, (i : Int))] [] sh_T M2 := by
      intro hr m
      induction m with
      | zero =>
        intro i hi M2 q1 q2
        have d2 := lt_rg q1 hd
        have yes : f 1 M2 := h1 M2 q1 ⟨round, hr, fun j hj => q2 j (by omega)⟩
        refine bk_X12_isSafeByThree_26 (sp_dreadMany ?_)
        rw [d2.2.1]
        exact ⟨fun _ => bk_X12_isSafeByThree_92 ⟨fun z => absurd z (by decide), fun _ => am_c0_i yes⟩, fun z => by omega⟩
      | succ m ihm =>
        intro i hi M2 q1 q2
        have d2 := lt_rg q1 hd
        have s2 := lt_rs q1 hs
        have w2 := lt_rw hsrc q1 hw
        have hi0 : (0 : Int) ≤ i ∧ (i : Int) < dN D := by omega
        have fin : ∀ M3, lt_fr 28 M2 M3 → (es D a g 2 (pu_up (pu_step D a g round w) i (sp_v D (pu_step D a g round w) i)) → am_g 12 5 co_X12_isSafeByThree (d + 7) (am_c0 sh_T f) 26 [(2, 152), (0, src), (0, a), (0, rb), (0, 1), (0, (i : Int) + 1)] [] sh_T M3) ∧ (¬ es D a g 2 (pu_up (pu_step D a g round w) i (sp_v D (pu_step D a g round w) i)) → am_g 12 5 co_X12_isSafeByThree (d + 7) (am_c0 sh_T f) 26 [(2, 152), (0, src), (0, a), (0, rb), (0, 0), (0, (i : Int) + 1)] [] sh_T M3) := by
          intro M3 q3
          refine ⟨fun y => ihm (i + 1) (by omega) M3 (lt_tr q1 q3) (fun j hj => ?_), fun y => stop (i + 1) M3 (lt_tr q1 q3) (fun z => y (z.2 i (by omega)))⟩
          by_cases e : j = i
          · rw [e]; exact y
          · exact q2 j (by omega)
        have ri : am_r ((i : Int) + 1) := ⟨by omega, by omega⟩
        have ans : ∀ (rc : Int) (F : am_M → Prop), rc = am_b (round = true) → (∀ M3, lt_fr 28 M2 M3 → rg_is M3 D → rs_ok M3 D a g w0 → rw_ok M3 D 21 (pu_up (pu_step D a g round w) i (sp_v D (pu_step D a g round w) i)) → F M3) → am_cal pg (d + 7) 257 [(2, 152), (0, src), (0, 21), (0, a), (0, rc), (0, (i : Int))] sh_T M2 (am_cv sh_T F) := fun rc F hrc hF => sp_answers hrc hS d2 s2 w2 ⟨by decide, by omega⟩ hh hr hi0 (fun M3 q3 w3 => hF M3 (lt_le (by decide) q3) (lt_rg q3 d2) (lt_rs q3 s2) w3)
        refine bk_X12_isSafeByThree_26 (sp_dreadMany ?_)
        rw [d2.2.1]
        refine ⟨fun z => by omega, fun _ => ⟨fun z => absurd z (by decide), fun _ => ⟨fun z => ans 0 _ (by omega) (fun M3 q3 d3 s3 w3 => ?_), fun z => ans 1 _ (by omega) (fun M3 q3 d3 s3 w3 => ?_)⟩⟩⟩
        all_goals
          exact sp_home d3 w3 ⟨fun e => bk_X12_isSafeByThree_79 ⟨ri, (fin M3 q3).1 (Or.inl (am_b_nz e))⟩, fun e => sp_isSafeByTwo hS (by decide) d3 s3 w3 (am_b_z.mp e) (fun M4 q4 y => ⟨fun x => absurd x (by decide), fun _ => bk_X12_isSafeByThree_79 ⟨ri, (fin M4 (lt_tr q3 (lt_le (by decide) q4))).1 (Or.inr y)⟩⟩) (fun M4 q4 y => ⟨fun _ => ⟨ri, (fin M4 (lt_tr q3 (lt_le (by decide) q4))).2 (fun x => x.elim (am_b_z.mp e) y)⟩, fun x => absurd rfl x⟩)⟩
    exact ⟨fun hr => go hr (dN D) 0 (Nat.zero_add _) M1 p1 (fun j hj => by omega), fun hr => stop 0 M1 p1 (fun y => hr y.1)⟩
  have fail : (¬ br_ D a g 2 false w) → (¬ br_ D a g 2 true w) → ¬ sb D a g 2 w := fun x y z => by
    obtain ⟨b, hb⟩ := z
    cases b with
    | false => exact x hb
    | true => exact y hb
  refine en_X12_isSafeByThree (bk_X12_isSafeByThree_0 (bk_X12_isSafeByThree_2 ⟨fun z => absurd z (by decide), fun _ => ⟨fun _ => sp_canGo (round := false) (by decide) hd (fun y => ?_) (fun y => absurd (fun z => by cases z) y), fun z => absurd z (by decide)⟩⟩))
  refine (inner 0 false (by decide) (fun M1 q1 n1 => ?_) M lt_rf).1 y
  refine bk_X12_isSafeByThree_2 ⟨fun z => absurd z (by decide), fun _ => ⟨fun z => absurd rfl z, fun _ => sp_canGo (round := true) (by decide) (lt_rg q1 hd) (fun y => ?_) (fun y => ?_)⟩⟩
  · exact (inner 1 true (by decide) (fun M2 q2 n2 => bk_X12_isSafeByThree_2 ⟨fun _ => am_c0_i (h0 M2 q2 (fail n1 n2)), fun z => absurd z (by decide)⟩) M1 q1).1 y
  · exact (inner 1 true (by decide) (fun M2 q2 n2 => bk_X12_isSafeByThree_2 ⟨fun _ => am_c0_i (h0 M2 q2 (fail n1 n2)), fun z => absurd z (by decide)⟩) M1 q1).2 y
