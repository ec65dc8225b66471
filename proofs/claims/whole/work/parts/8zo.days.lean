/-! DAYS IN THE CLASS: the ends that are known, the best order -/
theorem wy_is_we {D : dm_D} {a g : Int} (hD : dg_ok D) : ∀ (l : List Bool) (w u : Int → Int), dw_ok D w → we_eq w u → wy_is D a g l w → wy_is D a g l u
  | [], w, u, hw, e, h => by
    have h : pu_home D w := h
    show pu_sum u 6 ≤ dH D
    rw [← pu_sum_we (by decide) e]
    exact h
  | b :: l, w, u, hw, e, h => by
    obtain ⟨h1, h2, h3⟩ := h
    have h0 := pu_away hD hw h1
    refine ⟨fun y => h1 ?_, h2, wy_is_we hD l _ _ (pu_step_ok hD h0 h2 hw) (pu_step_eq hD h0 h2 e) h3⟩
    show pu_sum w 6 ≤ dH D
    rw [pu_sum_we (by decide) e]
    exact y
theorem dy_ok {D : dm_D} {a : Int} (hD : dg_ok D) : ∀ (ds : List Int) (w : Int → Int), dw_ok D w → (∀ k ∈ ds, 0 ≤ k ∧ k < dN D) → dw_ok D (dy_ D a ds w)
  | [], _, h, _ => h
  | k :: ds, w, h, hk => by
    have q := hk k List.mem_cons_self
    have h6 := hD.1
    exact dy_ok hD ds _ ⟨pu_up_ok h.1 (pu_made_le h.1 ⟨q.1, by omega⟩), pu_up_z q.2 h.2⟩ (fun x hx => hk x (List.mem_cons_of_mem _ hx))
theorem dn_in {D : dm_D} {a g b : Int} {w : Int → Int} {P : List (List Int)} {o : List Int} (h : dn_ D a g w P b o) : b = -1 ∨ (0 ≤ b ∧ b ≤ 10) := by
  rcases h with ⟨h1, -⟩ | ⟨P1, P2, -, ⟨l, h2, h3⟩, -⟩
  · exact Or.inl h1
  · have := h2.1
    exact Or.inr (by omega)
/-- an order whose end is that of one that was seen gives nothing better -/
theorem dn_like {D : dm_D} {a g b : Int} {w : Int → Int} {P : List (List Int)} {o ds ds0 : List Int} (hD : dg_ok D) (hw : dw_ok D (dy_ D a ds w)) (h : dn_ D a g w P b o) (h0 : ds0 ∈ P) (e : we_eq (dy_ D a ds w) (dy_ D a ds0 w)) : dn_ D a g w (P ++ [ds]) b o := by
  refine dn_no h ⟨fun l l1 l2 => ?_, fun hb l l1 l2 => ?_⟩
  · have l3 := wy_is_we hD l _ _ hw e l2
    rcases h with ⟨q1, q2⟩ | ⟨P1, P2, q1, ⟨m, q2, q3⟩, q4, q5⟩
    · exact absurd l3 (q2 ds0 h0 l l1)
    · rw [q1] at h0
      rcases List.mem_append.mp h0 with z | z
      · have := q4 ds0 z l l1 l3
        omega
      · rcases List.mem_cons.mp z with z | z
        · rw [z] at l3
          exact wl_opt q2 (by omega) l l1 l3
        · exact q5 ds0 z l l1 l3
  · have l3 := wy_is_we hD l _ _ hw e l2
    rcases h with ⟨q1, q2⟩ | ⟨P1, P2, q1, ⟨m, q2, q3⟩, q4, q5⟩
    · exact absurd l3 (q2 ds0 h0 l l1)
    · omega
theorem st_isLike {d : Nat} {M : am_M} {f : Int → am_M → Prop} {v lo : Int} (hv : sl_is v) (h0 : 0 ≤ lo) (h1 : lo + 6 ≤ 144) (hy : (∀ k : Int, 0 ≤ k → k < 6 → M 127 (lo + k) = M (v + 1) k) → f 1 M) (hn : f 0 M) : am_cal pg (d + 1) 78 [(2, v), (2, 127), (0, lo)] sh_T M (am_c0 sh_T f) := by
  obtain ⟨v1, v2, v3, v4, v5⟩ := hv
  have no : ∀ (n k : Nat), k + n = 6 → am_g 7 5 co_X7_isLike d (am_c0 sh_T f) 5 [(2, v), (2, 127), (0, lo), (0, 0), (0, (k : Int))] [] sh_T M := by
    intro n
    induction n with
    | zero =>
      intro k hk
      have : k = 6 := by omega
      subst this
      exact bk_X7_isLike_5 ⟨v1, 6, v2, fun _ => ⟨Or.inl rfl, am_c0_i hn⟩, fun c => absurd c (by decide)⟩
    | succ n ih =>
      intro k hk
      exact bk_X7_isLike_5 ⟨v1, 6, v2, fun c => by omega, fun c => ⟨fun _ => ⟨⟨by omega, by omega⟩, ih (k + 1) (by omega)⟩, fun c => absurd rfl c⟩⟩
  have go : ∀ (n k : Nat), k + n = 6 → (∀ j : Int, 0 ≤ j → j < (k : Int) → M 127 (lo + j) = M (v + 1) j) → am_g 7 5 co_X7_isLike d (am_c0 sh_T f) 5 [(2, v), (2, 127), (0, lo), (0, 1), (0, (k : Int))] [] sh_T M := by
    intro n
    induction n with
    | zero =>
      intro k hk done
      have : k = 6 := by omega
      subst this
      exact bk_X7_isLike_5 ⟨v1, 6, v2, fun _ => ⟨Or.inr rfl, am_c0_i (hy (fun j j0 j1 => done j j0 (by omega)))⟩, fun c => absurd c (by decide)⟩
    | succ n ih =>
      intro k hk done
      refine bk_X7_isLike_5 ⟨v1, 6, v2, fun c => by omega, fun c => ⟨fun c2 => absurd c2 (by decide), fun _ => ⟨fun c3 => by omega, fun _ => ⟨⟨by omega, by omega⟩, 144, rfl, fun c4 => by omega, fun _ => ⟨⟨by omega, by omega⟩, ia_127 (by omega) (by omega), v3 _ (by omega) (by omega), fun c5 => ⟨⟨by omega, by omega⟩, no n (k + 1) (by omega)⟩, fun c5 => ⟨⟨by omega, by omega⟩, ih (k + 1) (by omega) (fun j j0 j1 => ?_)⟩⟩⟩⟩⟩⟩
      by_cases z : j = (k : Int)
      · rw [z]; exact c5
      · exact done j j0 (by omega)
  exact en_X7_isLike (bk_X7_isLike_0 (go 6 0 rfl (fun j j0 j1 => by omega)))
theorem st_writeEnd {d : Nat} {M : am_M} {f : am_M → Prop} {v lo : Int} (hv : sl_is v) (hne : ¬ v + 1 = 127) (h0 : 0 ≤ lo) (h1 : lo + 6 ≤ 144) (h : f (am_rs M 127 lo (M (v + 1)) 6)) : am_cal pg (d + 1) 79 [(2, v), (2, 127), (0, lo)] sh_T M (am_cv sh_T f) := by
  obtain ⟨v1, v2, v3, v4, v5⟩ := hv
  have go : ∀ (n k : Nat), k + n = 6 → am_g 7 9 co_X7_writeTo d (am_cv sh_T f) 2 [(2, v), (2, 127), (0, lo), (0, (k : Int))] [] sh_T (am_rs M 127 lo (M (v + 1)) k) := by
    intro n
    induction n with
    | zero =>
      intro k hk
      have : k = 6 := by omega
      subst this
      exact bk_X7_writeTo_2 ⟨v1, 6, v2, fun _ => am_cv_i h, fun c => absurd c (by decide)⟩
    | succ n ih =>
      intro k hk
      refine bk_X7_writeTo_2 ⟨v1, 6, v2, fun c => by omega, fun c => ⟨fun q => by omega, fun q => ⟨⟨by omega, by omega⟩, 144, rfl, fun q2 => by omega, fun q2 => ⟨⟨by omega, by omega⟩, v3 _ (by omega) (by omega), ow_127 (by omega) (by omega), ⟨by omega, by omega⟩, ?_⟩⟩⟩⟩
      rw [am_rs_el (b := v + 1) hne, am_rs_s rfl rfl]
      exact ih (k + 1) (by omega)
  have := go 6 0 rfl
  rw [am_rs_0] at this
  exact en_X7_writeTo (bk_X7_writeTo_0 this)
/-- the ends that were written: each is that of an order seen -/
def en_s (D : dm_D) (a : Int) (w : Int → Int) (P : List (List Int)) (e : Nat) (M : am_M) : Prop := M 95 12 = (e : Int) ∧ ∀ i : Nat, i < e → ∃ ds, ds ∈ P ∧ ∀ k : Int, 0 ≤ k → k < 6 → M 127 (6 * (i : Int) + k) = dy_ D a ds w k
theorem en_s_go {D : dm_D} {a : Int} {w : Int → Int} {P : List (List Int)} {e : Nat} {M M' : am_M} {x : List (List Int)} (h : en_s D a w P e M) (e1 : M' 95 12 = M 95 12) (e2 : ∀ j, M' 127 j = M 127 j) : en_s D a w (P ++ x) e M' :=
  ⟨e1.trans h.1, fun i hi => by
    obtain ⟨ds, h1, h2⟩ := h.2 i hi
    exact ⟨ds, List.mem_append_left _ h1, fun k k0 k1 => (e2 _).trans (h2 k k0 k1)⟩⟩
theorem st_isEndKnown {d e : Nat} {M : am_M} {f : Int → am_M → Prop} {D : dm_D} {a : Int} {w u : Int → Int} {P : List (List Int)} (he : e < 24) (hs : en_s D a w P e M) (hu : we_eq (M (123 + 1)) u)
    (h1 : ∀ ds, ds ∈ P → we_eq u (dy_ D a ds w) → f 1 M) (h0 : ∀ M', (∀ x j, ¬ x = 127 → ¬ (x = 95 ∧ j = 12) → M' x j = M x j) → M' 95 12 = (e : Int) + 1 → (∀ i : Nat, i < e → ∀ k : Int, 0 ≤ k → k < 6 → M' 127 (6 * (i : Int) + k) = M 127 (6 * (i : Int) + k)) → (∀ k : Int, 0 ≤ k → k < 6 → M' 127 (6 * (e : Int) + k) = u k) → f 0 M') : am_cal pg (d + 2) 124 [(2, 95), (2, 123)] sh_T M (am_c0 sh_T f) := by
  have go : ∀ (n i : Nat), i + n = e → am_g 10 5 co_X10_isEndKnown (d + 1) (am_c0 sh_T f) 2 [(2, 95), (2, 123), (0, (i : Int))] [] sh_T M := by
    intro n
    induction n with
    | zero =>
      intro i hi
      have ei : i = e := by omega
      subst ei
      refine bk_X10_isEndKnown_2 ⟨fun _ => ?_, fun c => ?_⟩
      · rw [hs.1]
        refine ⟨⟨by omega, by omega⟩, sl_123.1, st_writeEnd sl_123 (by decide) (by omega) (by omega) ?_⟩
        rw [am_rs_el (show ¬ (95 : Int) = 127 by decide), hs.1]
        refine ⟨⟨by omega, by omega⟩, st_min ?_⟩
        rw [if_neg (by omega)]
        refine am_c0_i (h0 _ (fun x j y y2 => ?_) am_up_at (fun t ht k k0 k1 => ?_) (fun k k0 k1 => ?_))
        · rw [am_up_el y2, am_rs_el y]
        · rw [am_up_el (by omega), am_rs_out (by omega)]
        · rw [am_up_el (by omega), am_rs_at (by omega) (by omega), show 6 * (i : Int) + k - (i : Int) * 6 = k by omega]
          exact hu k k0 k1
      · rw [hs.1] at c
        omega
    | succ n ih =>
      intro i hi
      obtain ⟨ds, hds, hed⟩ := hs.2 i (by omega)
      refine bk_X10_isEndKnown_2 ⟨fun c => by rw [hs.1] at c; omega, fun _ => ⟨⟨by omega, by omega⟩, sl_123.1, st_isLike sl_123 (by omega) (by omega) (fun q => ⟨fun z => absurd z (by decide), fun _ => am_c0_i (h1 ds hds (fun k k0 k1 => ?_))⟩) ⟨fun _ => ⟨⟨by omega, by omega⟩, ih (i + 1) (by omega)⟩, fun z => absurd rfl z⟩⟩⟩
      rw [← hu k k0 k1, ← hed k k0 k1, show 6 * (i : Int) + k = (i : Int) * 6 + k by omega]
      exact (q k k0 k1).symm
  exact en_X10_isEndKnown (bk_X10_isEndKnown_0 (go e 0 (Nat.zero_add _)))
/-- one dread behind the other is met by day -/
theorem st_meets {D : dm_D} {c a g : Int} {d p : Nat} {Q : am_Q} {s vv fw nn : Int} (hp : p ≤ 4) : ∀ (ds : List Int) (i : Nat) (M : am_M) (u : Int → Int), i + ds.length = p → (∀ j : Nat, j < ds.length → M 125 ((i : Int) + (j : Int)) = ds.getD j 0) → (∀ k ∈ ds, 0 ≤ k ∧ k < dN D) → dm_ok M c D → sm_ok M D 123 a g u → (∀ M', (∀ x j, ¬ ds_ x j → ¬ x = 124 → M' x j = M x j) → dm_ok M' c D → sm_ok M' D 123 a g (dy_ D a ds u) → am_g 10 0 co_X10_findDays (d + 31) Q 77 [(2, 95), (2, c), (2, s), (0, vv), (0, fw), (0, nn), (0, (p : Int)), (3, 0)] [] sh_T M') → am_g 10 0 co_X10_findDays (d + 31) Q 39 [(2, 95), (2, c), (2, s), (0, vv), (0, fw), (0, nn), (0, (p : Int)), (0, (i : Int))] [] sh_T M
  | [], i, M, u, hi, _, _, hd, hs, h => by
    rw [List.length_nil] at hi
    exact bk_X10_findDays_39 ⟨fun _ => h M (fun _ _ _ _ => rfl) hd hs, fun z => by omega⟩
  | k :: ds, i, M, u, hi, hk, hin, hd, hs, h => by
    rw [List.length_cons] at hi hk
    have hcc := hd.1
    have e0 : M 125 (i : Int) = k := by
      have := hk 0 (by omega)
      rw [show (i : Int) + ((0 : Nat) : Int) = (i : Int) by omega] at this
      exact this
    refine bk_X10_findDays_39 ⟨fun z => by omega, fun _ => ⟨fun z => by omega, fun _ => ⟨⟨by omega, by omega⟩, dr_ob hd.1, ?_⟩⟩⟩
    rw [e0]
    refine st_dayed hd hs (hin k List.mem_cons_self) (fun M1 f1 d1 s1 => ⟨⟨by omega, by omega⟩, ?_⟩)
    have f2 : ∀ x j, ¬ ds_ x j → ¬ x = 124 → M1 x j = M x j := fun x j y y2 => by
      unfold ds_ at y
      rcases hcc with z | z <;> rw [z] at f1 <;> exact f1 x j (by omega) (by omega) (by omega) (by omega) (by omega)
    refine st_meets hp ds (i + 1) M1 _ (by omega) (fun j hj => ?_) (fun x hx => hin x (List.mem_cons_of_mem _ hx)) d1 s1 (fun M' q1 q2 q3 => h M' (fun x j y y2 => (q1 x j y y2).trans (f2 x j y y2)) q2 q3)
    rw [f2 125 _ (by unfold ds_; omega) (by omega), show ((i + 1 : Nat) : Int) + (j : Int) = (i : Int) + ((j + 1 : Nat) : Int) by omega, hk (j + 1) (by omega)]
    rfl
theorem ord_all : ∀ N : Nat, N < 7 → ∀ v : Nat, v < 2 ^ N → pc_ v ≤ 4 → ∀ n : Nat, n < fa_ (pc_ v) → (ord_ v n).all (fun k => decide (0 ≤ k) && decide (k < (N : Int))) = true := by decide +kernel
theorem ord_in (N : Nat) (hN : N < 7) (v : Nat) (hv : v < 2 ^ N) (hp : pc_ v ≤ 4) (n : Nat) (hn : n < fa_ (pc_ v)) : ∀ k ∈ ord_ v n, 0 ≤ k ∧ k < (N : Int) := fun k hk => by
  have h := List.all_eq_true.mp (ord_all N hN v hv hp n hn) k hk
  rw [Bool.and_eq_true, decide_eq_true_eq, decide_eq_true_eq] at h
  exact h
theorem ord_len {v n : Nat} : (ord_ v n).length = pc_ v := by unfold ord_; exact oc_len _ _ _ _ _
theorem fa_24 {p : Nat} : fa_ p ≤ 24 := by
  unfold fa_
  split
  · decide
  · split
    · decide
    · split <;> decide
theorem lt_64 {N v : Nat} (hN : N ≤ 6) (hv : v < 2 ^ N) : v < 64 := Nat.lt_of_lt_of_le hv (show 2 ^ N ≤ 2 ^ 6 from Nat.pow_le_pow_right (by decide) hN)
theorem st_findDays {D : dm_D} {c a g : Int} {d v : Nat} {M : am_M} {f : Int → am_M → Prop} {s : Int} {w : Int → Int} (hd : dm_ok M c D) (hs : sm_ok M D s a g w) (hs2 : s < 80) (hv : v < 2 ^ dN D) (hp : pc_ v ≤ 4)
    (h : ∀ (M' : am_M) (b : Int) (o : List Int), sc_fr M M' → dn_ D a g w ((List.range (fa_ (pc_ v))).map (ord_ v)) b o → (¬ b = -1 → ∀ i : Nat, i < pc_ v → M' 126 (i : Int) = o.getD i 0) → f b M') : am_cal pg (d + 32) 120 [(2, 95), (2, c), (2, s), (0, (v : Int))] sh_T M (am_c0 sh_T f) := by
  have hcc := hd.1
  have hD := hd.2.1
  have hN := hD.1
  have hv64 := lt_64 hN hv
  have hF := fa_24 (p := pc_ v)
  have hsr := hs.1.2.2.2.2
  have loop : ∀ (m n t e : Nat) (M1 : am_M) (b : Int) (o : List Int), n + m = 24 → (t = n ∨ (t = fa_ (pc_ v) ∧ t ≤ n)) → t ≤ fa_ (pc_ v) → e ≤ t → sc_fr M M1 → en_s D a w ((List.range t).map (ord_ v)) e M1 → dn_ D a g w ((List.range t).map (ord_ v)) b o → (¬ b = -1 → ∀ i : Nat, i < pc_ v → M1 126 (i : Int) = o.getD i 0) → am_g 10 0 co_X10_findDays (d + 31) (am_c0 sh_T f) 12 [(2, 95), (2, c), (2, s), (0, (v : Int)), (0, if b = -1 then 11 else b), (0, (n : Int)), (3, 0), (3, 0)] [] sh_T M1 := by
    intro m
    induction m with
    | zero =>
      intro n t e M1 b o hn ht htF het fr en dn be
      have et : t = fa_ (pc_ v) := by omega
      have q := dn_in dn
      rw [et] at dn
      refine bk_X10_findDays_12 ⟨fun _ => ⟨fun z => am_c0_i ?_, fun z => am_c0_i ?_⟩, fun z => by omega⟩
      · have eb : b = -1 := by
          by_cases y : b = -1
          · exact y
          · rw [if_neg y] at z; omega
        have r := h M1 b o fr dn be
        rw [eb] at r
        exact r
      · have eb : ¬ b = -1 := fun y => by rw [if_pos y] at z; omega
        rw [if_neg eb]
        exact h M1 b o fr dn be
    | succ m ih =>
      intro n t e M1 b o hn ht htF het fr en dn be
      refine bk_X10_findDays_12 ⟨fun z => by omega, fun _ => st_setOrder hv64 hp (by omega) (fun hge => ?_) (fun hlt M2 fr2 or2 => ?_)⟩
      · refine st_copy sl_123 hs.1 (by omega) (by omega) (by omega) (bk_X10_findDays_39 ⟨fun _ => bk_X10_findDays_77 ⟨fun _ => bk_X10_findDays_94 (bk_X10_findDays_135 ⟨⟨by omega, by omega⟩, ?_⟩), fun z => absurd rfl z⟩, fun z => by omega⟩)
        have cf : ∀ x j, ¬ x = 123 → ¬ x = 124 → sl_cp M1 123 s x j = M1 x j := fun x j x1 x2 => cp_fr x1 x2
        generalize sl_cp M1 123 s = M3 at cf ⊢
        have en3 := en_s_go (x := []) en (cf 95 12 (by omega) (by omega)) (fun j => cf 127 j (by omega) (by omega))
        rw [List.append_nil] at en3
        refine ih (n + 1) t e M3 b o (by omega) (by omega) htF het (fun x j y => (cf x j (by unfold sc_ at y; omega) (by unfold sc_ at y; omega)).trans (fr x j y)) en3 dn (fun y i hi => (cf 126 _ (by omega) (by omega)).trans (be y i hi))
      · have et : t = n := by omega
        subst et
        have s2 : sm_ok M2 D s a g w := by
          have e2 : ∀ x j, s ≤ x → x ≤ s + 1 → M2 x j = M x j := fun x j x1 x2 => (fr2 x j (by omega)).trans (fr x j (by unfold sc_; omega))
          exact sm_ok_fr (e2 _ _ (by omega) (by omega)) (e2 _ _ (by omega) (by omega)) (fun j => e2 _ _ (by omega) (by omega)) hs
        refine st_copy sl_123 hs.1 (by omega) (by omega) (by omega) ?_
        have c3 := cp_ok sl_123 s2
        have cf : ∀ x j, ¬ x = 123 → ¬ x = 124 → sl_cp M2 123 s x j = M2 x j := fun x j x1 x2 => cp_fr x1 x2
        generalize sl_cp M2 123 s = M3 at c3 cf ⊢
        have f3 : sc_fr M M3 := fun x j y => (cf x j (by unfold sc_ at y; omega) (by unfold sc_ at y; omega)).trans ((fr2 x j (by unfold sc_ at y; omega)).trans (fr x j y))
        have oin := ord_in (dN D) (by omega) v hv hp t hlt
        refine st_meets (g := g) (a := a) (D := D) hp (ord_ v t) 0 M3 w (by rw [ord_len]; omega) (fun j hj => ?_) oin (dm_ok_sc f3 hd) c3 (fun M5 k1 d5 s5 => ?_)
        · rw [ord_len] at hj
          rw [show ((0 : Nat) : Int) + (j : Int) = (j : Int) by omega, cf 125 _ (by omega) (by omega)]
          exact or2 j hj
        · have f5 : sc_fr M M5 := fun x j y => (k1 x j (by unfold sc_ at y; unfold ds_; omega) (by unfold sc_ at y; omega)).trans (f3 x j y)
          have e5 : ∀ x j, x = 95 ∨ x = 126 ∨ x = 127 → M5 x j = M1 x j := fun x j y => (k1 x j (by unfold ds_; omega) (by omega)).trans ((cf x j (by omega) (by omega)).trans (fr2 x j (by omega)))
          have e5o : ∀ j : Nat, j < pc_ v → M5 125 (j : Int) = (ord_ v t).getD j 0 := fun j hj => (k1 125 _ (by unfold ds_; omega) (by omega)).trans ((cf 125 _ (by omega) (by omega)).trans (or2 j hj))
          have eP : (List.range (t + 1)).map (ord_ v) = (List.range t).map (ord_ v) ++ [ord_ v t] := by rw [List.range_succ, List.map_append]; rfl
          have en5 : en_s D a w ((List.range t).map (ord_ v)) e M5 := by
            have := en_s_go (x := []) en (e5 95 12 (by omega)) (fun j => e5 127 j (by omega))
            rw [List.append_nil] at this
            exact this
          have hw5 := s5.2.2.2.2
          refine bk_X10_findDays_77 ⟨fun z => by omega, fun _ => st_isEndKnown (by omega) en5 s5.2.2.2.1 (fun ds0 m0 q => ⟨fun z => absurd z (by decide), fun _ => bk_X10_findDays_94 (bk_X10_findDays_135 ⟨⟨by omega, by omega⟩, ?_⟩)⟩) (fun M6 x1 x2 x3 x4 => ⟨fun _ => ?_, fun z => absurd rfl z⟩)⟩
          · refine ih (t + 1) (t + 1) e M5 b o (by omega) (Or.inl rfl) (by omega) (by omega) f5 ?_ ?_ (fun y i hi => (e5 126 _ (by omega)).trans (be y i hi))
            · rw [eP]; exact en_s_go en5 rfl (fun _ => rfl)
            · rw [eP]; exact dn_like hD hw5 dn m0 q
          · have f6 : sc_fr M M6 := fun x j y => (x1 x j (by unfold sc_ at y; omega) (by unfold sc_ at y; omega)).trans (f5 x j y)
            have s6 : sm_ok M6 D 123 a g (dy_ D a (ord_ v t) w) := sm_ok_fr (x1 _ _ (by omega) (by omega)) (x1 _ _ (by omega) (by omega)) (fun j => x1 _ _ (by omega) (by omega)) s5
            have en6 : en_s D a w ((List.range (t + 1)).map (ord_ v)) (e + 1) M6 := by
              rw [eP]
              refine ⟨by rw [x2]; omega, fun i hi => ?_⟩
              by_cases z : i = e
              · subst z
                exact ⟨ord_ v t, List.mem_append_right _ (List.mem_singleton.mpr rfl), x4⟩
              · obtain ⟨ds, h1, h2⟩ := en5.2 i (by omega)
                exact ⟨ds, List.mem_append_left _ h1, fun k k0 k1 => (x3 i (by omega) k k0 k1).trans (h2 k k0 k1)⟩
            have q := dn_in dn
            refine st_findSoonest (dm_ok_sc f6 hd) s6 (by omega) (fun M7 y1 y2 => ⟨fun _ => bk_X10_findDays_135 ⟨⟨by omega, by omega⟩, ?_⟩, fun z => absurd rfl z⟩) (fun M7 l y1 y2 y3 y4 => ⟨fun z => by omega, fun _ => ⟨⟨⟨by decide, by decide, by decide⟩, ⟨by decide, by decide, by decide, by decide⟩, by decide, 0, 4, 0, 4, rfl, rfl, by decide, by decide⟩, bk_X10_findDays_135 ⟨⟨by omega, by omega⟩, ?_⟩⟩⟩)
            · have e7 : ∀ x j, x = 125 ∨ x = 126 ∨ x = 127 ∨ (x = 95 ∧ j = 12) → M7 x j = M6 x j := fun x j y => y1 x j (by unfold ds_; omega) (by omega) (by omega)
              have en7 := en_s_go (x := []) en6 (e7 95 12 (by omega)) (fun j => e7 127 j (by omega))
              rw [List.append_nil] at en7
              refine ih (t + 1) (t + 1) (e + 1) M7 b o (by omega) (Or.inl rfl) (by omega) (by omega) (sc_tr f6 (fs_sc y1)) en7 ?_ (fun y i hi => (e7 126 _ (by omega)).trans ((x1 126 _ (by omega) (by omega)).trans ((e5 126 _ (by omega)).trans (be y i hi))))
              rw [eP]
              refine dn_no dn ⟨fun l l1 l2 => ?_, fun eb l l1 l2 => ?_⟩
              · have := y2 l l1 l2
                by_cases z : b = -1
                · omega
                · rw [if_neg z] at this; exact this
              · have := y2 l l1 l2
                rw [if_pos eb] at this
                omega
            · have e7 : ∀ x j, x = 125 ∨ x = 126 ∨ x = 127 ∨ (x = 95 ∧ j = 12) → M7 x j = M6 x j := fun x j y => y1 x j (by unfold ds_; omega) (by omega) (by omega)
              have c8 : ∀ x j, ¬ x = 126 → am_cpy M7 125 0 126 0 4 x j = M7 x j := fun x j y => by
                unfold am_cpy
                rw [if_neg (by omega)]
              have o8 : ∀ i : Nat, i < pc_ v → am_cpy M7 125 0 126 0 4 126 (i : Int) = (ord_ v t).getD i 0 := fun i hi => by
                unfold am_cpy
                rw [if_pos ⟨rfl, by omega, by omega⟩, show (0 : Int) + ((i : Int) - 0) = (i : Int) by omega, e7 125 _ (by omega), x1 125 _ (by omega) (by omega)]
                exact e5o i hi
              generalize am_cpy M7 125 0 126 0 4 = M8 at c8 o8 ⊢
              have en8 := en_s_go (x := []) en6 ((c8 95 12 (by omega)).trans (e7 95 12 (by omega))) (fun j => (c8 127 j (by omega)).trans (e7 127 j (by omega)))
              rw [List.append_nil] at en8
              have hb : b = -1 ∨ (l.length : Int) < b := by
                by_cases z : b = -1
                · exact Or.inl z
                · rw [if_neg z] at y3; exact Or.inr y3
              have r := ih (t + 1) (t + 1) (e + 1) M8 l.length (ord_ v t) (by omega) (Or.inl rfl) (by omega) (by omega) (fun x j y => (c8 x j (by unfold sc_ at y; omega)).trans (sc_tr f6 (fs_sc y1) x j y)) en8 (by rw [eP]; exact dn_new dn y2 hb) (fun _ i hi => o8 i hi)
              rw [if_neg (show ¬ (l.length : Int) = -1 by omega)] at r
              exact r
  refine en_X10_findDays (bk_X10_findDays_0 ?_)
  have r := loop 24 0 0 0 (am_up M 95 12 0) (-1) [] rfl (Or.inl rfl) (Nat.zero_le _) (Nat.le_refl _) (fun x j y => am_up_el (by unfold sc_ at y; omega)) ⟨am_up_at, fun i hi => absurd hi (Nat.not_lt_zero i)⟩ dn_0 (fun y => absurd rfl y)
  rw [if_pos rfl] at r
  exact r
theorem st_metByDay {d : Nat} {M : am_M} {f : Int → am_M → Prop} {k : Int} (h0 : 0 ≤ k) (h1 : k < 4) (h : f (M 126 k) M) : am_cal pg (d + 1) 121 [(2, 95), (0, k)] sh_T M (am_c0 sh_T f) :=
  en_X10_metByDay (bk_X10_metByDay_0 ⟨fun z => by omega, fun _ => ⟨fun z => by omega, fun _ => ⟨⟨h0, h1⟩, am_c0_i h⟩⟩⟩)
