/-! WHAT HOLDS BETWEEN TWO CALLS; both dreams -/
def ot_ (T : tt_) (k : Int) : Option (List Int) := match tS T k with
  | none => none
  | some (f, g) => some (((tC T).drop f).take (g - f))
def dT_ (T : tt_) : dm_D := ((tN T 0).length, (tHo T, tLa T, tSp T), tBr T, tGu T, ot_ T 0, ot_ T 1, ot_ T 2, ((tN T 1).length : Int), ((tN T 2).length : Int))
theorem sg_len {C : List Int} {f g : Nat} (h1 : f < g) (h2 : g ≤ C.length) : ((C.drop f).take (g - f)).length = g - f := by
  rw [List.length_take, List.length_drop]; omega
theorem sg_at {C : List Int} {f g i : Nat} (h : i < g - f) : ((C.drop f).take (g - f)).getD i 0 = C.getD (f + i) 0 := by
  rw [List.getD_eq_getElem?_getD, List.getElem?_take, if_pos h, List.getElem?_drop, ← List.getD_eq_getElem?_getD]
theorem dr_sum_T {M : am_M} {c k nb ng : Int} {T : tt_} (hk : 0 ≤ k ∧ k < 3) (hT : tk_ T) (h : td_ M c T nb ng) (hC : ce_ M c (tC T)) : dr_sum M c k (ot_ T k) := by
  obtain ⟨-, -, -, -, -, q⟩ := h
  obtain ⟨c1, c2, c3⟩ := hC
  rcases q k hk.1 hk.2 with ⟨q1, q2, q3⟩ | ⟨f, g, q1, q2, q3⟩
  · unfold ot_
    rw [q1]
    show M (c + 12) k ≤ M (c + 11) k
    omega
  · obtain ⟨t1, t2, t3⟩ := hT.2.2.2.2.2.2.2 k hk.1 hk.2 f g q1
    have hl := sg_len t1 t2
    unfold ot_
    rw [q1]
    show M (c + 11) k < M (c + 12) k ∧ 0 ≤ M (c + 11) k ∧ (M (c + 12) k ≤ M (c + 6) 1 ∧ M (c + 6) 1 ≤ 1600) ∧ M (c + 11) k + (((tC T).drop f).take (g - f)).length = M (c + 12) k ∧ (∀ i : Nat, i < (((tC T).drop f).take (g - f)).length → M (c + 7) (M (c + 11) k + i) = cv ((((tC T).drop f).take (g - f)).getD i 0)) ∧ er_ok (((tC T).drop f).take (g - f))
    rw [q2, q3, c1, hl]
    refine ⟨by omega, by omega, ⟨by omega, by omega⟩, by omega, fun i hi => ?_, t3⟩
    rw [sg_at hi, show (f : Int) + (i : Int) = ((f + i : Nat) : Int) by omega]
    exact c3 (f + i) (by omega)
theorem rf_sum_T {M : am_M} {k : Int} {T : tt_} (hk : 0 ≤ k ∧ k < 3) (hT : tk_ T) (h : sg_ M T) : rf_sum M k (ot_ T k) := by
  obtain ⟨-, -, -, -, -, -, q, c2, c3⟩ := h
  rcases q k hk.1 hk.2 with ⟨q1, q2⟩ | ⟨f, g, q1, q2, q3⟩
  · unfold ot_
    rw [q1]
    exact q2
  · obtain ⟨t1, t2, t3⟩ := hT.2.2.2.2.2.2.2 k hk.1 hk.2 f g q1
    have hl := sg_len t1 t2
    unfold ot_
    rw [q1]
    show ¬ M 180 (3 + k) = -1 ∧ 0 ≤ M 180 (3 + k) ∧ M 181 (3 + k) ≤ 1600 ∧ M 180 (3 + k) + (((tC T).drop f).take (g - f)).length = M 181 (3 + k) ∧ (∀ i : Nat, i < (((tC T).drop f).take (g - f)).length → M 182 (1600 + M 180 (3 + k) + i) = (((tC T).drop f).take (g - f)).getD i 0) ∧ er_ok (((tC T).drop f).take (g - f))
    rw [q2, q3, hl]
    refine ⟨by omega, by omega, by omega, by omega, fun i hi => ?_, t3⟩
    rw [sg_at hi, show 1600 + (f : Int) + (i : Int) = 1600 + ((f + i : Nat) : Int) by omega]
    exact c3 (f + i) (by omega)
theorem dg_T {T : tt_} (hT : tk_ T) : dg_ok (dT_ T) := by
  obtain ⟨-, ⟨h1, -⟩, h2, -, -, -, ⟨h3, -⟩, -⟩ := hT
  exact ⟨h1, h3.1, fun k k0 k1 => h2 k k0 k1.2⟩
theorem dw_T {T : tt_} (hT : tk_ T) {a : Int} (ha : 0 ≤ a ∧ a < 4) : dw_ok (dT_ T) (fun j => tFe T (6 * a + j)) := by
  obtain ⟨-, -, -, h1, h2, -⟩ := hT
  exact ⟨fun j j0 j1 => h1 _ (by omega) (by omega), fun j j0 j1 => h2 a j ha.1 ha.2 j0 j1⟩
theorem bt_T {M : am_M} {T : tt_} (hT : tk_ T) (hs : dr_is (M 0 4)) (h : td_ M (M 0 4) T ((tN T 1).length : Int) ((tN T 2).length : Int)) (hC : ce_ M (M 0 4) (tC T)) (hl : ∀ a : Int, 0 ≤ a → a < 4 → M (37 + 1 + 2 * a) 1 = a ∧ M (37 + 1 + 2 * a) 2 = -1 ∧ ∀ j : Int, 0 ≤ j → j < 6 → M (37 + 1 + 2 * a + 1) j = tFe T (6 * a + j)) (hg : sg_ M T) : bt_ok M (dT_ T) (fun _ => -1) (fun a j => tFe T (6 * a + j)) := by
  have s0 := dr_sum_T (k := 0) (by decide) hT h hC
  have s1 := dr_sum_T (k := 1) (by decide) hT h hC
  have s2 := dr_sum_T (k := 2) (by decide) hT h hC
  have r0 := rf_sum_T (k := 0) (by decide) hT hg
  have r1 := rf_sum_T (k := 1) (by decide) hT hg
  have r2 := rf_sum_T (k := 2) (by decide) hT hg
  obtain ⟨⟨t1, t1'⟩, t2, t3, t4, ⟨t5, t6, t7⟩, t8⟩ := h
  obtain ⟨g1, g2, g3, g4, g5, ⟨g6, g7, g8⟩, -⟩ := hg
  have hN := hT.2.1
  refine ⟨⟨hs, dg_T hT, t1 0 (by decide) (by decide), t5, t6, t7, fun k k0 k1 => t2 k k0 k1.2, fun k k0 k1 => t4 k k0 k1.2, s0, s1, s2⟩, ⟨dg_T hT, g1 0 (by decide) (by decide), g6, g7, g8, fun k k0 k1 => g3 k k0 k1.2, fun k k0 k1 => g5 k k0 k1.2, r0, r1, r2⟩, ?_, ?_, fun a a0 a1 => ⟨⟨sl_row_37 a0 a1.1, ⟨(hl a a0 a1.1).1, a0, a1⟩, ⟨(hl a a0 a1.1).2.1, (by decide : (-1 : Int) ≤ -1), (by decide : (-1 : Int) < 4), ?_⟩, fun j j0 j1 => (hl a a0 a1.1).2.2 j j0 j1, dw_T hT ⟨a0, a1.1⟩⟩, ⟨⟨a0, a1⟩, ⟨(g4 a a0 a1.1).1, (by decide : (-1 : Int) ≤ -1), (by decide : (-1 : Int) < 4), ?_⟩, fun j j0 j1 => (g4 a a0 a1.1).2 j j0 j1, dw_T hT ⟨a0, a1.1⟩⟩⟩⟩
  · have e1 := t1 1 (by decide) (by decide)
    have e2 := g1 1 (by decide) (by decide)
    have e2 : M 174 4 = ((tN T 1).length : Int) := e2
    exact ⟨⟨e1.trans e2.symm, e2⟩, by omega, by omega⟩
  · have e1 := t1 2 (by decide) (by decide)
    have e2 := g1 2 (by decide) (by decide)
    have e2 : M 174 5 = ((tN T 2).length : Int) := e2
    exact ⟨⟨e1.trans e2.symm, e2⟩, by omega, by omega⟩
  · show (-1 : Int) < ((tN T 2).length : Int)
    omega
  · show (-1 : Int) < ((tN T 2).length : Int)
    omega
/-- the names of the dream that stands -/
def lt_ (M : am_M) (T : tt_) : Prop := tkn_ T ∧ tn_ M (M 0 4) T ∧ (∀ k : Int, 0 ≤ k → k < 3 → M 174 (3 + k) = ((tN T k).length : Int)) ∧ (∀ k : Int, 0 ≤ k → k < 3 → ∀ i : Nat, i < (tN T k).length → M 175 (18 + (6 * k + i)) = nv_ ((tN T k).getD i []) 0)
/-- the tapes -/
def tp_ (M : am_M) : Prop := (∀ j, M 2 j = M 153 j) ∧ M 1 1 = M 152 1 ∧ (0 ≤ M 1 1 ∧ M 1 1 ≤ 1600) ∧ ∀ j : Int, 0 ≤ j → j < M 1 1 → 0 ≤ M 2 j ∧ M 2 j ≤ 255
def fl_ (M : am_M) : Prop := M 1 3 = M 152 7 ∧ M 1 4 = M 152 8
def so_ (M : am_M) : Prop := dr_is (M 0 4) ∧ dr_is (M 0 5) ∧ ¬ M 0 4 = M 0 5
def pi_ (M : am_M) : Prop := M 0 15 = M 152 93 ∧ (0 ≤ M 0 15 ∧ M 0 15 ≤ 53) ∧ ∀ j : Int, 0 ≤ j → j < M 0 15 → M 150 j = M 214 j
def da_ (n : Nat) (M : am_M) (D : dm_D) : Prop := ∃ (G : Int → Int) (W : Int → Int → Int), at_ok n M D G W
/-- what holds when n calls are answered -/
def iv_ (n : Nat) (M : am_M) : Prop := (∃ D : dm_D, da_ n M D ∧ to_ok M D ∧ (0 ≤ dL D ∧ dL D ≤ 100) ∧ (0 ≤ dS D ∧ dS D ≤ 999)) ∧ (∃ T : tt_, lt_ M T) ∧ tp_ M ∧ fl_ M ∧ so_ M ∧ pi_ M ∧ xw_ M ∧ rw_all M
/-- what all that is spoken of in iv_ leaves as it is, but the tape, the faults and the refusals -/
def up_ (u : Int) (M M' : am_M) : Prop := ∀ x j, ((x = 0 ∧ (j = 4 ∨ j = 5 ∨ j = 12 ∨ j = 13 ∨ j = 15 ∨ j = 17)) ∨ (u ≤ x ∧ x ≤ u + 12) ∨ (37 ≤ x ∧ x ≤ 87) ∨ x = 149 ∨ x = 150 ∨ (x = 152 ∧ ((58 ≤ j ∧ j ≤ 62) ∨ j = 93)) ∨ ((x = 174 ∨ (179 ≤ x ∧ x ≤ 181)) ∧ 3 ≤ j) ∨ (x = 175 ∧ 18 ≤ j) ∨ ((x = 176 ∨ x = 178) ∧ 4 ≤ j) ∨ (x = 182 ∧ 1600 ≤ j) ∨ x = 186 ∨ x = 191 ∨ x = 192 ∨ x = 214 ∨ (155 ≤ x ∧ x ≤ 173) ∨ (193 ≤ x ∧ x ≤ 210) ∨ 2000000 ≤ x) → M' x j = M x j
theorem rf_sum_up {u : Int} {M M' : am_M} {w : Int} {o : Option (List Int)} (hf : up_ u M M') (hw : 0 ≤ w) (h : rf_sum M w o) : rf_sum M' w o := by
  have e1 : M' 180 (3 + w) = M 180 (3 + w) := hf _ _ (by omega)
  have e2 : M' 181 (3 + w) = M 181 (3 + w) := hf _ _ (by omega)
  cases o with
  | none =>
    show M' 180 (3 + w) = -1
    rw [e1]; exact h
  | some cs =>
    obtain ⟨a1, a2, a3, a4, a5, a6⟩ := h
    show ¬ M' 180 (3 + w) = -1 ∧ 0 ≤ M' 180 (3 + w) ∧ M' 181 (3 + w) ≤ 1600 ∧ M' 180 (3 + w) + cs.length = M' 181 (3 + w) ∧ (∀ i : Nat, i < cs.length → M' 182 (1600 + M' 180 (3 + w) + i) = cs.getD i 0) ∧ er_ok cs
    rw [e1, e2]
    refine ⟨a1, a2, a3, a4, fun i hi => ?_, a6⟩
    rw [hf 182 _ (by omega)]
    exact a5 i hi
theorem bt_up {M M' : am_M} {D : dm_D} {G : Int → Int} {W : Int → Int → Int} (hf : up_ (M 0 4) M M') (h : bt_ok M D G W) : bt_ok M' D G W := by
  obtain ⟨⟨a1, a2, a3, a4, a5, a6, a7, a8, a9, a10, a11⟩, ⟨b1, b2, b3, b4, b5, b6, b7, b8, b9, b10⟩, h3, h4, h5⟩ := h
  have e0 : M' 0 4 = M 0 4 := hf 0 4 (by omega)
  have hcc := a1
  unfold dr_is at hcc
  generalize M 0 4 = u at *
  have sum : ∀ w o, dr_sum M u w o → dr_sum M' u w o := fun w o hs => dr_sum_fr a1 (fun j => hf _ _ (by omega)) (fun j => hf _ _ (by omega)) (hf _ _ (by omega)) (fun j => hf _ _ (by omega)) hs
  have e174 : ∀ j, 3 ≤ j → M' 174 j = M 174 j := fun j hj => hf 174 j (by omega)
  refine ⟨?_, ⟨b1, ?_, ?_, ?_, ?_, fun k k0 k1 => ?_, fun k k0 k1 => ?_, rf_sum_up hf (by decide) b8, rf_sum_up hf (by decide) b9, rf_sum_up hf (by decide) b10⟩, ?_, ?_, fun a x0 x1 => ⟨sm_ok_fr (hf _ _ (by omega)) (hf _ _ (by omega)) (fun j => hf _ _ (by omega)) (h5 a x0 x1).1, rs_ok_fr (fun j => hf 186 j (by omega)) (h5 a x0 x1).2⟩⟩
  · rw [e0]
    refine ⟨a1, a2, ?_, ?_, ?_, ?_, fun k k0 k1 => ?_, fun k k0 k1 => ?_, sum _ _ a9, sum _ _ a10, sum _ _ a11⟩
    · rw [hf _ _ (by omega)]; exact a3
    · rw [hf _ _ (by omega)]; exact a4
    · rw [hf _ _ (by omega)]; exact a5
    · rw [hf _ _ (by omega)]; exact a6
    · rw [hf _ _ (by omega)]; exact a7 k k0 k1
    · rw [hf _ _ (by omega)]; exact a8 k k0 k1
  · rw [hf _ _ (by omega)]; exact b2
  · rw [hf _ _ (by omega)]; exact b3
  · rw [hf _ _ (by omega)]; exact b4
  · rw [hf _ _ (by omega)]; exact b5
  · rw [hf _ _ (by omega)]; exact b6 k k0 k1
  · rw [hf _ _ (by omega)]; exact b7 k k0 k1
  · rw [e0, e174 4 (by decide), hf (u + 2) 1 (by omega)]; exact h3
  · rw [e0, e174 5 (by decide), hf (u + 2) 2 (by omega)]; exact h4
theorem ac_up {u : Int} {M M' : am_M} {D : dm_D} {G : Int → Int} {W : Int → Int → Int} (hf : up_ u M M') (h : ac_ok M D G W) : ac_ok M' D G W := by
  obtain ⟨n, h, h1, h2, h3, h4, h5⟩ := h
  have e1 : M' 46 1 = M 46 1 := hf 46 1 (by omega)
  have e2 : M' 46 2 = M 46 2 := hf 46 2 (by omega)
  have e3 : M' 152 58 = M 152 58 := hf 152 58 (by omega)
  have e4 : M' 152 59 = M 152 59 := hf 152 59 (by omega)
  refine ⟨n, h, h1, by rw [e2, e3]; exact h2, by rw [e1]; exact h3, by rw [e4]; exact h4, fun k hk => ?_⟩
  obtain ⟨q1, q2⟩ := h5 k hk
  rw [e1, e4]
  refine ⟨sm_ok_fr (hf _ _ (by omega)) (hf _ _ (by omega)) (fun j => hf _ _ (by omega)) q1, fun a a0 a1 => ⟨?_, fun i i0 i1 => ?_⟩⟩
  · rw [hf _ _ (by omega)]; exact (q2 a a0 a1).1
  · rw [hf _ _ (by omega)]; exact (q2 a a0 a1).2 i i0 i1
theorem to_up {u : Int} {M M' : am_M} {D : dm_D} (hf : up_ u M M') (h : to_ok M D) : to_ok M' D := by
  have e1 : M' 0 13 = M 0 13 := hf _ _ (by omega)
  have e2 : M' 174 4 = M 174 4 := hf _ _ (by omega)
  have e3 : M' 152 61 = M 152 61 := hf _ _ (by omega)
  rcases h with ⟨h1, h2⟩ | ⟨R, h1, h2, h3, h4, h5, h6⟩
  · exact Or.inl ⟨by rw [e1, e2]; exact h1, by rw [e3]; exact h2⟩
  · refine Or.inr ⟨R, h1, by rw [e3]; exact h2, ?_, ?_, ?_, fun t ht => ?_⟩
    · rw [hf 0 12 (by omega)]; exact h3
    · rw [e1, hf 152 62 (by omega)]; exact h4
    · rw [hf 152 62 (by omega), e2]; exact h5
    · rw [hf 149 _ (by omega), hf 192 _ (by omega)]; exact h6 t ht
theorem lt_up {M M' : am_M} {T : tt_} (hu : dr_is (M 0 4)) (hf : up_ (M 0 4) M M') (h : lt_ M T) : lt_ M' T := by
  have hcc := hu
  unfold dr_is at hcc
  obtain ⟨h1, ⟨h2, h3⟩, h4, h5⟩ := h
  refine ⟨h1, ?_, fun k k0 k1 => ?_, fun k k0 k1 i i1 => ?_⟩
  · rw [hf 0 4 (by omega)]
    exact ⟨fun k k0 k1 => (hf _ _ (by omega)).trans (h2 k k0 k1), fun k k0 k1 i j i1 j1 => (hf _ _ (by omega)).trans (h3 k k0 k1 i j i1 j1)⟩
  · rw [hf _ _ (by omega)]; exact h4 k k0 k1
  · rw [hf _ _ (by omega)]; exact h5 k k0 k1 i i1
theorem pi_up {u : Int} {M M' : am_M} (hf : up_ u M M') (h : pi_ M) : pi_ M' := by
  obtain ⟨h1, h2, h3⟩ := h
  have e : M' 0 15 = M 0 15 := hf _ _ (by omega)
  refine ⟨by rw [e, hf 152 93 (by omega)]; exact h1, by rw [e]; exact h2, fun j j0 j1 => ?_⟩
  rw [hf 150 j (by omega), hf 214 j (by omega)]
  rw [e] at j1
  exact h3 j j0 j1
theorem xw_up {u : Int} {M M' : am_M} (hf : up_ u M M') (h : xw_ M) : xw_ M' := by
  refine ⟨fun k k0 k1 => (hf _ _ (by omega)).trans (h.1 k k0 k1), fun i hi => ?_, fun j => ?_⟩
  · rw [hf 2000001 i (by omega), hf 2000002 i (by omega)]
    exact h.2.1 i hi
  · rw [hf 2000003 j (by omega)]
    exact h.2.2 j
theorem rws_ab : ∀ x ∈ rws, (155 ≤ x.1 ∧ x.1 ≤ 173) ∨ (193 ≤ x.1 ∧ x.1 ≤ 210) := by decide +kernel
theorem rw_up {u : Int} {M M' : am_M} (hf : up_ u M M') (h : rw_all M) : rw_all M' := fun x hx => by
  obtain ⟨w1, w2, w3, w4⟩ := h x hx
  have hi := rws_ab x hx
  exact ⟨w1, w2, fun i hl => (hf x.1 i (by omega)).trans (w3 i hl), w4⟩
/-- iv_ again, behind what leaves nearly all as it is -/
theorem iv_up {n : Nat} {M M' : am_M} (h : iv_ n M) (hf : up_ (M 0 4) M M') (hq : rq_ok (n + 1) M') (ht : tp_ M') (hl : fl_ M') : iv_ (n + 1) M' := by
  obtain ⟨⟨D, ⟨G, W, a1, a2, a3, a4⟩, h2, h3, h4⟩, ⟨T, h5⟩, -, -, h6, h7, h8, h9⟩ := h
  refine ⟨⟨D, ⟨G, W, bt_up hf a1, ac_up hf a2, hq, ?_⟩, to_up hf h2, h3, h4⟩, ⟨T, lt_up h6.1 hf h5⟩, ht, hl, ?_, pi_up hf h7, xw_up hf h8, rw_up hf h9⟩
  · unfold lo_ok
    rw [hf 0 17 (by omega), hf 152 60 (by omega)]
    exact a4
  · unfold so_
    rw [hf 0 4 (by omega), hf 0 5 (by omega)]
    exact h6
