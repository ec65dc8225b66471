/-! LEAST, ALONG: the same on both sides -/
def wy_seen (n v : Nat) (l : List Bool) : Prop := l.length < n ∨ (l.length = n ∧ wy_n l < v)
theorem wy_seen_s {n v : Nat} {l : List Bool} (hv : v < 2 ^ n) : wy_seen n (v + 1) l ↔ wy_seen n v l ∨ l = wy_b n v := by
  unfold wy_seen
  constructor
  · intro h
    rcases h with h | ⟨h1, h2⟩
    · exact Or.inl (Or.inl h)
    · by_cases e : wy_n l = v
      · exact Or.inr (wy_n_eq _ _ (by rw [wy_b_len]; exact h1) (by rw [wy_b_n, Nat.mod_eq_of_lt hv]; exact e))
      · exact Or.inl (Or.inr ⟨h1, by omega⟩)
  · intro h
    rcases h with (h | ⟨h1, h2⟩) | h
    · exact Or.inl h
    · exact Or.inr ⟨h1, by omega⟩
    · refine Or.inr ⟨by rw [h, wy_b_len], ?_⟩
      rw [h, wy_b_n, Nat.mod_eq_of_lt hv]; omega
theorem wy_seen_n {n : Nat} {l : List Bool} : wy_seen (n + 1) 0 l ↔ wy_seen n (2 ^ n) l := by
  have b := wy_n_lt l
  unfold wy_seen
  constructor
  · intro h
    rcases h with h | h
    · by_cases e : l.length = n
      · rw [e] at b
        exact Or.inr ⟨e, b⟩
      · exact Or.inl (by omega)
    · omega
  · intro h
    rcases h with h | h
    · exact Or.inl (by omega)
    · exact Or.inl (by omega)
/-- the reference's best so far -/
def ls_st (D : dm_D) (a g : Int) (w : Int → Int) (n v : Nat) (M : am_M) (x : Int) : Prop := (x = -1 ∧ M 152 54 = -1 ∧ ∀ l : List Bool, wy_seen n v l → ¬ wy_is D a g l w) ∨ ∃ l : List Bool, wy_seen n v l ∧ wy_is D a g l w ∧ x = wy_c D a g true l w ∧ M 152 54 = (l.length : Int) ∧ M 152 53 = (wy_n l : Int) ∧ ∀ l' : List Bool, wy_seen n v l' → wy_is D a g l' w → ¬ wy_lt (wy_c D a g true l' w) (l'.length : Int) (wy_c D a g true l w) (l.length : Int) ∧ (l'.length = l.length → wy_c D a g true l' w = wy_c D a g true l w → wy_n l ≤ wy_n l')
theorem ls_keep {D : dm_D} {a g : Int} {w : Int → Int} {n v : Nat} {M M' : am_M} {x : Int} (h : ls_st D a g w n v M x) (e1 : M' 152 54 = M 152 54) (e2 : M' 152 53 = M 152 53) (hv : v < 2 ^ n) (hno : wy_is D a g (wy_b n v) w → ¬ x = -1 ∧ x ≤ wy_c D a g true (wy_b n v) w) : ls_st D a g w n (v + 1) M' x := by
  rcases h with ⟨h1, h2, h3⟩ | ⟨l, h1, h2, h3, h4, h5, h6⟩
  · refine Or.inl ⟨h1, e1.trans h2, fun l hl hi => ?_⟩
    rcases (wy_seen_s hv).mp hl with y | y
    · exact h3 l y hi
    · rw [y] at hi
      exact (hno hi).1 h1
  · refine Or.inr ⟨l, (wy_seen_s hv).mpr (Or.inl h1), h2, h3, e1.trans h4, e2.trans h5, fun l' hl hi => ?_⟩
    rcases (wy_seen_s hv).mp hl with y | y
    · exact h6 l' y hi
    · have b := (hno (by rw [← y]; exact hi)).2
      rw [← y, h3] at b
      have e : l'.length = n ∧ wy_n l' = v := by rw [y, wy_b_len, wy_b_n, Nat.mod_eq_of_lt hv]; exact ⟨rfl, rfl⟩
      unfold wy_seen at h1
      refine ⟨?_, fun y1 y2 => ?_⟩
      · unfold wy_lt; omega
      · omega
theorem ls_take {D : dm_D} {a g : Int} {w : Int → Int} {n v : Nat} {M M' : am_M} {x : Int} (hD : dg_ok D) (hw : dw_ok D w) (h : ls_st D a g w n v M x) (e1 : M' 152 54 = (n : Int)) (e2 : M' 152 53 = (v : Int)) (hv : v < 2 ^ n) (hi : wy_is D a g (wy_b n v) w) (hb : x = -1 ∨ wy_c D a g true (wy_b n v) w < x) : ls_st D a g w n (v + 1) M' (wy_c D a g true (wy_b n v) w) := by
  refine Or.inr ⟨wy_b n v, (wy_seen_s hv).mpr (Or.inr rfl), hi, rfl, by rw [e1, wy_b_len], by rw [e2, wy_b_n, Nat.mod_eq_of_lt hv], fun l' hl hi' => ?_⟩
  rcases (wy_seen_s hv).mp hl with y | y
  · rcases h with ⟨h1, h2, h3⟩ | ⟨l, h1, h2, h3, h4, h5, h6⟩
    · exact absurd hi' (h3 l' y)
    · have q := (h6 l' y hi').1
      have b : wy_c D a g true (wy_b n v) w < wy_c D a g true l w := by
        have c0 := (wy_c_in (y := true) hD l w hw h2).1
        rcases hb with b | b <;> omega
      unfold wy_lt at q ⊢
      refine ⟨by omega, fun _ y2 => by omega⟩
  · rw [y]
    exact ⟨by unfold wy_lt; omega, fun _ _ => Nat.le_refl _⟩
theorem ls_end {D : dm_D} {a g : Int} {w : Int → Int} {M : am_M} {x : Int} (h : ls_st D a g w 11 0 M x) : (x = -1 ∧ M 152 54 = -1 ∧ wy_no D a g w) ∨ ∃ l : List Bool, wy_opt D a g true w l ∧ x = wy_c D a g true l w ∧ M 152 54 = (l.length : Int) ∧ M 152 53 = (wy_n l : Int) := by
  have se : ∀ l : List Bool, l.length ≤ 10 ↔ wy_seen 11 0 l := fun l => by unfold wy_seen; omega
  rcases h with ⟨h1, h2, h3⟩ | ⟨l, h1, h2, h3, h4, h5, h6⟩
  · exact Or.inl ⟨h1, h2, fun l hl => h3 l ((se l).mp hl)⟩
  · exact Or.inr ⟨l, ⟨(se l).mpr h1, h2, fun l' hl hi => h6 l' ((se l').mp hl) hi⟩, h3, h4, h5⟩
theorem sp_least27 {d : Nat} {M : am_M} {f : Int → am_M → Prop} {a g k : Int} {D : dm_D} {w : Int → Int} (hd : rg_is M D) (hs : rs_ok M D a g w) (hw : rw_ok M D 7 w)
    (h0 : ∀ M', ss_fr M M' → wy_no D a g w → M' 152 54 = -1 → am_g 12 0 co_X12_least (d + 6) (am_c0 sh_T f) 27 [(2, 152), (0, a), (0, k), (0, (-1)), (0, 11), (3, 0)] [] sh_T M') (h1 : ∀ (M' : am_M) (l : List Bool), ss_fr M M' → wy_opt D a g true w l → M' 152 54 = (l.length : Int) → M' 152 53 = (wy_n l : Int) → am_g 12 0 co_X12_least (d + 6) (am_c0 sh_T f) 27 [(2, 152), (0, a), (0, k), (0, wy_c D a g true l w), (0, 11), (3, 0)] [] sh_T M') : am_g 12 0 co_X12_least (d + 6) (am_c0 sh_T f) 27 [(2, 152), (0, a), (0, k), (0, (-1)), (0, 0), (3, 0)] [] sh_T (am_up M 152 54 (-1)) := by
  have ha := hs.1
  have outer : ∀ (N n : Nat), n + N = 11 → ∀ M1 x, ss_fr M M1 → ls_st D a g w n 0 M1 x → am_g 12 0 co_X12_least (d + 6) (am_c0 sh_T f) 27 [(2, 152), (0, a), (0, k), (0, x), (0, (n : Int)), (3, 0)] [] sh_T M1 := by
    intro N
    induction N with
    | zero =>
      intro n hn M1 x k1 k2
      have e : n = 11 := by omega
      subst e
      rcases ls_end k2 with ⟨q1, q2, q3⟩ | ⟨l, q1, q2, q3, q4⟩
      · rw [q1]; exact h0 M1 k1 q3 q2
      · rw [q2]; exact h1 M1 l k1 q1 q3 q4
    | succ N ih =>
      intro n hn M1 x k1 k2
      obtain ⟨es, e1024⟩ := shl_10 (n := n) (by omega)
      have inner : ∀ (m v : Nat), v + m = 2 ^ n → ∀ M2 x2, ss_fr M M2 → ls_st D a g w n v M2 x2 → am_g 12 0 co_X12_least (d + 6) (am_c0 sh_T f) 37 [(2, 152), (0, a), (0, k), (0, x2), (0, (n : Int)), (0, (v : Int))] [] sh_T M2 := by
        intro m
        induction m with
        | zero =>
          intro v hv M2 x2 q1 q2
          have ev : v = 2 ^ n := by omega
          refine bk_X12_least_37 ?_
          rw [es]
          refine ⟨fun _ => ⟨⟨by omega, by omega⟩, ih (n + 1) (by omega) M2 x2 q1 ?_⟩, fun z => by omega⟩
          rw [ev] at q2
          rcases q2 with ⟨y1, y2, y3⟩ | ⟨l, y1, y2, y3, y4, y5, y6⟩
          · exact Or.inl ⟨y1, y2, fun l hl => y3 l (wy_seen_n.mp hl)⟩
          · exact Or.inr ⟨l, wy_seen_n.mpr y1, y2, y3, y4, y5, fun l' hl => y6 l' (wy_seen_n.mp hl)⟩
        | succ m ihm =>
          intro v hv M2 x2 q1 q2
          have hv2 : v < 2 ^ n := by omega
          have gs : M2 186 (7 * a) = g := (q1 186 _ (by omega) (by omega) (by omega) (by omega)).trans hs.2.1.1
          refine bk_X12_least_37 ?_
          rw [es]
          refine ⟨fun z => by omega, fun _ => sp_guideOf (v4 ha) ?_⟩
          rw [gs]
          refine sp_isWay (ss_rg q1 hd) (rw_fr (fun k k0 k1 => q1 187 _ (by omega) (by omega) (by omega) (by omega)) hw) ha hs.2.1.2 (by omega) (by omega) (fun M3 x1 y2 y3 => ⟨fun z => absurd z (by decide), fun _ => ?_⟩) (fun M3 x1 y2 => ⟨fun _ => ⟨⟨by omega, by omega⟩, ihm (v + 1) (by omega) M3 x2 (ss_iw q1 x1) (ls_keep q2 (x1 152 54 (by omega) (by omega) (by omega) (by omega)) (x1 152 53 (by omega) (by omega) (by omega) (by omega)) hv2 (fun z => absurd z y2))⟩, fun z => absurd rfl z⟩)
          obtain ⟨M4, eM⟩ : ∃ X, X = am_up (am_up M3 152 54 (n : Int)) 152 53 (v : Int) := ⟨_, rfl⟩
          have e54 : M4 152 54 = (n : Int) := by rw [eM, am_up_el (by omega), am_up_at]
          have e53 : M4 152 53 = (v : Int) := by rw [eM, am_up_at]
          have f4 : ss_fr M M4 := fun x j y y2 y3 y4 => by
            rw [eM, am_up_el (by omega), am_up_el (by omega)]
            exact ss_iw q1 x1 x j y y2 y3 y4
          rw [← eM, y3]
          refine ⟨fun z => ⟨⟨by omega, by omega⟩, ihm (v + 1) (by omega) M4 _ f4 (ls_take hd.1 hw.2.2 q2 e54 e53 hv2 y2 (Or.inl z))⟩, fun z => ⟨fun z2 => ⟨⟨by omega, by omega⟩, ihm (v + 1) (by omega) M4 _ f4 (ls_take hd.1 hw.2.2 q2 e54 e53 hv2 y2 (Or.inr z2))⟩, fun z2 => ⟨⟨by omega, by omega⟩, ihm (v + 1) (by omega) M3 x2 (ss_iw q1 x1) (ls_keep q2 (x1 152 54 (by omega) (by omega) (by omega) (by omega)) (x1 152 53 (by omega) (by omega) (by omega) (by omega)) hv2 (fun _ => ⟨z, z2⟩))⟩⟩⟩
      refine bk_X12_least_27 ⟨fun z => by omega, fun _ => inner (2 ^ n) 0 (Nat.zero_add _) M1 x k1 k2⟩
  exact outer 11 0 rfl _ (-1) (fun x j y y2 y3 y4 => am_up_el (by omega)) (Or.inl ⟨rfl, am_up_at, fun l hl => by unfold wy_seen at hl; omega⟩)
theorem qu_least {d : Nat} {M : am_M} {D : dm_D} {G : Int → Int} {W : Int → Int → Int} {a k : Int} (hb : bt_ok M D G W) : qu_two (d + 32) 140 248 [(0, a), (0, k)] M := by
  have h3 := hb.2.2.1
  refine en_X11_least (bk_X11_least_0 (st_isDreamer hb ⟨fun q => ?_, fun q => ?_⟩))
  · have ha := am_b_nz q
    have ha4 : 0 ≤ a ∧ a < 4 ∧ a < dA D := by omega
    have h5 := hb.2.2.2.2 a ha.1 ha4.2
    have ref : ∀ (M1 : am_M) (z : Int), sc_fr M M1 → ((z = -1 ∧ wy_no D a (G a) (W a)) ∨ (∃ l : List Bool, wy_opt D a (G a) true (W a) l ∧ z = (if k = -1 then wy_c D a (G a) true l (W a) else if k = 20 then (l.length : Int) else if 0 ≤ k ∧ k < (l.length : Int) then am_b (l.getD k.toNat false = true) else -1))) → am_cal pg (d + 32) 248 [(2, 152), (0, a), (0, k)] sh_T M1 (am_c0 sh_T fun y M2 => z = y ∧ sc_fr M M2) := fun M1 z hf1 hz => by
      have hb1 := bt_ok_fr hf1 hb
      have e4 : M1 174 4 = M 174 4 := hf1 174 4 (by unfold sc_; omega)
      refine en_X12_least (bk_X12_least_0 (sp_isDreamer (by rw [e4]; exact h3.2) ⟨fun _ => sp_lays7 hb1.2.1 (hb1.2.2.2.2 a ha.1 ha4.2).2 (fun M2 k1 k2 k3 k4 => ?_), fun y => ?_⟩))
      · have hf2 := sc_tr hf1 k1
        refine sp_least27 k2 k3 k4 (fun M3 x1 x2 x3 => ?_) (fun M3 l x1 x2 x3 x4 => ?_)
        · have hf3 := sc_tr hf2 (ss_sc x1)
          have z1 : z = -1 := by
            rcases hz with y | ⟨l, y1, y2⟩
            · exact y.1
            · exact absurd y1.2.1 (x2 l y1.1)
          refine bk_X12_least_27 ⟨fun _ => ⟨fun y => ⟨fun y2 => ?_, fun y2 => am_c0_i ⟨z1.trans x3.symm, hf3⟩⟩, fun y => am_c0_i ⟨z1, hf3⟩⟩, fun y => by omega⟩
          refine en_X12_wayTold (bk_X12_wayTold_0 ?_)
          rw [x3]
          refine ⟨⟨by decide, by decide⟩, sp_isIn ⟨fun _ => am_c0_i (am_c0_i ⟨z1, hf3⟩), fun y3 => ?_⟩⟩
          have := am_b_nz y3
          omega
        · have hf3 := sc_tr hf2 (ss_sc x1)
          have z1 : z = (if k = -1 then wy_c D a (G a) true l (W a) else if k = 20 then (l.length : Int) else if 0 ≤ k ∧ k < (l.length : Int) then am_b (l.getD k.toNat false = true) else -1) := by
            rcases hz with y | ⟨l', y1, y2⟩
            · exact absurd x2.2.1 (y.2 l x2.1)
            · rw [wy_opt_eq x2 y1]; exact y2
          refine bk_X12_least_27 ⟨fun _ => ⟨fun y => ⟨fun y2 => sp_wayTold x2.1 x3 x4 (am_c0_i ⟨?_, hf3⟩), fun y2 => am_c0_i ⟨?_, hf3⟩⟩, fun y => am_c0_i ⟨?_, hf3⟩⟩, fun y => by omega⟩
          · rw [z1, if_neg y, if_neg y2]
          · rw [z1, if_neg y, if_pos y2]; exact x3.symm
          · rw [z1, if_pos y]
      · rw [e4] at y
        exact absurd ha (am_b_z.mp y)
    refine ⟨v4 ha4, st_findLeast hb.1 h5.1 (by omega) (fun M1 k1 k2 => ?_) (fun M1 l k1 k2 k3 k4 => ?_)⟩
    · exact ⟨fun y => absurd rfl y, fun _ => am_c0_i ⟨fs_sc k1, ref M1 (-1) (fs_sc k1) (Or.inl ⟨rfl, k2⟩)⟩⟩
    · have hl := k2.1
      refine ⟨fun _ => ⟨fun y => ⟨fun y2 => st_turn (by omega) (am_c0_i ⟨fs_sc k1, ref M1 _ (fs_sc k1) (Or.inr ⟨l, k2, ?_⟩)⟩), fun y2 => am_c0_i ⟨fs_sc k1, ref M1 _ (fs_sc k1) (Or.inr ⟨l, k2, ?_⟩)⟩⟩, fun y => am_c0_i ⟨fs_sc k1, ref M1 _ (fs_sc k1) (Or.inr ⟨l, k2, ?_⟩)⟩⟩, fun y => by omega⟩
      · rw [if_neg y, if_neg y2]
        by_cases e : 0 ≤ k ∧ k < (l.length : Int)
        · rw [if_pos e, if_pos e]
          have := k3 k.toNat (by omega)
          rw [show ((k.toNat : Nat) : Int) = k by omega] at this
          exact this
        · rw [if_neg e, if_neg e]
      · rw [if_neg y, if_pos y2]
      · rw [if_pos y]; exact k4
  · refine am_c0_i ⟨sc_rf, en_X12_least (bk_X12_least_0 (sp_isDreamer h3.2 ⟨fun y => absurd q y, fun y => am_c0_i ⟨rfl, sc_rf⟩⟩))⟩
