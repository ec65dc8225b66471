/-! letter ON BOTH SIDES -/
theorem nv_take : ∀ (n : List Int) (i : Nat) (v : Int), i < n.length → nv_ (n.take (i + 1)) v = 27 * nv_ (n.take i) v + n.getD i 0
  | [], i, v, h => absurd h (Nat.not_lt_zero i)
  | x :: n, 0, v, h => by
    show 27 * v + x = 27 * v + (x :: n).getD 0 0
    rfl
  | x :: n, i + 1, v, h => by
    show nv_ (n.take (i + 1)) (27 * v + x) = 27 * nv_ (n.take i) (27 * v + x) + (x :: n).getD (i + 1) 0
    rw [nv_take n i (27 * v + x) (by rw [List.length_cons] at h; omega)]
    rfl
theorem nk_take {n : List Int} (h : nk_ n) {i : Nat} (hi : 1 ≤ i) (hl : i ≤ n.length) : nk_ (n.take i) := ⟨by rw [List.length_take]; omega, by rw [List.length_take]; have := h.2.1; omega, fun x hx => h.2.2 x (List.mem_of_mem_take hx)⟩
theorem nv_i {n : List Int} (h : nk_ n) {i : Nat} (hl : i ≤ n.length) : 0 ≤ nv_ (n.take i) 0 ∧ nv_ (n.take i) 0 < 387420489 ∧ (1 ≤ i → 0 < nv_ (n.take i) 0) := by
  by_cases c : 1 ≤ i
  · have := nv_pos (nk_take h c hl)
    exact ⟨by omega, this.2, fun _ => this.1⟩
  · rw [show i = 0 by omega]
    exact ⟨Int.le_refl _, by show (0 : Int) < _; decide, fun y => absurd y (by decide)⟩
theorem nv_div {n : List Int} (h : nk_ n) {i : Nat} (hl : i < n.length) : (nv_ (n.take (i + 1)) 0).tdiv 27 = nv_ (n.take i) 0 ∧ (nv_ (n.take (i + 1)) 0).tmod 27 = n.getD i 0 := by
  have a := nv_take n i 0 hl
  have b := nk_at h hl
  have c := nv_i h (i := i) (by omega)
  rw [Int.tdiv_eq_ediv_of_nonneg (by omega), Int.tmod_eq_emod_of_nonneg (by omega)]
  omega
theorem iv_letter {d n : Nat} {M : am_M} {a b c : Int} (ha : am_r a) (hb : am_r b) (hc : am_r c) (h : iv_ n M) : tr_two (d + 3) 131 233 [(0, a), (0, b), (0, c)] M (iv_ (n + 1)) := by
  have hI := iv_s h
  obtain ⟨T, h1, ⟨h2, h3⟩, h4, h5⟩ := h.2.1
  have hu := h.2.2.2.2.1.1
  have hob := dr_ob hu
  -- the reference's answer where there is none
  have none_ : (¬ (0 ≤ a ∧ a < 3 ∧ 0 ≤ b ∧ b < ((tN T a).length : Int) ∧ 0 ≤ c ∧ c < 6)) → am_cal pg (d + 3) 233 [(2, 152), (0, a), (0, b), (0, c)] sh_T M (am_c0 sh_T fun y M2 => -1 = y ∧ iv_ (n + 1) M2) := fun y => by
    refine en_X12_letter (bk_X12_letter_0 (sp_isIn ⟨fun _ => am_c0_i ⟨rfl, hI⟩, fun z => ?_⟩))
    have z := am_b_nz z
    have e := h4 a z.1 (by omega)
    have hl := (tn_len h1 (k := a) ⟨z.1, by omega⟩).1
    rw [e]
    refine ⟨⟨by omega, by omega⟩, ⟨by omega, by omega⟩, ⟨by omega, by omega⟩, sp_isIn ⟨fun _ => am_c0_i ⟨rfl, hI⟩, fun z2 => ?_⟩⟩
    have z2 := am_b_nz z2
    refine sp_isIn ⟨fun z3 => ?_, fun _ => am_c0_i ⟨rfl, hI⟩⟩
    have z3 := am_b_nz z3
    omega
  refine en_X11_letter (bk_X11_letter_0 ⟨hob, en_X2_isThere (bk_X2_isThere_0 ⟨fun y => am_c0_i ⟨fun _ => am_c0_i ⟨fun _ => rfl, none_ (by omega)⟩, fun z => absurd rfl z⟩, fun y => ⟨hob, st_count hu ?_⟩⟩)⟩)
  by_cases ck : 0 ≤ a ∧ a < 3
  · rw [if_pos ck, h2 a ck.1 ck.2]
    have hl := tn_len h1 ck
    have hf := dr_fst ck
    refine ⟨fun y2 => am_c0_i ⟨fun _ => am_c0_i ⟨fun _ => rfl, none_ (by omega)⟩, fun z => absurd rfl z⟩, fun y2 => am_c0_i ⟨fun z => absurd z (by decide), fun _ => ⟨fun y3 => am_c0_i ⟨fun _ => rfl, none_ (by omega)⟩, fun y3 => ⟨fun y4 => ⟨hob, ?_⟩, fun y4 => am_c0_i ⟨fun _ => rfl, none_ (by omega)⟩⟩⟩⟩⟩
    refine st_placeOf ck ⟨y, by omega⟩ h.2.2.2.2.2.2.1.1 (st_letterAt hu ⟨by omega, by omega⟩ ⟨y3, y4⟩ (am_c0_i ⟨fun _ => rfl, ?_⟩))
    -- the name's letters
    have hlt : b.toNat < (tN T a).length := by omega
    have e3 := h3 a ck.1 ck.2 b.toNat c.toNat hlt (by omega)
    rw [show ((b.toNat : Nat) : Int) = b by omega, show ((c.toNat : Nat) : Int) = c by omega] at e3
    rw [e3]
    have e5 := h5 a ck.1 ck.2 b.toNat hlt
    rw [show ((b.toNat : Nat) : Int) = b by omega] at e5
    have hx : nk_ ((tN T a).getD b.toNat []) := by
      rw [List.getD_eq_getElem?_getD, List.getElem?_eq_getElem hlt]
      exact h1.1 a ck.1 ck.2 _ (List.getElem_mem hlt)
    generalize (tN T a).getD b.toNat [] = x at e5 hx ⊢
    have hx6 := hx.2.1
    -- from the last letter down
    have down : ∀ (m i : Nat), i < x.length → (i : Int) - c = (m : Int) → am_g 12 0 co_X12_letter (d + 2) (am_c0 sh_T fun y M2 => x.getD c.toNat 0 = y ∧ iv_ (n + 1) M2) 104 [(3, 0), (3, 0), (3, 0), (0, c), (1, nv_ (x.take (i + 1)) 0), (3, 0), (3, 0), (0, (i : Int)), (3, 0)] [] sh_T M := by
      intro m
      induction m with
      | zero =>
        intro i hi hc
        obtain ⟨q1, q2⟩ := nv_div hx hi
        have q3 := nk_at hx hi
        refine bk_X12_letter_104 ⟨fun _ => ⟨?_, am_c0_i ⟨?_, hI⟩⟩, fun z => by omega⟩
        · rw [q2]; exact ⟨by omega, by omega⟩
        · rw [q2, show c.toNat = i by omega]
      | succ m ih =>
        intro i hi hc
        obtain ⟨q1, q2⟩ := nv_div hx hi
        obtain ⟨i', rfl⟩ : ∃ i', i = i' + 1 := ⟨i - 1, by omega⟩
        have q4 := nv_i hx (i := i' + 1) (by omega)
        refine bk_X12_letter_104 ⟨fun z => by omega, fun _ => ⟨?_, ⟨by omega, by omega⟩, ?_⟩⟩
        · rw [q1]; exact ⟨by omega, by omega⟩
        · rw [q1, show ((i' + 1 : Nat) : Int) + (-1) = (i' : Int) by omega]
          exact ih i' (by omega) (by omega)
    -- how many letters there are
    have up : ∀ (m i : Nat), i + m = x.length → am_g 12 0 co_X12_letter (d + 2) (am_c0 sh_T fun y M2 => x.getD c.toNat 0 = y ∧ iv_ (n + 1) M2) 69 [(3, 0), (3, 0), (3, 0), (0, c), (1, nv_ x 0), (3, 0), (0, (i : Int)), (1, nv_ (x.take m) 0), (3, 0)] [] sh_T M := by
      intro m
      induction m with
      | zero =>
        intro i hi
        refine bk_X12_letter_69 ⟨fun _ => ⟨fun z => ⟨⟨by omega, by omega⟩, ?_⟩, fun z => am_c0_i ⟨nk_0 (by omega), hI⟩⟩, fun z => absurd (show (0 : Int) < 0 from z) (by decide)⟩
        have r := down ((i : Int) - 1 - c).toNat (i - 1) (by omega) (by omega)
        rw [show i - 1 + 1 = x.length by omega, List.take_length, show (((i - 1 : Nat)) : Int) = (i : Int) - 1 by omega] at r
        exact r
      | succ m ih =>
        intro i hi
        have q := (nv_i hx (i := m + 1) (by omega)).2.2 (by omega)
        have q2 := nv_i hx (i := m) (by omega)
        obtain ⟨q1, -⟩ := nv_div hx (i := m) (by omega)
        refine bk_X12_letter_69 ⟨fun z => by omega, fun _ => ⟨⟨by omega, by omega⟩, ?_, ?_⟩⟩
        · rw [q1]; exact ⟨by omega, by omega⟩
        · rw [q1]
          exact ih (i + 1) (by omega)
    refine en_X12_letter (bk_X12_letter_0 (sp_isIn ⟨fun z => absurd (⟨ck.1, by omega⟩ : 0 ≤ a ∧ a ≤ 2) (am_b_z.mp z), fun _ => ?_⟩))
    rw [h4 a ck.1 ck.2]
    refine ⟨⟨by omega, by omega⟩, ⟨by omega, by omega⟩, ⟨by omega, by omega⟩, sp_isIn ⟨fun z => absurd (⟨y, by omega⟩ : 0 ≤ b ∧ b ≤ ((tN T a).length : Int) - 1) (am_b_z.mp z), fun _ => sp_isIn ⟨fun _ => ⟨⟨by omega, by omega⟩, ⟨by omega, by omega⟩, ⟨by omega, by omega⟩, ⟨by omega, by omega⟩, ?_⟩, fun z => absurd (⟨y3, by omega⟩ : 0 ≤ c ∧ c ≤ 5) (am_b_z.mp z)⟩⟩⟩
    rw [show 18 + 6 * a + b = 18 + (6 * a + b) by omega, e5]
    have r := up x.length 0 (by omega)
    rw [List.take_length] at r
    exact r
  · rw [if_neg ck]
    exact ⟨fun y2 => am_c0_i ⟨fun _ => am_c0_i ⟨fun _ => rfl, none_ (by omega)⟩, fun z => absurd rfl z⟩, fun y2 => by omega⟩
