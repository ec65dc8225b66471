/-! CHANCE: the sum of the shares, the same on both sides -/
def csm (D : dm_D) (a g : Int) (w : Int → Int) (n : Nat) : Nat → Int
  | 0 => 0
  | t + 1 => csm D a g w n t + (if pu_home D (lgk D a g (t : Int) w n) then lsh D (t : Int) n else 0)
theorem csm_le {D : dm_D} {a g : Int} {w : Int → Int} {n : Nat} (hL : 0 ≤ dL D ∧ dL D ≤ 100) : ∀ t : Nat, 0 ≤ csm D a g w n t ∧ csm D a g w n t ≤ (t : Int) * 100 ^ n
  | 0 => ⟨by show (0 : Int) ≤ 0; decide, by show (0 : Int) ≤ ((0 : Nat) : Int) * 100 ^ n; rw [Int.ofNat_zero, Int.zero_mul]; exact Int.le_refl _⟩
  | t + 1 => by
    obtain ⟨i1, i2⟩ := csm_le (a := a) (g := g) (w := w) (n := n) hL t
    have b := lsh_le (L := (t : Int)) hL n
    have e : ((t + 1 : Nat) : Int) * 100 ^ n = (t : Int) * 100 ^ n + 100 ^ n := by
      rw [Int.natCast_add, Int.add_mul, Int.natCast_one, Int.one_mul]
    rw [e]
    show 0 ≤ csm D a g w n t + _ ∧ csm D a g w n t + _ ≤ _
    split <;> omega
theorem shl_1 {n : Nat} (hn : n ≤ 4) : am_shl 1 (n : Int) = ((2 ^ n : Nat) : Int) ∧ 1 ≤ 2 ^ n ∧ 2 ^ n ≤ 16 ∧ (1 : Int) ≤ 100 ^ n ∧ (100 : Int) ^ n ≤ 100000000 := by
  rcases (show n = 0 ∨ n = 1 ∨ n = 2 ∨ n = 3 ∨ n = 4 by omega) with rfl | rfl | rfl | rfl | rfl <;> decide
theorem csm_q {D : dm_D} {a g : Int} {w : Int → Int} {n : Nat} (hn : n ≤ 4) (hL : 0 ≤ dL D ∧ dL D ≤ 100) : am_rl (1000 * csm D a g w n (2 ^ n)) ∧ am_rl ((1000 * csm D a g w n (2 ^ n)).tdiv (100 ^ n)) ∧ am_r ((1000 * csm D a g w n (2 ^ n)).tdiv (100 ^ n)) := by
  have b := csm_le (a := a) (g := g) (w := w) (n := n) hL (2 ^ n)
  obtain ⟨e, e1, e2, e3, e4⟩ := shl_1 hn
  have q : (1000 * csm D a g w n (2 ^ n)).tdiv (100 ^ n) ≤ 1000 * ((2 ^ n : Nat) : Int) := by
    rw [Int.tdiv_eq_ediv_of_nonneg (by omega)]
    refine Int.ediv_le_of_le_mul (by omega) ?_
    rw [Int.mul_assoc]
    omega
  have q0 : 0 ≤ (1000 * csm D a g w n (2 ^ n)).tdiv (100 ^ n) := Int.tdiv_nonneg (by omega) (by omega)
  have b2 : ((2 ^ n : Nat) : Int) * 100 ^ n ≤ 16 * 100000000 := Int.mul_le_mul (by omega) e4 (by omega) (by omega)
  exact ⟨⟨by omega, by omega⟩, ⟨by omega, by omega⟩, ⟨by omega, by omega⟩⟩
theorem st_thousandths {d : Nat} {M : am_M} {f : Int → am_M → Prop} {c u a g : Int} {D : dm_D} {w : Int → Int} {n : Nat} (hn : n ≤ 4) (hL : 0 ≤ dL D ∧ dL D ≤ 100) (hd : dm_ok M c D) (hs : sm_ok M D u a g w) (hu : 37 ≤ u ∧ u ≤ 47) (h : ∀ M', sc_fr M M' → f ((1000 * csm D a g w n (2 ^ n)).tdiv (100 ^ n)) M') : am_cal pg (d + 7) 50 [(2, 128), (2, c), (2, u), (0, (n : Int))] sh_T M (am_c0 sh_T f) := by
  obtain ⟨e, e1, e2, e3, e4⟩ := shl_1 hn
  have hcr := hd.1
  obtain ⟨y1, y2, y3⟩ := csm_q (a := a) (g := g) (w := w) hn hL
  have fin : ∀ M1, sc_fr M M1 → (((100 : Int) ^ n ≤ 0 → (am_c0 sh_T f) (some (0, 0), sh_T, M1)) ∧ (0 < (100 : Int) ^ n → am_rl (1000 * csm D a g w n (2 ^ n)) ∧ ¬ (100 : Int) ^ n = 0 ∧ am_rl ((1000 * csm D a g w n (2 ^ n)).tdiv (100 ^ n)) ∧ am_r ((1000 * csm D a g w n (2 ^ n)).tdiv (100 ^ n)) ∧ (am_c0 sh_T f) (some (0, (1000 * csm D a g w n (2 ^ n)).tdiv (100 ^ n)), sh_T, M1))) := fun M1 k => ⟨fun z => by omega, fun _ => ⟨y1, by omega, y2, y3, am_c0_i (h M1 k)⟩⟩
  have go : ∀ (m i : Nat), i + m = 2 ^ n → ∀ M1, sc_fr M M1 → am_g 4 0 co_X4_thousandths (d + 6) (am_c0 sh_T f) 38 [(2, 128), (2, c), (2, u), (0, (n : Int)), (1, csm D a g w n i), (3, 0), (1, 100 ^ n), (3, 0), (0, (i : Int))] [] sh_T M1 := by
    intro m
    induction m with
    | zero =>
      intro i hi M1 k
      have ei : i = 2 ^ n := by omega
      subst ei
      exact bk_X4_thousandths_38 ⟨fun _ => fin M1 k, fun z => by omega⟩
    | succ m ih =>
      intro i hi M1 k
      have b := csm_le (a := a) (g := g) (w := w) (n := n) hL (i + 1)
      have bb : ((i + 1 : Nat) : Int) * 100 ^ n ≤ 16 * 100000000 := Int.mul_le_mul (by omega) e4 (by omega) (by omega)
      refine bk_X4_thousandths_38 ⟨fun z => by omega, fun _ => ⟨fun z => by omega, fun _ => ?_⟩⟩
      refine st_shareHome hn hL (dm_ok_fr (fun x j x1 x2 x3 x4 x5 x6 => k x j (by unfold sc_; unfold dr_is at hcr; omega)) hd) (sm_ok_fr (k _ _ (by unfold sc_; omega)) (k _ _ (by unfold sc_; omega)) (fun j => k _ _ (by unfold sc_; omega)) hs) (by omega) (fun M2 k2 => ?_)
      have ec : csm D a g w n i + (if pu_home D (lgk D a g (i : Int) w n) then lsh D (i : Int) n else 0) = csm D a g w n (i + 1) := rfl
      rw [ec]
      exact ⟨⟨by omega, by omega⟩, ⟨by omega, by omega⟩, ih (i + 1) (by omega) M2 (sc_tr k k2)⟩
  have go1 : ∀ (m i : Nat), i + m = n → am_g 4 0 co_X4_thousandths (d + 6) (am_c0 sh_T f) 9 [(2, 128), (2, c), (2, u), (0, (n : Int)), (1, 0), (3, 0), (1, 100 ^ i), (3, 0), (0, (i : Int))] [] sh_T M := by
    intro m
    induction m with
    | zero =>
      intro i hi
      have ei : i = n := by omega
      subst ei
      exact bk_X4_thousandths_9 ⟨fun _ => go (2 ^ i) 0 (Nat.zero_add _) M sc_rf, fun z => by omega⟩
    | succ m ih =>
      intro i hi
      have b : (100 : Int) ^ (i + 1) = 100 ^ i * 100 := Int.pow_succ _ _
      have b4 := (shl_1 (n := i + 1) (by omega)).2.2.2
      refine bk_X4_thousandths_9 ⟨fun z => by omega, fun _ => ⟨fun z => by omega, fun _ => ⟨⟨by omega, by omega⟩, ⟨by omega, by omega⟩, ?_⟩⟩⟩
      rw [← b]
      exact ih (i + 1) (by omega)
  exact en_X4_thousandths (bk_X4_thousandths_0 (go1 n 0 (Nat.zero_add _)))
theorem sp_chance {d : Nat} {M : am_M} {f : Int → am_M → Prop} {a g : Int} {D : dm_D} {w : Int → Int} {n : Nat} (hn : n ≤ 4) (hL : 0 ≤ dL D ∧ dL D ≤ 100) (hd : rg_is M D) (hs : rs_ok M D a g w) (hm : 0 ≤ M 174 4 ∧ M 174 4 ≤ 4) (ha : 0 ≤ a ∧ a < M 174 4) (h : ∀ M', sc_fr M M' → f ((1000 * csm D a g w n (2 ^ n)).tdiv (100 ^ n)) M') : am_cal pg (d + 6) 263 [(2, 152), (0, a), (0, (n : Int))] sh_T M (am_c0 sh_T f) := by
  obtain ⟨e, e1, e2, e3, e4⟩ := shl_1 hn
  obtain ⟨y1, y2, y3⟩ := csm_q (a := a) (g := g) (w := w) hn hL
  have go : ∀ (m i : Nat), i + m = 2 ^ n → ∀ M1, sc_fr M M1 → am_g 12 0 co_X12_chance (d + 5) (am_c0 sh_T f) 53 [(2, 152), (0, a), (0, (n : Int)), (1, csm D a g w n i), (3, 0), (1, 100 ^ n), (3, 0), (0, (i : Int))] [] sh_T M1 := by
    intro m
    induction m with
    | zero =>
      intro i hi M1 k
      have ei : i = 2 ^ n := by omega
      subst ei
      exact bk_X12_chance_53 ⟨fun _ => ⟨y1, by omega, y2, y3, am_c0_i (h M1 k)⟩, fun z => by omega⟩
    | succ m ih =>
      intro i hi M1 k
      have b := csm_le (a := a) (g := g) (w := w) (n := n) hL (i + 1)
      have bb : ((i + 1 : Nat) : Int) * 100 ^ n ≤ 16 * 100000000 := Int.mul_le_mul (by omega) e4 (by omega) (by omega)
      refine bk_X12_chance_53 ⟨fun z => by omega, fun _ => ?_⟩
      refine sp_likely hn hL (rg_is_fr (fun x j x1 x2 => k x j (by unfold sc_; omega)) hd) (rs_ok_fr (fun j => k _ _ (by unfold sc_; omega)) hs) (fun M2 k2 => ?_)
      have ec : csm D a g w n i + (if pu_home D (lgk D a g (i : Int) w n) then lsh D (i : Int) n else 0) = csm D a g w n (i + 1) := rfl
      rw [ec]
      exact ⟨⟨by omega, by omega⟩, ⟨by omega, by omega⟩, ih (i + 1) (by omega) M2 (sc_tr k k2)⟩
  have go1 : ∀ (m i : Nat), i + m = n → am_g 12 0 co_X12_chance (d + 5) (am_c0 sh_T f) 30 [(2, 152), (0, a), (0, (n : Int)), (1, 0), (3, 0), (1, 100 ^ i), (3, 0), (0, (i : Int))] [] sh_T M := by
    intro m
    induction m with
    | zero =>
      intro i hi
      have ei : i = n := by omega
      subst ei
      exact bk_X12_chance_30 ⟨fun _ => go (2 ^ i) 0 (Nat.zero_add _) M sc_rf, fun z => by omega⟩
    | succ m ih =>
      intro i hi
      have b : (100 : Int) ^ (i + 1) = 100 ^ i * 100 := Int.pow_succ _ _
      have b4 := (shl_1 (n := i + 1) (by omega)).2.2.2
      refine bk_X12_chance_30 ⟨fun z => by omega, fun _ => ⟨⟨by omega, by omega⟩, ⟨by omega, by omega⟩, ?_⟩⟩
      rw [← b]
      exact ih (i + 1) (by omega)
  refine en_X12_chance (bk_X12_chance_0 (sp_isDreamer hm ⟨fun z => absurd ha (am_b_z.mp z), fun _ => sp_isIn ⟨fun _ => go1 n 0 (Nat.zero_add _), fun z => ?_⟩⟩))
  have := am_b_z.mp z
  omega
theorem qu_chance {d : Nat} {M : am_M} {D : dm_D} {G : Int → Int} {W : Int → Int → Int} {a n : Int} (hb : bt_ok M D G W) (hL : 0 ≤ dL D ∧ dL D ≤ 100) : qu_two (d + 8) 145 263 [(0, a), (0, n)] M := by
  have h3 := hb.2.2.1
  refine en_X11_chance (bk_X11_chance_0 (st_isDreamer hb ⟨fun q => ?_, fun q => ⟨fun q3 => ?_, fun q3 => ⟨fun q4 => ?_, fun q4 => ?_⟩⟩⟩))
  · exact am_c0_i ⟨sc_rf, en_X12_chance (bk_X12_chance_0 (sp_isDreamer h3.2 ⟨fun y => am_c0_i ⟨rfl, sc_rf⟩, fun y => absurd q y⟩))⟩
  · refine am_c0_i ⟨sc_rf, en_X12_chance (bk_X12_chance_0 (sp_isDreamer h3.2 ⟨fun y => absurd y q, fun _ => sp_isIn ⟨fun z => ?_, fun z => am_c0_i ⟨rfl, sc_rf⟩⟩⟩))⟩
    have := am_b_nz z
    omega
  · have ha := am_b_nz q
    have h5 := hb.2.2.2.2 a ha.1 (by omega)
    obtain ⟨m, rfl⟩ : ∃ m : Nat, n = m := ⟨n.toNat, by omega⟩
    refine ⟨⟨by omega, by omega⟩, st_thousandths (by omega) hL hb.1 h5.1 (by omega) (fun M1 k1 => am_c0_i ⟨k1, ?_⟩)⟩
    have hb1 := bt_ok_fr k1 hb
    have e4 : M1 174 4 = M 174 4 := k1 174 4 (by unfold sc_; omega)
    exact sp_chance (by omega) hL hb1.2.1 (hb1.2.2.2.2 a ha.1 (by omega)).2 (by rw [e4]; exact h3.2) (by rw [e4]; exact ha) (fun M2 k2 => ⟨rfl, sc_tr k1 k2⟩)
  · refine am_c0_i ⟨sc_rf, en_X12_chance (bk_X12_chance_0 (sp_isDreamer h3.2 ⟨fun y => absurd y q, fun _ => sp_isIn ⟨fun z => ?_, fun z => am_c0_i ⟨rfl, sc_rf⟩⟩⟩))⟩
    have := am_b_nz z
    omega
