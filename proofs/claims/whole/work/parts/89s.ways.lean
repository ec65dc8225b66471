/-! WAYS HOME, in the reference: by numbers whose bits tell -/
theorem pu_dread1 {D : dm_D} {g : Int} {w : Int → Int} : pu_dread D g true w = pu_hv D g w (pu_hv D g w (-1)) := by
  unfold pu_dread pu_with
  rw [if_pos rfl]
  rfl
theorem band_1 {n : Nat} (hn : n < 2147483648) : am_band n 1 = ((n % 2 : Nat) : Int) := by
  unfold am_band
  have e0 : ((Int32.ofInt (n : Int)) &&& Int32.ofInt 1).toBitVec = BitVec.ofNat 32 n &&& BitVec.ofNat 32 1 := by
    rw [Int32.toBitVec_and, Int32.toBitVec_ofInt, BitVec.ofInt_natCast]
    rfl
  have e3 : (BitVec.ofNat 32 n &&& BitVec.ofNat 32 1).toNat = n % 2 := by
    rw [BitVec.toNat_and, BitVec.toNat_ofNat, BitVec.toNat_ofNat]
    rw [Nat.mod_eq_of_lt (by omega : n < 2^32)]
    rw [show 1 % 2 ^ 32 = 2^1 - 1 by decide, Nat.and_two_pow_sub_one_eq_mod]
  rw [← Int32.toInt_toBitVec, e0, BitVec.toInt_eq_toNat_of_lt (by rw [e3]; omega), e3]
theorem band_255 {n : Nat} (hn : n < 2147483648) : am_band n 255 = ((n % 256 : Nat) : Int) := by
  unfold am_band
  have e0 : ((Int32.ofInt (n : Int)) &&& Int32.ofInt 255).toBitVec = BitVec.ofNat 32 n &&& BitVec.ofNat 32 255 := by
    rw [Int32.toBitVec_and, Int32.toBitVec_ofInt, BitVec.ofInt_natCast]
    rfl
  have e3 : (BitVec.ofNat 32 n &&& BitVec.ofNat 32 255).toNat = n % 256 := by
    rw [BitVec.toNat_and, BitVec.toNat_ofNat, BitVec.toNat_ofNat]
    rw [Nat.mod_eq_of_lt (by omega : n < 2^32)]
    rw [show 255 % 2 ^ 32 = 2^8 - 1 by decide, Nat.and_two_pow_sub_one_eq_mod]
  rw [← Int32.toInt_toBitVec, e0, BitVec.toInt_eq_toNat_of_lt (by rw [e3]; omega), e3]
theorem shr_k {x : Int} {k : Nat} (hk : k < 32) (e : (Int32.ofInt (k : Int) &&& 31).toBitVec.smod 32 = BitVec.ofNat 32 k) (h : -2147483648 ≤ x ∧ x ≤ 2147483647) : am_shr x k = x / ((2 ^ k : Nat) : Int) := by
  unfold am_shr
  rw [← Int32.toInt_toBitVec, Int32.toBitVec_shiftRight, e]
  show ((Int32.ofInt x).toBitVec.sshiftRight (BitVec.ofNat 32 k).toNat).toInt = _
  rw [BitVec.toNat_ofNat, Nat.mod_eq_of_lt (by omega : k < 2 ^ 32), BitVec.toInt_sshiftRight, Int32.toBitVec_ofInt, Int.shiftRight_eq_div_pow, BitVec.toInt_ofInt, Int.bmod_eq_of_le (by omega) (by omega)]
theorem shr_10 {x : Int} {k : Nat} (hk : k ≤ 10) (h : -2147483648 ≤ x ∧ x ≤ 2147483647) : am_shr x k = x / ((2 ^ k : Nat) : Int) := by
  refine shr_k (by omega) ?_ h
  rcases (show k = 0 ∨ k = 1 ∨ k = 2 ∨ k = 3 ∨ k = 4 ∨ k = 5 ∨ k = 6 ∨ k = 7 ∨ k = 8 ∨ k = 9 ∨ k = 10 by omega) with rfl | rfl | rfl | rfl | rfl | rfl | rfl | rfl | rfl | rfl | rfl <;> decide
theorem wy_bit {v m : Nat} (hv : v < 2147483648) (hm : m ≤ 10) : am_band (am_shr v m) 1 = 1 ↔ v / 2 ^ m % 2 = 1 := by
  rw [shr_10 hm (by omega), ← Int.natCast_ediv, band_1 (Nat.lt_of_le_of_lt (Nat.div_le_self v (2 ^ m)) hv)]
  omega
theorem shl_10 {n : Nat} (hn : n ≤ 10) : am_shl 1 (n : Int) = ((2 ^ n : Nat) : Int) ∧ 2 ^ n ≤ 1024 := by
  rcases (show n = 0 ∨ n = 1 ∨ n = 2 ∨ n = 3 ∨ n = 4 ∨ n = 5 ∨ n = 6 ∨ n = 7 ∨ n = 8 ∨ n = 9 ∨ n = 10 by omega) with rfl | rfl | rfl | rfl | rfl | rfl | rfl | rfl | rfl | rfl | rfl <;> decide
/-- what a way writes in the reference -/
def iw_fr (M M' : am_M) : Prop := ∀ a j, ¬ a = 184 → ¬ a = 185 → ¬ (a = 152 ∧ (j = 46 ∨ j = 52)) → ¬ (a = 187 ∧ 0 ≤ j ∧ j < 6) → M' a j = M a j
theorem iw_tr {M M1 M2 : am_M} (h : iw_fr M M1) (q : iw_fr M1 M2) : iw_fr M M2 := fun x j y y2 y3 y4 => (q x j y y2 y3 y4).trans (h x j y y2 y3 y4)
theorem iw_rg {M M' : am_M} {D : dm_D} (h : iw_fr M M') (hd : rg_is M D) : rg_is M' D := rg_is_fr (fun x j x1 x2 => h x j (by omega) (by omega) (by omega) (by omega)) hd
theorem sp_isWay {d : Nat} {M : am_M} {f : Int → am_M → Prop} {a g : Int} {D : dm_D} {w : Int → Int} {n v : Nat} (hd : rg_is M D) (hw : rw_ok M D 7 w) (ha : 0 ≤ a ∧ a < 4 ∧ a < dA D) (hg : -1 ≤ g ∧ g < 4 ∧ g < dG D) (hn : n ≤ 10) (hv : v < 1024)
    (h1 : ∀ M', iw_fr M M' → wy_is D a g (wy_b n v) w → M' 152 52 = wy_c D a g true (wy_b n v) w → f 1 M') (h0 : ∀ M', iw_fr M M' → ¬ wy_is D a g (wy_b n v) w → f 0 M') : am_cal pg (d + 5) 244 [(2, 152), (0, (v : Int)), (0, (n : Int)), (0, a), (0, g)] sh_T M (am_c0 sh_T f) := by
  have go : ∀ (m i : Nat), i + m = n → ∀ (M1 : am_M) (u : Int → Int) (acc : Int), rg_is M1 D → rw_ok M1 D 0 u → M1 152 52 = acc → (0 ≤ acc ∧ acc ≤ 999 * (i : Int)) → iw_fr M M1 → (∀ M', iw_fr M M' → wy_is D a g (wy_b m v) u → M' 152 52 = acc + wy_c D a g true (wy_b m v) u → f 1 M') → (∀ M', iw_fr M M' → ¬ wy_is D a g (wy_b m v) u → f 0 M') → am_g 12 5 co_X12_isWay (d + 4) (am_c0 sh_T f) 15 [(2, 152), (0, (v : Int)), (0, (n : Int)), (0, a), (0, g), (0, (i : Int)), (3, 0), (3, 0), (3, 0)] [] sh_T M1 := by
    intro m
    induction m with
    | zero =>
      intro i hi M1 u acc p1 p2 p3 p4 p5 q1 q0
      refine bk_X12_isWay_15 ⟨fun _ => sp_home p1 p2 ⟨am_b_01, am_c0_i ?_⟩, fun z => by omega⟩
      by_cases hh : pu_home D u
      · rw [am_b_1 hh]
        exact q1 M1 p5 hh (by rw [p3]; show acc = acc + 0; omega)
      · rw [am_b_0 hh]
        exact q0 M1 p5 hh
    | succ m ih =>
      intro i hi M1 u acc p1 p2 p3 p4 p5 q1 q0
      refine bk_X12_isWay_15 ⟨fun z => by omega, fun _ => sp_home p1 p2 ⟨fun z => ?_, fun z => am_c0_i (q0 M1 p5 (fun y => y.1 (am_b_nz z)))⟩⟩
      have hh := am_b_z.mp z
      have hn0 := pu_away p1.1 p2.2.2 hh
      have em : (n : Int) - 1 - (i : Int) = (m : Int) := by omega
      refine ⟨⟨by omega, by omega⟩, ⟨by omega, by omega⟩, ?_⟩
      rw [em, wy_bit (by omega) (by omega)]
      have en : (M1 174 3).toNat = dN D := by have := p1.2.1; omega
      -- behind the room
      have nx : ∀ (b : Bool), (b = true → 1 < dN D) → decide (v / 2 ^ m % 2 = 1) = b → am_g 12 5 co_X12_isWay (d + 4) (am_c0 sh_T f) 67 [(2, 152), (0, (v : Int)), (0, (n : Int)), (0, a), (0, g), (0, (i : Int)), (0, am_b (b = true)), (3, 0), (3, 0)] [] sh_T M1 := fun b hb eb => by
        have dr1 := pu_dread_in (g := g) (w := u) p1.1 hn0 hb
        have we1 := p2.2.2.1 _ dr1.1 dr1.2
        have re1 : M1 187 (pu_dread D g b u) = u (pu_dread D g b u) := by
          have := p2.2.1 _ dr1.1 dr1.2
          unfold ro at this
          rw [Int.zero_add] at this
          exact this
        obtain ⟨M2, eM⟩ : ∃ X, X = am_up M1 152 52 (acc + u (pu_dread D g b u)) := ⟨_, rfl⟩
        have ub : ∀ z j, ¬ (z = 152 ∧ j = 52) → M2 z j = M1 z j := fun z j y => by rw [eM]; exact am_up_el y
        have g1 : rg_is M2 D := rg_is_fr (fun x j x1 x2 => ub x j (by omega)) p1
        have r1 : rw_ok M2 D 0 u := rw_fr (fun k k0 k1 => ub 187 _ (by omega)) p2
        have i1 : iw_fr M M2 := fun x j y y2 y3 y4 => (ub x j (by omega)).trans (p5 x j y y2 y3 y4)
        have a1 : M2 152 52 = acc + u (pu_dread D g b u) := by rw [eM]; exact am_up_at
        have ec : wy_c D a g true (wy_b (m + 1) v) u = u (pu_dread D g b u) + wy_c D a g true (wy_b m v) (pu_step D a g b u) := by
          show wy_s D g true (decide (v / 2 ^ m % 2 = 1)) u + wy_c D a g true (wy_b m v) (pu_step D a g (decide (v / 2 ^ m % 2 = 1)) u) = _
          rw [eb]
          rfl
        have ei : wy_is D a g (wy_b (m + 1) v) u ↔ wy_is D a g (wy_b m v) (pu_step D a g b u) := by
          show (¬ pu_home D u ∧ (decide (v / 2 ^ m % 2 = 1) = true → 1 < dN D) ∧ wy_is D a g (wy_b m v) (pu_step D a g (decide (v / 2 ^ m % 2 = 1)) u)) ↔ _
          rw [eb]
          exact ⟨fun y => y.2.2, fun y => ⟨hh, hb, y⟩⟩
        rw [ec] at q1
        rw [ei] at q1 q0
        have fin : ∀ M3, ro_fr 0 M2 M3 → rg_is M3 D → rw_ok M3 D 0 (pu_step D a g b u) → am_g 12 5 co_X12_isWay (d + 4) (am_c0 sh_T f) 15 [(2, 152), (0, (v : Int)), (0, (n : Int)), (0, a), (0, g), (0, (i : Int) + 1), (3, 0), (3, 0), (3, 0)] [] sh_T M3 := fun M3 f3 g3 r3 => by
          refine ih (i + 1) (by omega) M3 _ (acc + u (pu_dread D g b u)) g3 r3 ((f3 152 52 (by omega) (by omega) (by omega) (by omega)).trans a1) ⟨by omega, by omega⟩ (iw_tr i1 (fun x j y y2 y3 y4 => f3 x j y y2 (by omega) (by omega))) (fun M' k1 k2 k3 => q1 M' k1 k2 (by rw [k3]; omega)) q0
        cases b with
        | false =>
          rw [am_b_0 (show ¬ (false = true) by decide)]
          refine bk_X12_isWay_67 (sp_hv p1 p2 hg ⟨fun _ => ?_, fun z6 => absurd rfl z6⟩)
          rw [← pu_dread0, p3, re1, ← eM]
          exact ⟨⟨by omega, by omega⟩, ⟨by omega, by omega⟩, sp_room0 g1 r1 ha hg hh (fun M3 f3 g3 r3 => ⟨fun _ => ⟨⟨by omega, by omega⟩, fin M3 f3 g3 r3⟩, fun z => by omega⟩)⟩
        | true =>
          rw [am_b_1 (show (true = true) by decide)]
          refine bk_X12_isWay_67 (sp_hv p1 p2 hg ⟨fun z6 => absurd z6 (by decide), fun _ => sp_hv p1 p2 hg ?_⟩)
          rw [← pu_dread1, p3, re1, ← eM]
          exact ⟨⟨by omega, by omega⟩, ⟨by omega, by omega⟩, sp_room1 g1 r1 ha hg hh (hb rfl) (fun M3 f3 g3 r3 => ⟨fun _ => ⟨⟨by omega, by omega⟩, fin M3 f3 g3 r3⟩, fun z => by omega⟩)⟩
      refine ⟨fun z1 => ?_, fun z1 => sp_dreadMany ⟨fun z2 => ?_, fun z2 => am_c0_i (q0 M1 p5 (fun y => ?_))⟩⟩
      · have q := nx false (fun z => by cases z) (decide_eq_false z1)
        rw [am_b_0 (show ¬ (false = true) by decide)] at q
        exact q
      · have := p1.2.1
        have q := nx true (fun _ => by omega) (decide_eq_true z1)
        rw [am_b_1 (show (true = true) by decide)] at q
        exact q
      · have := p1.2.1
        have := y.2.1 (decide_eq_true z1)
        omega
  refine en_X12_isWay (bk_X12_isWay_0 (sp_laysRow (by decide) (by decide) (by decide) ?_))
  have e1 : iw_fr M (am_up (am_rs M 187 0 (ro M 7) 6) 152 52 0) := fun x j y y2 y3 y4 => by
    rw [am_up_el (by omega)]
    by_cases e : x = 187
    · subst e
      rw [am_rs_out (by omega)]
    · rw [am_rs_el e]
  refine go n 0 (Nat.zero_add _) _ w 0 (iw_rg e1 hd) ⟨by decide, fun k k0 k1 => ?_, hw.2.2⟩ am_up_at ⟨by decide, by decide⟩ e1 (fun M' k1 k2 k3 => h1 M' k1 k2 (by rw [k3]; omega)) h0
  show am_up (am_rs M 187 0 (ro M 7) 6) 152 52 0 187 (0 + k) = w k
  rw [am_up_el (by omega), am_rs_at (by omega) (by omega), show (0 : Int) + k - 0 = k by omega]
  exact hw.2.1 k k0 k1
