/-! SETS OF DREADS AS NUMBERS: how many, the lowest -/
def pc_ (v : Nat) : Nat := v % 2 + v / 2 % 2 + v / 4 % 2 + v / 8 % 2 + v / 16 % 2 + v / 32 % 2
def bc1 (x : Int) : Int := x - (am_band (am_ushr x 1) 1431655765)
def bc2 (x : Int) : Int := (am_band x 858993459) + (am_band (am_ushr x 2) 858993459)
def bc3 (x : Int) : Int := x + (am_ushr x 4)
def bc4 (x : Int) : Int := am_band x 252645135
def bc5 (x : Int) : Int := x + (am_ushr x 8)
def bc6 (x : Int) : Int := x + (am_ushr x 16)
theorem bc_all : ∀ v : Nat, v < 64 → am_r (bc1 v) ∧ am_r (bc2 (bc1 v)) ∧ am_r (bc3 (bc2 (bc1 v))) ∧ am_r (bc5 (bc4 (bc3 (bc2 (bc1 v))))) ∧ am_r (bc6 (bc5 (bc4 (bc3 (bc2 (bc1 v)))))) ∧ am_band (bc6 (bc5 (bc4 (bc3 (bc2 (bc1 v)))))) 63 = (pc_ v : Int) := by decide +kernel
theorem st_bitCount {d : Nat} {M : am_M} {f : Int → am_M → Prop} {v : Nat} (hv : v < 64) (h : f (pc_ v) M) : am_cal pg (d + 1) 314 [(0, (v : Int))] sh_T M (am_c0 sh_T f) := by
  obtain ⟨h1, h2, h3, h4, h5, h6⟩ := bc_all v hv
  refine en_J6_bitCount_0f7a4 (bk_J6_bitCount_0f7a4_0 ⟨h1, h2, h3, h4, h5, am_c0_i ?_⟩)
  show f (am_band (bc6 (bc5 (bc4 (bc3 (bc2 (bc1 v)))))) 63) M
  rw [h6]; exact h
theorem pc_step : ∀ v : Nat, v < 64 → ¬ v = 0 → am_band (v : Int) ((v : Int) - 1) = ((v &&& (v - 1) : Nat) : Int) ∧ v &&& (v - 1) < v ∧ pc_ (v &&& (v - 1)) + 1 = pc_ v := by decide +kernel
theorem pc_le : ∀ v : Nat, v < 64 → pc_ v ≤ 6 := by decide +kernel
theorem sp_bits {d : Nat} {M : am_M} {f : Int → am_M → Prop} {v : Nat} (hv : v < 64) (h : f (pc_ v) M) : am_cal pg (d + 1) 250 [(0, (v : Int))] sh_T M (am_c0 sh_T f) := by
  have loop : ∀ (n v : Nat) (c : Int), v ≤ n → v < 64 → 0 ≤ c ∧ c ≤ 100 - (pc_ v : Int) → f (c + (pc_ v : Int)) M → am_g 12 0 co_X12_bits d (am_c0 sh_T f) 4 [(3, 0), (0, c), (0, (v : Int))] [] sh_T M := by
    intro n
    induction n with
    | zero =>
      intro v c h1 h2 h3 h4
      have hv0 : v = 0 := by omega
      subst hv0
      rw [show c + (pc_ 0 : Int) = c from Int.add_zero c] at h4
      exact bk_X12_bits_4 ⟨fun _ => am_c0_i h4, fun y => absurd rfl y⟩
    | succ n ih =>
      intro v c h1 h2 h3 h4
      by_cases hv0 : v = 0
      · subst hv0
        rw [show c + (pc_ 0 : Int) = c from Int.add_zero c] at h4
        exact bk_X12_bits_4 ⟨fun _ => am_c0_i h4, fun y => absurd rfl y⟩
      · obtain ⟨q1, q2, q3⟩ := pc_step v h2 hv0
        refine bk_X12_bits_4 ⟨fun y => by omega, fun _ => ⟨⟨by omega, by omega⟩, ⟨by omega, by omega⟩, ?_⟩⟩
        rw [q1]
        refine ih _ (c + 1) (by omega) (by omega) ⟨by omega, by omega⟩ ?_
        rw [show c + 1 + ((pc_ (v &&& (v - 1)) : Nat) : Int) = c + (pc_ v : Int) by omega]
        exact h4
  have hp := pc_le v hv
  refine en_X12_bits (bk_X12_bits_0 (loop v v 0 (Nat.le_refl _) hv ⟨by omega, by omega⟩ ?_))
  rw [Int.zero_add]; exact h
/-- the lowest dread of a set that has k of it below; so many places are still to be seen -/
def lbg (v k : Nat) : Nat → Nat → Nat → Nat
  | 0, _, _ => 0
  | m + 1, i, s => if v / 2 ^ i % 2 = 1 then (if s = k then i else lbg v k m (i + 1) (s + 1)) else lbg v k m (i + 1) s
theorem st_lowestBit {d : Nat} {M : am_M} {f : Int → am_M → Prop} {v k : Nat} (hv : v < 2147483648) (h : f (lbg v k 6 0 0) M) : am_cal pg (d + 1) 123 [(0, (v : Int)), (0, (k : Int))] sh_T M (am_c0 sh_T f) := by
  have loop : ∀ (m i s : Nat), i + m = 6 → s ≤ i → f (lbg v k m i s) M → am_g 10 0 co_X10_lowestBit d (am_c0 sh_T f) 4 [(0, (v : Int)), (0, (k : Int)), (0, (s : Int)), (0, (i : Int))] [] sh_T M := by
    intro m
    induction m with
    | zero => exact fun i s hi hs h => bk_X10_lowestBit_4 ⟨fun _ => am_c0_i h, fun y => by omega⟩
    | succ m ih =>
      intro i s hi hs h
      have hb := wy_bit (v := v) (m := i) hv (by omega)
      have h : f (((if v / 2 ^ i % 2 = 1 then (if s = k then i else lbg v k m (i + 1) (s + 1)) else lbg v k m (i + 1) s : Nat) : Nat) : Int) M := h
      refine bk_X10_lowestBit_4 ⟨fun y => by omega, fun _ => ⟨fun y => ⟨⟨by omega, by omega⟩, ?_⟩, fun y => ⟨fun z => ⟨⟨by omega, by omega⟩, ⟨by omega, by omega⟩, ?_⟩, fun z => am_c0_i ?_⟩⟩⟩
      · rw [if_neg (fun w => y (hb.mpr w))] at h
        exact ih (i + 1) s (by omega) (by omega) h
      · rw [if_pos (hb.mp y), if_neg (by omega)] at h
        exact ih (i + 1) (s + 1) (by omega) (by omega) h
      · rw [if_pos (hb.mp y), if_pos (by omega)] at h
        exact h
  exact en_X10_lowestBit (bk_X10_lowestBit_0 (loop 6 0 0 rfl (Nat.le_refl _) h))
