/-! THE TAPE: feed, end, fault, status, octet -/
theorem band_vec (v : Int32) : am_band v.toInt 255 = (v.toBitVec &&& 255#32).toInt := by
  unfold am_band
  rw [← Int32.toInt_toBitVec, Int32.toBitVec_and, Int32.ofInt_toInt]
  rfl
theorem byte_vec (x : BitVec 32) : 0 ≤ (x &&& 255#32).toInt ∧ (x &&& 255#32).toInt ≤ 255 := by
  have e3 : (x &&& 255#32).toNat = x.toNat % 256 := by
    rw [BitVec.toNat_and]
    rw [show (255#32).toNat = 2^8 - 1 by decide, Nat.and_two_pow_sub_one_eq_mod]
  rw [BitVec.toInt_eq_toNat_of_lt (by rw [e3]; omega), e3]
  omega
theorem bits_255 : ∀ i : Nat, i < 32 → ((255#32).getLsbD i = decide (i < 8)) := by decide
theorem sh_vec (v : BitVec 32) (k : Nat) (hk : k ≤ 24) : (v >>> k) &&& 255#32 = (v.sshiftRight k) &&& 255#32 := by
  apply BitVec.eq_of_getLsbD_eq
  intro i hi
  rw [BitVec.getLsbD_and, BitVec.getLsbD_and, bits_255 i hi]
  by_cases h : i < 8
  · rw [BitVec.getLsbD_ushiftRight, BitVec.getLsbD_sshiftRight]
    have h2 : k + i < 32 := by omega
    have h3 : decide (32 ≤ i) = false := decide_eq_false (by omega)
    rw [if_pos h2, h3]
    simp
  · simp [h]
theorem ushr_band {x : Int} {k : Nat} (hk : k = 0 ∨ k = 8 ∨ k = 16 ∨ k = 24) : am_band (am_ushr x k) 255 = am_band (am_shr x k) 255 := by
  unfold am_ushr am_shr
  rw [band_vec, band_vec]
  have e1 : ((Int32.ofInt x).toUInt32 >>> ((Int32.ofInt (k : Int)).toUInt32 &&& Int32.toUInt32 31)).toInt32.toBitVec = (Int32.ofInt x).toBitVec >>> k := by
    rcases hk with rfl | rfl | rfl | rfl <;> rfl
  have e2 : (Int32.ofInt x >>> (Int32.ofInt (k : Int) &&& 31)).toBitVec = (Int32.ofInt x).toBitVec.sshiftRight k := by
    rcases hk with rfl | rfl | rfl | rfl <;> rfl
  rw [e1, e2, sh_vec _ _ (by omega)]
theorem band_bd {y : Int} : 0 ≤ am_band y 255 ∧ am_band y 255 ≤ 255 := by
  have h := band_vec (Int32.ofInt y)
  have e : am_band y 255 = ((Int32.ofInt y).toBitVec &&& 255#32).toInt := by
    unfold am_band
    rw [← Int32.toInt_toBitVec, Int32.toBitVec_and]
    rfl
  rw [e]
  exact byte_vec _
/-- the byte of a number, the highest first -/
def by_ (v i : Int) : Int := am_band (am_shr v (24 - 8 * i)) 255
/-- the tape with n bytes more -/
def fd_ (t : Int → Int) (s : Int) (vs : Int → Int) (n : Int) : Int → Int := fun j => if s ≤ j ∧ j < s + n then by_ (vs ((j - s) / 4)) ((j - s) % 4) else t j
theorem fd_s {t : Int → Int} {s n : Int} {vs : Int → Int} (hn : 0 ≤ n) (j : Int) : fd_ t s vs (n + 1) j = if j = s + n then by_ (vs (n / 4)) (n % 4) else fd_ t s vs n j := by
  unfold fd_
  by_cases c : j = s + n
  · rw [if_pos c, if_pos (by omega), show j - s = n by omega]
  · rw [if_neg c]
    by_cases c2 : s ≤ j ∧ j < s + n
    · rw [if_pos c2, if_pos (by omega)]
    · rw [if_neg c2, if_neg (by omega)]
theorem st_add {d : Nat} {M : am_M} {f : am_M → Prop} {t : Int → Int} {s k v : Int} {vs : Int → Int} (hk : 0 ≤ k ∧ k < 5) (hv : vs k = v) (hs : 0 ≤ s ∧ s + 20 ≤ 1600) (h1 : M 1 1 = s + 4 * k) (h2 : ∀ j, M 2 j = fd_ t s vs (4 * k) j) (h : ∀ M', (∀ x j, ¬ x = 2 → ¬ (x = 1 ∧ j = 1) → M' x j = M x j) → M' 1 1 = s + 4 * (k + 1) → (∀ j, M' 2 j = fd_ t s vs (4 * (k + 1)) j) → f M') : am_cal pg (d + 1) 90 [(2, 1), (0, v)] sh_T M (am_cv sh_T f) := by
  have loop : ∀ (m i : Nat), i + m = 4 → ∀ M1 : am_M, (∀ x j, ¬ x = 2 → ¬ (x = 1 ∧ j = 1) → M1 x j = M x j) → M1 1 1 = s + (4 * k + i) → (∀ j, M1 2 j = fd_ t s vs (4 * k + i) j) → am_g 9 9 co_X9_add d (am_cv sh_T f) 3 [(2, 1), (0, v), (0, 24 - 8 * (i : Int))] [] sh_T M1 := by
    intro m
    induction m with
    | zero =>
      intro i hi M1 g1 g2 g3
      have hi4 : (i : Int) = 4 := by omega
      rw [hi4] at g2 g3
      refine bk_X9_add_3 ⟨fun _ => am_cv_i (h M1 g1 (by omega) (fun j => ?_)), fun y => by omega⟩
      rw [g3, show 4 * (k + 1) = 4 * k + 4 by omega]
    | succ m ih =>
      intro i hi M1 g1 g2 g3
      refine bk_X9_add_3 ⟨fun y => by omega, fun _ => ⟨fun y => by omega, fun _ => ⟨fun y => by omega, fun _ => ⟨⟨by omega, by omega⟩, ⟨by omega, by omega⟩, ⟨by omega, by omega⟩, ?_⟩⟩⟩⟩
      have eb : am_band (am_ushr v (24 - 8 * (i : Int))) 255 = by_ v i := by
        unfold by_
        rw [show 24 - 8 * (i : Int) = ((24 - 8 * i : Nat) : Int) by omega]
        exact ushr_band (by omega)
      rw [eb, show 24 - 8 * (i : Int) + (-8) = 24 - 8 * ((i + 1 : Nat) : Int) by omega]
      refine ih (i + 1) (by omega) _ (fun x j y1 y2 => ?_) ?_ (fun j => ?_)
      · rw [am_up_el (by omega), am_up_el (by omega)]; exact g1 x j y1 y2
      · rw [am_up_at, g2]; omega
      · rw [am_up_el (by omega), show 4 * k + ((i + 1 : Nat) : Int) = 4 * k + (i : Int) + 1 by omega, fd_s (by omega)]
        by_cases y : j = s + (4 * k + (i : Int))
        · rw [if_pos y, y, ← g2, am_up_at, show (4 * k + (i : Int)) / 4 = k by omega, show (4 * k + (i : Int)) % 4 = i by omega, hv]
        · rw [if_neg y, am_up_el (by omega)]; exact g3 j
  refine en_X9_add (bk_X9_add_0 ?_)
  refine loop 4 0 rfl M (fun x j _ _ => rfl) (by omega) (fun j => ?_)
  rw [h2, show 4 * k + ((0 : Nat) : Int) = 4 * k by omega]
def vs_ (v1 v2 v3 v4 v5 : Int) : Int → Int := fun k => if k = 0 then v1 else if k = 1 then v2 else if k = 2 then v3 else if k = 3 then v4 else v5
theorem sp_feed {d : Nat} {M : am_M} {f : Int → am_M → Prop} {v1 v2 v3 v4 v5 s : Int} {t : Int → Int} (hs : 0 ≤ s ∧ s + 20 ≤ 1600) (h1 : M 152 1 = s) (h2 : ∀ j, M 153 j = t j) (h : ∀ M', (∀ x j, ¬ x = 153 → ¬ (x = 152 ∧ j = 1) → M' x j = M x j) → M' 152 1 = s + 20 → (∀ j, M' 153 j = fd_ t s (vs_ v1 v2 v3 v4 v5) 20 j) → f (s + 20) M') : am_cal pg (d + 1) 170 [(2, 152), (0, v1), (0, v2), (0, v3), (0, v4), (0, v5)] sh_T M (am_c0 sh_T f) := by
  have loop : ∀ (m i : Nat), i + m = 20 → ∀ M1 : am_M, (∀ x j, ¬ x = 153 → ¬ (x = 152 ∧ j = 1) → M1 x j = M x j) → M1 152 1 = s + i → (∀ j, M1 153 j = fd_ t s (vs_ v1 v2 v3 v4 v5) i j) → am_g 12 0 co_X12_feed d (am_c0 sh_T f) 28 [(2, 152), (0, v1), (0, v2), (0, v3), (0, v4), (0, v5), (0, (i : Int)), (3, 0)] [] sh_T M1 := by
    intro m
    induction m with
    | zero =>
      intro i hi M1 g1 g2 g3
      have hi4 : (i : Int) = 20 := by omega
      rw [hi4] at g2 g3
      refine bk_X12_feed_28 ⟨fun _ => am_c0_i ?_, fun y => by omega⟩
      rw [g2]
      exact h M1 g1 g2 g3
    | succ m ih =>
      intro i hi M1 g1 g2 g3
      have et : ((i : Int)).tmod 4 = (i : Int) % 4 := Int.tmod_eq_emod_of_nonneg (by omega)
      have go : ∀ v, vs_ v1 v2 v3 v4 v5 ((i : Int) / 4) = v → am_r (3 - ((i : Int).tmod 4)) ∧ am_r (8 * (3 - ((i : Int).tmod 4))) ∧ (0 ≤ M1 152 1 ∧ M1 152 1 < 1600) ∧ am_r ((M1 152 1) + 1) ∧ am_r ((i : Int) + 1) ∧ am_g 12 0 co_X12_feed d (am_c0 sh_T f) 28 [(2, 152), (0, v1), (0, v2), (0, v3), (0, v4), (0, v5), (0, (i : Int) + 1), (3, 0)] [] sh_T (am_up (am_up M1 153 (M1 152 1) (am_band (am_shr v (8 * (3 - ((i : Int).tmod 4)))) 255)) 152 1 ((M1 152 1) + 1)) := fun v hv => by
        rw [et]
        refine ⟨⟨by omega, by omega⟩, ⟨by omega, by omega⟩, ⟨by omega, by omega⟩, ⟨by omega, by omega⟩, ⟨by omega, by omega⟩, ih (i + 1) (by omega) _ (fun x j y1 y2 => ?_) ?_ (fun j => ?_)⟩
        · rw [am_up_el (by omega), am_up_el (by omega)]; exact g1 x j y1 y2
        · rw [am_up_at, g2]; omega
        · rw [am_up_el (by omega), show ((i + 1 : Nat) : Int) = (i : Int) + 1 by omega, fd_s (by omega)]
          by_cases y : j = s + (i : Int)
          · rw [if_pos y, y, ← g2, am_up_at, hv]
            unfold by_
            rw [show 8 * (3 - (i : Int) % 4) = 24 - 8 * ((i : Int) % 4) by omega]
          · rw [if_neg y, am_up_el (by omega)]; exact g3 j
      unfold vs_ at go
      refine bk_X12_feed_28 ⟨fun y => by omega, fun _ => ⟨fun y4 => ⟨fun y8 => ⟨fun y12 => ⟨fun y16 => go v5 ?_, fun y => go v4 ?_⟩, fun y => go v3 ?_⟩, fun y => go v2 ?_⟩, fun y => go v1 ?_⟩⟩
      · rw [if_neg (by omega), if_neg (by omega), if_neg (by omega), if_neg (by omega)]
      · rw [if_neg (by omega), if_neg (by omega), if_neg (by omega), if_pos (by omega)]
      · rw [if_neg (by omega), if_neg (by omega), if_pos (by omega)]
      · rw [if_neg (by omega), if_pos (by omega)]
      · rw [if_pos (by omega)]
  refine en_X12_feed (bk_X12_feed_0 ⟨⟨by omega, by omega⟩, fun _ => loop 20 0 rfl M (fun x j _ _ => rfl) (by omega) (fun j => ?_), fun y => by omega⟩)
  rw [h2]
  unfold fd_
  rw [if_neg (by omega)]
/-- a refusal on both sides, where nothing else is written -/
theorem iv_no {n : Nat} {M M' : am_M} {k : Int} (hk : 0 ≤ k ∧ k < 6) (h : iv_ n M) (hf : ∀ x j, ¬ (x = 151 ∧ j = k) → ¬ (x = 154 ∧ j = k) → M' x j = M x j) (h1 : M' 151 k = M 151 k + 1) (h2 : M' 154 k = M 154 k + 1) : iv_ (n + 1) M' := by
  have hI := h
  have hu : M 0 4 = 11 ∨ M 0 4 = 24 := h.2.2.2.2.1.1
  obtain ⟨⟨D, ⟨G, W, a1, a2, a3, a4⟩, -⟩, -, ⟨t1, t2, t3, t4⟩, l1, -⟩ := h
  refine iv_up hI (fun x j y => hf x j (by omega) (by omega)) (rq_step hk a3 (fun j => ?_) (fun j => ?_)) ⟨fun j => ?_, ?_, ?_, fun j j0 j1 => ?_⟩ ?_
  · by_cases w : j = k
    · rw [if_pos w, w]; exact h1
    · rw [if_neg w]; exact hf _ _ (by omega) (by omega)
  · by_cases w : j = k
    · rw [if_pos w, w]; exact h2
    · rw [if_neg w]; exact hf _ _ (by omega) (by omega)
  · rw [hf _ _ (by omega) (by omega), hf _ _ (by omega) (by omega)]; exact t1 j
  · rw [hf _ _ (by omega) (by omega), hf _ _ (by omega) (by omega)]; exact t2
  · rw [hf _ _ (by omega) (by omega)]; exact t3
  · rw [hf 1 1 (by omega) (by omega)] at j1
    rw [hf _ _ (by omega) (by omega)]; exact t4 j j0 j1
  · unfold fl_
    rw [hf 1 3 (by omega) (by omega), hf 1 4 (by omega) (by omega), hf 152 7 (by omega) (by omega), hf 152 8 (by omega) (by omega)]
    exact l1
theorem rq_of {n : Nat} {M : am_M} (h : iv_ n M) : rq_ok n M := by
  obtain ⟨⟨D, ⟨G, W, a1, a2, a3, a4⟩, -⟩, -⟩ := h
  exact a3
/-- nothing at all written -/
theorem iv_s {n : Nat} {M : am_M} (h : iv_ n M) : iv_ (n + 1) M := iv_up h (fun x j _ => rfl) (rq_ok_s (rq_of h)) h.2.2.1 h.2.2.2.1
theorem iv_feed {d n : Nat} {M : am_M} {v1 v2 v3 v4 v5 : Int} (hn : n < 600) (h : iv_ n M) : tr_two (d + 2) 126 170 [(0, v1), (0, v2), (0, v3), (0, v4), (0, v5)] M (iv_ (n + 1)) := by
  have hI := h
  have hu : M 0 4 = 11 ∨ M 0 4 = 24 := h.2.2.2.2.1.1
  have hq := rq_of h
  obtain ⟨-, -, ⟨t1, t2, t3, t4⟩, l1, -⟩ := h
  have r0 := hq 0 (by decide) (by decide)
  refine en_X11_feed (bk_X11_feed_0 ⟨⟨by omega, by omega⟩, fun y => ?_, fun y => st_refuse (by decide) ⟨r0.2.1, by omega⟩ (am_c0_i ⟨fun j => am_up_el (by omega), ?_⟩)⟩)
  · have z0 : ∀ j, M 2 j = fd_ (M 2) (M 1 1) (vs_ v1 v2 v3 v4 v5) (4 * 0) j := fun j => by
      unfold fd_
      rw [if_neg (by omega)]
    refine st_add (t := M 2) (s := M 1 1) (vs := vs_ v1 v2 v3 v4 v5) (k := 0) (by decide) rfl ⟨by omega, by omega⟩ (by omega) z0 (fun M1 f1 s1 b1 => st_add (t := M 2) (s := M 1 1) (vs := vs_ v1 v2 v3 v4 v5) (k := 1) (by decide) rfl ⟨by omega, by omega⟩ s1 b1 (fun M2 f2 s2 b2 => st_add (t := M 2) (s := M 1 1) (vs := vs_ v1 v2 v3 v4 v5) (k := 2) (by decide) rfl ⟨by omega, by omega⟩ s2 b2 (fun M3 f3 s3 b3 => st_add (t := M 2) (s := M 1 1) (vs := vs_ v1 v2 v3 v4 v5) (k := 3) (by decide) rfl ⟨by omega, by omega⟩ s3 b3 (fun M4 f4 s4 b4 => st_add (t := M 2) (s := M 1 1) (vs := vs_ v1 v2 v3 v4 v5) (k := 4) (by decide) rfl ⟨by omega, by omega⟩ s4 b4 (fun M5 f5 s5 b5 => am_c0_i ?_)))))
    have f : ∀ x j, ¬ x = 2 → ¬ (x = 1 ∧ j = 1) → M5 x j = M x j := fun x j y1 y2 => by rw [f5 x j y1 y2, f4 x j y1 y2, f3 x j y1 y2, f2 x j y1 y2, f1 x j y1 y2]
    have s5 : M5 1 1 = M 1 1 + 20 := by omega
    have b5 : ∀ j, M5 2 j = fd_ (M 2) (M 1 1) (vs_ v1 v2 v3 v4 v5) 20 j := b5
    refine ⟨fun j => f _ _ (by omega) (by omega), ?_⟩
    rw [s5]
    refine sp_feed (s := M 1 1) (t := M 2) ⟨by omega, by omega⟩ (by rw [f 152 1 (by omega) (by omega)]; exact t2.symm) (fun j => by rw [f 153 j (by omega) (by omega)]; exact (t1 j).symm) (fun M6 f6 s6 b6 => ⟨rfl, iv_up hI (fun x j y => ?_) (rq_ok_s (fun k k0 k1 => ?_)) ⟨fun j => ?_, ?_, ?_, fun j j0 j1 => ?_⟩ ?_⟩)
    · rw [f6 x j (by omega) (by omega), f x j (by omega) (by omega)]
    · rw [f6 151 k (by omega) (by omega), f 151 k (by omega) (by omega), f6 154 k (by omega) (by omega), f 154 k (by omega) (by omega)]
      exact hq k k0 k1
    · rw [f6 2 j (by omega) (by omega), b5, b6]
    · rw [f6 1 1 (by omega) (by omega), s5, s6]
    · rw [f6 1 1 (by omega) (by omega), s5]; omega
    · rw [f6 1 1 (by omega) (by omega), s5] at j1
      rw [f6 2 j (by omega) (by omega), b5]
      unfold fd_
      by_cases c : M 1 1 ≤ j ∧ j < M 1 1 + 20
      · rw [if_pos c]; exact band_bd
      · rw [if_neg c]; exact t4 j j0 (by omega)
    · unfold fl_
      rw [f6 1 3 (by omega) (by omega), f 1 3 (by omega) (by omega), f6 1 4 (by omega) (by omega), f 1 4 (by omega) (by omega), f6 152 7 (by omega) (by omega), f 152 7 (by omega) (by omega), f6 152 8 (by omega) (by omega), f 152 8 (by omega) (by omega)]
      exact l1
  · refine en_X12_feed (bk_X12_feed_0 ?_)
    rw [am_up_el (by omega), am_up_el (by omega)]
    refine ⟨⟨by omega, by omega⟩, fun z => by omega, fun _ => ⟨⟨by omega, by omega⟩, am_c0_i ⟨rfl, iv_no (k := 0) (by decide) hI (fun x j y1 y2 => ?_) ?_ ?_⟩⟩⟩
    · rw [am_up_el (by omega), am_up_el (by omega)]
    · rw [am_up_el (by omega), am_up_at]
    · rw [am_up_at]
theorem iv_end {d n : Nat} {M : am_M} {v : Int} (hn : n < 600) (h : iv_ n M) : tr_two (d + 2) 127 171 [(0, v)] M (iv_ (n + 1)) := by
  have hI := h
  have hu : M 0 4 = 11 ∨ M 0 4 = 24 := h.2.2.2.2.1.1
  have hq := rq_of h
  obtain ⟨-, -, ⟨t1, t2, t3, t4⟩, l1, -⟩ := h
  have r0 := hq 0 (by decide) (by decide)
  have no : iv_ (n + 1) (am_up (am_up M 151 0 (M 151 0 + 1)) 154 0 (M 154 0 + 1)) := iv_no (k := 0) (by decide) hI (fun x j y1 y2 => by rw [am_up_el (by omega), am_up_el (by omega)]) (by rw [am_up_el (by omega), am_up_at]) am_up_at
  have e154 : am_up M 151 0 (M 151 0 + 1) 154 0 = M 154 0 := am_up_el (by omega)
  have e152 : am_up M 151 0 (M 151 0 + 1) 152 1 = M 152 1 := am_up_el (by omega)
  refine en_X11_end (bk_X11_end_0 ⟨fun y => st_refuse (by decide) ⟨r0.2.1, by omega⟩ (am_c0_i ⟨fun j => am_up_el (by omega), en_X12_end (bk_X12_end_0 ⟨fun _ => ⟨by rw [e154]; exact ⟨by omega, by omega⟩, am_c0_i ⟨rfl, by rw [e154]; exact no⟩⟩, fun z => by omega⟩)⟩), fun y => ⟨fun y2 => am_c0_i ⟨fun j => am_up_el (by omega), en_X12_end (bk_X12_end_0 ⟨fun z => by omega, fun _ => ⟨fun _ => am_c0_i ⟨rfl, ?_⟩, fun z => ?_⟩⟩)⟩, fun y2 => st_refuse (by decide) ⟨r0.2.1, by omega⟩ (am_c0_i ⟨fun j => am_up_el (by omega), en_X12_end (bk_X12_end_0 ⟨fun z => by omega, fun _ => ⟨fun z => ?_, fun _ => ⟨by rw [e154]; exact ⟨by omega, by omega⟩, am_c0_i ⟨rfl, by rw [e154]; exact no⟩⟩⟩⟩)⟩)⟩⟩)
  · refine iv_up hI (fun x j y => ?_) (rq_ok_s (fun k k0 k1 => ?_)) ⟨fun j => ?_, ?_, ?_, fun j j0 j1 => ?_⟩ ?_
    · rw [am_up_el (by omega), am_up_el (by omega)]
    · rw [am_up_el (by omega), am_up_el (by omega), am_up_el (by omega), am_up_el (by omega)]; exact hq k k0 k1
    · rw [am_up_el (by omega), am_up_el (by omega), am_up_el (by omega), am_up_el (by omega)]; exact t1 j
    · rw [am_up_el (by omega), am_up_at, am_up_at]
    · rw [am_up_el (by omega), am_up_at]; omega
    · rw [am_up_el (by omega), am_up_at] at j1
      rw [am_up_el (by omega), am_up_el (by omega)]
      exact t4 j j0 (by omega)
    · unfold fl_
      rw [am_up_el (by omega), am_up_el (by omega), am_up_el (by omega), am_up_el (by omega), am_up_el (by omega), am_up_el (by omega), am_up_el (by omega), am_up_el (by omega)]
      exact l1
  · rw [am_up_el (by omega)] at z; omega
  · rw [e152] at z; omega
theorem iv_fault {d n : Nat} {M : am_M} {v : Int} (h : iv_ n M) : tr_two (d + 1) 129 206 [(0, v)] M (iv_ (n + 1)) := by
  have hI := iv_s h
  obtain ⟨l1, l2⟩ := h.2.2.2.1
  refine en_X11_fault (bk_X11_fault_0 ⟨fun y => ⟨fun y2 => am_c0_i ⟨fun _ => rfl, en_X12_fault (bk_X12_fault_0 ⟨fun _ => ⟨fun _ => am_c0_i ⟨rfl, hI⟩, fun z => absurd z y2⟩, fun z => absurd z y⟩)⟩, fun y2 => am_c0_i ⟨fun _ => rfl, en_X12_fault (bk_X12_fault_0 ⟨fun _ => ⟨fun z => absurd y2 z, fun _ => am_c0_i ⟨l2, hI⟩⟩, fun z => absurd z y⟩)⟩⟩, fun y => am_c0_i ⟨fun _ => rfl, en_X12_fault (bk_X12_fault_0 ⟨fun z => absurd y z, fun _ => am_c0_i ⟨l1, hI⟩⟩)⟩⟩)
theorem iv_octet {d n : Nat} {M : am_M} {v : Int} (h : iv_ n M) : tr_two (d + 1) 157 310 [(0, v)] M (iv_ (n + 1)) := by
  have hI := iv_s h
  obtain ⟨p1, p2, p3⟩ := h.2.2.2.2.2.1
  refine en_X11_octet (bk_X11_octet_0 ⟨fun y => am_c0_i ⟨fun _ => rfl, en_X12_octet (bk_X12_octet_0 ⟨fun _ => am_c0_i ⟨rfl, hI⟩, fun z => by omega⟩)⟩, fun y => ⟨fun y2 => am_c0_i ⟨fun _ => rfl, en_X12_octet (bk_X12_octet_0 ⟨fun z => by omega, fun _ => ⟨fun _ => am_c0_i ⟨rfl, hI⟩, fun z => by omega⟩⟩)⟩, fun y2 => ⟨fun y3 => by omega, fun y3 => ⟨⟨y, y3⟩, am_c0_i ⟨fun _ => rfl, en_X12_octet (bk_X12_octet_0 ⟨fun z => by omega, fun _ => ⟨fun z => by omega, fun _ => ⟨⟨y, y3⟩, am_c0_i ⟨p3 v y y2, hI⟩⟩⟩⟩)⟩⟩⟩⟩⟩)
theorem iv_status {d n : Nat} {M : am_M} {v : Int} (h : iv_ n M) : tr_two (d + 2) 159 313 [(0, v)] M (iv_ (n + 1)) := by
  have hI := iv_s h
  have hq := rq_of h
  refine en_X11_status (bk_X11_status_0 ⟨fun y => am_c0_i ⟨fun _ => rfl, en_X12_status (bk_X12_status_0 (sp_isIn ⟨fun _ => am_c0_i ⟨rfl, hI⟩, fun z => absurd (am_b_0 (by omega)) z⟩))⟩, fun y => ⟨fun y2 => am_c0_i ⟨fun _ => rfl, en_X12_status (bk_X12_status_0 (sp_isIn ⟨fun _ => am_c0_i ⟨rfl, hI⟩, fun z => absurd (am_b_0 (by omega)) z⟩))⟩, fun y2 => ⟨⟨y, y2⟩, am_c0_i ⟨fun _ => rfl, en_X12_status (bk_X12_status_0 (sp_isIn ⟨fun z => absurd (⟨y, by omega⟩ : 0 ≤ v ∧ v ≤ 5) (am_b_z.mp z), fun _ => ⟨⟨y, y2⟩, am_c0_i ⟨(hq v y y2).1, hI⟩⟩⟩))⟩⟩⟩⟩)
