/-! WHAT HOLDS AHEAD OF THE FIRST CALL -/
theorem lw_lo (f : Int → Int) {a j : Int} (ha : a < 1000000) (hj : 0 ≤ j) : lw_M f a j = am_dn P0 dt a j := by
  unfold lw_M
  rw [if_neg (by omega), if_neg (by omega)]
theorem lw_0 (f : Int → Int) {a : Nat} (ha : a < 1000000) (h : dt[a]? = some (0, [])) (j : Int) : lw_M f a j = 0 := by
  unfold lw_M
  rw [if_neg (by omega)]
  unfold am_dn
  rw [if_neg (by omega), Int.toNat_natCast, h]
  rfl
theorem lw_w (f : Int → Int) {a j : Int} (ha : 2000000 ≤ a) (hn : ¬ a = 2000003) : lw_M f a j = ((tb_rows.getD (a - 2000000).toNat []).getD j.toNat 0).toInt := by
  unfold lw_M
  rw [if_pos (by omega)]
  unfold tb_sc
  rw [if_neg hn, if_neg (by omega)]
theorem lw_rows : (∀ k : Nat, k < 4 → ((tb_rows.getD ((2000000 : Int) - 2000000).toNat []).getD k 0).toInt = fst_ k) ∧ ∀ i : Nat, i < 8 → ((tb_rows.getD ((2000001 : Int) - 2000000).toNat []).getD i 0).toInt = cv ((ts_ false).getD i ([], 0)).2 ∧ ((tb_rows.getD ((2000002 : Int) - 2000000).toNat []).getD i 0).toInt = qv ((ts_ true).getD i ([], 0)).2 := by decide +kernel
theorem lw_words : ∀ x ∈ rws, am_alen pg sh_T x.1 = some x.2.length ∧ am_len pg sh_T 2 x.1 = (x.2.length : Int) ∧ (∀ i : Nat, i < x.2.length → am_dn P0 dt x.1 i = x.2.getD i 0) ∧ x.2 ≠ [] ∧ x.2.length ≤ 20 := by decide +kernel
theorem lw_dt0 : dt[2]? = some (0, []) ∧ dt[153]? = some (0, []) ∧ dt[13]? = some (0, []) ∧ dt[151]? = some (0, []) ∧ dt[154]? = some (0, []) ∧ dt[174]? = some (0, []) := ⟨rfl, rfl, rfl, rfl, rfl, rfl⟩
theorem lw_dt1 : am_dn P0 dt 0 4 = 11 ∧ am_dn P0 dt 0 5 = 24 ∧ am_dn P0 dt 0 13 = -1 ∧ am_dn P0 dt 0 15 = 0 ∧ am_dn P0 dt 0 17 = 1 ∧ am_dn P0 dt 1 1 = 0 ∧ am_dn P0 dt 1 3 = 0 ∧ am_dn P0 dt 1 4 = -1 ∧ am_dn P0 dt 11 5 = 0 ∧ am_dn P0 dt 11 6 = 0 ∧ am_dn P0 dt 11 7 = 0 ∧ am_dn P0 dt 46 1 = 0 ∧ am_dn P0 dt 46 2 = 0 := by decide +kernel
theorem lw_dt2 : am_dn P0 dt 152 1 = 0 ∧ am_dn P0 dt 152 7 = 0 ∧ am_dn P0 dt 152 8 = -1 ∧ am_dn P0 dt 152 58 = 0 ∧ am_dn P0 dt 152 59 = 0 ∧ am_dn P0 dt 152 60 = 1 ∧ am_dn P0 dt 152 61 = 0 ∧ am_dn P0 dt 152 93 = 0 ∧ am_dn P0 dt 179 3 = 0 ∧ am_dn P0 dt 179 4 = 0 ∧ am_dn P0 dt 179 5 = 0 ∧ am_dn P0 dt 180 3 = -1 ∧ am_dn P0 dt 180 4 = -1 ∧ am_dn P0 dt 180 5 = -1 := by decide +kernel
theorem lw_dt3 : am_dn P0 dt 22 0 = 0 ∧ am_dn P0 dt 22 1 = 0 ∧ am_dn P0 dt 22 2 = 0 ∧ am_dn P0 dt 23 0 = 0 ∧ am_dn P0 dt 23 1 = 0 ∧ am_dn P0 dt 23 2 = 0 := by decide +kernel
def dm_0 : dm_D := (0, (0, 0, 0), fun _ => 0, fun _ => 0, none, none, none, 0, 0)
theorem iv_0 (f : Int → Int) (hf : ∀ j, am_r (f j)) : iv_ 0 (lw_M f) := by
  obtain ⟨z2, z153, z13, z151, z154, z174⟩ := lw_dt0
  obtain ⟨a1, a2, a3, a4, a5, a6, a7, a8, a9, a10, a11, a12, a13⟩ := lw_dt1
  obtain ⟨b1, b2, b3, b4, b5, b6, b7, b8, b9, b10, b11, b12, b13, b14⟩ := lw_dt2
  obtain ⟨c1, c2, c3, c4, c5, c6⟩ := lw_dt3
  have e : ∀ {a j v : Int}, a < 1000000 → 0 ≤ j → am_dn P0 dt a j = v → lw_M f a j = v := fun h1 h2 h3 => (lw_lo f h1 h2).trans h3
  have m2 : ∀ j, lw_M f 2 j = 0 := lw_0 f (a := 2) (by decide) z2
  have m153 : ∀ j, lw_M f 153 j = 0 := lw_0 f (a := 153) (by decide) z153
  have m13 : ∀ j, lw_M f 13 j = 0 := lw_0 f (a := 13) (by decide) z13
  have m151 : ∀ j, lw_M f 151 j = 0 := lw_0 f (a := 151) (by decide) z151
  have m154 : ∀ j, lw_M f 154 j = 0 := lw_0 f (a := 154) (by decide) z154
  have m174 : ∀ j, lw_M f 174 j = 0 := lw_0 f (a := 174) (by decide) z174
  have m04 : lw_M f 0 4 = 11 := e (by decide) (by decide) a1
  have m05 : lw_M f 0 5 = 24 := e (by decide) (by decide) a2
  have dg : dg_ok dm_0 := ⟨by decide, by decide, fun k k0 k1 => ⟨Int.le_refl _, (by decide : (0 : Int) ≤ 9)⟩⟩
  have no : ∀ k : Int, 0 ≤ k → ¬ k < dA dm_0 := fun k k0 => by show ¬ k < 0; omega
  have no2 : ∀ k : Int, 0 ≤ k → ¬ k < dG dm_0 := fun k k0 => by show ¬ k < 0; omega
  have bt : bt_ok (lw_M f) dm_0 (fun _ => -1) (fun _ _ => 0) := by
    refine ⟨?_, ⟨dg, m174 _, e (by decide) (by decide) b9, e (by decide) (by decide) b10, e (by decide) (by decide) b11, fun k k0 k1 => absurd k1.2 (no k k0), fun k k0 k1 => absurd k1.2 (no2 k k0), e (by decide) (by decide) b12, e (by decide) (by decide) b13, e (by decide) (by decide) b14⟩, ?_, ?_, fun a x0 x1 => absurd x1.2 (no a x0)⟩
    · rw [m04]
      refine ⟨Or.inl rfl, dg, m13 0, e (by decide) (by decide) a9, e (by decide) (by decide) a10, e (by decide) (by decide) a11, fun k k0 k1 => absurd k1.2 (no k k0), fun k k0 k1 => absurd k1.2 (no2 k k0), ?_, ?_, ?_⟩
      · show lw_M f 23 0 ≤ lw_M f 22 0
        rw [e (a := 23) (j := 0) (by decide) (by decide) c4, e (a := 22) (j := 0) (by decide) (by decide) c1]; decide
      · show lw_M f 23 1 ≤ lw_M f 22 1
        rw [e (a := 23) (j := 1) (by decide) (by decide) c5, e (a := 22) (j := 1) (by decide) (by decide) c2]; decide
      · show lw_M f 23 2 ≤ lw_M f 22 2
        rw [e (a := 23) (j := 2) (by decide) (by decide) c6, e (a := 22) (j := 2) (by decide) (by decide) c3]; decide
    · rw [m04, show (11 : Int) + 2 = 13 by decide, m13, m174]
      exact ⟨⟨rfl, rfl⟩, by decide, by decide⟩
    · rw [m04, show (11 : Int) + 2 = 13 by decide, m13, m174]
      exact ⟨⟨rfl, rfl⟩, by decide, by decide⟩
  have ac : ac_ok (lw_M f) dm_0 (fun _ => -1) (fun _ _ => 0) := ⟨0, fun _ => (0, 0, fun _ => 0), by decide, ⟨e (by decide) (by decide) a13, e (by decide) (by decide) b4⟩, by rw [e (a := 46) (j := 1) (by decide) (by decide) a12]; decide, by rw [e (a := 152) (j := 59) (by decide) (by decide) b5]; decide, fun k hk => absurd hk (Nat.not_lt_zero k)⟩
  refine ⟨⟨dm_0, ⟨_, _, bt, ac, fun k k0 k1 => ?_, ?_⟩, Or.inl ⟨?_, e (by decide) (by decide) b7⟩, ⟨by decide, by decide⟩, by decide, by decide⟩, ⟨t0_, (tk_n tk_t0), ⟨fun k k0 k1 => ?_, fun k k0 k1 i j i1 => ?_⟩, fun k k0 k1 => ?_, fun k k0 k1 i i1 => ?_⟩, ⟨fun j => by rw [m2, m153], ?_, ?_, fun j j0 j1 => ?_⟩, ⟨?_, ?_⟩, ⟨?_, ?_, ?_⟩, ⟨?_, ?_, fun j j0 j1 => ?_⟩, ⟨fun k k0 k1 => ?_, fun i hi => ?_, fun j => ?_⟩, fun x hx => ?_⟩
  · rw [m151, m154]; exact ⟨rfl, Int.le_refl _, Int.le_refl _⟩
  · unfold lo_ok
    rw [e (a := 0) (j := 17) (by decide) (by decide) a5, e (a := 152) (j := 60) (by decide) (by decide) b6]; decide
  · rw [e (a := 0) (j := 13) (by decide) (by decide) a3]; omega
  · rw [m04, show (11 : Int) + 2 = 13 by decide, m13]
    rcases (show k = 0 ∨ k = 1 ∨ k = 2 by omega) with rfl | rfl | rfl <;> rfl
  · rcases (show k = 0 ∨ k = 1 ∨ k = 2 by omega) with rfl | rfl | rfl <;> exact absurd i1 (Nat.not_lt_zero _)
  · rw [m174]
    rcases (show k = 0 ∨ k = 1 ∨ k = 2 by omega) with rfl | rfl | rfl <;> rfl
  · rcases (show k = 0 ∨ k = 1 ∨ k = 2 by omega) with rfl | rfl | rfl <;> exact absurd i1 (Nat.not_lt_zero _)
  · rw [e (a := 1) (j := 1) (by decide) (by decide) a6, e (a := 152) (j := 1) (by decide) (by decide) b1]
  · rw [e (a := 1) (j := 1) (by decide) (by decide) a6]; decide
  · rw [e (a := 1) (j := 1) (by decide) (by decide) a6] at j1; omega
  · rw [e (a := 1) (j := 3) (by decide) (by decide) a7, e (a := 152) (j := 7) (by decide) (by decide) b2]
  · rw [e (a := 1) (j := 4) (by decide) (by decide) a8, e (a := 152) (j := 8) (by decide) (by decide) b3]
  · rw [m04]; exact Or.inl rfl
  · rw [m05]; exact Or.inr rfl
  · rw [m04, m05]; decide
  · rw [e (a := 0) (j := 15) (by decide) (by decide) a4, e (a := 152) (j := 93) (by decide) (by decide) b8]
  · rw [e (a := 0) (j := 15) (by decide) (by decide) a4]; decide
  · rw [e (a := 0) (j := 15) (by decide) (by decide) a4] at j1; omega
  · rw [lw_w f (by decide) (by decide)]
    have := lw_rows.1 k.toNat (by omega)
    rw [show ((k.toNat : Nat) : Int) = k by omega] at this
    exact this
  · rw [lw_w f (by decide) (by decide), lw_w f (by decide) (by decide), Int.toNat_natCast]
    exact lw_rows.2 i hi
  · have : lw_M f 2000003 j = f j := by
      unfold lw_M
      rw [if_pos (by decide)]
      unfold tb_sc
      rw [if_pos rfl]
    rw [this]; exact hf j
  · obtain ⟨w1, w2, w3, w4, w5⟩ := lw_words x hx
    have hi := rws_ab x hx
    exact ⟨w1, fun i i0 i1 => ⟨i0, by rw [w2]; exact i1⟩, fun i hl => e (by omega) (by omega) (w3 i hl), w4, w5⟩
