/-! REFUSALS; what the class and the reference keep ahead of an act -/
theorem st_refuse {d : Nat} {M : am_M} {f : Int → am_M → Prop} {k : Int} (hk : 0 ≤ k ∧ k < 6) (hb : 0 ≤ M 151 k ∧ M 151 k ≤ 1000000) (h : f (-1) (am_up M 151 k (M 151 k + 1))) : am_cal pg (d + 1) 160 [(2, 0), (0, k)] sh_T M (am_c0 sh_T f) :=
  en_X11_refuse (bk_X11_refuse_0 ⟨fun z => by omega, fun _ => ⟨fun z => by omega, fun _ => ⟨hk, ⟨by omega, by omega⟩, am_c0_i h⟩⟩⟩)
theorem sp_refuses {d : Nat} {M : am_M} {f : Int → am_M → Prop} (hb : 0 ≤ M 154 2 ∧ M 154 2 ≤ 1000000) (h : f (-1) (am_up M 154 2 (M 154 2 + 1))) : am_cal pg (d + 1) 266 [(2, 152)] sh_T M (am_c0 sh_T f) :=
  en_X12_refuses (bk_X12_refuses_0 ⟨⟨by omega, by omega⟩, am_c0_i h⟩)
theorem st_keep {d : Nat} {M : am_M} {f : am_M → Prop} {v : Int} (hv : sl_is v) (hv2 : v < 46) (h1 : 0 ≤ M 46 1 ∧ M 46 1 < 20) (h2 : 0 ≤ M 46 2 ∧ M 46 2 ≤ 20) (h : f (am_up (am_up (sl_cp M (47 + 1 + 2 * (M 46 1)) v) 46 1 (if M 46 1 + 1 < 20 then M 46 1 + 1 else 0)) 46 2 (if 20 < M 46 2 + 1 then 20 else M 46 2 + 1))) : am_cal pg (d + 2) 2 [(2, 46), (2, v)] sh_T M (am_cv sh_T f) := by
  have sK : sl_is (47 + 1 + 2 * (M 46 1)) := sl_row_47 h1.1 h1.2
  have e1 : sl_cp M (47 + 1 + 2 * (M 46 1)) v 46 1 = M 46 1 := cp_fr (by omega) (by omega)
  have e2 : sl_cp M (47 + 1 + 2 * (M 46 1)) v 46 2 = M 46 2 := cp_fr (by omega) (by omega)
  refine en_X0_keep (bk_X0_keep_0 ⟨fun z => by omega, fun _ => ⟨fun z => by omega, fun _ => ⟨h1, sK.1, st_copy sK hv (by omega) (by omega) (by omega) ?_⟩⟩⟩)
  rw [e1, e2]
  refine ⟨⟨by omega, by omega⟩, fun y => ⟨⟨by omega, by omega⟩, ⟨by omega, by omega⟩, st_min (am_cv_i ?_)⟩, fun y => ⟨⟨by omega, by omega⟩, st_min (am_cv_i ?_)⟩⟩
  · rw [if_pos y] at h; exact h
  · rw [if_neg (by omega)] at h; exact h
/-- the reference's ring: all four, behind one another -/
theorem sp_keeps {d : Nat} {M : am_M} {f : am_M → Prop} (h1 : 0 ≤ M 152 59 ∧ M 152 59 < 20) (h2 : 0 ≤ M 152 58 ∧ M 152 58 ≤ 20) (h : ∀ t, t = (if M 152 59 + 1 < 20 then M 152 59 + 1 else 0) → f (am_up (am_rs (am_up M 152 59 t) 191 (28 * t) (M 186) 28) 152 58 (if M 152 58 < 20 then M 152 58 + 1 else M 152 58))) : am_cal pg (d + 1) 264 [(2, 152)] sh_T M (am_cv sh_T f) := by
  obtain ⟨t, ht⟩ : ∃ t : Int, t = (if M 152 59 + 1 < 20 then M 152 59 + 1 else 0) := ⟨_, rfl⟩
  have h := h t ht
  have t0 : 0 ≤ t ∧ t < 20 := by rw [ht]; split <;> omega
  have em : (M 152 59 + 1).tmod 20 = t := by
    rw [Int.tmod_eq_emod_of_nonneg (by omega), ht]
    split <;> omega
  have go : ∀ (n k : Nat), k + n = 28 → am_g 12 9 co_X12_keeps d (am_cv sh_T f) 15 [(2, 152), (0, (k : Int))] [] sh_T (am_rs (am_up M 152 59 t) 191 (28 * t) (M 186) k) := by
    intro n
    induction n with
    | zero =>
      intro k hk
      have e : k = 28 := by omega
      subst e
      have e8 : am_rs (am_up M 152 59 t) 191 (28 * t) (M 186) 28 152 58 = M 152 58 := by rw [am_rs_el (by decide), am_up_el (by decide)]
      refine bk_X12_keeps_15 ⟨fun _ => ?_, fun z => absurd z (by decide)⟩
      rw [e8]
      refine ⟨fun y => am_cv_i ?_, fun y => ⟨⟨by omega, by omega⟩, am_cv_i ?_⟩⟩
      · rw [if_neg (by omega), ← e8, am_up_id] at h
        exact h
      · rw [if_pos y] at h
        exact h
    | succ n ih =>
      intro k hk
      have e9 : am_rs (am_up M 152 59 t) 191 (28 * t) (M 186) k 152 59 = t := by rw [am_rs_el (by decide), am_up_at]
      have e6 : am_rs (am_up M 152 59 t) 191 (28 * t) (M 186) k 186 = M 186 := by
        rw [am_rs_el (by decide)]
        funext j
        exact am_up_el (by omega)
      refine bk_X12_keeps_15 ⟨fun z => by omega, fun _ => ?_⟩
      rw [e9, e6]
      refine ⟨⟨by omega, by omega⟩, ⟨by omega, by omega⟩, ⟨by omega, by omega⟩, ⟨by omega, by omega⟩, ⟨by omega, by omega⟩, ?_⟩
      rw [am_rs_s rfl rfl]
      exact ih (k + 1) (by omega)
  have q := go 28 0 rfl
  rw [am_rs_0] at q
  refine en_X12_keeps (bk_X12_keeps_0 ⟨⟨by omega, by omega⟩, ?_⟩)
  rw [em]
  exact q
