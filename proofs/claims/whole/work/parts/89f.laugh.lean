/-! LAUGHS on both sides -/
def pu_lg (w : Int → Int) : Int → Int := fun k => (w k).tdiv 2
theorem pu_lg_dw {D : dm_D} {w : Int → Int} (h : dw_ok D w) : dw_ok D (pu_lg w) := by
  refine ⟨fun k k0 k1 => ?_, fun k k0 k1 => ?_⟩
  · have b := h.1 k k0 k1
    have e : pu_lg w k = w k / 2 := Int.tdiv_eq_ediv_of_nonneg b.1
    rw [e]
    omega
  · show (w k).tdiv 2 = 0
    rw [h.2 k k0 k1]
    rfl
theorem st_laugh {d : Nat} {M : am_M} {f : am_M → Prop} {v a g : Int} {D : dm_D} {w : Int → Int} (hs : sm_ok M D v a g w) (h : ∀ M', (∀ x j, ¬ x = v + 1 → M' x j = M x j) → sm_ok M' D v a g (pu_lg w) → f M') : am_cal pg (d + 1) 77 [(2, v)] sh_T M (am_cv sh_T f) := by
  have hs0 := hs
  obtain ⟨⟨v1, v2, v3, v4, v5⟩, s2, s3, s4, s5⟩ := hs
  have fin : f (am_rs M (v + 1) 0 (fun k => (M (v + 1) k).tdiv 2) 6) := by
    refine h _ (fun x j y => by rw [am_rs_el y]) ⟨hs0.1, ⟨?_, s2.2⟩, ⟨?_, s3.2⟩, fun k k0 k1 => ?_, pu_lg_dw s5⟩
    · rw [am_rs_el (by omega)]; exact s2.1
    · rw [am_rs_el (by omega)]; exact s3.1
    · rw [am_rs_at k0 (by omega), Int.sub_zero, s4 k k0 k1]
      rfl
  have go : ∀ (n k : Nat), k + n = 6 → am_g 7 9 co_X7_laugh d (am_cv sh_T f) 2 [(2, v), (0, (k : Int))] [] sh_T (am_rs M (v + 1) 0 (fun k => (M (v + 1) k).tdiv 2) k) := by
    intro n
    induction n with
    | zero =>
      intro k hk
      have : k = 6 := by omega
      subst this
      exact bk_X7_laugh_2 ⟨v1, 6, v2, fun _ => am_cv_i fin, fun c => absurd c (by decide)⟩
    | succ n ih =>
      intro k hk
      have b := s5.1 k (by omega) (by omega)
      have e : (w k).tdiv 2 = w k / 2 := Int.tdiv_eq_ediv_of_nonneg b.1
      refine bk_X7_laugh_2 ⟨v1, 6, v2, fun c => by omega, fun c => ⟨v3 _ (by omega) (by omega), ?_, v4 _ (by omega) (by omega), ⟨by omega, by omega⟩, ?_⟩⟩
      · rw [am_rs_out (Or.inr (by omega)), s4 k (by omega) (by omega), e]
        exact ⟨by omega, by omega⟩
      · rw [am_rs_out (j := (k : Int)) (Or.inr (by omega)), am_rs_s (by omega) rfl]
        exact ih (k + 1) (by omega)
  have q := go 6 0 rfl
  rw [am_rs_0] at q
  exact en_X7_laugh (bk_X7_laugh_0 q)
theorem sp_laughs {d : Nat} {M : am_M} {f : am_M → Prop} {r : Int} {D : dm_D} {w : Int → Int} (hd : rg_is M D) (hw : rw_ok M D r w) (h : ∀ M', (∀ x j, ¬ (x = 187 ∧ r ≤ j ∧ j < r + 6) → M' x j = M x j) → rw_ok M' D r (pu_lg w) → f M') : am_cal pg (d + 2) 229 [(2, 152), (0, r)] sh_T M (am_cv sh_T f) := by
  have hn := hd.2.1
  have h6 := hd.1.1
  have hr := hw.1
  have fin : f (am_rs M 187 r (fun k => (ro M r k).tdiv 2) (dN D)) := by
    refine h _ (fun x j y => ?_) ⟨hr, fun k k0 k1 => ?_, pu_lg_dw hw.2.2⟩
    · by_cases e : x = 187
      · subst e
        exact am_rs_out (by omega)
      · rw [am_rs_el e]
    · show am_rs M 187 r (fun k => (ro M r k).tdiv 2) (dN D) 187 (r + k) = (w k).tdiv 2
      by_cases e : k < (dN D : Int)
      · rw [am_rs_at (by omega) (by omega), show r + k - r = k by omega, hw.2.1 k k0 k1]
      · rw [am_rs_out (Or.inr (by omega)), hw.2.2.2 k (by omega) k1]
        have q := hw.2.1 k k0 k1
        rw [hw.2.2.2 k (by omega) k1] at q
        exact q
  have go : ∀ (n k : Nat), k + n = dN D → am_g 12 9 co_X12_laughs (d + 1) (am_cv sh_T f) 2 [(2, 152), (0, r), (0, (k : Int))] [] sh_T (am_rs M 187 r (fun k => (ro M r k).tdiv 2) k) := by
    intro n
    induction n with
    | zero =>
      intro k hk
      have : k = dN D := by omega
      subst this
      refine bk_X12_laughs_2 (sp_dreadMany ?_)
      rw [am_rs_el (b := 174) (by decide), hn]
      exact ⟨fun _ => am_cv_i fin, fun c => by omega⟩
    | succ n ih =>
      intro k hk
      have b := hw.2.2.1 k (by omega) (by omega)
      have e : (w k).tdiv 2 = w k / 2 := Int.tdiv_eq_ediv_of_nonneg b.1
      have ek := hw.2.1 k (by omega) (by omega)
      have ek' : M 187 (r + (k : Int)) = w k := ek
      refine bk_X12_laughs_2 (sp_dreadMany ?_)
      rw [am_rs_el (b := 174) (by decide), hn]
      refine ⟨fun c => by omega, fun c => ⟨⟨by omega, by omega⟩, ⟨by omega, by omega⟩, ?_, ⟨by omega, by omega⟩, ?_⟩⟩
      · rw [am_rs_out (Or.inr (by omega)), ek', e]
        exact ⟨by omega, by omega⟩
      · rw [am_rs_out (j := r + (k : Int)) (Or.inr (by omega)), am_rs_s rfl rfl]
        exact ih (k + 1) (by omega)
  have q := go (dN D) 0 (Nat.zero_add _)
  rw [am_rs_0] at q
  exact en_X12_laughs (bk_X12_laughs_0 q)
