/-! THE CLASS'S TEXT (object 1, its bytes object 2): its smallest readers -/
/-- what holds of it always: its size, its place -/
def tx_ok (M : am_M) : Prop := 0 ≤ M 1 1 ∧ M 1 1 ≤ 1600 ∧ 0 ≤ M 1 2 ∧ M 1 2 ≤ M 1 1
abbrev tx_p (M : am_M) : Int := rd_at (M 2) (M 1 1) (M 1 2)
abbrev tx_c (M : am_M) : Int := rd_see (M 2) (M 1 1) (M 1 2)
abbrev tx_w (M : am_M) : Int := rd_wd (M 2) (M 1 1) (M 1 5) (tx_p M)
theorem tx_p_le {M : am_M} (h : tx_ok M) : M 1 2 ≤ tx_p M ∧ tx_p M ≤ M 1 1 := by
  obtain ⟨h1, h2, -⟩ := rd_at_spec (t := M 2) (e := M 1 1) (M 1 2)
  refine ⟨h1, ?_⟩
  rcases h2 with h2 | h2
  · exact h2
  · show rd_at _ _ _ ≤ _; rw [h2]; exact h.2.2.2
theorem tx_ok_p {M : am_M} (h : tx_ok M) : tx_ok (am_up M 1 2 (tx_p M)) := ⟨h.1, h.2.1, Int.le_trans h.2.2.1 (tx_p_le h).1, (tx_p_le h).2⟩
/-- the byte at a place -/
def rd_by (t : Int → Int) (e i : Int) : Int := if 0 ≤ i ∧ i < e then t i else -1
theorem st_byteAt {d : Nat} {M : am_M} {f : Int → am_M → Prop} {k : Int} (h1 : M 1 1 ≤ 1600) (h : f (rd_by (M 2) (M 1 1) k) M) : am_cal pg (d + 1) 92 [(2, 1), (0, k)] sh_T M (am_c0 sh_T f) := by
  unfold rd_by at h
  refine en_X9_byteAt (bk_X9_byteAt_0 ⟨fun c => am_c0_i ?_, fun c => ⟨fun c2 => am_c0_i ?_, fun c2 => ⟨fun c3 => by omega, fun c3 => ⟨⟨c, c3⟩, am_c0_i ?_⟩⟩⟩⟩)
  · rw [if_neg (by omega)] at h; exact h
  · rw [if_neg (by omega)] at h; exact h
  · rw [if_pos ⟨c, c2⟩] at h; exact h
theorem st_look_g {d : Nat} {f : Int → am_M → Prop} : ∀ (n : Nat) (M : am_M), (M 1 1 - M 1 2).toNat = n → 0 ≤ M 1 2 → M 1 1 ≤ 1600 → f (tx_c M) (am_up M 1 2 (tx_p M)) → am_g 9 0 co_X9_look d (am_c0 sh_T f) 0 [(2, 1)] [] sh_T M := by
  intro n
  induction n with
  | zero =>
    intro M hn h0 h1 h
    have e1 : tx_p M = M 1 2 := rd_at_stop (by omega)
    unfold tx_c rd_see at h
    rw [show rd_at (M 2) (M 1 1) (M 1 2) = M 1 2 from e1, e1, am_up_id, if_neg (by omega)] at h
    exact bk_X9_look_0 ⟨fun _ => am_c0_i h, fun c => by omega⟩
  | succ n ih =>
    intro M hn h0 h1 h
    have go : (M 2 (M 1 2) = 10 ∨ M 2 (M 1 2) = 32) → am_g 9 0 co_X9_look d (am_c0 sh_T f) 0 [(2, 1)] [] sh_T (am_up M 1 2 (M 1 2 + 1)) := by
      intro c
      refine ih _ ?_ ?_ ?_ ?_
      · show (M 1 1 - (M 1 2 + 1)).toNat = n; omega
      · show 0 ≤ M 1 2 + 1; omega
      · exact h1
      · show f (rd_see (M 2) (M 1 1) (M 1 2 + 1)) (am_up (am_up M 1 2 (M 1 2 + 1)) 1 2 (rd_at (M 2) (M 1 1) (M 1 2 + 1)))
        rw [am_up_up]
        unfold tx_c tx_p rd_see at h
        unfold rd_see
        rw [rd_at_go ⟨by omega, c⟩] at h
        exact h
    refine bk_X9_look_0 ⟨fun c => by omega, fun c => ⟨fun c4 => by omega, fun c4 => ⟨⟨h0, by omega⟩, fun c2 => ⟨⟨by omega, by omega⟩, go (Or.inl c2)⟩, fun c2 => ⟨fun c3 => am_c0_i ?_, fun c3 => ⟨⟨by omega, by omega⟩, go (Or.inr c3)⟩⟩⟩⟩⟩
    have e1 : tx_p M = M 1 2 := rd_at_stop (fun q => q.2.elim c2 c3)
    unfold tx_c rd_see at h
    rw [show rd_at (M 2) (M 1 1) (M 1 2) = M 1 2 from e1, e1, am_up_id, if_pos c] at h
    exact h
theorem st_look {d : Nat} {M : am_M} {f : Int → am_M → Prop} (h0 : tx_ok M) (h : f (tx_c M) (am_up M 1 2 (tx_p M))) : am_cal pg (d + 1) 98 [(2, 1)] sh_T M (am_c0 sh_T f) := en_X9_look (st_look_g _ M rfl h0.2.2.1 h0.2.1 h)
theorem st_sees {d : Nat} {M : am_M} {f : Int → am_M → Prop} {c : Int} (h0 : tx_ok M) (h : f (am_b (tx_c M = c)) (am_up M 1 2 (tx_p M))) : am_cal pg (d + 2) 99 [(2, 1), (0, c)] sh_T M (am_c0 sh_T f) :=
  en_X9_sees (bk_X9_sees_0 (st_look h0 ⟨fun q => am_c0_i (by rw [am_b_0 q] at h; exact h), fun q => am_c0_i (by rw [am_b_1 q] at h; exact h)⟩))
theorem st_step {d : Nat} {M : am_M} {f : am_M → Prop} (h0 : tx_ok M) (h : f (am_up M 1 2 (M 1 2 + 1))) : am_cal pg (d + 1) 100 [(2, 1)] sh_T M (am_cv sh_T f) := by
  obtain ⟨h1, h2, h3, h4⟩ := h0
  exact en_X9_step (bk_X9_step_0 ⟨⟨by omega, by omega⟩, am_cv_i h⟩)
/-- the first fault counts -/
def tx_bl (M : am_M) (k p : Int) : am_M := if M 1 3 = 0 then am_up (am_up M 1 3 k) 1 4 p else M
theorem st_blame {d : Nat} {M : am_M} {f : am_M → Prop} {k p : Int} (h : f (tx_bl M k p)) : am_cal pg (d + 1) 96 [(2, 1), (0, k), (0, p)] sh_T M (am_cv sh_T f) := by
  unfold tx_bl at h
  exact en_X9_blame (bk_X9_blame_0 ⟨fun c => am_cv_i (by rw [if_neg c] at h; exact h), fun c => am_cv_i (by rw [if_pos c] at h; exact h)⟩)
abbrev tx_bh (M : am_M) (k : Int) : am_M := tx_bl (am_up M 1 2 (tx_p M)) k (tx_p M)
theorem st_blameHere {d : Nat} {M : am_M} {f : am_M → Prop} {k : Int} (h0 : tx_ok M) (h : f (tx_bh M k)) : am_cal pg (d + 2) 97 [(2, 1), (0, k)] sh_T M (am_cv sh_T f) :=
  en_X9_blameHere (bk_X9_blameHere_0 (st_look h0 (st_blame (am_cv_i h))))
theorem st_failed {d : Nat} {M : am_M} {f : Int → am_M → Prop} (h : f (am_b (¬ M 1 3 = 0)) M) : am_cal pg (d + 1) 95 [(2, 1)] sh_T M (am_c0 sh_T f) :=
  en_X9_failed (bk_X9_failed_0 ⟨fun c => am_c0_i (by rw [am_b_0 (fun z => z c)] at h; exact h), fun c => am_c0_i (by rw [am_b_1 c] at h; exact h)⟩)
theorem st_demand {d : Nat} {M : am_M} {f : am_M → Prop} {c : Int} (h0 : tx_ok M) (h1 : tx_c M = c → f (am_up M 1 2 (tx_p M + 1))) (h2 : ¬ tx_c M = c → f (tx_bh M 1)) : am_cal pg (d + 3) 101 [(2, 1), (0, c)] sh_T M (am_cv sh_T f) := by
  refine en_X9_demand (bk_X9_demand_0 (st_sees h0 ⟨fun q => ?_, fun q => ?_⟩))
  · have q1 := am_b_z.mp q
    refine st_blameHere (tx_ok_p h0) (am_cv_i ?_)
    have := h2 q1
    unfold tx_bh at this ⊢
    rw [show tx_p (am_up M 1 2 (tx_p M)) = tx_p M from rd_at_at, am_up_up]
    exact this
  · have q1 : tx_c M = c := Classical.byContradiction fun z => q (am_b_z.mpr z)
    refine st_step (tx_ok_p h0) (am_cv_i ?_)
    have := h1 q1
    rw [am_up_up]
    exact this
theorem st_isDigit {d : Nat} {M : am_M} {f : Int → am_M → Prop} {x : Int} (h : f (am_b (is_di x = true)) M) : am_cal pg (d + 1) 103 [(0, x)] sh_T M (am_c0 sh_T f) := by
  have e : is_di x = true ↔ (48 ≤ x ∧ x ≤ 57) := by unfold is_di; simp
  exact en_X9_isDigit (bk_X9_isDigit_0 ⟨fun c => am_c0_i (by rw [am_b_0 (fun z => by have := e.mp z; omega)] at h; exact h), fun c => ⟨fun c2 => am_c0_i (by rw [am_b_0 (fun z => by have := e.mp z; omega)] at h; exact h), fun c2 => am_c0_i (by rw [am_b_1 (e.mpr ⟨c, c2⟩)] at h; exact h)⟩⟩)
theorem st_seesDigit {d : Nat} {M : am_M} {f : Int → am_M → Prop} (h0 : tx_ok M) (h : f (am_b (is_di (tx_c M) = true)) (am_up M 1 2 (tx_p M))) : am_cal pg (d + 2) 104 [(2, 1)] sh_T M (am_c0 sh_T f) :=
  en_X9_seesDigit (bk_X9_seesDigit_0 (st_look h0 (st_isDigit ⟨am_b_01, am_c0_i h⟩)))
theorem is_le_iff {c : Int} : is_le c = true ↔ (97 ≤ c ∧ c ≤ 122) := by unfold is_le; simp
theorem st_wordSize_g {d : Nat} {M : am_M} {f : Int → am_M → Prop} (h0 : tx_ok M) (hne : ¬ M 1 2 = M 1 5) : ∀ v : Int, M 1 2 ≤ v → v ≤ M 1 1 → f (v - M 1 2 + rd_les (M 2) (M 1 1) v) M → am_g 9 0 co_X9_wordSize d (am_c0 sh_T f) 5 [(2, 1), (0, v)] [] sh_T M := by
  obtain ⟨h1, h2, h3, h4⟩ := h0
  refine rd_ind (e := M 1 1) fun v ih v0 v1 h => ?_
  have stop : ¬ (v < M 1 1 ∧ is_le (M 2 v) = true) → f (v - M 1 2) M := fun z => by
    rw [rd_les_stop z, Int.add_zero] at h; exact h
  refine bk_X9_wordSize_5 ⟨fun c => absurd c hne, fun _ => ⟨fun c => ⟨⟨by omega, by omega⟩, am_c0_i (stop (by omega))⟩, fun c => ⟨fun c2 => by omega, fun c2 => ⟨⟨by omega, c2⟩, fun c3 => ⟨⟨by omega, by omega⟩, am_c0_i (stop fun z => by have := is_le_iff.mp z.2; omega)⟩, fun c3 => ⟨fun c4 => ⟨⟨by omega, by omega⟩, am_c0_i (stop fun z => by have := is_le_iff.mp z.2; omega)⟩, fun c4 => ⟨⟨by omega, by omega⟩, ih (v + 1) (by omega) (by omega) (by omega) (by omega) ?_⟩⟩⟩⟩⟩⟩
  rw [rd_les_go ⟨c, is_le_iff.mpr ⟨c3, c4⟩⟩] at h
  rw [show v + 1 - M 1 2 + rd_les (M 2) (M 1 1) (v + 1) = v - M 1 2 + (1 + rd_les (M 2) (M 1 1) (v + 1)) by omega]
  exact h
theorem st_wordSize {d : Nat} {M : am_M} {f : Int → am_M → Prop} (h0 : tx_ok M) (h : f (rd_wd (M 2) (M 1 1) (M 1 5) (M 1 2)) M) : am_cal pg (d + 1) 105 [(2, 1)] sh_T M (am_c0 sh_T f) := by
  refine en_X9_wordSize (bk_X9_wordSize_0 ?_)
  unfold rd_wd at h
  by_cases c : M 1 2 = M 1 5
  · rw [if_pos c] at h
    refine bk_X9_wordSize_5 ⟨fun _ => ⟨⟨by omega, by omega⟩, am_c0_i ?_⟩, fun z => absurd c z⟩
    rw [Int.sub_self]; exact h
  · rw [if_neg c] at h
    refine st_wordSize_g h0 c _ (Int.le_refl _) h0.2.2.2 ?_
    rw [Int.sub_self, Int.zero_add]; exact h
/-- the signs that stand from the place on -/
abbrev tx_ch (M : am_M) : Int → Int := fun k => rd_by (M 2) (M 1 1) (M 1 2 + k)
theorem st_wordIn_g {d : Nat} {M : am_M} {f : Int → am_M → Prop} {v1 L : Int} (h0 : tx_ok M) (hs : pg_str v1 ≠ []) (hl : (pg_str v1).length ≤ 1000) : ∀ (n : Nat) (i v3 v4 v5 : Int), ((pg_str v1).length : Int) - i = n → 0 ≤ i → 0 ≤ v3 → v3 ≤ i → 0 ≤ v4 → v4 ≤ i → (v5 = 0 ∨ v5 = 1) → f (wi_go L (tx_ch M) ((pg_str v1).drop i.toNat) v3 v4 (decide (¬ v5 = 0))) M → am_g 9 0 co_X9_wordIn (d + 1) (am_c0 sh_T f) 27 [(2, 1), (2, v1), (0, L), (0, v3), (0, v4), (0, v5), (0, i), (3, 0)] [] sh_T M := by
  obtain ⟨h1, h2, h3, h4⟩ := h0
  intro n
  induction n with
  | zero =>
    intro i v3 v4 v5 hn i0 a0 a1 b0 b1 hv h
    rw [List.drop_eq_nil_iff.mpr (by omega)] at h
    refine bk_X9_wordIn_27 ⟨hs, fun _ => ⟨fun c => bk_X9_wordIn_134 (am_c0_i ?_), fun c => ⟨fun c2 => bk_X9_wordIn_134 (am_c0_i ?_), fun c2 => am_c0_i ?_⟩⟩, fun c => by omega⟩
    · have e : wi_go L (tx_ch M) [] v3 v4 (decide (¬ v5 = 0)) = -1 := if_neg (by simp [c])
      rw [e] at h; exact h
    · have e : wi_go L (tx_ch M) [] v3 v4 (decide (¬ v5 = 0)) = -1 := if_neg (by simp [c2])
      rw [e] at h; exact h
    · have e : wi_go L (tx_ch M) [] v3 v4 (decide (¬ v5 = 0)) = v3 := if_pos (by simp [c, c2])
      rw [e] at h; exact h
  | succ n ih =>
    intro i v3 v4 v5 hn i0 a0 a1 b0 b1 hv h
    have hi : i.toNat < (pg_str v1).length := by omega
    have hg : (pg_str v1).getD i.toNat 0 = (pg_str v1)[i.toNat] := by
      rw [List.getD_eq_getElem?_getD, List.getElem?_eq_getElem hi]; rfl
    rw [List.drop_eq_getElem_cons hi, ← hg] at h
    generalize hc : (pg_str v1).getD i.toNat 0 = c at h
    have en : (i + 1).toNat = i.toNat + 1 := by omega
    have to113 : ∀ v3' v4' v5' : Int, 0 ≤ v3' → v3' ≤ i + 1 → 0 ≤ v4' → v4' ≤ i + 1 → (v5' = 0 ∨ v5' = 1) → f (wi_go L (tx_ch M) ((pg_str v1).drop (i.toNat + 1)) v3' v4' (decide (¬ v5' = 0))) M → am_g 9 0 co_X9_wordIn (d + 1) (am_c0 sh_T f) 113 [(2, 1), (2, v1), (0, L), (0, v3'), (0, v4'), (0, v5'), (0, i), (3, 0)] [] sh_T M := by
      intro v3' v4' v5' z1 z2 z3 z4 z5 hf
      exact bk_X9_wordIn_113 ⟨⟨by omega, by omega⟩, ih (i + 1) v3' v4' v5' (by omega) (by omega) z1 z2 z3 z4 z5 (by rw [en]; exact hf)⟩
    by_cases c32 : c = 32
    · have e0 : wi_go L (tx_ch M) (c :: (pg_str v1).drop (i.toNat + 1)) v3 v4 (decide (¬ v5 = 0)) = if decide (¬ v5 = 0) = true ∧ v4 = L then v3 else wi_go L (tx_ch M) ((pg_str v1).drop (i.toNat + 1)) (v3 + 1) 0 true := if_neg (by simp [c32])
      rw [e0] at h
      have to104 : ¬ (decide (¬ v5 = 0) = true ∧ v4 = L) → am_g 9 0 co_X9_wordIn (d + 1) (am_c0 sh_T f) 104 [(2, 1), (2, v1), (0, L), (0, v3), (3, 0), (3, 0), (0, i), (3, 0)] [] sh_T M := fun q => by
        rw [if_neg q] at h
        exact bk_X9_wordIn_104 ⟨⟨by omega, by omega⟩, to113 (v3 + 1) 0 1 (by omega) (by omega) (by omega) (by omega) (Or.inr rfl) h⟩
      refine bk_X9_wordIn_27 ⟨hs, fun q => by omega, fun _ => ⟨⟨i0, by omega⟩, fun _ => ⟨fun c => to104 (by simp [c]), fun c => ⟨fun c2 => to104 (by simp [c2]), fun c2 => am_c0_i ?_⟩⟩, fun q => absurd (hc.trans c32) q⟩⟩
      rw [if_pos ⟨by simp [c], c2⟩] at h
      exact h
    · have e0 : wi_go L (tx_ch M) (c :: (pg_str v1).drop (i.toNat + 1)) v3 v4 (decide (¬ v5 = 0)) = wi_go L (tx_ch M) ((pg_str v1).drop (i.toNat + 1)) v3 (v4 + 1) (decide (¬ v5 = 0) && decide (v4 < L) && decide (tx_ch M v4 = c)) := if_pos c32
      rw [e0] at h
      have to82 : (decide (¬ v5 = 0) && decide (v4 < L) && decide (tx_ch M v4 = c)) = false → am_g 9 0 co_X9_wordIn (d + 1) (am_c0 sh_T f) 82 [(2, 1), (2, v1), (0, L), (0, v3), (0, v4), (3, 0), (0, i), (3, 0)] [] sh_T M := fun q => by
        rw [q] at h
        exact bk_X9_wordIn_82 ⟨⟨by omega, by omega⟩, to113 v3 (v4 + 1) 0 a0 (by omega) (by omega) (by omega) (Or.inl rfl) (by simpa using h)⟩
      refine bk_X9_wordIn_27 ⟨hs, fun q => by omega, fun _ => ⟨⟨i0, by omega⟩, fun q => absurd (hc.symm.trans q) c32, fun _ => ⟨fun c5 => to82 (by simp [c5]), fun c5 => ⟨fun c2 => to82 ?_, fun c2 => ⟨⟨by omega, by omega⟩, st_byteAt h2 ⟨fun c3 => to82 ?_, fun c3 => ⟨⟨by omega, by omega⟩, to113 v3 (v4 + 1) 1 a0 (by omega) (by omega) (by omega) (Or.inr rfl) ?_⟩⟩⟩⟩⟩⟩⟩
      · have : ¬ v4 < L := by omega
        simp [this]
      · rw [hc] at c3
        have : ¬ tx_ch M v4 = c := c3
        simp [this]
      · rw [hc] at c3
        have q : tx_ch M v4 = c := c3
        have e : (decide (¬ v5 = 0) && decide (v4 < L) && decide (tx_ch M v4 = c)) = decide (¬ (1 : Int) = 0) := by simp [c5, c2, q]
        rw [e] at h
        exact h
/-- which word of a row is here -/
def tx_wi (M : am_M) (v1 : Int) : Int := if tx_w M = 0 then -1 else wi_go (tx_w M) (fun k => rd_by (M 2) (M 1 1) (tx_p M + k)) (pg_str v1) 0 0 true
theorem st_wordIn {d : Nat} {M : am_M} {f : Int → am_M → Prop} {v1 : Int} (h0 : tx_ok M) (hs : pg_str v1 ≠ []) (hl : (pg_str v1).length ≤ 1000) (h : f (tx_wi M v1) (am_up M 1 2 (tx_p M))) : am_cal pg (d + 2) 106 [(2, 1), (2, v1)] sh_T M (am_c0 sh_T f) := by
  unfold tx_wi at h
  refine en_X9_wordIn (bk_X9_wordIn_0 (st_look h0 (st_wordSize (tx_ok_p h0) ?_)))
  show (¬ tx_w M = 0 → _) ∧ (tx_w M = 0 → _)
  refine ⟨fun c => ?_, fun c => am_c0_i ?_⟩
  · rw [if_neg c] at h
    exact st_wordIn_g (tx_ok_p h0) hs hl _ 0 0 0 1 (show ((pg_str v1).length : Int) - 0 = ((pg_str v1).length : Nat) by omega) (Int.le_refl _) (Int.le_refl _) (Int.le_refl _) (Int.le_refl _) (Int.le_refl _) (Or.inr rfl) h
  · rw [if_pos c] at h
    exact h
theorem tx_w_le {M : am_M} (h : tx_ok M) : 0 ≤ tx_w M ∧ tx_p M + tx_w M ≤ M 1 1 := by
  unfold tx_w rd_wd
  have hp := tx_p_le h
  by_cases c : tx_p M = M 1 5
  · rw [if_pos c]; omega
  · rw [if_neg c]
    obtain ⟨h1, h2, -⟩ := rd_les_spec (t := M 2) (e := M 1 1) (tx_p M)
    refine ⟨h1, ?_⟩
    rcases h2 with h2 | h2
    · rw [h2]; omega
    · exact h2
/-- a word is gone over -/
abbrev tx_sk (M : am_M) : am_M := am_up (am_up M 1 2 (tx_p M + tx_w M)) 1 5 (tx_p M + tx_w M)
theorem tx_ok_sk {M : am_M} (h : tx_ok M) : tx_ok (tx_sk M) := by
  have h1 := tx_p_le h
  have h2 := tx_w_le h
  exact ⟨h.1, h.2.1, by show 0 ≤ tx_p M + tx_w M; have := h.2.2.1; omega, h2.2⟩
theorem st_skipWord {d : Nat} {M : am_M} {f : am_M → Prop} (h0 : tx_ok M) (h : f (tx_sk M)) : am_cal pg (d + 2) 107 [(2, 1)] sh_T M (am_cv sh_T f) := by
  have hp := tx_p_le h0
  have hw := tx_w_le h0
  have h00 := h0
  obtain ⟨h1, h2, h3, h4⟩ := h00
  refine en_X9_skipWord (bk_X9_skipWord_0 (st_look h0 (st_wordSize (tx_ok_p h0) ⟨?_, am_cv_i ?_⟩)))
  · show am_r (tx_p M + tx_w M)
    exact ⟨by omega, by omega⟩
  · show f (am_up (am_up (am_up M 1 2 (tx_p M)) 1 2 (tx_p M + tx_w M)) 1 5 (tx_p M + tx_w M))
    rw [am_up_up]
    exact h
theorem tx_sk_p {M : am_M} (h : ¬ M 1 5 = tx_p M ∨ True) : tx_sk (am_up M 1 2 (tx_p M)) = tx_sk M := by
  unfold tx_sk
  rw [show tx_p (am_up M 1 2 (tx_p M)) = tx_p M from rd_at_at, am_up_up]
  have : tx_w (am_up M 1 2 (tx_p M)) = tx_w M := by
    unfold tx_w
    rw [show tx_p (am_up M 1 2 (tx_p M)) = tx_p M from rd_at_at]
    rfl
  rw [this]
theorem st_takeWord {d : Nat} {M : am_M} {f : Int → am_M → Prop} {v1 : Int} (h0 : tx_ok M) (hs : pg_str v1 ≠ []) (hl : (pg_str v1).length ≤ 1000) (h1 : ¬ tx_wi M v1 = -1 → f 1 (tx_sk M)) (h2 : tx_wi M v1 = -1 → f 0 (am_up M 1 2 (tx_p M))) : am_cal pg (d + 3) 108 [(2, 1), (2, v1)] sh_T M (am_c0 sh_T f) :=
  en_X9_takeWord (bk_X9_takeWord_0 (st_wordIn h0 hs hl ⟨fun c => st_skipWord (tx_ok_p h0) (am_c0_i (by rw [tx_sk_p (Or.inr trivial)]; exact h1 c)), fun c => am_c0_i (h2 c)⟩))
theorem tx_bh_p {M : am_M} {k : Int} : tx_bh (am_up M 1 2 (tx_p M)) k = tx_bh M k := by
  unfold tx_bh
  rw [show tx_p (am_up M 1 2 (tx_p M)) = tx_p M from rd_at_at, am_up_up]
theorem st_demandWord {d : Nat} {M : am_M} {f : am_M → Prop} {v1 : Int} (h0 : tx_ok M) (hs : pg_str v1 ≠ []) (hl : (pg_str v1).length ≤ 1000) (h1 : ¬ tx_wi M v1 = -1 → f (tx_sk M)) (h2 : tx_wi M v1 = -1 → f (tx_bh M 1)) : am_cal pg (d + 4) 109 [(2, 1), (2, v1)] sh_T M (am_cv sh_T f) :=
  en_X9_demandWord (bk_X9_demandWord_0 (st_takeWord h0 hs hl (fun c => ⟨fun _ => am_cv_i (h1 c), fun z => by cases z⟩) (fun c => ⟨fun z => absurd rfl z, fun _ => st_blameHere (tx_ok_p h0) (am_cv_i (by rw [tx_bh_p]; exact h2 c))⟩)))
theorem st_demandEnd {d : Nat} {M : am_M} {f : am_M → Prop} (h0 : tx_ok M) (h1 : tx_c M = -1 → f (am_up M 1 2 (tx_p M))) (h2 : ¬ tx_c M = -1 → f (tx_bh M 1)) : am_cal pg (d + 3) 102 [(2, 1)] sh_T M (am_cv sh_T f) :=
  en_X9_demandEnd (bk_X9_demandEnd_0 (st_look h0 ⟨fun c => am_cv_i (h1 c), fun c => st_blameHere (tx_ok_p h0) (am_cv_i (by rw [tx_bh_p]; exact h2 c))⟩))
theorem tx_own_s : pg_str 1000010 ≠ [] ∧ (pg_str 1000010).length ≤ 1000 := by decide +kernel
theorem tx_bl_bad {M : am_M} {k p : Int} (hk : k ≠ 0) : ¬ (tx_bl M k p) 1 3 = 0 := by
  unfold tx_bl
  by_cases c : M 1 3 = 0
  · rw [if_pos c]; exact hk
  · rw [if_neg c]; exact c
theorem tx_bl_12 {M : am_M} {k p : Int} : (tx_bl M k p) 1 2 = M 1 2 ∧ (tx_bl M k p) 1 1 = M 1 1 ∧ (tx_bl M k p) 1 5 = M 1 5 ∧ ∀ a, a ≠ 1 → (tx_bl M k p) a = M a := by
  unfold tx_bl
  by_cases c : M 1 3 = 0
  · rw [if_pos c]
    refine ⟨rfl, rfl, rfl, fun a ha => ?_⟩
    funext j
    rw [am_up_el (by omega), am_up_el (by omega)]
  · rw [if_neg c]; exact ⟨rfl, rfl, rfl, fun _ _ => rfl⟩
theorem tx_ok_bl {M : am_M} {k p : Int} (h : tx_ok M) : tx_ok (tx_bl M k p) := by
  obtain ⟨h1, h2, -⟩ := tx_bl_12 (M := M) (k := k) (p := p)
  unfold tx_ok
  rw [h1, h2]
  exact h
theorem st_takeName {d : Nat} {M : am_M} {f : Int → am_M → Prop} (h0 : tx_ok M)
    (h1 : M 1 3 = 0 → ¬ tx_w M = 0 → tx_wi M 1000010 = -1 → tx_w M ≤ 6 → f 1 (am_up (am_up (am_up (am_up (am_up M 1 2 (tx_p M)) 1 6 (tx_p M)) 1 7 (tx_w M)) 1 2 (tx_p M + tx_w M)) 1 5 (tx_p M + tx_w M)))
    (h2 : (tx_w M = 0 ∨ ¬ tx_wi M 1000010 = -1) → f 0 (tx_bl (am_up M 1 2 (tx_p M)) 1 (tx_p M)))
    (h3 : ¬ tx_w M = 0 → tx_wi M 1000010 = -1 → 6 < tx_w M → f 0 (tx_bl (am_up M 1 2 (tx_p M)) 1 (tx_p M + 6)))
    (h4 : ¬ M 1 3 = 0 → ¬ tx_w M = 0 → tx_wi M 1000010 = -1 → tx_w M ≤ 6 → f 0 (am_up M 1 2 (tx_p M))) : am_cal pg (d + 3) 110 [(2, 1)] sh_T M (am_c0 sh_T f) := by
  have hp := tx_p_le h0
  have hw := tx_w_le h0
  have h00 := h0
  obtain ⟨z1, z2, z3, z4⟩ := h00
  have bad : ∀ M', ¬ M' 1 3 = 0 → f 0 M' → ∀ v1, am_g 9 5 co_X9_takeName (d + 2) (am_c0 sh_T f) 50 [(2, 1), (0, v1)] [] sh_T M' := fun M' q hf v1 => bk_X9_takeName_50 (st_failed ⟨fun c => absurd (am_b_z.mp c) (fun z => z q), fun _ => am_c0_i hf⟩)
  have to24 : (tx_w M = 0 ∨ ¬ tx_wi M 1000010 = -1) → ∀ v1, am_g 9 5 co_X9_takeName (d + 2) (am_c0 sh_T f) 24 [(2, 1), (0, v1)] [] sh_T (am_up M 1 2 (tx_p M)) := fun q v1 => bk_X9_takeName_24 (st_blameHere (tx_ok_p h0) (by
    rw [tx_bh_p]
    exact bad _ (tx_bl_bad (by decide)) (h2 q) v1))
  refine en_X9_takeName (bk_X9_takeName_0 (st_look h0 (st_wordSize (tx_ok_p h0) ?_)))
  show (tx_w M = 0 → _) ∧ (¬ tx_w M = 0 → _)
  refine ⟨fun c => to24 (Or.inl c) _, fun c => st_wordIn (tx_ok_p h0) tx_own_s.1 tx_own_s.2 ?_⟩
  have ew : tx_wi (am_up M 1 2 (tx_p M)) 1000010 = tx_wi M 1000010 := by
    unfold tx_wi
    have : tx_w (am_up M 1 2 (tx_p M)) = tx_w M := by
      unfold tx_w
      rw [show tx_p (am_up M 1 2 (tx_p M)) = tx_p M from rd_at_at]
      rfl
    rw [this, show tx_p (am_up M 1 2 (tx_p M)) = tx_p M from rd_at_at]
    rfl
  rw [ew, show tx_p (am_up M 1 2 (tx_p M)) = tx_p M from rd_at_at, am_up_up]
  refine ⟨fun c1 => ⟨fun c2 => ?_, fun c2 => ⟨⟨by show -2147483648 ≤ tx_p M + 6; omega, by show tx_p M + 6 < _; omega⟩, st_blame ?_⟩⟩, fun c1 => to24 (Or.inr c1) _⟩
  · by_cases q : M 1 3 = 0
    · refine bk_X9_takeName_50 (st_failed ⟨fun _ => ⟨(show am_r (tx_p M + tx_w M) from ⟨by omega, by omega⟩), am_c0_i (h1 q c c1 c2)⟩, fun z => absurd (am_b_0 (fun z => z q)) z⟩)
    · exact bad (am_up M 1 2 (tx_p M)) q (h4 q c c1 c2) _
  · exact bad _ (tx_bl_bad (by decide)) (h3 c c1 c2) _
/-- the digits that are taken, four at most: their value, where they end -/
def rd_num (t : Int → Int) (e : Int) : Nat → Int → Int → Int × Int
  | 0, i, v => (v, i)
  | n + 1, i, v => if is_di (rd_by t e i) = true then rd_num t e n (i + 1) (10 * v + t i - 48) else (v, i)
theorem rd_by_di {t : Int → Int} {e i : Int} (h : is_di (rd_by t e i) = true) : 0 ≤ i ∧ i < e ∧ rd_by t e i = t i ∧ 48 ≤ t i ∧ t i ≤ 57 := by
  unfold rd_by at h ⊢
  unfold is_di at h
  by_cases c : 0 ≤ i ∧ i < e
  · rw [if_pos c] at h ⊢
    simp at h
    exact ⟨c.1, c.2, rfl, h.1, h.2⟩
  · rw [if_neg c] at h
    simp at h
theorem rd_num_le {t : Int → Int} {e : Int} : ∀ (n : Nat) (i v : Int), i ≤ (rd_num t e n i v).2 ∧ ((rd_num t e n i v).2 ≤ e ∨ (rd_num t e n i v).2 = i) ∧ (0 ≤ v → 0 ≤ (rd_num t e n i v).1)
  | 0, i, v => ⟨Int.le_refl _, Or.inr rfl, fun h => h⟩
  | n + 1, i, v => by
    unfold rd_num
    by_cases c : is_di (rd_by t e i) = true
    · rw [if_pos c]
      obtain ⟨c1, c2, c3, c4, c5⟩ := rd_by_di c
      obtain ⟨h1, h2, h3⟩ := rd_num_le (t := t) (e := e) n (i + 1) (10 * v + t i - 48)
      refine ⟨by omega, Or.inl ?_, fun hv => h3 (by omega)⟩
      rcases h2 with h2 | h2 <;> omega
    · rw [if_neg c]
      exact ⟨Int.le_refl _, Or.inr rfl, fun h => h⟩
/-- behind the digits: what is wrong with them -/
def tx_nb (M : am_M) (g p v : Int) : am_M := if is_di (rd_by (M 2) (M 1 1) (M 1 2)) = true then tx_bl M 1 (M 1 2) else if g < v then tx_bl M 2 p else M
theorem st_num_g {d : Nat} {f : Int → am_M → Prop} {g p : Int} : ∀ (n : Nat) (M : am_M) (v i : Int), 4 - i = (n : Int) → 0 ≤ i → tx_ok M → 0 ≤ v → (i = 0 → v ≤ 0) → (i = 1 → v ≤ 9) → (i = 2 → v ≤ 99) → (i = 3 → v ≤ 999) → f (rd_num (M 2) (M 1 1) n (M 1 2) v).1 (am_up (tx_nb (am_up M 1 2 (rd_num (M 2) (M 1 1) n (M 1 2) v).2) g p (rd_num (M 2) (M 1 1) n (M 1 2) v).1) 1 5 (rd_num (M 2) (M 1 1) n (M 1 2) v).2) → am_g 9 0 co_X9_takeNumber (d + 1) (am_c0 sh_T f) 35 [(2, 1), (0, g), (0, p), (0, v), (0, i)] [] sh_T M := by
  intro n
  have fin : ∀ (M : am_M) (v : Int), tx_ok M → f v (am_up (tx_nb M g p v) 1 5 (M 1 2)) → am_g 9 0 co_X9_takeNumber (d + 1) (am_c0 sh_T f) 88 [(2, 1), (0, g), (0, p), (0, v), (3, 0)] [] sh_T M := by
    intro M v hM h
    unfold tx_nb at h
    refine bk_X9_takeNumber_88 (st_byteAt hM.2.1 (st_isDigit ⟨fun c => ?_, fun c => ?_⟩))
    · rw [if_neg (am_b_z.mp c)] at h
      refine ⟨fun c2 => bk_X9_takeNumber_125 (am_c0_i ?_), fun c2 => st_blame (bk_X9_takeNumber_125 (am_c0_i ?_))⟩
      · rw [if_neg (by omega)] at h; exact h
      · rw [if_pos c2] at h
        rw [tx_bl_12.1]; exact h
    · have c' : is_di (rd_by (M 2) (M 1 1) (M 1 2)) = true := Classical.byContradiction fun z => c (am_b_z.mpr z)
      rw [if_pos c'] at h
      refine st_blame (bk_X9_takeNumber_125 (am_c0_i ?_))
      rw [tx_bl_12.1]; exact h
  induction n with
  | zero =>
    intro M v i hi i0 hM v0 _ _ _ _ h
    refine bk_X9_takeNumber_35 ⟨fun _ => fin M v hM ?_, fun c => by omega⟩
    have h : f v (am_up (tx_nb (am_up M 1 2 (M 1 2)) g p v) 1 5 (M 1 2)) := h
    rw [am_up_id] at h
    exact h
  | succ n ih =>
    intro M v i hi i0 hM v0 w0 w1 w2 w3 h
    obtain ⟨z1, z2, z3, z4⟩ := hM
    refine bk_X9_takeNumber_35 ⟨fun c => by omega, fun _ => st_byteAt z2 (st_isDigit ⟨fun c => ?_, fun c => ?_⟩)⟩
    · refine fin M v ⟨z1, z2, z3, z4⟩ ?_
      have e : rd_num (M 2) (M 1 1) (n + 1) (M 1 2) v = (v, M 1 2) := if_neg (am_b_z.mp c)
      rw [e] at h
      have h : f v (am_up (tx_nb (am_up M 1 2 (M 1 2)) g p v) 1 5 (M 1 2)) := h
      rw [am_up_id] at h
      exact h
    · have c' : is_di (rd_by (M 2) (M 1 1) (M 1 2)) = true := Classical.byContradiction fun z => c (am_b_z.mpr z)
      obtain ⟨c1, c2, c3, c4, c5⟩ := rd_by_di c'
      have e : rd_num (M 2) (M 1 1) (n + 1) (M 1 2) v = rd_num (M 2) (M 1 1) n (M 1 2 + 1) (10 * v + M 2 (M 1 2) - 48) := if_pos c'
      rw [e] at h
      have hv : v ≤ 999 := by omega
      refine ⟨⟨by omega, by omega⟩, st_byteAt z2 ?_⟩
      rw [c3]
      refine ⟨⟨by omega, by omega⟩, ⟨by omega, by omega⟩, ⟨by omega, by omega⟩, ⟨by omega, by omega⟩, ih _ _ _ (by omega) (by omega) ⟨z1, z2, by show 0 ≤ M 1 2 + 1; omega, by show M 1 2 + 1 ≤ M 1 1; omega⟩ (by omega) (by omega) (fun q => ?_) (fun q => ?_) (fun q => ?_) ?_⟩
      · have := w0 (by omega); omega
      · have := w1 (by omega); omega
      · have := w2 (by omega); omega
      · show f (rd_num (M 2) (M 1 1) n (M 1 2 + 1) (10 * v + M 2 (M 1 2) - 48)).1 (am_up (tx_nb (am_up (am_up M 1 2 (M 1 2 + 1)) 1 2 (rd_num (M 2) (M 1 1) n (M 1 2 + 1) (10 * v + M 2 (M 1 2) - 48)).2) g p (rd_num (M 2) (M 1 1) n (M 1 2 + 1) (10 * v + M 2 (M 1 2) - 48)).1) 1 5 (rd_num (M 2) (M 1 1) n (M 1 2 + 1) (10 * v + M 2 (M 1 2) - 48)).2)
        rw [am_up_up]
        exact h
abbrev tx_nm (M : am_M) : Int × Int := rd_num (M 2) (M 1 1) 4 (tx_p M) 0
theorem st_takeNumber {d : Nat} {M : am_M} {f : Int → am_M → Prop} {g : Int} (h0 : tx_ok M)
    (h1 : (¬ is_di (tx_c M) = true ∨ tx_p M = M 1 5) → f 0 (tx_bl (am_up M 1 2 (tx_p M)) 1 (tx_p M)))
    (h2 : is_di (tx_c M) = true → ¬ tx_p M = M 1 5 → f (tx_nm M).1 (am_up (tx_nb (am_up M 1 2 (tx_nm M).2) g (tx_p M) (tx_nm M).1) 1 5 (tx_nm M).2)) : am_cal pg (d + 3) 111 [(2, 1), (0, g)] sh_T M (am_c0 sh_T f) := by
  have to18 : (¬ is_di (tx_c M) = true ∨ tx_p M = M 1 5) → am_g 9 0 co_X9_takeNumber (d + 2) (am_c0 sh_T f) 18 [(2, 1), (3, 0), (3, 0), (3, 0), (3, 0)] [] sh_T (am_up M 1 2 (tx_p M)) := fun q => bk_X9_takeNumber_18 (st_blameHere (tx_ok_p h0) (am_c0_i (by rw [tx_bh_p]; exact h1 q)))
  refine en_X9_takeNumber (bk_X9_takeNumber_0 (st_seesDigit h0 ⟨fun c => to18 (Or.inl (am_b_z.mp c)), fun c => ?_⟩))
  have c' : is_di (tx_c M) = true := Classical.byContradiction fun z => c (am_b_z.mpr z)
  refine ⟨fun c2 => ?_, fun c2 => to18 (Or.inr c2)⟩
  refine st_num_g 4 _ 0 0 (by omega) (by omega) (tx_ok_p h0) (by omega) (by omega) (by omega) (by omega) (by omega) ?_
  show f (tx_nm M).1 (am_up (tx_nb (am_up (am_up M 1 2 (tx_p M)) 1 2 (tx_nm M).2) g (tx_p M) (tx_nm M).1) 1 5 (tx_nm M).2)
  rw [am_up_up]
  exact h2 c' c2
