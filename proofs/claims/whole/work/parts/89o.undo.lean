/-! UNDO, SEED -/
theorem ac_G_tail {G : Int → Int} {h : ac_H} : ∀ k : Nat, ac_G (ac_G G h 1) (fun i => h (i + 1)) k = ac_G G h (k + 1)
  | 0 => rfl
  | k + 1 => by
    show pu_up (ac_G (ac_G G h 1) (fun i => h (i + 1)) k) (h (k + 1)).1 (h (k + 1)).2.1 = pu_up (ac_G G h (k + 1)) (h (k + 1)).1 (h (k + 1)).2.1
    rw [ac_G_tail k]
theorem ac_W_tail {W : Int → Int → Int} {h : ac_H} : ∀ k : Nat, ac_W (ac_W W h 1) (fun i => h (i + 1)) k = ac_W W h (k + 1)
  | 0 => rfl
  | k + 1 => by
    show pw_up (ac_W (ac_W W h 1) (fun i => h (i + 1)) k) (h (k + 1)).1 (h (k + 1)).2.2 = pw_up (ac_W W h (k + 1)) (h (k + 1)).1 (h (k + 1)).2.2
    rw [ac_W_tail k]
/-- the class has taken back the newest act: the sleeper a is again as he was -/
def uc_ (D : dm_D) (a g : Int) (w : Int → Int) (M M1 : am_M) : Prop := M1 46 1 = (if 0 < M 46 1 then M 46 1 - 1 else 19) ∧ M1 46 2 = M 46 2 - 1 ∧ sm_ok M1 D (37 + 1 + 2 * a) a g w ∧ ∀ x j, ¬ (x = 46 ∧ (j = 1 ∨ j = 2)) → ¬ x = 37 + 1 + 2 * a → ¬ x = 37 + 1 + 2 * a + 1 → M1 x j = M x j
theorem st_takeBack {d : Nat} {M : am_M} {f : am_M → Prop} {D : dm_D} {a g : Int} {w : Int → Int} (h1 : 0 ≤ M 46 1 ∧ M 46 1 < 20) (h2 : 0 < M 46 2 ∧ M 46 2 ≤ 20) (hs : sm_ok M D (47 + 1 + 2 * (if 0 < M 46 1 then M 46 1 - 1 else 19)) a g w) (h : ∀ M1, uc_ D a g w M M1 → f M1) : am_cal pg (d + 2) 3 [(2, 46), (2, 37)] sh_T M (am_cv sh_T f) := by
  have ha := hs.2.1.2
  obtain ⟨s, es⟩ : ∃ s : Int, s = (if 0 < M 46 1 then M 46 1 - 1 else 19) := ⟨_, rfl⟩
  have s20 : 0 ≤ s ∧ s < 20 := by rw [es]; split <;> omega
  rw [← es] at hs
  have key : am_cal pg (d + 1) 316 [(0, M 46 2 - 1), (0, 0)] sh_T (am_up M 46 1 s) (am_c0 sh_T fun x4 M4 => ((20 ≤ M4 46 1 → am_cv sh_T f (none, sh_T, am_up M4 46 2 x4)) ∧ (M4 46 1 < 20 → (0 ≤ M4 46 1 ∧ M4 46 1 < 20) ∧ am_ob sh_T 7 (47 + 1 + 2 * (M4 46 1)) ∧ (((am_up M4 46 2 x4) (47 + 1 + 2 * (M4 46 1)) 1 < 0 → am_cv sh_T f (none, sh_T, am_up M4 46 2 x4)) ∧ (0 ≤ (am_up M4 46 2 x4) (47 + 1 + 2 * (M4 46 1)) 1 → ∃ n8 : Nat, am_alen pg sh_T 37 = some n8 ∧ (((n8 : Int) ≤ (am_up M4 46 2 x4) (47 + 1 + 2 * (M4 46 1)) 1 → am_cv sh_T f (none, sh_T, am_up M4 46 2 x4)) ∧ ((am_up M4 46 2 x4) (47 + 1 + 2 * (M4 46 1)) 1 < (n8 : Int) → am_in pg sh_T 4 37 ((am_up M4 46 2 x4) (47 + 1 + 2 * (M4 46 1)) 1) ∧ am_ob sh_T 7 (37 + 1 + 2 * ((am_up M4 46 2 x4) (47 + 1 + 2 * (M4 46 1)) 1)) ∧ am_cal pg (d + 1) 71 [(2, 37 + 1 + 2 * ((am_up M4 46 2 x4) (47 + 1 + 2 * (M4 46 1)) 1)), (2, 47 + 1 + 2 * (M4 46 1))] sh_T (am_up M4 46 2 x4) (am_cv sh_T fun M13 => am_cv sh_T f (none, sh_T, M13))))))))) := by
    refine st_max ?_
    rw [am_up_at]
    obtain ⟨c, ec⟩ : ∃ c : Int, c = (if M 46 2 - 1 < 0 then 0 else M 46 2 - 1) := ⟨_, rfl⟩
    have ec' : c = M 46 2 - 1 := by rw [ec, if_neg (by omega)]
    rw [← ec]
    have e1 : am_up (am_up M 46 1 s) 46 2 c (47 + 1 + 2 * s) 1 = a := by
      rw [am_up_el (by omega), am_up_el (by omega)]; exact hs.2.1.1
    have sS : sm_ok (am_up (am_up M 46 1 s) 46 2 c) D (47 + 1 + 2 * s) a g w := sm_ok_fr ((am_up_el (by omega)).trans (am_up_el (by omega))) ((am_up_el (by omega)).trans (am_up_el (by omega))) (fun j => (am_up_el (by omega)).trans (am_up_el (by omega))) hs
    rw [e1]
    refine ⟨fun y => by omega, fun _ => ⟨s20, hs.1.1, fun y => by omega, fun _ => ⟨4, rfl, fun y => by omega, fun _ => ⟨ia_37 ha.1 ha.2.1, (sl_row_37 ha.1 ha.2.1).1, st_copy (sl_row_37 ha.1 ha.2.1) hs.1 (by omega) (by omega) (by omega) (am_cv_i (h _ ⟨?_, ?_, cp_ok (sl_row_37 ha.1 ha.2.1) sS, fun x j y y2 y3 => ?_⟩))⟩⟩⟩⟩
    · rw [cp_fr (by omega) (by omega), am_up_el (by omega), am_up_at]; exact es
    · rw [cp_fr (by omega) (by omega), am_up_at]; exact ec'
    · rw [cp_fr y2 y3, am_up_el (by omega), am_up_el (by omega)]
  refine en_X0_takeBack (bk_X0_takeBack_0 ⟨fun y => ⟨⟨by omega, by omega⟩, ⟨by omega, by omega⟩, ?_⟩, fun y => ⟨⟨by omega, by omega⟩, ?_⟩⟩)
  · rw [if_pos y] at es
    rw [es] at key
    exact key
  · rw [if_neg (by omega)] at es
    rw [es] at key
    exact key
theorem sp_undo_21 {d : Nat} {M : am_M} {f : Int → am_M → Prop} (h1 : 0 ≤ M 152 59 ∧ M 152 59 < 20) (h2 : 0 < M 152 58 ∧ M 152 58 ≤ 20) (h : f 1 (am_up (am_up (am_rs M 186 0 (fun j => M 191 (28 * M 152 59 + j)) 28) 152 59 (if 0 < M 152 59 then M 152 59 - 1 else 19)) 152 58 (M 152 58 - 1))) : am_g 12 5 co_X12_undo d (am_c0 sh_T f) 21 [(2, 152), (0, 0)] [] sh_T M := by
  have go : ∀ (n k : Nat), k + n = 28 → am_g 12 5 co_X12_undo d (am_c0 sh_T f) 21 [(2, 152), (0, (k : Int))] [] sh_T (am_rs M 186 0 (fun j => M 191 (28 * M 152 59 + j)) k) := by
    intro n
    induction n with
    | zero =>
      intro k hk
      have e : k = 28 := by omega
      subst e
      have e9 : am_rs M 186 0 (fun j => M 191 (28 * M 152 59 + j)) 28 152 59 = M 152 59 := by rw [am_rs_el (by decide)]
      have e8 : am_rs M 186 0 (fun j => M 191 (28 * M 152 59 + j)) 28 152 58 = M 152 58 := by rw [am_rs_el (by decide)]
      refine bk_X12_undo_21 ⟨fun _ => ?_, fun z => absurd z (by decide)⟩
      rw [e9, e8]
      refine ⟨⟨by omega, by omega⟩, ⟨by omega, by omega⟩, ⟨by omega, by omega⟩, am_c0_i ?_⟩
      have em : (M 152 59 + 20 - 1).tmod 20 = (if 0 < M 152 59 then M 152 59 - 1 else 19) := by
        rw [Int.tmod_eq_emod_of_nonneg (by omega)]
        split <;> omega
      rw [em]
      exact h
    | succ n ih =>
      intro k hk
      have e9 : am_rs M 186 0 (fun j => M 191 (28 * M 152 59 + j)) k 152 59 = M 152 59 := by rw [am_rs_el (by decide)]
      have e1 : am_rs M 186 0 (fun j => M 191 (28 * M 152 59 + j)) k 191 = M 191 := by rw [am_rs_el (by decide)]
      refine bk_X12_undo_21 ⟨fun z => by omega, fun _ => ?_⟩
      rw [e9, e1]
      refine ⟨⟨by omega, by omega⟩, ⟨by omega, by omega⟩, ⟨by omega, by omega⟩, ⟨by omega, by omega⟩, ⟨by omega, by omega⟩, ?_⟩
      rw [am_rs_s (by omega) rfl]
      exact ih (k + 1) (by omega)
  have q := go 28 0 rfl
  rw [am_rs_0] at q
  exact q
theorem ac_undo {d n : Nat} {M : am_M} {D : dm_D} {G : Int → Int} {W : Int → Int → Int} (hn : n < 600) (h : at_ok n M D G W) : tr_two (d + 7) 151 265 [] M (at_P n M D) := by
  obtain ⟨m, hh, c1, c2, c3, c4, c5⟩ := h.2.1
  obtain ⟨r1, r2, r3, r4, r5, r6, r7, r8⟩ := re_bt (k := 3) hn h (by decide)
  have r54 := r5 3 (by decide) (by decide)
  refine en_X11_undo (bk_X11_undo_0 ⟨fun y => ?_, fun y => ?_⟩)
  · have hm : 0 < m := by omega
    obtain ⟨p1, p2⟩ := c5 0 hm
    have es : (M 46 1 - 1 - ((0 : Nat) : Int)) % 20 = (if 0 < M 46 1 then M 46 1 - 1 else 19) := by split <;> omega
    have en : (M 152 59 - ((0 : Nat) : Int)) % 20 = M 152 59 := by omega
    rw [es] at p1
    rw [en] at p2
    refine st_takeBack (a := (hh 0).1) (g := (hh 0).2.1) (w := (hh 0).2.2) c3 (by omega) p1 (fun M1 u1 => am_c0_i ?_)
    have ha := p1.2.1.2
    obtain ⟨u2, u3, u4, u5⟩ := u1
    have fr : ∀ x j, 46 ≤ x → ¬ (x = 46 ∧ (j = 1 ∨ j = 2)) → M1 x j = M x j := fun x j z z2 => u5 x j z2 (by omega) (by omega)
    have e58 : M1 152 58 = M 152 58 := fr _ _ (by omega) (by omega)
    have e59 : M1 152 59 = M 152 59 := fr _ _ (by omega) (by omega)
    refine ⟨fun j => fr _ _ (by omega) (by omega), en_X12_undo (bk_X12_undo_0 ⟨fun z => ?_, fun z => by omega⟩)⟩
    refine sp_undo_21 (by omega) (by omega) ⟨rfl, ?_⟩
    have q186 : ∀ j : Int, 0 ≤ j → j < 28 → am_up (am_up (am_rs M1 186 0 (fun j => M1 191 (28 * M1 152 59 + j)) 28) 152 59 (if 0 < M1 152 59 then M1 152 59 - 1 else 19)) 152 58 (M1 152 58 - 1) 186 j = M 191 (28 * M 152 59 + j) := fun j j0 j1 => by
      rw [am_up_el (by omega), am_up_el (by omega), am_rs_at j0 (by omega)]
      show M1 191 (28 * M1 152 59 + (j - 0)) = _
      rw [e59, Int.sub_zero]
      exact fr _ _ (by omega) (by omega)
    have q59 : am_up (am_up (am_rs M1 186 0 (fun j => M1 191 (28 * M1 152 59 + j)) 28) 152 59 (if 0 < M1 152 59 then M1 152 59 - 1 else 19)) 152 58 (M1 152 58 - 1) 152 59 = (if 0 < M 152 59 then M 152 59 - 1 else 19) := by
      rw [am_up_el (by omega), am_up_at, e59]
    have q58 : am_up (am_up (am_rs M1 186 0 (fun j => M1 191 (28 * M1 152 59 + j)) 28) 152 59 (if 0 < M1 152 59 then M1 152 59 - 1 else 19)) 152 58 (M1 152 58 - 1) 152 58 = M 152 58 - 1 := by
      rw [am_up_at, e58]
    have qel : ∀ x j, ¬ x = 186 → ¬ (x = 152 ∧ (j = 58 ∨ j = 59)) → am_up (am_up (am_rs M1 186 0 (fun j => M1 191 (28 * M1 152 59 + j)) 28) 152 59 (if 0 < M1 152 59 then M1 152 59 - 1 else 19)) 152 58 (M1 152 58 - 1) x j = M1 x j := fun x j z z2 => by
      rw [am_up_el (by omega), am_up_el (by omega), am_rs_el z]
    generalize am_up (am_up (am_rs M1 186 0 (fun j => M1 191 (28 * M1 152 59 + j)) 28) 152 59 (if 0 < M1 152 59 then M1 152 59 - 1 else 19)) 152 58 (M1 152 58 - 1) = M2 at q186 q59 q58 qel ⊢
    obtain ⟨b1, b2, b3, b4, b5⟩ := h.1
    have hcc := b1.1
    have hcr := dm_range b1
    have all : ∀ x j, ¬ (x = 46 ∧ (j = 1 ∨ j = 2)) → ¬ x = 37 + 1 + 2 * (hh 0).1 → ¬ x = 37 + 1 + 2 * (hh 0).1 + 1 → ¬ x = 186 → ¬ (x = 152 ∧ (j = 58 ∨ j = 59)) → M2 x j = M x j := fun x j z z2 z3 z4 z5 => (qel x j z4 z5).trans (u5 x j z z2 z3)
    have e0 : M2 0 4 = M 0 4 := all _ _ (by omega) (by omega) (by omega) (by omega) (by omega)
    have e174 : ∀ j, M2 174 j = M 174 j := fun j => all _ _ (by omega) (by omega) (by omega) (by omega) (by omega)
    have lo := h.2.2.2
    have n1 : M2 46 1 = (if 0 < M 46 1 then M 46 1 - 1 else 19) := (qel 46 1 (by omega) (by omega)).trans u2
    refine ⟨⟨ac_G G hh 1, ac_W W hh 1, ⟨?_, rg_is_fr (fun x j x1 x2 => all x j (by omega) (by omega) (by omega) (by omega) (by omega)) b2, ?_, ?_, fun b hb0 hb1 => ?_⟩, ⟨m - 1, fun i => hh (i + 1), by omega, ⟨?_, ?_⟩, ?_, ?_, fun k hk => ?_⟩, fun i i0 i1 => ?_, ?_⟩, fun x j y => ?_⟩
    · rw [e0]
      exact dm_ok_fr (fun x j x1 x2 x3 x4 x5 x6 => all x j (by omega) (by omega) (by omega) (by omega) (by omega)) b1
    · rw [e0, e174, all (M 0 4 + 2) 1 (by omega) (by omega) (by omega) (by omega) (by omega)]; exact b3
    · rw [e0, e174, all (M 0 4 + 2) 2 (by omega) (by omega) (by omega) (by omega) (by omega)]; exact b4
    · obtain ⟨z1, z2⟩ := p2 b hb0 hb1
      obtain ⟨z3, z4⟩ := b5 b hb0 hb1
      have w1 : M2 186 (7 * b) = ac_G G hh 1 b := by rw [q186 _ (by omega) (by omega)]; exact z1
      have w2 : ∀ k : Int, 0 ≤ k → k < 6 → M2 186 (7 * b + 1 + k) = ac_W W hh 1 b k := fun k k0 k1 => by rw [q186 _ (by omega) (by omega)]; exact z2 k k0 k1
      have sg : ac_G G hh 1 b = if b = (hh 0).1 then (hh 0).2.1 else G b := rfl
      have sw : ac_W W hh 1 b = if b = (hh 0).1 then (hh 0).2.2 else W b := rfl
      rw [sg] at w1 ⊢
      rw [sw] at w2 ⊢
      by_cases e : b = (hh 0).1
      · rw [if_pos e] at w1 w2 ⊢
        rw [if_pos e]
        rw [e] at w1 w2 ⊢
        exact ⟨sm_ok_fr (qel _ _ (by omega) (by omega)) (qel _ _ (by omega) (by omega)) (fun j => qel _ _ (by omega) (by omega)) u4, ha, ⟨w1, p1.2.2.1.2⟩, w2, p1.2.2.2.2⟩
      · rw [if_neg e] at w1 w2 ⊢
        rw [if_neg e]
        exact ⟨sm_ok_fr (all _ _ (by omega) (by omega) (by omega) (by omega) (by omega)) (all _ _ (by omega) (by omega) (by omega) (by omega) (by omega)) (fun j => all _ _ (by omega) (by omega) (by omega) (by omega) (by omega)) z3, z4.1, ⟨w1, z4.2.1.2⟩, w2, z4.2.2.2⟩
    · rw [qel 46 2 (by omega) (by omega), u3]; omega
    · rw [q58]; omega
    · rw [n1]; split <;> omega
    · rw [q59]; split <;> omega
    · obtain ⟨p3, p4⟩ := c5 (k + 1) (by omega)
      rw [ac_G_tail, ac_W_tail, n1, q59]
      have s1 : ((if 0 < M 46 1 then M 46 1 - 1 else 19) - 1 - (k : Int)) % 20 = (M 46 1 - 1 - ((k + 1 : Nat) : Int)) % 20 := by split <;> omega
      have s2 : ((if 0 < M 152 59 then M 152 59 - 1 else 19) - (k : Int)) % 20 = (M 152 59 - ((k + 1 : Nat) : Int)) % 20 := by split <;> omega
      rw [s1, s2]
      refine ⟨sm_ok_fr (all _ _ (by omega) (by omega) (by omega) (by omega) (by omega)) (all _ _ (by omega) (by omega) (by omega) (by omega) (by omega)) (fun j => all _ _ (by omega) (by omega) (by omega) (by omega) (by omega)) p3, fun b hb0 hb1 => ⟨?_, fun i i0 i1 => ?_⟩⟩
      · rw [all _ _ (by omega) (by omega) (by omega) (by omega) (by omega)]; exact (p4 b hb0 hb1).1
      · rw [all _ _ (by omega) (by omega) (by omega) (by omega) (by omega)]; exact (p4 b hb0 hb1).2 i i0 i1
    · have := h.2.2.1 i i0 i1
      rw [all _ _ (by omega) (by omega) (by omega) (by omega) (by omega), all _ _ (by omega) (by omega) (by omega) (by omega) (by omega)]
      omega
    · unfold lo_ok
      rw [all _ _ (by omega) (by omega) (by omega) (by omega) (by omega), all _ _ (by omega) (by omega) (by omega) (by omega) (by omega)]
      exact lo
    · have yr : ¬ ((37 ≤ x ∧ x ≤ 87) ∨ x = 186 ∨ x = 191 ∨ x = 151 ∨ x = 154 ∨ (x = 152 ∧ 58 ≤ j ∧ j ≤ 60) ∨ (x = 0 ∧ j = 17)) := fun z => y (Or.inr z)
      exact all _ _ (by omega) (by omega) (by omega) (by omega) (by omega)
  · refine cl_re (mr := 0) (As := []) hn h (by decide) (am_c0_i ⟨r7, en_X12_undo (bk_X12_undo_0 ⟨fun z => ?_, fun _ => ⟨?_, am_c0_i ⟨rfl, at_re h (by decide) sc_rf⟩⟩⟩)⟩)
    · rw [r8] at z
      omega
    · rw [r4]
      exact ⟨by omega, by omega⟩
theorem ac_seed {d n : Nat} {M : am_M} {D : dm_D} {G : Int → Int} {W : Int → Int → Int} {a : Int} (ha : am_r a) (hn : n < 600) (h : at_ok n M D G W) : tr_two (d + 7) 152 271 [(0, a)] M (at_P n M D) := by
  obtain ⟨r1, r2, r3, r4, r5, r6, r7, r8⟩ := re_bt (k := 4) hn h (by decide)
  have r54 := r5 4 (by decide) (by decide)
  refine en_X11_seed (bk_X11_seed_0 ⟨fun y => am_c0_i ⟨fun j => am_up_el (by omega), en_X12_seed (bk_X12_seed_0 ⟨fun _ => am_c0_i ⟨rfl, ?_⟩, fun z => by omega⟩)⟩, fun y => ?_⟩)
  · have e : ∀ x j, ¬ (x = 0 ∧ j = 17) → ¬ (x = 152 ∧ j = 60) → am_up (am_up M 0 17 a) 152 60 a x j = M x j := fun x j z z2 => (am_up_el z2).trans (am_up_el z)
    have l1 : am_up (am_up M 0 17 a) 152 60 a 0 17 = a := by rw [am_up_el (by omega), am_up_at]
    have l2 : am_up (am_up M 0 17 a) 152 60 a 152 60 = a := am_up_at
    generalize am_up (am_up M 0 17 a) 152 60 a = M2 at e l1 l2 ⊢
    obtain ⟨⟨b1, b2, b3, b4, b5⟩, ⟨m, hh, c1, c2, c3, c4, c5⟩, hq, hlo⟩ := h
    have e0 : M2 0 4 = M 0 4 := e _ _ (by omega) (by omega)
    have hcr := dm_range b1
    unfold am_r at ha
    refine ⟨⟨G, W, ⟨?_, rg_is_fr (fun x j x1 x2 => e x j (by omega) (by omega)) b2, ?_, ?_, fun b hb0 hb1 => ⟨sm_ok_fr (e _ _ (by omega) (by omega)) (e _ _ (by omega) (by omega)) (fun j => e _ _ (by omega) (by omega)) (b5 b hb0 hb1).1, rs_ok_fr (fun j => e _ _ (by omega) (by omega)) (b5 b hb0 hb1).2⟩⟩, ⟨m, hh, c1, ?_, ?_, ?_, fun k hk => ?_⟩, fun i i0 i1 => ?_, ?_⟩, fun x j y => e x j (fun z => y (Or.inr (by omega))) (fun z => y (Or.inr (by omega)))⟩
    · rw [e0]; exact dm_ok_fr (fun x j x1 x2 x3 x4 x5 x6 => e x j (by omega) (by omega)) b1
    · rw [e0, e 174 4 (by omega) (by omega), e (M 0 4 + 2) 1 (by omega) (by omega)]; exact b3
    · rw [e0, e 174 5 (by omega) (by omega), e (M 0 4 + 2) 2 (by omega) (by omega)]; exact b4
    · rw [e 46 2 (by omega) (by omega), e 152 58 (by omega) (by omega)]; exact c2
    · rw [e 46 1 (by omega) (by omega)]; exact c3
    · rw [e 152 59 (by omega) (by omega)]; exact c4
    · obtain ⟨p1, p2⟩ := c5 k hk
      rw [e 46 1 (by omega) (by omega), e 152 59 (by omega) (by omega)]
      refine ⟨sm_ok_fr (e _ _ (by omega) (by omega)) (e _ _ (by omega) (by omega)) (fun j => e _ _ (by omega) (by omega)) p1, fun b hb0 hb1 => ⟨?_, fun i i0 i1 => ?_⟩⟩
      · rw [e _ _ (by omega) (by omega)]; exact (p2 b hb0 hb1).1
      · rw [e _ _ (by omega) (by omega)]; exact (p2 b hb0 hb1).2 i i0 i1
    · have := hq i i0 i1
      rw [e _ _ (by omega) (by omega), e _ _ (by omega) (by omega)]
      omega
    · exact ⟨l1.trans l2.symm, by omega, by omega⟩
  · refine cl_re (mr := 0) (As := []) hn h (by decide) (am_c0_i ⟨r7, en_X12_seed (bk_X12_seed_0 ⟨fun z => by omega, fun _ => ⟨?_, am_c0_i ⟨rfl, at_re h (by decide) sc_rf⟩⟩⟩)⟩)
    rw [r4]
    exact ⟨by omega, by omega⟩
