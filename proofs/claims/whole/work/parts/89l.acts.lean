/-! ONE ACT MORE -/
/-- the class has kept the a-th sleeper, and changed nothing but him, acts, scratch, the lot -/
def kc_ (D : dm_D) (a g : Int) (w : Int → Int) (M M1 : am_M) : Prop := M1 46 1 = (if M 46 1 + 1 < 20 then M 46 1 + 1 else 0) ∧ M1 46 2 = (if 20 < M 46 2 + 1 then 20 else M 46 2 + 1) ∧ sm_ok M1 D (47 + 1 + 2 * M 46 1) a g w ∧ ∀ x j, ¬ sc_ x j → ¬ (x = 46 ∧ (j = 1 ∨ j = 2)) → ¬ x = 47 + 1 + 2 * M 46 1 → ¬ x = 47 + 1 + 2 * M 46 1 + 1 → ¬ x = 37 + 1 + 2 * a → ¬ x = 37 + 1 + 2 * a + 1 → ¬ (x = 0 ∧ j = 17) → M1 x j = M x j
theorem kc_go {D : dm_D} {a g : Int} {w : Int → Int} {M M1 M2 : am_M} (hn : 0 ≤ M 46 1 ∧ M 46 1 < 20) (ha : 0 ≤ a ∧ a < 4 ∧ a < dA D) (h : kc_ D a g w M M1) (k : ∀ x j, ¬ sc_ x j → ¬ x = 37 + 1 + 2 * a → ¬ x = 37 + 1 + 2 * a + 1 → ¬ (x = 0 ∧ j = 17) → M2 x j = M1 x j) : kc_ D a g w M M2 := by
  obtain ⟨h1, h2, h3, h4⟩ := h
  refine ⟨?_, ?_, sm_ok_fr ?_ ?_ (fun j => ?_) h3, fun x j y y2 y3 y4 y5 y6 y7 => (k x j y y5 y6 y7).trans (h4 x j y y2 y3 y4 y5 y6 y7)⟩
  · rw [k 46 1 (by unfold sc_; omega) (by omega) (by omega) (by omega)]; exact h1
  · rw [k 46 2 (by unfold sc_; omega) (by omega) (by omega) (by omega)]; exact h2
  · exact k _ _ (by unfold sc_; omega) (by omega) (by omega) (by omega)
  · exact k _ _ (by unfold sc_; omega) (by omega) (by omega) (by omega)
  · exact k _ _ (by unfold sc_; omega) (by omega) (by omega) (by omega)
/-- the reference has kept all four, and changed nothing but the a-th, acts, scratch, the lot -/
def kr_ (a : Int) (M M1 : am_M) : Prop := ∃ t : Int, t = (if M 152 59 + 1 < 20 then M 152 59 + 1 else 0) ∧ M1 152 59 = t ∧ M1 152 58 = (if M 152 58 < 20 then M 152 58 + 1 else M 152 58) ∧ (∀ j : Int, 0 ≤ j → j < 28 → M1 191 (28 * t + j) = M 186 j) ∧ ∀ x j, ¬ sc_ x j → ¬ (x = 152 ∧ 58 ≤ j ∧ j ≤ 60) → ¬ (x = 191 ∧ 28 * t ≤ j ∧ j < 28 * t + 28) → ¬ (x = 186 ∧ 7 * a ≤ j ∧ j < 7 * a + 7) → M1 x j = M x j
theorem kr_go {a : Int} {M M1 M2 : am_M} (h : kr_ a M M1) (k : ∀ x j, ¬ sc_ x j → ¬ (x = 186 ∧ 7 * a ≤ j ∧ j < 7 * a + 7) → ¬ (x = 152 ∧ j = 60) → M2 x j = M1 x j) : kr_ a M M2 := by
  obtain ⟨t, h0, h1, h2, h3, h4⟩ := h
  refine ⟨t, h0, ?_, ?_, fun j j0 j1 => ?_, fun x j y y2 y3 y4 => (k x j y y4 (by omega)).trans (h4 x j y y2 y3 y4)⟩
  · rw [k 152 59 (by unfold sc_; omega) (by omega) (by omega)]; exact h1
  · rw [k 152 58 (by unfold sc_; omega) (by omega) (by omega)]; exact h2
  · rw [k 191 _ (by unfold sc_; omega) (by omega) (by omega)]; exact h3 j j0 j1
def ac_cons (e : Int × Int × (Int → Int)) (h : ac_H) : ac_H
  | 0 => e
  | k + 1 => h k
theorem ac_G_cons {G : Int → Int} {a g : Int} {w : Int → Int} {h : ac_H} : ∀ k : Nat, ac_G (pu_up G a g) (ac_cons (a, G a, w) h) (k + 1) = ac_G G h k
  | 0 => by
    funext x
    show (if x = a then G a else if x = a then g else G x) = G x
    by_cases e : x = a
    · rw [if_pos e, e]
    · rw [if_neg e, if_neg e]
  | k + 1 => by
    show pu_up (ac_G (pu_up G a g) (ac_cons (a, G a, w) h) (k + 1)) (h k).1 (h k).2.1 = pu_up (ac_G G h k) (h k).1 (h k).2.1
    rw [ac_G_cons k]
theorem ac_W_cons {W : Int → Int → Int} {a g : Int} {w : Int → Int} {h : ac_H} : ∀ k : Nat, ac_W (pw_up W a w) (ac_cons (a, g, W a) h) (k + 1) = ac_W W h k
  | 0 => by
    funext x
    show (if x = a then W a else if x = a then w else W x) = W x
    by_cases e : x = a
    · rw [if_pos e, e]
    · rw [if_neg e, if_neg e]
  | k + 1 => by
    show pw_up (ac_W (pw_up W a w) (ac_cons (a, g, W a) h) (k + 1)) (h k).1 (h k).2.2 = pw_up (ac_W W h k) (h k).1 (h k).2.2
    rw [ac_W_cons k]
theorem at_done {n : Nat} {M M1 M2 : am_M} {D : dm_D} {G : Int → Int} {W : Int → Int → Int} {a g : Int} {w : Int → Int} (h : at_ok n M D G W) (ha : 0 ≤ a ∧ a < 4 ∧ a < dA D) (k1 : kc_ D a (G a) (W a) M M1) (hs : sm_ok M1 D (37 + 1 + 2 * a) a g w) (k2 : kr_ a M1 M2) (hr : rs_ok M2 D a g w) (hl : M2 0 17 = M2 152 60 ∧ 0 ≤ M2 0 17 ∧ M2 0 17 ≤ 2147483647) : at_P n M D M2 := by
  obtain ⟨⟨b1, b2, b3, b4, b5⟩, ⟨m, hh, c1, c2, c3, c4, c5⟩, hq, _⟩ := h
  obtain ⟨f1, f2, f3, f4⟩ := k1
  obtain ⟨t, q0, q1, q2, q3, q4⟩ := k2
  have hcc := b1.1
  have hcr := dm_range b1
  have fc : ∀ x j, x < 37 → ¬ sc_ x j → ¬ (x = 0 ∧ j = 17) → M2 x j = M x j := fun x j y z z2 => (q4 x j z (by omega) (by omega) (by omega)).trans (f4 x j z (by omega) (by omega) (by omega) (by omega) (by omega) z2)
  have fs : ∀ x j, 37 ≤ x → x ≤ 87 → M2 x j = M1 x j := fun x j y z => q4 x j (by unfold sc_; omega) (by omega) (by omega) (by omega)
  have fr : ∀ x j, 151 ≤ x → ¬ sc_ x j → M1 x j = M x j := fun x j y z => f4 x j z (by omega) (by omega) (by omega) (by omega) (by omega) (by omega)
  have e59 : M1 152 59 = M 152 59 := fr 152 59 (by omega) (by unfold sc_; omega)
  have e58 : M1 152 58 = M 152 58 := fr 152 58 (by omega) (by unfold sc_; omega)
  have e0 : M2 0 4 = M 0 4 := fc 0 4 (by omega) (by unfold sc_; omega) (by omega)
  have e174 : ∀ j, M2 174 j = M 174 j := fun j => (q4 174 j (by unfold sc_; omega) (by omega) (by omega) (by omega)).trans (fr 174 j (by omega) (by unfold sc_; omega))
  have e1861 : ∀ j, M1 186 j = M 186 j := fun j => fr 186 j (by omega) (by unfold sc_; omega)
  refine ⟨⟨pu_up G a g, pw_up W a w, ⟨?_, rg_is_fr (fun x j x1 x2 => (q4 x j (by unfold sc_; omega) (by omega) (by omega) (by omega)).trans (fr x j (by omega) (by unfold sc_; omega))) b2, ?_, ?_, fun b hb0 hb1 => ?_⟩, ⟨if m < 20 then m + 1 else m, ac_cons (a, G a, W a) hh, ?_, ⟨?_, ?_⟩, ?_, ?_, fun k hk => ?_⟩, fun i i0 i1 => ?_, hl⟩, fun x j y => ?_⟩
  · rw [e0]
    refine dm_ok_fr (fun x j x1 x2 x3 x4 x5 x6 => fc x j (by unfold dr_is at hcc; omega) ?_ (by omega)) b1
    unfold sc_
    unfold dr_is at hcc
    omega
  · rw [e0, e174, fc (M 0 4 + 2) 1 (by unfold dr_is at hcc; omega) (by unfold sc_; unfold dr_is at hcc; omega) (by omega)]; exact b3
  · rw [e0, e174, fc (M 0 4 + 2) 2 (by unfold dr_is at hcc; omega) (by unfold sc_; unfold dr_is at hcc; omega) (by omega)]; exact b4
  · by_cases e : b = a
    · subst e
      rw [show pu_up G b g b = g from if_pos rfl, show pw_up W b w b = w from if_pos rfl]
      exact ⟨sm_ok_fr (fs _ _ (by omega) (by omega)) (fs _ _ (by omega) (by omega)) (fun j => fs _ _ (by omega) (by omega)) hs, hr⟩
    · rw [show pu_up G a g b = G b from if_neg e, show pw_up W a w b = W b from if_neg e]
      obtain ⟨p1, p2⟩ := b5 b hb0 hb1
      refine ⟨sm_ok_fr ?_ ?_ (fun j => ?_) p1, p2.1, ⟨?_, p2.2.1.2⟩, fun k k0 k1 => ?_, p2.2.2.2⟩
      · exact (fs _ _ (by omega) (by omega)).trans (f4 _ _ (by unfold sc_; omega) (by omega) (by omega) (by omega) (by omega) (by omega) (by omega))
      · exact (fs _ _ (by omega) (by omega)).trans (f4 _ _ (by unfold sc_; omega) (by omega) (by omega) (by omega) (by omega) (by omega) (by omega))
      · exact (fs _ _ (by omega) (by omega)).trans (f4 _ _ (by unfold sc_; omega) (by omega) (by omega) (by omega) (by omega) (by omega) (by omega))
      · rw [q4 186 _ (by unfold sc_; omega) (by omega) (by omega) (by omega), e1861]; exact p2.2.1.1
      · show M2 186 (7 * b + 1 + k) = _
        rw [q4 186 _ (by unfold sc_; omega) (by omega) (by omega) (by omega), e1861]; exact p2.2.2.1 k k0 k1
  · split <;> omega
  · rw [fs 46 2 (by omega) (by omega), f2]
    by_cases y : m < 20
    · rw [if_neg (by omega), if_pos y]; omega
    · rw [if_pos (by omega), if_neg y]; omega
  · rw [q2, e58]
    by_cases y : m < 20
    · rw [if_pos (by omega), if_pos y]; omega
    · rw [if_neg (by omega), if_neg y]; omega
  · rw [fs 46 1 (by omega) (by omega), f1]
    split <;> omega
  · rw [q1, q0, e59]
    split <;> omega
  · have ex : M2 46 1 = (if M 46 1 + 1 < 20 then M 46 1 + 1 else 0) := (fs 46 1 (by omega) (by omega)).trans f1
    have et : t = (if M 152 59 + 1 < 20 then M 152 59 + 1 else 0) := by rw [q0, e59]
    rw [ac_G_cons, ac_W_cons, ex, q1]
    cases k with
    | zero =>
      have s1 : ((if M 46 1 + 1 < 20 then M 46 1 + 1 else 0) - 1 - ((0 : Nat) : Int)) % 20 = M 46 1 := by split <;> omega
      have s2 : (t - ((0 : Nat) : Int)) % 20 = t := by rw [et]; split <;> omega
      have t0 : 0 ≤ t ∧ t < 20 := by rw [et]; split <;> omega
      rw [s1, s2]
      refine ⟨sm_ok_fr (fs _ _ (by omega) (by omega)) (fs _ _ (by omega) (by omega)) (fun j => fs _ _ (by omega) (by omega)) f3, fun b hb0 hb1 => ⟨?_, fun i i0 i1 => ?_⟩⟩
      · rw [q3 _ (by omega) (by omega), e1861]
        exact (b5 b hb0 hb1).2.2.1.1
      · rw [q3 _ (by omega) (by omega), e1861]
        exact (b5 b hb0 hb1).2.2.2.1 i i0 i1
    | succ k =>
      have hk' : k < m ∧ k ≤ 18 := by
        by_cases y : m < 20
        · rw [if_pos y] at hk; omega
        · rw [if_neg y] at hk; omega
      obtain ⟨p1, p2⟩ := c5 k hk'.1
      obtain ⟨s, hs1⟩ : ∃ s : Int, s = (M 46 1 - 1 - (k : Int)) % 20 := ⟨_, rfl⟩
      obtain ⟨r, hr1⟩ : ∃ r : Int, r = (M 152 59 - (k : Int)) % 20 := ⟨_, rfl⟩
      have s1 : ((if M 46 1 + 1 < 20 then M 46 1 + 1 else 0) - 1 - ((k + 1 : Nat) : Int)) % 20 = s := by rw [hs1]; split <;> omega
      have s2 : (t - ((k + 1 : Nat) : Int)) % 20 = r := by rw [et, hr1]; split <;> omega
      have s3 : 0 ≤ s ∧ s < 20 ∧ ¬ s = M 46 1 := by omega
      have s4 : 0 ≤ r ∧ r < 20 ∧ ¬ r = t := by rw [et]; split <;> omega
      rw [s1, s2]
      rw [← hs1] at p1
      rw [← hr1] at p2
      refine ⟨sm_ok_fr ?_ ?_ (fun j => ?_) p1, fun b hb0 hb1 => ⟨?_, fun i i0 i1 => ?_⟩⟩
      · exact (fs _ _ (by omega) (by omega)).trans (f4 _ _ (by unfold sc_; omega) (by omega) (by omega) (by omega) (by omega) (by omega) (by omega))
      · exact (fs _ _ (by omega) (by omega)).trans (f4 _ _ (by unfold sc_; omega) (by omega) (by omega) (by omega) (by omega) (by omega) (by omega))
      · exact (fs _ _ (by omega) (by omega)).trans (f4 _ _ (by unfold sc_; omega) (by omega) (by omega) (by omega) (by omega) (by omega) (by omega))
      · rw [q4 191 _ (by unfold sc_; omega) (by omega) (by omega) (by omega), fr 191 _ (by omega) (by unfold sc_; omega)]
        exact (p2 b hb0 hb1).1
      · rw [q4 191 _ (by unfold sc_; omega) (by omega) (by omega) (by omega), fr 191 _ (by omega) (by unfold sc_; omega)]
        exact (p2 b hb0 hb1).2 i i0 i1
  · have := hq i i0 i1
    rw [q4 151 i (by unfold sc_; omega) (by omega) (by omega) (by omega), q4 154 i (by unfold sc_; omega) (by omega) (by omega) (by omega), fr 151 i (by omega) (by unfold sc_; omega), fr 154 i (by omega) (by unfold sc_; omega)]
    omega
  · have ys : ¬ sc_ x j := fun z => y (Or.inl z)
    have yr : ¬ ((37 ≤ x ∧ x ≤ 87) ∨ x = 186 ∨ x = 191 ∨ x = 151 ∨ x = 154 ∨ (x = 152 ∧ 58 ≤ j ∧ j ≤ 60) ∨ (x = 0 ∧ j = 17)) := fun z => y (Or.inr z)
    exact (q4 x j ys (by omega) (by omega) (by omega)).trans (f4 x j ys (by omega) (by omega) (by omega) (by omega) (by omega) (by omega))
theorem st_keeps {d : Nat} {M : am_M} {f : am_M → Prop} {D : dm_D} {a g : Int} {w : Int → Int} (h1 : 0 ≤ M 46 1 ∧ M 46 1 < 20) (h2 : 0 ≤ M 46 2 ∧ M 46 2 ≤ 20) (hs : sm_ok M D (37 + 1 + 2 * a) a g w) (h : ∀ M1, kc_ D a g w M M1 → (∀ x j, x < 46 → M1 x j = M x j) → (∀ x j, 88 ≤ x → M1 x j = M x j) → f M1) : am_cal pg (d + 2) 2 [(2, 46), (2, 37 + 1 + 2 * a)] sh_T M (am_cv sh_T f) := by
  have ha := hs.2.1.2
  have sK : sl_is (47 + 1 + 2 * (M 46 1)) := sl_row_47 h1.1 h1.2
  have c1 := cp_ok sK hs
  refine st_keep hs.1 (by omega) h1 h2 (h _ ⟨?_, ?_, ?_, fun x j y y2 y3 y4 y5 y6 y7 => ?_⟩ (fun x j y => ?_) (fun x j y => ?_))
  · rw [am_up_el (by omega), am_up_at]
  · rw [am_up_at]
  · refine sm_ok_fr ?_ ?_ (fun j => ?_) c1
    · rw [am_up_el (by omega), am_up_el (by omega)]
    · rw [am_up_el (by omega), am_up_el (by omega)]
    · rw [am_up_el (by omega), am_up_el (by omega)]
  · rw [am_up_el (by omega), am_up_el (by omega)]; exact cp_fr y3 y4
  · rw [am_up_el (by omega), am_up_el (by omega)]; exact cp_fr (by omega) (by omega)
  · rw [am_up_el (by omega), am_up_el (by omega)]; exact cp_fr (by omega) (by omega)
theorem sp_keepss {d : Nat} {M : am_M} {f : am_M → Prop} {a : Int} (h1 : 0 ≤ M 152 59 ∧ M 152 59 < 20) (h2 : 0 ≤ M 152 58 ∧ M 152 58 ≤ 20) (h : ∀ M1, kr_ a M M1 → (∀ x j, ¬ x = 191 → ¬ (x = 152 ∧ (j = 58 ∨ j = 59)) → M1 x j = M x j) → f M1) : am_cal pg (d + 1) 264 [(2, 152)] sh_T M (am_cv sh_T f) := by
  refine sp_keeps h1 h2 (fun t ht => h _ ⟨t, ht, ?_, ?_, fun j j0 j1 => ?_, fun x j y y2 y3 y4 => ?_⟩ (fun x j y y2 => ?_))
  · rw [am_up_el (by omega), am_rs_el (by omega), am_up_at]
  · rw [am_up_at]
  · rw [am_up_el (by omega), am_rs_at (by omega) (by omega)]
    show M 186 (28 * t + j - 28 * t) = _
    rw [show 28 * t + j - 28 * t = j by omega]
  · rw [am_up_el (by omega)]
    by_cases e : x = 191
    · subst e
      rw [am_rs_out (by omega), am_up_el (by omega)]
    · rw [am_rs_el e, am_up_el (by omega)]
  · rw [am_up_el (by omega), am_rs_el y, am_up_el (by omega)]
