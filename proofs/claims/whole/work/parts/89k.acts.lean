/-! ACTS: what is kept of them on both sides; refusals; one act more -/
/-- the acts that may be taken back, the newest first: whose, and what he was ahead of it -/
abbrev ac_H : Type := Nat → Int × Int × (Int → Int)
def pw_up (W : Int → Int → Int) (a : Int) (w : Int → Int) : Int → Int → Int := fun x => if x = a then w else W x
def ac_G (G : Int → Int) (h : ac_H) : Nat → Int → Int
  | 0 => G
  | k + 1 => pu_up (ac_G G h k) (h k).1 (h k).2.1
def ac_W (W : Int → Int → Int) (h : ac_H) : Nat → Int → Int → Int
  | 0 => W
  | k + 1 => pw_up (ac_W W h k) (h k).1 (h k).2.2
def rk_ (M : am_M) (D : dm_D) (b : Int) (G : Int → Int) (W : Int → Int → Int) : Prop := ∀ a : Int, 0 ≤ a → (a < 4 ∧ a < dA D) → M 191 (b + 7 * a) = G a ∧ ∀ k : Int, 0 ≤ k → k < 6 → M 191 (b + (7 * a + 1 + k)) = W a k
def ac_is (M : am_M) (D : dm_D) (G : Int → Int) (W : Int → Int → Int) (n : Nat) (h : ac_H) : Prop := n ≤ 20 ∧ (M 46 2 = n ∧ M 152 58 = n) ∧ (0 ≤ M 46 1 ∧ M 46 1 < 20) ∧ (0 ≤ M 152 59 ∧ M 152 59 < 20) ∧ ∀ k : Nat, k < n → sm_ok M D (47 + 1 + 2 * ((M 46 1 - 1 - k) % 20)) (h k).1 (h k).2.1 (h k).2.2 ∧ rk_ M D (28 * ((M 152 59 - k) % 20)) (ac_G G h (k + 1)) (ac_W W h (k + 1))
def ac_ok (M : am_M) (D : dm_D) (G : Int → Int) (W : Int → Int → Int) : Prop := ∃ (n : Nat) (h : ac_H), ac_is M D G W n h
/-- refusals: the same on both sides, at most n -/
def rq_ok (n : Nat) (M : am_M) : Prop := ∀ k : Int, 0 ≤ k → k < 6 → M 151 k = M 154 k ∧ 0 ≤ M 151 k ∧ M 151 k ≤ n
def lo_ok (M : am_M) : Prop := M 0 17 = M 152 60 ∧ 0 ≤ M 0 17 ∧ M 0 17 ≤ 2147483647
/-- all that acts may change stands right -/
def at_ok (n : Nat) (M : am_M) (D : dm_D) (G : Int → Int) (W : Int → Int → Int) : Prop := bt_ok M D G W ∧ ac_ok M D G W ∧ rq_ok n M ∧ lo_ok M
/-- what acts may write -/
def af_ (x j : Int) : Prop := sc_ x j ∨ (37 ≤ x ∧ x ≤ 87) ∨ x = 186 ∨ x = 191 ∨ x = 151 ∨ x = 154 ∨ (x = 152 ∧ 58 ≤ j ∧ j ≤ 60) ∨ (x = 0 ∧ j = 17)
def af_fr (M M' : am_M) : Prop := ∀ x j, ¬ af_ x j → M' x j = M x j
theorem af_rf {M : am_M} : af_fr M M := fun _ _ _ => rfl
theorem af_tr {M M1 M2 : am_M} (h : af_fr M M1) (k : af_fr M1 M2) : af_fr M M2 := fun x j y => (k x j y).trans (h x j y)
theorem af_sc {M M' : am_M} (h : sc_fr M M') : af_fr M M' := fun x j y => h x j (fun z => y (Or.inl z))
theorem ac_ok_fr {M M' : am_M} {D : dm_D} {G : Int → Int} {W : Int → Int → Int} (hf : sc_fr M M') (h : ac_ok M D G W) : ac_ok M' D G W := by
  obtain ⟨n, h, h1, h2, h3, h4, h5⟩ := h
  have e1 : M' 46 1 = M 46 1 := hf 46 1 (by unfold sc_; omega)
  have e2 : M' 46 2 = M 46 2 := hf 46 2 (by unfold sc_; omega)
  have e3 : M' 152 58 = M 152 58 := hf 152 58 (by unfold sc_; omega)
  have e4 : M' 152 59 = M 152 59 := hf 152 59 (by unfold sc_; omega)
  refine ⟨n, h, h1, by rw [e2, e3]; exact h2, by rw [e1]; exact h3, by rw [e4]; exact h4, fun k hk => ?_⟩
  obtain ⟨q1, q2⟩ := h5 k hk
  rw [e1, e4]
  refine ⟨sm_ok_fr (hf _ _ (by unfold sc_; omega)) (hf _ _ (by unfold sc_; omega)) (fun j => hf _ _ (by unfold sc_; omega)) q1, fun a a0 a1 => ⟨?_, fun i i0 i1 => ?_⟩⟩
  · rw [hf _ _ (by unfold sc_; omega)]; exact (q2 a a0 a1).1
  · rw [hf _ _ (by unfold sc_; omega)]; exact (q2 a a0 a1).2 i i0 i1
theorem rq_ok_fr {n : Nat} {M M' : am_M} (hf : sc_fr M M') (h : rq_ok n M) : rq_ok n M' := fun k k0 k1 => by
  rw [hf 151 k (by unfold sc_; omega), hf 154 k (by unfold sc_; omega)]
  exact h k k0 k1
theorem rq_ok_s {n : Nat} {M : am_M} (h : rq_ok n M) : rq_ok (n + 1) M := fun k k0 k1 => by
  have := h k k0 k1
  omega
theorem lo_ok_fr {M M' : am_M} (hf : sc_fr M M') (h : lo_ok M) : lo_ok M' := by
  unfold lo_ok
  rw [hf 0 17 (by unfold sc_; omega), hf 152 60 (by unfold sc_; omega)]
  exact h
theorem at_ok_fr {n : Nat} {M M' : am_M} {D : dm_D} {G : Int → Int} {W : Int → Int → Int} (hf : sc_fr M M') (h : at_ok n M D G W) : at_ok n M' D G W := ⟨bt_ok_fr hf h.1, ac_ok_fr hf h.2.1, rq_ok_fr hf h.2.2.1, lo_ok_fr hf h.2.2.2⟩
/-- the class's answer, then the reference's: alike, and behind them P -/
def tr_two (d mc mr : Nat) (As : List am_V) (M : am_M) (P : am_M → Prop) : Prop := am_cal pg d mc ((2, 0) :: As) sh_T M (am_c0 sh_T fun x M1 => (∀ j, M1 2000003 j = M 2000003 j) ∧ am_cal pg d mr ((2, 152) :: As) sh_T M1 (am_c0 sh_T fun y M2 => x = y ∧ P M2))
/-- behind an act, done or refused -/
def at_P (n : Nat) (M : am_M) (D : dm_D) (M2 : am_M) : Prop := (∃ (G : Int → Int) (W : Int → Int → Int), at_ok (n + 1) M2 D G W) ∧ af_fr M M2
/-- what leaves all that at_ok speaks of as it is, refusals aside -/
def nr_fr (M M' : am_M) : Prop := ∀ x j, ¬ sc_ x j → ¬ x = 151 → ¬ x = 154 → M' x j = M x j
theorem at_ok_nr {n m : Nat} {M M' : am_M} {D : dm_D} {G : Int → Int} {W : Int → Int → Int} (hf : nr_fr M M') (hq : rq_ok m M') (h : at_ok n M D G W) : at_ok m M' D G W := by
  have e := h
  obtain ⟨h1, h2, h3, h4⟩ := e
  -- by a memory between: the refusals as they were
  have hm : sc_fr M (fun x j => if x = 151 ∨ x = 154 then M x j else M' x j) := fun x j y => by
    show (if x = 151 ∨ x = 154 then M x j else M' x j) = M x j
    split
    · rfl
    · exact hf x j y (by omega) (by omega)
  have b1 := bt_ok_fr hm h1
  have b2 := ac_ok_fr hm h2
  have b4 := lo_ok_fr hm h4
  have el : ∀ x j, ¬ x = 151 → ¬ x = 154 → (fun x j => if x = 151 ∨ x = 154 then M x j else M' x j : am_M) x j = M' x j := fun x j y z => if_neg (by omega)
  generalize (fun x j => if x = 151 ∨ x = 154 then M x j else M' x j : am_M) = N at b1 b2 b4 el
  have el' : ∀ x j, ¬ x = 151 → ¬ x = 154 → M' x j = N x j := fun x j y z => (el x j y z).symm
  refine ⟨?_, ?_, hq, ?_⟩
  · obtain ⟨q1, q2, q3, q4, q5⟩ := b1
    have e0 : M' 0 4 = N 0 4 := el' 0 4 (by omega) (by omega)
    have hcc := q1.1
    have hcr := dm_range q1
    refine ⟨?_, rg_is_fr (fun x j x1 x2 => el' x j (by omega) (by omega)) q2, ?_, ?_, fun a a0 a1 => ⟨sm_ok_fr ?_ ?_ ?_ (q5 a a0 a1).1, rs_ok_fr (fun j => el' 186 j (by omega) (by omega)) (q5 a a0 a1).2⟩⟩
    · rw [e0]
      exact dm_ok_fr (fun x j x1 x2 x3 x4 x5 x6 => el' x j (by omega) (by omega)) q1
    · rw [e0, el' 174 4 (by omega) (by omega), el' (N 0 4 + 2) 1 (by omega) (by omega)]; exact q3
    · rw [e0, el' 174 5 (by omega) (by omega), el' (N 0 4 + 2) 2 (by omega) (by omega)]; exact q4
    · exact el' _ _ (by omega) (by omega)
    · exact el' _ _ (by omega) (by omega)
    · intro j
      exact el' _ _ (by omega) (by omega)
  · obtain ⟨n', h', c1, c2, c3, c4, c5⟩ := b2
    have e1 : M' 46 1 = N 46 1 := el' _ _ (by omega) (by omega)
    have e2 : M' 46 2 = N 46 2 := el' _ _ (by omega) (by omega)
    have e3 : M' 152 58 = N 152 58 := el' _ _ (by omega) (by omega)
    have e4 : M' 152 59 = N 152 59 := el' _ _ (by omega) (by omega)
    refine ⟨n', h', c1, by rw [e2, e3]; exact c2, by rw [e1]; exact c3, by rw [e4]; exact c4, fun k hk => ?_⟩
    obtain ⟨q1, q2⟩ := c5 k hk
    rw [e1, e4]
    refine ⟨sm_ok_fr (el' _ _ (by omega) (by omega)) (el' _ _ (by omega) (by omega)) (fun j => el' _ _ (by omega) (by omega)) q1, fun a a0 a1 => ⟨?_, fun i i0 i1 => ?_⟩⟩
    · rw [el' _ _ (by omega) (by omega)]; exact (q2 a a0 a1).1
    · rw [el' _ _ (by omega) (by omega)]; exact (q2 a a0 a1).2 i i0 i1
  · unfold lo_ok
    rw [el' 0 17 (by omega) (by omega), el' 152 60 (by omega) (by omega)]
    exact b4
/-- refused on both sides -/
theorem at_re {n : Nat} {M M1 : am_M} {D : dm_D} {G : Int → Int} {W : Int → Int → Int} {k : Int} (h : at_ok n M D G W) (hk : 0 ≤ k ∧ k < 6) (h1 : sc_fr (am_up M 151 k (M 151 k + 1)) M1) : at_P n M D (am_up M1 154 k (M1 154 k + 1)) := by
  have e1 : ∀ x j, ¬ sc_ x j → ¬ (x = 151 ∧ j = k) → M1 x j = M x j := fun x j y z => (h1 x j y).trans (am_up_el z)
  have e2 : ∀ x j, ¬ sc_ x j → ¬ (x = 151 ∧ j = k) → ¬ (x = 154 ∧ j = k) → am_up M1 154 k (M1 154 k + 1) x j = M x j := fun x j y z z2 => (am_up_el z2).trans (e1 x j y z)
  have s51 : ¬ sc_ 151 k := by unfold sc_; omega
  have s54 : ¬ sc_ 154 k := by unfold sc_; omega
  have hr := h.2.2.1
  refine ⟨⟨G, W, at_ok_nr (fun x j y z z2 => e2 x j y (by omega) (by omega)) (fun i i0 i1 => ?_) h⟩, fun x j y => e2 x j (fun z => y (Or.inl z)) (fun z => y ?_) (fun z => y ?_)⟩
  · have q := hr i i0 i1
    by_cases e : i = k
    · subst e
      have p1 : am_up M1 154 i (M1 154 i + 1) 151 i = M 151 i + 1 := by
        rw [am_up_el (by omega), h1 151 i s51, am_up_at]
      have p2 : am_up M1 154 i (M1 154 i + 1) 154 i = M 154 i + 1 := by
        rw [am_up_at, e1 154 i s54 (by omega)]
      rw [p1, p2]
      omega
    · rw [e2 151 i (by unfold sc_; omega) (by omega) (by omega), e2 154 i (by unfold sc_; omega) (by omega) (by omega)]
      omega
  · unfold af_; omega
  · unfold af_; omega
