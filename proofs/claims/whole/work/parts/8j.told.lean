/-! A DREAM'S TEXT AS A VALUE: names, statements -/
def ow_ : List (List Int) := [w_dread, w_dreamer, w_brave, w_fears, w_guide, w_of, w_meet, w_shun, w_byday, w_home, w_laugh, w_spite, w_weigh, w_worst, w_sum, w_many, w_number, w_min, w_max]
/-- n letters from a place on, 1 to 26 -/
def nm_ (t : Int → Int) : Nat → Int → List Int
  | 0, _ => []
  | n + 1, p => (t p - 96) :: nm_ t n (p + 1)
def pr_name (t : Int → Int) (e p en : Int) : pr_ (List Int) :=
  if rd_wd t e en p = 0 ∨ ¬ pr_ix t e en p ow_ 0 = -1 then .error (1, p)
  else if 6 < rd_wd t e en p then .error (1, p + 6)
  else .ok (rd_at t e (p + rd_wd t e en p), p + rd_wd t e en p, nm_ t (rd_wd t e en p).toNat p)
/-- what is told so far: the names of the three sorts; braveries, fears, whom the guides fear; home, laugh, spite; where each sum's codes lie; the codes -/
abbrev tt_ : Type := (List (List Int) × List (List Int) × List (List Int)) × ((Int → Int) × (Int → Int) × (Int → Int)) × (Int × Int × Int) × (Int → Option (Nat × Nat)) × List Int
def tN (T : tt_) (k : Int) : List (List Int) := if k = 0 then T.1.1 else if k = 1 then T.1.2.1 else T.1.2.2
def tBr (T : tt_) : Int → Int := T.2.1.1
def tFe (T : tt_) : Int → Int := T.2.1.2.1
def tGu (T : tt_) : Int → Int := T.2.1.2.2
def tHo (T : tt_) : Int := T.2.2.1.1
def tLa (T : tt_) : Int := T.2.2.1.2.1
def tSp (T : tt_) : Int := T.2.2.1.2.2
def tS (T : tt_) : Int → Option (Nat × Nat) := T.2.2.2.1
def tC (T : tt_) : List Int := T.2.2.2.2
def t0_ : tt_ := (([], [], []), (fun _ => 0, fun _ => 0, fun _ => 0), (0, 0, 0), fun _ => none, [])
def aN (T : tt_) (k : Int) (n : List Int) : tt_ := ((if k = 0 then (T.1.1 ++ [n], T.1.2.1, T.1.2.2) else if k = 1 then (T.1.1, T.1.2.1 ++ [n], T.1.2.2) else (T.1.1, T.1.2.1, T.1.2.2 ++ [n])), T.2)
def aB (T : tt_) (a v : Int) : tt_ := (T.1, (pu_up (tBr T) a v, tFe T, tGu T), T.2.2)
def aF (T : tt_) (j v : Int) : tt_ := (T.1, (tBr T, pu_up (tFe T) j v, tGu T), T.2.2)
def aG (T : tt_) (g d : Int) : tt_ := (T.1, (tBr T, tFe T, pu_up (tGu T) g d), T.2.2)
def aW (T : tt_) (k v : Int) : tt_ := (T.1, T.2.1, (if k = 0 then (v, tLa T, tSp T) else if k = 1 then (tHo T, v, tSp T) else (tHo T, tLa T, v)), T.2.2.2)
def aS (T : tt_) (k : Int) (ds : List Int) : tt_ := (T.1, T.2.1, T.2.2.1, (fun w => if w = k then some ((tC T).length, (tC T).length + ds.length) else tS T w), tC T ++ ds)
/-- the number of a name in a row; -1 without -/
def fn_ : List (List Int) → List Int → Int → Int
  | [], _, _ => -1
  | x :: l, n, i => if x = n then i else fn_ l n (i + 1)
def pr_wrd (t : Int → Int) (e : Int) (w : List Int) {α : Type} (a : α) (p en : Int) : pr_ α := if rd_is t e en p w = true then .ok (rd_at t e (p + rd_wd t e en p), p + rd_wd t e en p, a) else .error (1, p)
def pz_new (t : Int → Int) (e : Int) (T : tt_) (p en : Int) : pr_ (List Int) := pr_b (pr_name t e p en) (fun p1 en1 n => if fn_ (tN T 0) n 0 = -1 ∧ fn_ (tN T 1) n 0 = -1 ∧ fn_ (tN T 2) n 0 = -1 then .ok (p1, en1, n) else .error (3, p))
def pz_known (t : Int → Int) (e : Int) (T : tt_) (k p en : Int) : pr_ Int := pr_b (pr_name t e p en) (fun p1 en1 n => if fn_ (tN T k) n 0 = -1 then .error (3, p) else .ok (p1, en1, fn_ (tN T k) n 0))
def to_ : List (List Int × Int) := [(w_dread, 1), (w_dreamer, 2), (w_fears, 3), (w_guide, 4), (w_meet, 5), (w_shun, 6), (w_byday, 7), (w_home, 8), (w_laugh, 9), (w_spite, 10)]
theorem to_u : tu_ to_ := by unfold tu_; decide +kernel
/-- one too many of a kind -/
def tf_l (T : tt_) (c : Int) : Prop := (c = 1 ∧ 6 ≤ (tN T 0).length) ∨ (c = 2 ∧ 4 ≤ (tN T 1).length) ∨ (c = 4 ∧ 4 ≤ (tN T 2).length) ∨ (5 ≤ c ∧ c ≤ 7 ∧ ¬ tS T (c - 5) = none)
/-- behind an opening word -/
def pz_do (t : Int → Int) (e : Int) (T : tt_) (c p en : Int) : pr_ tt_ :=
  if c = 1 then pr_b (pz_new t e T p en) (fun p1 en1 n => .ok (p1, en1, aN T 0 n))
  else if c = 2 then pr_b (pz_new t e T p en) (fun p1 en1 n => pr_b (pr_wrd t e w_brave n p1 en1) (fun p2 en2 n => pr_b (pr_num t e 9 p2 en2) (fun p3 en3 v => .ok (p3, en3, aN (aB T (tN T 1).length v) 1 n))))
  else if c = 3 then pr_b (pz_known t e T 1 p en) (fun p1 en1 a => pr_b (pz_known t e T 0 p1 en1) (fun p2 en2 b => pr_b (pr_num t e 999 p2 en2) (fun p3 en3 v => .ok (p3, en3, aF T (6 * a + b) v))))
  else if c = 4 then pr_b (pz_new t e T p en) (fun p1 en1 n => pr_b (pr_wrd t e w_of n p1 en1) (fun p2 en2 n => pr_b (pz_known t e T 0 p2 en2) (fun p3 en3 b => .ok (p3, en3, aN (aG T (tN T 2).length b) 2 n))))
  else if c = 5 ∨ c = 6 ∨ c = 7 then pr_b (pz_sum t e (pz_part false t e 6) p en) (fun p1 en1 ds => .ok (p1, en1, aS T (c - 5) ds))
  else pr_b (pr_num t e (if c = 8 then 9999 else if c = 9 then 100 else 999) p en) (fun p1 en1 v => .ok (p1, en1, aW T (c - 8) v))
noncomputable def pz_stmt (t : Int → Int) (e : Int) (T : tt_) (p en : Int) : pr_ tt_ :=
  if pr_wc t e en p to_ = 0 then .error (1, p)
  else @ite _ (tf_l T (pr_wc t e en p to_)) (Classical.propDecidable _) (.error (5, p)) (pr_b (pz_do t e T (pr_wc t e en p to_) (rd_at t e (p + rd_wd t e en p)) (p + rd_wd t e en p)) (fun p1 en1 T1 => pr_sg t e 59 T1 p1 en1))
/-- all of it: so many statements may still come -/
noncomputable def pz_all (t : Int → Int) (e : Int) : Nat → Int → Int → tt_ → pr_ (tt_ × Nat)
  | 0, p, en, T => if rc t e p = -1 then .ok (p, en, (T, 0)) else .error (5, p)
  | m + 1, p, en, T => if rc t e p = -1 then .ok (p, en, (T, m + 1)) else pr_b (pz_stmt t e T p en) (fun p1 en1 T1 => pz_all t e m p1 en1 T1)
/-- a name as it may be -/
def nk_ (n : List Int) : Prop := 1 ≤ n.length ∧ n.length ≤ 6 ∧ ∀ x ∈ n, 1 ≤ x ∧ x ≤ 26
theorem nm_len {t : Int → Int} : ∀ (n : Nat) (p : Int), (nm_ t n p).length = n
  | 0, _ => rfl
  | n + 1, p => by show (nm_ t n (p + 1)).length + 1 = n + 1; rw [nm_len n]
theorem nm_at {t : Int → Int} : ∀ (n : Nat) (p : Int) (j : Nat), j < n → (nm_ t n p).getD j 0 = t (p + j) - 96
  | 0, _, j, h => absurd h (Nat.not_lt_zero j)
  | n + 1, p, 0, _ => by show t p - 96 = t (p + ((0 : Nat) : Int)) - 96; rw [show p + ((0 : Nat) : Int) = p by omega]
  | n + 1, p, j + 1, h => by
    show (nm_ t n (p + 1)).getD j 0 = _
    rw [nm_at n (p + 1) j (by omega), show p + 1 + (j : Int) = p + ((j + 1 : Nat) : Int) by omega]
theorem nm_mem {t : Int → Int} : ∀ (n : Nat) (p : Int) (x : Int), x ∈ nm_ t n p → ∃ j : Nat, j < n ∧ x = t (p + j) - 96
  | 0, _, x, h => by cases h
  | n + 1, p, x, h => by
    rcases List.mem_cons.mp h with rfl | h
    · exact ⟨0, by omega, by rw [show p + ((0 : Nat) : Int) = p by omega]⟩
    · obtain ⟨j, h1, h2⟩ := nm_mem n (p + 1) x h
      exact ⟨j + 1, by omega, by rw [h2, show p + 1 + (j : Int) = p + ((j + 1 : Nat) : Int) by omega]⟩
theorem pr_name_o {t : Int → Int} {e p en p1 en1 : Int} {n : List Int} (h : pr_name t e p en = .ok (p1, en1, n)) : nk_ n ∧ (n.length : Int) = rd_wd t e en p ∧ p1 = rd_at t e (p + rd_wd t e en p) ∧ en1 = p + rd_wd t e en p ∧ ∀ j : Nat, j < n.length → n.getD j 0 = t (p + j) - 96 := by
  unfold pr_name at h
  split at h
  · cases h
  · rename_i c1
    split at h
    · cases h
    · rename_i c2
      simp only [Except.ok.injEq, Prod.mk.injEq] at h
      obtain ⟨h1, h2, h3⟩ := h
      have hw : 0 ≤ rd_wd t e en p := by
        unfold rd_wd
        split
        · exact Int.le_refl _
        · exact (rd_les_spec (t := t) (e := e) p).1
      have hl : (n.length : Int) = rd_wd t e en p := by rw [← h3, nm_len]; omega
      refine ⟨⟨by omega, by omega, fun x hx => ?_⟩, hl, h1.symm, h2.symm, fun j hj => ?_⟩
      · rw [← h3] at hx
        obtain ⟨j, j1, j2⟩ := nm_mem _ _ _ hx
        have hlt : p + (j : Int) < p + rd_wd t e en p := by omega
        have hle : is_le (t (p + j)) = true := by
          have c3 : ¬ p = en := fun z => c1 (Or.inl (by unfold rd_wd; rw [if_pos z]))
          have e3 : rd_wd t e en p = rd_les t e p := if_neg c3
          rw [e3] at hlt
          exact (rd_les_spec (t := t) (e := e) p).2.2.1 _ (by omega) hlt
        have := is_le_iff.mp hle
        omega
      · rw [← h3]
        exact nm_at _ _ j (by rw [← h3, nm_len] at hj; exact hj)
theorem fn_in : ∀ (l : List (List Int)) (n : List Int) (i : Int), fn_ l n i = -1 ∨ (i ≤ fn_ l n i ∧ fn_ l n i < i + (l.length : Int))
  | [], _, _ => Or.inl rfl
  | x :: l, n, i => by
    show (if x = n then i else fn_ l n (i + 1)) = -1 ∨ (i ≤ (if x = n then i else fn_ l n (i + 1)) ∧ (if x = n then i else fn_ l n (i + 1)) < i + ((x :: l).length : Int))
    rw [List.length_cons]
    by_cases c : x = n
    · rw [if_pos c]; exact Or.inr (by omega)
    · rw [if_neg c]
      rcases fn_in l n (i + 1) with h | h
      · exact Or.inl h
      · exact Or.inr (by omega)
/-- a name as a number, in the base of 27 -/
def nv_ : List Int → Int → Int
  | [], v => v
  | x :: n, v => nv_ n (27 * v + x)
theorem nv_eq : ∀ (n m : List Int) (v w : Int), (∀ x ∈ n, 1 ≤ x ∧ x ≤ 26) → (∀ x ∈ m, 1 ≤ x ∧ x ≤ 26) → n.length = m.length → nv_ n v = nv_ m w → n = m ∧ v = w
  | [], [], v, w, _, _, _, h => ⟨rfl, h⟩
  | [], _ :: _, _, _, _, _, h, _ => by cases h
  | _ :: _, [], _, _, _, _, h, _ => by cases h
  | x :: n, y :: m, v, w, h1, h2, h3, h => by
    obtain ⟨a, b⟩ := nv_eq n m (27 * v + x) (27 * w + y) (fun z hz => h1 z (List.mem_cons_of_mem _ hz)) (fun z hz => h2 z (List.mem_cons_of_mem _ hz)) (by simpa using h3) h
    have hx := h1 x List.mem_cons_self
    have hy := h2 y List.mem_cons_self
    exact ⟨by rw [a, show x = y by omega], by omega⟩
theorem nv_le : ∀ (n : List Int) (v : Int), (∀ x ∈ n, 1 ≤ x ∧ x ≤ 26) → 0 ≤ v → v * 27 ^ n.length ≤ nv_ n v ∧ nv_ n v < (v + 1) * 27 ^ n.length
  | [], v, _, h0 => by
    show v * 27 ^ 0 ≤ v ∧ v < (v + 1) * 27 ^ 0
    rw [Int.pow_zero]; omega
  | x :: n, v, h, h0 => by
    have hx := h x List.mem_cons_self
    have ih := nv_le n (27 * v + x) (fun z hz => h z (List.mem_cons_of_mem _ hz)) (by omega)
    have hp : (0 : Int) < 27 ^ n.length := Int.pow_pos (by decide)
    have e : ∀ u : Int, u * 27 ^ (n.length + 1) = 27 * u * 27 ^ n.length := fun u => by rw [Int.pow_succ, Int.mul_comm (27 ^ n.length) 27, ← Int.mul_assoc, Int.mul_comm u 27]
    rw [List.length_cons, e, e]
    have m1 : 27 * v * 27 ^ n.length ≤ (27 * v + x) * 27 ^ n.length := Int.mul_le_mul_of_nonneg_right (by omega) (by omega)
    have m2 : (27 * v + x + 1) * 27 ^ n.length ≤ 27 * (v + 1) * 27 ^ n.length := Int.mul_le_mul_of_nonneg_right (by omega) (by omega)
    show 27 * v * 27 ^ n.length ≤ nv_ n (27 * v + x) ∧ nv_ n (27 * v + x) < _
    omega
/-- unlike names are unlike numbers -/
theorem nv_inj {n m : List Int} (h1 : nk_ n) (h2 : nk_ m) (h : nv_ n 0 = nv_ m 0) : n = m := by
  have key : ∀ {n m : List Int}, nk_ n → nk_ m → n.length < m.length → ¬ nv_ n 0 = nv_ m 0 := fun {n m} h1 h2 hl h => by
    obtain ⟨a1, a2⟩ := nv_le n 0 h1.2.2 (by decide)
    obtain ⟨c1, c2, c3⟩ := h2
    match m, c1, c2, c3, hl, h with
    | [], c1, _, _, _, _ => exact absurd c1 (by decide)
    | y :: m, c1, c2, c3, hl, h =>
      have hy := c3 y List.mem_cons_self
      obtain ⟨b1, b2⟩ := nv_le m (27 * 0 + y) (fun z hz => c3 z (List.mem_cons_of_mem _ hz)) (by omega)
      have h : nv_ n 0 = nv_ m (27 * 0 + y) := h
      rw [List.length_cons] at hl
      have hp : (27 : Int) ^ n.length ≤ 27 ^ m.length := by
        have := Nat.pow_le_pow_right (n := 27) (by decide) (show n.length ≤ m.length by omega)
        have q : (((27 : Nat) ^ n.length : Nat) : Int) ≤ (((27 : Nat) ^ m.length : Nat) : Int) := by omega
        rw [Int.natCast_pow, Int.natCast_pow] at q
        exact q
      have hq : (0 : Int) < 27 ^ m.length := Int.pow_pos (by decide)
      have m1 : 1 * 27 ^ m.length ≤ (27 * 0 + y) * 27 ^ m.length := Int.mul_le_mul_of_nonneg_right (by omega) (by omega)
      omega
  rcases Nat.lt_trichotomy n.length m.length with q | q | q
  · exact absurd h (key h1 h2 q)
  · exact (nv_eq n m 0 0 h1.2.2 h2.2.2 q h).1
  · exact absurd h.symm (key h2 h1 q)
theorem nv_pos {n : List Int} (h : nk_ n) : 0 < nv_ n 0 ∧ nv_ n 0 < 387420489 := by
  obtain ⟨h1, h2, h3⟩ := h
  match n, h1, h2, h3 with
  | [], h1, _, _ => exact absurd h1 (by decide)
  | y :: n, h1, h2, h3 =>
    have hy := h3 y List.mem_cons_self
    obtain ⟨b1, b2⟩ := nv_le n (27 * 0 + y) (fun z hz => h3 z (List.mem_cons_of_mem _ hz)) (by omega)
    rw [List.length_cons] at h2
    have hq : (0 : Int) < 27 ^ n.length := Int.pow_pos (by decide)
    have m1 : 1 * 27 ^ n.length ≤ (27 * 0 + y) * 27 ^ n.length := Int.mul_le_mul_of_nonneg_right (by omega) (by omega)
    have m2 : (27 * 0 + y + 1) * 27 ^ n.length ≤ 27 * 27 ^ n.length := Int.mul_le_mul_of_nonneg_right (by omega) (by omega)
    have hp : (27 : Int) ^ n.length ≤ 27 ^ 5 := by
      have := Nat.pow_le_pow_right (n := 27) (by decide) (show n.length ≤ 5 by omega)
      have q : (((27 : Nat) ^ n.length : Nat) : Int) ≤ (((27 : Nat) ^ 5 : Nat) : Int) := by omega
      rw [Int.natCast_pow, Int.natCast_pow] at q
      exact q
    have e5 : (27 : Int) ^ 5 = 14348907 := by decide
    show 0 < nv_ n (27 * 0 + y) ∧ nv_ n (27 * 0 + y) < _
    omega
