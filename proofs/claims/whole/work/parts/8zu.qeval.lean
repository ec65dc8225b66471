/-! WHAT A QUESTION'S CODES GIVE at a room, in the class and in the reference -/
def qe_ (a wt : Int → Int) : List Int → List Int → Option (List Int)
  | [], st => some st
  | c :: cs, st =>
    if 1000 ≤ c then (if c ≤ 10999 ∧ st.length < 64 then qe_ a wt cs ((c - 1000) :: st) else none)
    else if c = 60 then (match st with
      | x :: t => qe_ a wt cs ((if 0 ≤ x ∧ x < 6 then wt x else 0) :: t)
      | [] => none)
    else if 40 ≤ c ∧ c ≤ 44 then (if st.length < 64 then qe_ a wt cs (a (c - 40) :: st) else none)
    else if c = 13 then (if st.length < 64 then qe_ a wt cs (1 :: st) else none)
    else if c = 12 then (match st with
      | x :: t => if x = 0 ∨ x = 1 then qe_ a wt cs ((1 - x) :: t) else none
      | [] => none)
    else if 1 ≤ c ∧ c ≤ 11 then (match st with
      | y :: x :: t => if c ≤ 9 ∨ ((x = 0 ∨ x = 1) ∧ (y = 0 ∨ y = 1)) then qe_ a wt cs (ec_j (-c) x y :: t) else none
      | _ => none)
    else none
section QE
variable {a wt : Int → Int} {c : Int} {cs st : List Int}
theorem qe_n (h : 1000 ≤ c) : qe_ a wt (c :: cs) st = if c ≤ 10999 ∧ st.length < 64 then qe_ a wt cs ((c - 1000) :: st) else none := by
  show (if 1000 ≤ c then (if c ≤ 10999 ∧ st.length < 64 then qe_ a wt cs ((c - 1000) :: st) else none) else _) = _
  rw [if_pos h]
theorem qe_60 : qe_ a wt (60 :: cs) st = match st with
    | x :: t => qe_ a wt cs ((if 0 ≤ x ∧ x < 6 then wt x else 0) :: t)
    | [] => none := by
  show (if 1000 ≤ (60 : Int) then _ else if (60 : Int) = 60 then (match st with
      | x :: t => qe_ a wt cs ((if 0 ≤ x ∧ x < 6 then wt x else 0) :: t)
      | [] => none) else _) = _
  rw [if_neg (by decide), if_pos rfl]
theorem qe_40 (h : 40 ≤ c ∧ c ≤ 44) : qe_ a wt (c :: cs) st = if st.length < 64 then qe_ a wt cs (a (c - 40) :: st) else none := by
  show (if 1000 ≤ c then _ else if c = 60 then _ else if 40 ≤ c ∧ c ≤ 44 then (if st.length < 64 then qe_ a wt cs (a (c - 40) :: st) else none) else _) = _
  rw [if_neg (by omega), if_neg (by omega), if_pos h]
theorem qe_13 : qe_ a wt (13 :: cs) st = if st.length < 64 then qe_ a wt cs (1 :: st) else none := by
  show (if 1000 ≤ (13 : Int) then _ else if (13 : Int) = 60 then _ else if 40 ≤ (13 : Int) ∧ (13 : Int) ≤ 44 then _ else if (13 : Int) = 13 then (if st.length < 64 then qe_ a wt cs (1 :: st) else none) else _) = _
  rw [if_neg (by decide), if_neg (by decide), if_neg (by decide), if_pos rfl]
theorem qe_12 : qe_ a wt (12 :: cs) st = match st with
    | x :: t => if x = 0 ∨ x = 1 then qe_ a wt cs ((1 - x) :: t) else none
    | [] => none := by
  show (if 1000 ≤ (12 : Int) then _ else if (12 : Int) = 60 then _ else if 40 ≤ (12 : Int) ∧ (12 : Int) ≤ 44 then _ else if (12 : Int) = 13 then _ else if (12 : Int) = 12 then (match st with
      | x :: t => if x = 0 ∨ x = 1 then qe_ a wt cs ((1 - x) :: t) else none
      | [] => none) else _) = _
  rw [if_neg (by decide), if_neg (by decide), if_neg (by decide), if_neg (by decide), if_pos rfl]
theorem qe_2 (h : 1 ≤ c ∧ c ≤ 11) : qe_ a wt (c :: cs) st = match st with
    | y :: x :: t => if c ≤ 9 ∨ ((x = 0 ∨ x = 1) ∧ (y = 0 ∨ y = 1)) then qe_ a wt cs (ec_j (-c) x y :: t) else none
    | _ => none := by
  show (if 1000 ≤ c then _ else if c = 60 then _ else if 40 ≤ c ∧ c ≤ 44 then _ else if c = 13 then _ else if c = 12 then _ else if 1 ≤ c ∧ c ≤ 11 then (match st with
      | y :: x :: t => if c ≤ 9 ∨ ((x = 0 ∨ x = 1) ∧ (y = 0 ∨ y = 1)) then qe_ a wt cs (ec_j (-c) x y :: t) else none
      | _ => none) else none) = _
  rw [if_neg (by omega), if_neg (by omega), if_neg (by omega), if_neg (by omega), if_neg (by omega), if_pos h]
theorem qe_no (h : ¬ 1000 ≤ c) (h1 : ¬ c = 60) (h2 : ¬ (40 ≤ c ∧ c ≤ 44)) (h3 : ¬ (1 ≤ c ∧ c ≤ 13)) : qe_ a wt (c :: cs) st = none := by
  show (if 1000 ≤ c then _ else if c = 60 then _ else if 40 ≤ c ∧ c ≤ 44 then _ else if c = 13 then _ else if c = 12 then _ else if 1 ≤ c ∧ c ≤ 11 then _ else none) = _
  rw [if_neg h, if_neg h1, if_neg h2, if_neg (by omega), if_neg (by omega), if_neg (by omega)]
end QE
/-- the codes that there are -/
def qk_ (c : Int) : Prop := (1000 ≤ c ∧ c ≤ 10999) ∨ c = 60 ∨ (40 ≤ c ∧ c ≤ 44) ∨ (1 ≤ c ∧ c ≤ 13)
theorem ej_an {x y : Int} (hx : x = 0 ∨ x = 1) (hy : y = 0 ∨ y = 1) : ec_j (-10) x y = x * y ∧ ec_j (-11) x y = (if 0 < x + y then 1 else 0) ∧ (x * y = 0 ∨ x * y = 1) := by
  rcases hx with rfl | rfl <;> rcases hy with rfl | rfl <;> exact ⟨by decide +kernel, by decide +kernel, by decide⟩
/-- what the class's steps are, where the reference's codes are right -/
theorem qe_ec {a wt kn : Int → Int} (hk : kn 6 = a 0 ∧ kn 4 = a 1 ∧ kn 1 = a 2 ∧ kn 2 = a 3 ∧ kn 3 = a 4) : ∀ (C st r : List Int), qe_ a wt C st = some r → ec 7 kn wt (C.map qv) st = some r ∧ ∀ c ∈ C, qk_ c
  | [], st, r, h => ⟨h, fun c hc => by cases hc⟩
  | c :: C, st, r, h => by
    have fin : ∀ st' : List Int, qe_ a wt C st' = some r → qk_ c → ec 7 kn wt (qv c :: C.map qv) st = ec 7 kn wt (C.map qv) st' → ec 7 kn wt ((c :: C).map qv) st = some r ∧ ∀ z ∈ c :: C, qk_ z := fun st' h1 h2 h3 => by
      obtain ⟨i1, i2⟩ := qe_ec hk C st' r h1
      refine ⟨h3.trans i1, fun z hz => ?_⟩
      rcases List.mem_cons.mp hz with q | q
      · rw [q]; exact h2
      · exact i2 z q
    by_cases c1 : 1000 ≤ c
    · rw [qe_n c1] at h
      by_cases c2 : c ≤ 10999 ∧ st.length < 64
      · rw [if_pos c2] at h
        refine fin _ h (Or.inl ⟨c1, c2.1⟩) ?_
        have e : qv c = c - 1000 := if_pos c1
        rw [e]
        show (if 0 ≤ c - 1000 then (if c - 1000 ≤ 9999 ∧ st.length < 64 then ec 7 kn wt (C.map qv) ((c - 1000) :: st) else none) else _) = _
        rw [if_pos (by omega), if_pos ⟨by omega, c2.2⟩]
      · rw [if_neg c2] at h; cases h
    · by_cases c2 : c = 60
      · subst c2
        rw [qe_60] at h
        cases st with
        | nil => cases h
        | cons x t => exact fin _ h (Or.inr (Or.inl rfl)) rfl
      · by_cases c3 : 40 ≤ c ∧ c ≤ 44
        · rw [qe_40 c3] at h
          by_cases c4 : st.length < 64
          · rw [if_pos c4] at h
            obtain ⟨k6, k4, k1, k2, k3⟩ := hk
            refine fin _ h (Or.inr (Or.inr (Or.inl c3))) ?_
            have ev : ∀ s : Int, s ≤ -20 → -20 - s < 7 → kn (-20 - s) = a (c - 40) → ec 7 kn wt (s :: C.map qv) st = ec 7 kn wt (C.map qv) (a (c - 40) :: st) := fun s s1 s2 s3 => by
              show (if 0 ≤ s then _ else if s ≤ -20 then (if -20 - s < 7 ∧ st.length < 64 then ec 7 kn wt (C.map qv) (kn (-20 - s) :: st) else none) else _) = _
              rw [if_neg (by omega), if_pos s1, if_pos ⟨s2, c4⟩, s3]
            rcases (show c = 40 ∨ c = 41 ∨ c = 42 ∨ c = 43 ∨ c = 44 by omega) with z | z | z | z | z
            · subst z; exact ev (-26) (by decide) (by decide) k6
            · subst z; exact ev (-24) (by decide) (by decide) k4
            · subst z; exact ev (-21) (by decide) (by decide) k1
            · subst z; exact ev (-22) (by decide) (by decide) k2
            · subst z; exact ev (-23) (by decide) (by decide) k3
          · rw [if_neg c4] at h; cases h
        · by_cases c4 : c = 13
          · subst c4
            rw [qe_13] at h
            by_cases c5 : st.length < 64
            · rw [if_pos c5] at h
              refine fin _ h (Or.inr (Or.inr (Or.inr ⟨by decide, by decide⟩))) ?_
              show (if 0 ≤ (1 : Int) then (if (1 : Int) ≤ 9999 ∧ st.length < 64 then ec 7 kn wt (C.map qv) (1 :: st) else none) else _) = _
              rw [if_pos (by decide), if_pos ⟨by decide, c5⟩]
            · rw [if_neg c5] at h; cases h
          · by_cases c5 : c = 12
            · subst c5
              rw [qe_12] at h
              cases st with
              | nil => cases h
              | cons x t =>
                have h : (if x = 0 ∨ x = 1 then qe_ a wt C ((1 - x) :: t) else none) = some r := h
                by_cases c6 : x = 0 ∨ x = 1
                · rw [if_pos c6] at h
                  refine fin _ h (Or.inr (Or.inr (Or.inr ⟨by decide, by decide⟩))) ?_
                  show ec 7 kn wt (C.map qv) ((if x = 0 then 1 else 0) :: t) = ec 7 kn wt (C.map qv) ((1 - x) :: t)
                  rcases c6 with z | z
                  · rw [z]; rfl
                  · rw [z]; rfl
                · rw [if_neg c6] at h; cases h
            · by_cases c6 : 1 ≤ c ∧ c ≤ 11
              · rw [qe_2 c6] at h
                have e : qv c = -c := by
                  unfold qv
                  rw [if_neg (by omega), if_neg (by omega), if_neg (by omega), if_neg (by omega), if_neg (by omega), if_neg (by omega), if_neg (by omega), if_neg (by omega)]
                match st, h with
                | [], h => cases h
                | [_], h => cases h
                | y :: x :: t, h =>
                  have h : (if c ≤ 9 ∨ ((x = 0 ∨ x = 1) ∧ (y = 0 ∨ y = 1)) then qe_ a wt C (ec_j (-c) x y :: t) else none) = some r := h
                  by_cases c7 : c ≤ 9 ∨ ((x = 0 ∨ x = 1) ∧ (y = 0 ∨ y = 1))
                  · rw [if_pos c7] at h
                    obtain ⟨i1, i2⟩ := qe_ec hk C _ r h
                    refine ⟨?_, fun z hz => ?_⟩
                    · show ec 7 kn wt (qv c :: C.map qv) (y :: x :: t) = some r
                      rw [e, ← i1]
                      show (if 0 ≤ -c then _ else if -c ≤ -20 then _ else if -c = -12 then _ else if -c = -13 then _ else if -11 ≤ -c then (if -9 ≤ -c ∨ ((x = 0 ∨ x = 1) ∧ (y = 0 ∨ y = 1)) then ec 7 kn wt (C.map qv) (ec_j (-c) x y :: t) else none) else _) = _
                      rw [if_neg (by omega), if_neg (by omega), if_neg (by omega), if_neg (by omega), if_pos (by omega), if_pos (c7.elim (fun z => Or.inl (by omega)) Or.inr)]
                    · rcases List.mem_cons.mp hz with q | q
                      · rw [q]; exact Or.inr (Or.inr (Or.inr ⟨c6.1, by omega⟩))
                      · exact i2 z q
                  · rw [if_neg c7] at h; cases h
              · rw [qe_no c1 c2 c3 (by omega)] at h; cases h
/-- sums and tests that are read are right -/
theorem qe_R (a wt : Int → Int) : ev_R true (qe_ a wt) := by
  refine ⟨fun c rest st h1 h2 h3 => ⟨c - 1000, ?_⟩, fun c rest st h1 h3 => ⟨a (c - 40), ?_⟩, fun c rest st x y h1 h2 => ⟨ec_j (-c) x y, ?_⟩, fun _ rest st x => ⟨(if 0 ≤ x ∧ x < 6 then wt x else 0), ?_⟩⟩
  · rw [qe_n h1, if_pos ⟨h2, h3⟩]
  · have h2 : 40 ≤ c ∧ c ≤ 44 := by
      rcases h1 with z | z
      · exact absurd z.1 (by decide)
      · exact z.2
    rw [qe_40 h2, if_pos h3]
  · rw [qe_2 ⟨h1, by omega⟩]
    show (if c ≤ 9 ∨ _ then _ else _) = _
    rw [if_pos (Or.inl (by omega))]
  · rw [qe_60]
def ev2_ (E : List Int → List Int → Option (List Int)) (k : Nat) (cs : List Int) : Prop := ∀ rest st, st.length + k ≤ 64 → ∃ x, (x = 0 ∨ x = 1) ∧ E (cs ++ rest) st = E rest (x :: st)
def ev2_P (E : List Int → List Int → Option (List Int)) (k : Nat) (x : pr_ (List Int)) : Prop := match x with
  | .error _ => True
  | .ok (_, _, cs) => ev2_ E k cs
theorem ev2_b {E : List Int → List Int → Option (List Int)} {k : Nat} {α : Type} {x : pr_ α} {f : Int → Int → α → pr_ (List Int)} (h : ∀ p1 en1 a, x = .ok (p1, en1, a) → ev2_P E k (f p1 en1 a)) : ev2_P E k (pr_b x f) := by
  match x, h with
  | .error _, _ => trivial
  | .ok (p1, en1, a), h => exact h p1 en1 a rfl
theorem ev2_o {E : List Int → List Int → Option (List Int)} {k : Nat} {x : pr_ (List Int)} {p1 en1 : Int} {cs : List Int} (h : ev2_P E k x) (hx : x = .ok (p1, en1, cs)) : ev2_ E k cs := by
  rw [hx] at h; exact h
theorem ev2_up {E : List Int → List Int → Option (List Int)} {k l : Nat} {cs : List Int} (h : ev2_ E k cs) (hk : k ≤ l) : ev2_ E l cs := fun rest st hs => h rest st (by omega)
section EV
variable {a wt : Int → Int} {t : Int → Int} {e : Int}
theorem ev2_two {k : Nat} {cs ds : List Int} {c : Int} (hc : c = 10 ∨ c = 11) (h1 : ev2_ (qe_ a wt) (k + 1) cs) (h2 : ev2_ (qe_ a wt) k ds) : ev2_ (qe_ a wt) (k + 1) (cs ++ ds ++ [c]) := fun rest st hs => by
  obtain ⟨x, x1, hx⟩ := h1 (ds ++ ([c] ++ rest)) st hs
  obtain ⟨y, y1, hy⟩ := h2 ([c] ++ rest) (x :: st) (by rw [List.length_cons]; omega)
  have q := ej_an x1 y1
  refine ⟨ec_j (-c) x y, ?_, ?_⟩
  · rcases hc with rfl | rfl
    · rw [q.1]; exact q.2.2
    · rw [q.2.1]
      split
      · exact Or.inr rfl
      · exact Or.inl rfl
  · rw [show cs ++ ds ++ [c] ++ rest = cs ++ (ds ++ ([c] ++ rest)) by simp only [List.append_assoc], hx, hy]
    show qe_ a wt (c :: rest) (y :: x :: st) = _
    rw [qe_2 (by omega)]
    show (if c ≤ 9 ∨ _ then _ else _) = _
    rw [if_pos (Or.inr ⟨x1, y1⟩)]
theorem ev2_lp {k : Nat} {w : List Int} {c : Int} {sub : Int → Int → pr_ (List Int)} (hc : c = 10 ∨ c = 11) (hs : ∀ p en, ev2_P (qe_ a wt) k (sub p en)) : ∀ (m : Nat) (p en : Int) (cs : List Int), ev2_ (qe_ a wt) (k + 1) cs → ev2_P (qe_ a wt) (k + 1) (pw_lp t e w c sub m p en cs)
  | 0, p, en, cs, h => h
  | m + 1, p, en, cs, h => by
    unfold pw_lp
    split
    · exact ev2_b (fun p1 en1 ds hx => ev2_lp hc hs m p1 en1 _ (ev2_two hc h (ev2_o (hs _ _) hx)))
    · exact h
theorem ev2_test {k : Nat} {sub : Int → Int → pr_ (List Int)} (hs : ∀ p en, ev2_P (qe_ a wt) k (sub p en)) : ∀ p en, ev2_P (qe_ a wt) (k + 2) (pw_test t e sub p en) := by
  have hp : ∀ p en, ev2_P (qe_ a wt) (k + 1) (pw_both t e sub p en) := fun p en => ev2_b (fun p1 en1 ds hx => ev2_lp (Or.inl rfl) hs 1600 p1 en1 ds (ev2_up (ev2_o (hs _ _) hx) (Nat.le_succ k)))
  exact fun p en => ev2_b (fun p1 en1 ds hx => ev2_lp (Or.inr rfl) hp 1600 p1 en1 ds (ev2_up (ev2_o (hp _ _) hx) (Nat.le_succ _)))
theorem ev2_cmp {r : Nat} (p en : Int) : ev2_P (qe_ a wt) (4 + 3 * r) (pw_cmp t e r p en) := by
  have hs : ∀ p en, ev_P (qe_ a wt) (1 + 3 * r + 2) (pz_sum t e (pz_part true t e r) p en) := ev_sum (qe_R a wt) (fun p en => ev_part (qe_R a wt) r p en)
  refine ev2_b (fun p1 en1 cs hx => ?_)
  have hi := sgc_in (c := rc t e p1)
  by_cases c : sgc_ (rc t e p1) = 0
  · rw [if_pos c]; trivial
  · rw [if_neg c]
    refine ev2_b (fun p2 en2 ds hx2 => ?_)
    generalize sgc_ (rc t e p1) = s at c hi
    intro rest st hst
    obtain ⟨x, hx3⟩ := ev_o (hs _ _) hx (ds ++ ([s] ++ rest)) st (by omega)
    obtain ⟨y, hy3⟩ := ev_o (hs _ _) hx2 ([s] ++ rest) (x :: st) (by rw [List.length_cons]; omega)
    refine ⟨ec_j (-s) x y, ?_, ?_⟩
    · rcases (show s = 7 ∨ s = 8 ∨ s = 9 by omega) with rfl | rfl | rfl
      · rw [ej_7]; exact am_b_01
      · rw [ej_8]; exact am_b_01
      · rw [ej_9]; exact am_b_01
    · rw [show cs ++ ds ++ [s] ++ rest = cs ++ (ds ++ ([s] ++ rest)) by simp only [List.append_assoc], hx3, hy3]
      show qe_ a wt (s :: rest) (y :: x :: st) = _
      rw [qe_2 (by omega)]
      show (if s ≤ 9 ∨ _ then _ else _) = _
      rw [if_pos (Or.inl (by omega))]
theorem ev2_body {r : Nat} {o : Option (Int → Int → pr_ (List Int))} (ho : ∀ sub, o = some sub → ∃ l, l + 2 ≤ 4 + 3 * r ∧ ∀ p en, ev2_P (qe_ a wt) l (sub p en)) (p en : Int) : ev2_P (qe_ a wt) (4 + 3 * r) (pw_body t e r o p en) := by
  unfold pw_body
  split
  · cases o with
    | none => trivial
    | some sub =>
      obtain ⟨l, hl, hs⟩ := ho sub rfl
      refine ev2_b (fun p1 en1 cs hx => ?_)
      intro rest st hst
      obtain ⟨x, x1, hx2⟩ := ev2_o (hs _ _) hx ([12] ++ rest) st (by omega)
      refine ⟨1 - x, by omega, ?_⟩
      rw [List.append_assoc, hx2]
      show qe_ a wt (12 :: rest) (x :: st) = _
      rw [qe_12]
      show (if x = 0 ∨ x = 1 then _ else _) = _
      rw [if_pos x1]
  · split
    · cases o with
      | none => trivial
      | some sub =>
        obtain ⟨l, hl, hs⟩ := ho sub rfl
        refine ev2_b (fun p1 en1 cs hx => ?_)
        have q := ev2_up (ev2_o (ev2_test hs _ _) hx) hl
        unfold pr_sg
        split
        · exact q
        · trivial
    · split
      · intro rest st hst
        refine ⟨1, Or.inr rfl, ?_⟩
        show qe_ a wt (13 :: rest) st = _
        rw [qe_13, if_pos (by omega)]
      · exact ev2_cmp p en
theorem ev2_fact : ∀ (r : Nat) (p en : Int), ev2_P (qe_ a wt) (4 + 3 * r) (pw_fact t e r p en)
  | 0, p, en => ev2_body (fun sub h => by cases h) p en
  | r + 1, p, en => ev2_body (fun sub h => by cases h; exact ⟨4 + 3 * r, by omega, fun p en => ev2_fact r p en⟩) p en
/-- the codes of a test, of a sum, leave one number -/
theorem qtest_ok {p en p1 en1 : Int} {C : List Int} (h : pw_test t e (pw_fact t e 6) p en = .ok (p1, en1, C)) : ∃ x, (x = 0 ∨ x = 1) ∧ qe_ a wt C [] = some [x] := by
  obtain ⟨x, x1, hx⟩ := ev2_o (ev2_test (a := a) (wt := wt) (fun p en => ev2_fact 6 p en) p en) h [] [] (by decide)
  rw [List.append_nil] at hx
  exact ⟨x, x1, hx⟩
theorem qsum_ok {p en p1 en1 : Int} {C : List Int} (h : pz_sum t e (pz_part true t e 6) p en = .ok (p1, en1, C)) : ∃ x, qe_ a wt C [] = some [x] := by
  obtain ⟨x, hx⟩ := ev_o (ev_sum (qe_R a wt) (fun p en => ev_part (qe_R a wt) 6 p en) p en) h [] [] (by decide)
  rw [List.append_nil] at hx
  exact ⟨x, hx⟩
end EV
