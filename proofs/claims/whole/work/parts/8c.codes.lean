/-! CODES THAT ARE READ ARE RIGHT: each stretch leaves one number more -/
/-- what an evaluation of codes must do -/
def ev_R (q : Bool) (E : List Int → List Int → Option (List Int)) : Prop :=
  (∀ c rest st, 1000 ≤ c → c ≤ 10999 → st.length < 64 → ∃ x, E (c :: rest) st = E rest (x :: st)) ∧
  (∀ c rest st, (q = false ∧ 7 ≤ c ∧ c ≤ 12 ∨ q = true ∧ 40 ≤ c ∧ c ≤ 44) → st.length < 64 → ∃ x, E (c :: rest) st = E rest (x :: st)) ∧
  (∀ c rest st x y, 1 ≤ c → c ≤ 6 → ∃ z, E (c :: rest) (y :: x :: st) = E rest (z :: st)) ∧
  (q = true → ∀ rest st x, ∃ z, E (60 :: rest) (x :: st) = E rest (z :: st))
def ev_ (E : List Int → List Int → Option (List Int)) (k : Nat) (cs : List Int) : Prop := ∀ rest st, st.length + k ≤ 64 → ∃ x, E (cs ++ rest) st = E rest (x :: st)
theorem ev_up {E : List Int → List Int → Option (List Int)} {k l : Nat} {cs : List Int} (h : ev_ E k cs) (hk : k ≤ l) : ev_ E l cs := fun rest st hs => h rest st (by omega)
theorem ev_two {q : Bool} {E : List Int → List Int → Option (List Int)} (R : ev_R q E) {k : Nat} {cs ds : List Int} {c : Int} (hc : 1 ≤ c ∧ c ≤ 6) (h1 : ev_ E (k + 1) cs) (h2 : ev_ E k ds) : ev_ E (k + 1) (cs ++ ds ++ [c]) := fun rest st hs => by
  obtain ⟨x, hx⟩ := h1 (ds ++ ([c] ++ rest)) st hs
  obtain ⟨y, hy⟩ := h2 ([c] ++ rest) (x :: st) (by rw [List.length_cons]; omega)
  obtain ⟨z, hz⟩ := R.2.2.1 c rest st x y hc.1 hc.2
  refine ⟨z, ?_⟩
  rw [show cs ++ ds ++ [c] ++ rest = cs ++ (ds ++ ([c] ++ rest)) by simp only [List.append_assoc], hx, hy]
  exact hz
def ev_P (E : List Int → List Int → Option (List Int)) (k : Nat) (x : pr_ (List Int)) : Prop := match x with
  | .error _ => True
  | .ok (_, _, cs) => ev_ E k cs
theorem ev_b {E : List Int → List Int → Option (List Int)} {k : Nat} {α : Type} {x : pr_ α} {f : Int → Int → α → pr_ (List Int)} (h : ∀ p1 en1 a, x = .ok (p1, en1, a) → ev_P E k (f p1 en1 a)) : ev_P E k (pr_b x f) := by
  match x, h with
  | .error _, _ => trivial
  | .ok (p1, en1, a), h => exact h p1 en1 a rfl
theorem ev_o {E : List Int → List Int → Option (List Int)} {k : Nat} {x : pr_ (List Int)} {p1 en1 : Int} {cs : List Int} (h : ev_P E k x) (hx : x = .ok (p1, en1, cs)) : ev_ E k cs := by
  rw [hx] at h; exact h
theorem pr_wc_in {q : Bool} {t : Int → Int} {e en p : Int} : pr_wc t e en p (ts_ q) = 0 ∨ pr_wc t e en p (ts_ q) = 5 ∨ pr_wc t e en p (ts_ q) = 6 ∨ (q = false ∧ 7 ≤ pr_wc t e en p (ts_ q) ∧ pr_wc t e en p (ts_ q) ≤ 12) ∨ (q = true ∧ (pr_wc t e en p (ts_ q) = 60 ∨ 40 ≤ pr_wc t e en p (ts_ q) ∧ pr_wc t e en p (ts_ q) ≤ 44)) := by
  have go : ∀ l : List (List Int × Int), pr_wc t e en p l = 0 ∨ ∃ x ∈ l, pr_wc t e en p l = x.2 := by
    intro l
    induction l with
    | nil => exact Or.inl rfl
    | cons x l ih =>
      unfold pr_wc
      by_cases c : rd_is t e en p x.1 = true
      · rw [if_pos c]; exact Or.inr ⟨x, List.mem_cons_self, rfl⟩
      · rw [if_neg c]
        rcases ih with h | ⟨y, h1, h2⟩
        · exact Or.inl h
        · exact Or.inr ⟨y, List.mem_cons_of_mem _ h1, h2⟩
  rcases go (ts_ q) with h | ⟨x, h1, h2⟩
  · exact Or.inl h
  · rw [h2]
    cases q with
    | false =>
      unfold ts_ at h1
      rw [if_neg (by decide)] at h1
      simp only [List.mem_cons, List.not_mem_nil, or_false] at h1
      rcases h1 with rfl | rfl | rfl | rfl | rfl | rfl | rfl | rfl <;> simp
    | true =>
      unfold ts_ at h1
      rw [if_pos rfl] at h1
      simp only [List.mem_cons, List.not_mem_nil, or_false] at h1
      rcases h1 with rfl | rfl | rfl | rfl | rfl | rfl | rfl | rfl <;> simp
theorem pr_num_v {t : Int → Int} {e g p en p1 en1 v : Int} (h : pr_num t e g p en = .ok (p1, en1, v)) : 0 ≤ v ∧ v ≤ g := by
  unfold pr_num at h
  split at h
  · split at h
    · cases h
    · split at h
      · cases h
      · rename_i c
        simp only [Except.ok.injEq, Prod.mk.injEq] at h
        have := (rd_num_le (t := t) (e := e) 4 p 0).2.2 (Int.le_refl _)
        rw [h.2.2] at this c
        omega
  · cases h
theorem ev_lp {q : Bool} {E : List Int → List Int → Option (List Int)} (R : ev_R q E) {t : Int → Int} {e a b ca cb : Int} {k : Nat} {sub : Int → Int → pr_ (List Int)} (ha : 1 ≤ ca ∧ ca ≤ 6) (hb : 1 ≤ cb ∧ cb ≤ 6) (hs : ∀ p en, ev_P E k (sub p en)) : ∀ (m : Nat) (p en : Int) (cs : List Int), ev_ E (k + 1) cs → ev_P E (k + 1) (pz_lp t e a b ca cb sub m p en cs)
  | 0, p, en, cs, h => h
  | m + 1, p, en, cs, h => by
    unfold pz_lp
    split
    · exact ev_b (fun p1 en1 ds hx => ev_lp R ha hb hs m p1 en1 _ (ev_two R ha h (ev_o (hs _ _) hx)))
    · split
      · exact ev_b (fun p1 en1 ds hx => ev_lp R ha hb hs m p1 en1 _ (ev_two R hb h (ev_o (hs _ _) hx)))
      · exact h
theorem ev_sum {q : Bool} {E : List Int → List Int → Option (List Int)} (R : ev_R q E) {t : Int → Int} {e : Int} {k : Nat} {sub : Int → Int → pr_ (List Int)} (hs : ∀ p en, ev_P E k (sub p en)) : ∀ p en, ev_P E (k + 2) (pz_sum t e sub p en) := by
  have hp : ∀ p en, ev_P E (k + 1) (pz_prod t e sub p en) := fun p en => ev_b (fun p1 en1 ds hx => ev_lp R (by decide) (by decide) hs 1600 p1 en1 ds (ev_up (ev_o (hs _ _) hx) (Nat.le_succ k)))
  exact fun p en => ev_b (fun p1 en1 ds hx => ev_lp R (by decide) (by decide) hp 1600 p1 en1 ds (ev_up (ev_o (hp _ _) hx) (Nat.le_succ _)))
theorem ev_sg {E : List Int → List Int → Option (List Int)} {k : Nat} {t : Int → Int} {e c : Int} {cs : List Int} {p en : Int} (h : ev_ E k cs) : ev_P E k (pr_sg t e c cs p en) := by
  unfold pr_sg
  split
  · exact h
  · trivial
theorem ev_body {q : Bool} {E : List Int → List Int → Option (List Int)} (R : ev_R q E) {t : Int → Int} {e : Int} {o : Option (Int → Int → pr_ (List Int))} {k : Nat} (hk : 1 ≤ k) (ho : ∀ sub, o = some sub → ∃ l, l + 3 ≤ k ∧ ∀ p en, ev_P E l (sub p en)) (p en : Int) : ev_P E k (pz_body q t e o p en) := by
  unfold pz_body
  split
  · refine ev_b (fun p1 en1 v hx => ?_)
    have hn := pr_num_v hx
    exact fun rest st hst => R.1 (1000 + v) rest st (by omega) (by omega) (by omega)
  · split
    · cases o with
      | none => trivial
      | some sub =>
        obtain ⟨l, hl, hs⟩ := ho sub rfl
        exact ev_b (fun p1 en1 cs hx => ev_sg (ev_up (ev_o (ev_sum R hs _ _) hx) (by omega)))
    · unfold pz_word
      split
      · trivial
      · rename_i c0
        split
        · rename_i c5
          unfold pz_pair
          split
          · cases o with
            | none => trivial
            | some sub =>
              obtain ⟨l, hl, hs⟩ := ho sub rfl
              refine ev_b (fun p1 en1 cs hx => ev_b (fun p2 en2 cs2 hx2 => ev_b (fun p3 en3 ds hx3 => ev_sg ?_)))
              have e2 := (pr_sg_o (by decide) hx2).2.2.2.2
              subst e2
              exact ev_up (ev_two R (by omega) (ev_up (ev_o (ev_sum R hs _ _) hx) (Nat.le_succ _)) (ev_o (ev_sum R hs _ _) hx3)) (by omega)
          · trivial
        · rename_i c5
          split
          · rename_i c6
            cases o with
            | none => trivial
            | some sub =>
              obtain ⟨l, hl, hs⟩ := ho sub rfl
              refine ev_b (fun p1 en1 cs hx => ?_)
              have hq : q = true := by
                rcases pr_wc_in (q := q) (t := t) (e := e) (en := en) (p := p) with z | z | z | z | z
                · omega
                · omega
                · omega
                · omega
                · exact z.1
              intro rest st hst
              obtain ⟨x, hx2⟩ := ev_o (hs _ _) hx ([60] ++ rest) st (by omega)
              obtain ⟨z, hz⟩ := R.2.2.2 hq rest st x
              exact ⟨z, by rw [List.append_assoc, hx2]; exact hz⟩
          · rename_i c6
            refine fun rest st hst => R.2.1 _ rest st ?_ (by omega)
            rcases pr_wc_in (q := q) (t := t) (e := e) (en := en) (p := p) with z | z | z | z | z
            · exact absurd z c0
            · exact absurd (Or.inl z) c5
            · exact absurd (Or.inr z) c5
            · exact Or.inl z
            · rcases z.2 with y | y
              · exact absurd y c6
              · exact Or.inr ⟨z.1, y⟩
theorem ev_part {q : Bool} {E : List Int → List Int → Option (List Int)} (R : ev_R q E) {t : Int → Int} {e : Int} : ∀ (r : Nat) (p en : Int), ev_P E (1 + 3 * r) (pz_part q t e r p en)
  | 0, p, en => ev_body R (Nat.le_refl _) (fun sub h => by cases h) p en
  | r + 1, p, en => ev_body R (by omega) (fun sub h => by cases h; exact ⟨1 + 3 * r, by omega, fun p en => ev_part R r p en⟩) p en
/-- the reference's evaluation of a dream's codes -/
theorem er_R (a : Int → Int) : ev_R false (er a) := by
  refine ⟨fun c rest st h1 h2 h3 => ⟨c - 1000, ?_⟩, fun c rest st h1 h3 => ⟨a (c - 7), ?_⟩, fun c rest st x y h1 h2 => ⟨ec_j (-c) x y, ?_⟩, fun h => by cases h⟩
  · show (if 1000 ≤ c then (if c ≤ 10999 ∧ st.length < 64 then er a rest ((c - 1000) :: st) else none) else _) = _
    rw [if_pos h1, if_pos ⟨h2, h3⟩]
  · have h2 : 7 ≤ c ∧ c ≤ 12 := by
      rcases h1 with z | z
      · exact z.2
      · exact absurd z.1 (by decide)
    show (if 1000 ≤ c then _ else if 7 ≤ c ∧ c ≤ 12 then (if st.length < 64 then er a rest (a (c - 7) :: st) else none) else _) = _
    rw [if_neg (by omega), if_pos h2, if_pos h3]
  · show (if 1000 ≤ c then _ else if 7 ≤ c ∧ c ≤ 12 then _ else if 1 ≤ c ∧ c ≤ 6 then er a rest (ec_j (-c) x y :: st) else _) = _
    rw [if_neg (by omega), if_neg (by omega), if_pos ⟨h1, h2⟩]
theorem sum_ok {t : Int → Int} {e p en p1 en1 : Int} {cs : List Int} (h : pz_sum t e (pz_part false t e 6) p en = .ok (p1, en1, cs)) : er_ok cs := by
  obtain ⟨x, hx⟩ := ev_o (ev_sum (er_R (fun _ => 0)) (fun p en => ev_part (er_R _) 6 p en) p en) h [] [] (by decide)
  rw [List.append_nil] at hx
  exact ⟨x, hx⟩
