/-! WHAT A TEST IS, as a value; a machine with a stack reads it alike -/
/-- what comes again behind a word -/
def pw_lp (t : Int → Int) (e : Int) (w : List Int) (c : Int) (sub : Int → Int → pr_ (List Int)) : Nat → Int → Int → List Int → pr_ (List Int)
  | 0, p, en, cs => .ok (p, en, cs)
  | m + 1, p, en, cs =>
    if rd_is t e en p w = true then pr_b (sub (rd_at t e (p + rd_wd t e en p)) (p + rd_wd t e en p)) (fun p' en' ds => pw_lp t e w c sub m p' en' (cs ++ ds ++ [c]))
    else .ok (p, en, cs)
def pw_both (t : Int → Int) (e : Int) (sub : Int → Int → pr_ (List Int)) (p en : Int) : pr_ (List Int) := pr_b (sub p en) (fun p' en' cs => pw_lp t e w_and 10 sub 1600 p' en' cs)
def pw_test (t : Int → Int) (e : Int) (sub : Int → Int → pr_ (List Int)) (p en : Int) : pr_ (List Int) := pr_b (pw_both t e sub p en) (fun p' en' cs => pw_lp t e w_or 11 (pw_both t e sub) 1600 p' en' cs)
/-- the code of the sign here; 0 without -/
def sgc_ (c : Int) : Int := if c = 60 then 7 else if c = 62 then 8 else if c = 61 then 9 else 0
def pw_cmp (t : Int → Int) (e : Int) (r : Nat) (p en : Int) : pr_ (List Int) := pr_b (pz_sum t e (pz_part true t e r) p en) (fun p1 en1 cs => if sgc_ (rc t e p1) = 0 then .error (1, p1) else pr_b (pz_sum t e (pz_part true t e r) (rd_at t e (p1 + 1)) en1) (fun p2 en2 ds => .ok (p2, en2, cs ++ ds ++ [sgc_ (rc t e p1)])))
def pw_body (t : Int → Int) (e : Int) (r : Nat) (o : Option (Int → Int → pr_ (List Int))) (p en : Int) : pr_ (List Int) :=
  if rd_is t e en p w_not = true then (match o with
    | none => .error (4, p)
    | some sub => pr_b (sub (rd_at t e (p + rd_wd t e en p)) (p + rd_wd t e en p)) (fun p1 en1 cs => .ok (p1, en1, cs ++ [12])))
  else if rc t e p = 91 then (match o with
    | none => .error (4, p)
    | some sub => pr_b (pw_test t e sub (rd_at t e (p + 1)) en) (fun p1 en1 cs => pr_sg t e 93 cs p1 en1))
  else if rd_is t e en p w_all = true then .ok (rd_at t e (p + rd_wd t e en p), p + rd_wd t e en p, [13])
  else pw_cmp t e r p en
/-- a fact, so many more may be open -/
def pw_fact (t : Int → Int) (e : Int) : Nat → Int → Int → pr_ (List Int)
  | 0 => pw_body t e 0 none
  | r + 1 => pw_body t e (r + 1) (some (pw_fact t e r))
theorem sgc_in {c : Int} : sgc_ c = 0 ∨ (7 ≤ sgc_ c ∧ sgc_ c ≤ 9) := by
  unfold sgc_
  split
  · exact Or.inr ⟨by decide, by decide⟩
  · split
    · exact Or.inr ⟨by decide, by decide⟩
    · split
      · exact Or.inr ⟨by decide, by decide⟩
      · exact Or.inl rfl
theorem sgc_c {c : Int} (h : ¬ sgc_ c = 0) : c = 60 ∨ c = 62 ∨ c = 61 := by
  unfold sgc_ at h
  by_cases a : c = 60
  · exact Or.inl a
  · by_cases b : c = 62
    · exact Or.inr (Or.inl b)
    · by_cases d : c = 61
      · exact Or.inr (Or.inr d)
      · rw [if_neg a, if_neg b, if_neg d] at h
        exact absurd rfl h
theorem rd_is_pos {t : Int → Int} {e en p : Int} {w : List Int} (h : rd_is t e en p w = true) : 0 < rd_wd t e en p := by
  obtain ⟨⟨h1, h2⟩, -⟩ := rd_is_iff.mp h
  have := List.length_pos_iff.mpr h2
  omega
theorem pw_lp_g {t : Int → Int} {e : Int} {w : List Int} {c : Int} {sub : Int → Int → pr_ (List Int)} (hs : pz_gs t e sub) {p0 : Int} (h00 : 0 ≤ p0) : ∀ (m : Nat) (p en : Int) (cs : List Int), p0 < p → p ≤ e → rd_at t e p = p → 1 ≤ cs.length → (cs.length : Int) ≤ p - p0 → pz_g t e p0 (pw_lp t e w c sub m p en cs)
  | 0, p, en, cs, h1, h2, h3, h4, h5 => ⟨h1, h2, h3, h4, h5⟩
  | m + 1, p, en, cs, h1, h2, h3, h4, h5 => by
    unfold pw_lp
    by_cases c1 : rd_is t e en p w = true
    · rw [if_pos c1]
      have hp := rd_is_pos c1
      have hl := (rd_wd_le (t := t) (en := en) h2).2
      have hr := rd_at_le (t := t) (e := e) (i := p + rd_wd t e en p) hl
      have hg := hs (rd_at t e (p + rd_wd t e en p)) (p + rd_wd t e en p) (by omega) hr.2 rd_at_at
      refine pz_g_b (fun k q hx => pz_g_e hg hx) (fun p1 en1 ds hx => ?_)
      obtain ⟨g1, g2, g3, g4, g5⟩ := pz_g_o hg hx
      have el : (cs ++ ds ++ [c]).length = cs.length + ds.length + 1 := by rw [List.length_append, List.length_append, List.length_singleton]
      exact pw_lp_g hs h00 m p1 en1 _ (by omega) g2 g3 (by omega) (by omega)
    · rw [if_neg c1]; exact ⟨h1, h2, h3, h4, h5⟩
theorem pw_both_g {t : Int → Int} {e : Int} {sub : Int → Int → pr_ (List Int)} (hs : pz_gs t e sub) : pz_gs t e (pw_both t e sub) := fun p en h0 h1 h2 => by
  have hg := hs p en h0 h1 h2
  refine pz_g_b (fun k q hx => pz_g_e hg hx) (fun p1 en1 ds hx => ?_)
  obtain ⟨g1, g2, g3, g4, g5⟩ := pz_g_o hg hx
  exact pw_lp_g hs h0 1600 p1 en1 ds g1 g2 g3 g4 g5
theorem pw_test_g {t : Int → Int} {e : Int} {sub : Int → Int → pr_ (List Int)} (hs : pz_gs t e sub) : pz_gs t e (pw_test t e sub) := fun p en h0 h1 h2 => by
  have hg := pw_both_g hs p en h0 h1 h2
  refine pz_g_b (fun k q hx => pz_g_e hg hx) (fun p1 en1 ds hx => ?_)
  obtain ⟨g1, g2, g3, g4, g5⟩ := pz_g_o hg hx
  exact pw_lp_g (pw_both_g hs) h0 1600 p1 en1 ds g1 g2 g3 g4 g5
theorem pw_cmp_g {t : Int → Int} {e : Int} {r : Nat} : pz_gs t e (pw_cmp t e r) := fun p en h0 h1 h2 => by
  have hs := pz_sum_g (pz_part_g (q := true) (t := t) (e := e) r)
  have hg := hs p en h0 h1 h2
  refine pz_g_b (fun k q hx => pz_g_e hg hx) (fun p1 en1 cs hx => ?_)
  obtain ⟨g1, g2, g3, g4, g5⟩ := pz_g_o hg hx
  by_cases c : sgc_ (rc t e p1) = 0
  · rw [if_pos c]; exact (by decide : ¬ (1 : Int) = 0)
  · rw [if_neg c]
    have hc := sgc_c c
    have hlt := (rc_lt (c := rc t e p1) rfl (by omega)).1
    have hr := rd_at_le (t := t) (e := e) (i := p1 + 1) (by omega)
    have hg2 := hs (rd_at t e (p1 + 1)) en1 (by omega) hr.2 rd_at_at
    refine pz_g_b (fun k q hx => pz_g_e hg2 hx) (fun p2 en2 ds hx2 => ?_)
    obtain ⟨j1, j2, j3, j4, j5⟩ := pz_g_o hg2 hx2
    have el : (cs ++ ds ++ [sgc_ (rc t e p1)]).length = cs.length + ds.length + 1 := by rw [List.length_append, List.length_append, List.length_singleton]
    exact ⟨by omega, j2, j3, by omega, by omega⟩
theorem pw_body_g {t : Int → Int} {e : Int} {r : Nat} {o : Option (Int → Int → pr_ (List Int))} (ho : ∀ sub, o = some sub → pz_gs t e sub) : pz_gs t e (pw_body t e r o) := fun p en h0 h1 h2 => by
  unfold pw_body
  have hl := rd_wd_le (t := t) (en := en) h1
  have hr := rd_at_le (t := t) (e := e) (i := p + rd_wd t e en p) hl.2
  by_cases c1 : rd_is t e en p w_not = true
  · rw [if_pos c1]
    have hp := rd_is_pos c1
    cases o with
    | none => exact (by decide : ¬ (4 : Int) = 0)
    | some sub =>
      have hg := ho sub rfl (rd_at t e (p + rd_wd t e en p)) (p + rd_wd t e en p) (by omega) hr.2 rd_at_at
      refine pz_g_b (fun k z hx => pz_g_e hg hx) (fun p1 en1 cs hx => ?_)
      obtain ⟨g1, g2, g3, g4, g5⟩ := pz_g_o hg hx
      refine ⟨by omega, g2, g3, ?_, ?_⟩
      · rw [List.length_append]; omega
      · rw [List.length_append, List.length_singleton]; omega
  · rw [if_neg c1]
    by_cases c2 : rc t e p = 91
    · rw [if_pos c2]
      have hlt := (rc_lt c2 (by decide)).1
      cases o with
      | none => exact (by decide : ¬ (4 : Int) = 0)
      | some sub =>
        have hs := pw_test_g (ho sub rfl)
        have hr := rd_at_le (t := t) (e := e) (i := p + 1) (by omega)
        have hg := hs (rd_at t e (p + 1)) en (by omega) hr.2 rd_at_at
        refine pz_g_b (fun k q hx => pz_g_e hg hx) (fun p1 en1 cs hx => ?_)
        obtain ⟨g1, g2, g3, g4, g5⟩ := pz_g_o hg hx
        exact pr_sg_g (by decide) (by omega) g4 (by omega)
    · rw [if_neg c2]
      by_cases c3 : rd_is t e en p w_all = true
      · rw [if_pos c3]
        have hp := rd_is_pos c3
        exact ⟨by omega, hr.2, rd_at_at, Nat.le_refl _, by show (1 : Int) ≤ rd_at t e (p + rd_wd t e en p) - p; omega⟩
      · rw [if_neg c3]
        exact pw_cmp_g p en h0 h1 h2
theorem pw_fact_g {t : Int → Int} {e : Int} : ∀ r : Nat, pz_gs t e (pw_fact t e r)
  | 0 => pw_body_g (fun sub h => by cases h)
  | r + 1 => pw_body_g (fun sub h => by cases h; exact pw_fact_g r)
/-- behind a fact: what waits for just one fact is told -/
def pd_ : List Int → List Int → Nat → List Int × List Int × Nat
  | cs, [], r => (cs, [], r)
  | cs, w :: W, r => if w = 12 then pd_ (cs ++ [w]) W (r + 1) else (cs, w :: W, r)
def pn_B (B : pm_C) (p en : Int) (cs W : List Int) (r : Nat) : Prop := B p en (pd_ cs W r).1 (pd_ cs W r).2.1 (pd_ cs W r).2.2
def an_ (l : List Int) : Prop := ∀ x ∈ l, x = 10
def ao_ (l : List Int) : Prop := ∀ x ∈ l, x = 10 ∨ x = 11
theorem an_ao {l : List Int} (h : an_ l) : ao_ l := fun x hx => Or.inl (h x hx)
theorem an_0 : an_ [] := fun x hx => by cases hx
theorem ao_0 : ao_ [] := fun x hx => by cases hx
theorem an_1 : an_ [10] := fun x hx => by rw [List.mem_singleton] at hx; exact hx
theorem ao_1 : ao_ [11] := fun x hx => by rw [List.mem_singleton] at hx; exact Or.inr hx
theorem ao_ap {l k : List Int} (h : ao_ l) (h2 : ao_ k) : ao_ (l ++ k) := fun x hx => by
  rcases List.mem_append.mp hx with q | q
  · exact h x q
  · exact h2 x q
theorem pn_B_eq {B : pm_C} {p en : Int} {cs W : List Int} {r : Nat} (h : hd_ (fun w => ¬ w = 12) W) : pn_B B p en cs W r ↔ B p en cs W r := by
  unfold pn_B
  cases W with
  | nil => exact Iff.rfl
  | cons w W =>
    have h : ¬ w = 12 := h
    have e : pd_ cs (w :: W) r = (cs, w :: W, r) := if_neg h
    rw [e]
theorem pn_B_12 {B : pm_C} {p en : Int} {cs W : List Int} {r : Nat} : pn_B B p en cs (12 :: W) r ↔ pn_B B p en (cs ++ [12]) W (r + 1) := by
  unfold pn_B
  have e : pd_ cs (12 :: W) r = pd_ (cs ++ [12]) W (r + 1) := if_pos rfl
  rw [e]
/-- the rules -/
def tm_R (t : Int → Int) (e : Int) (A B : pm_C) (F : Int → Int → Prop) : Prop :=
  (∀ p en cs W r, rd_is t e en p w_not = true → (r = 0 → F 4 p) → (∀ r', r = r' + 1 → A (rd_at t e (p + rd_wd t e en p)) (p + rd_wd t e en p) cs (12 :: W) r') → A p en cs W r) ∧
  (∀ p en cs W r, ¬ rd_is t e en p w_not = true → rc t e p = 91 → (r = 0 → F 4 p) → (∀ r', r = r' + 1 → A (rd_at t e (p + 1)) en cs (25 :: W) r') → A p en cs W r) ∧
  (∀ p en cs W r, ¬ rd_is t e en p w_not = true → ¬ rc t e p = 91 → rd_is t e en p w_all = true → pn_B B (rd_at t e (p + rd_wd t e en p)) (p + rd_wd t e en p) (cs ++ [13]) W r → A p en cs W r) ∧
  (∀ p en cs W r, ¬ rd_is t e en p w_not = true → ¬ rc t e p = 91 → ¬ rd_is t e en p w_all = true → (∀ k z, pw_cmp t e r p en = .error (k, z) → F k z) → (∀ p1 en1 ds, pw_cmp t e r p en = .ok (p1, en1, ds) → pn_B B p1 en1 (cs ++ ds) W r) → A p en cs W r) ∧
  (∀ p en cs U W r, ao_ U → rc t e p = 93 → pn_B B (rd_at t e (p + 1)) en (cs ++ U) W (r + 1) → B p en cs (U ++ 25 :: W) r) ∧
  (∀ p en cs U W r, an_ U → hd_ (fun w => ¬ w = 10) W → rd_is t e en p w_and = true → A (rd_at t e (p + rd_wd t e en p)) (p + rd_wd t e en p) (cs ++ U) (10 :: W) r → B p en cs (U ++ W) r) ∧
  (∀ p en cs U W r, ao_ U → hd_ (fun w => ¬ (w = 10 ∨ w = 11)) W → rd_is t e en p w_or = true → A (rd_at t e (p + rd_wd t e en p)) (p + rd_wd t e en p) (cs ++ U) (11 :: W) r → B p en cs (U ++ W) r) ∧
  (∀ p en cs U W r, ao_ U → ¬ rc t e p = 93 → ¬ rd_is t e en p w_and = true → ¬ rd_is t e en p w_or = true → F 1 p → B p en cs (U ++ 25 :: W) r)
section TM
variable {t : Int → Int} {e : Int} {A B : pm_C} {F : Int → Int → Prop}
/-- what a reader by parts gives, for the machine -/
def tm_P (B : pm_C) (F : Int → Int → Prop) (cs W : List Int) (r : Nat) (x : pr_ (List Int)) : Prop := match x with
  | .error (k, z) => F k z
  | .ok (p1, en1, ds) => pn_B B p1 en1 (cs ++ ds) W r
def tm_M (t : Int → Int) (e : Int) (B : pm_C) (F : Int → Int → Prop) (cs W : List Int) (r : Nat) (x : pr_ (List Int)) : Prop := match x with
  | .error (k, z) => F k z
  | .ok (p1, en1, ds) => ∀ ds1 U, ds = ds1 ++ U → an_ U → ¬ rd_is t e en1 p1 w_and = true → B p1 en1 (cs ++ ds1) (U ++ W) r
def tm_S (t : Int → Int) (e : Int) (B : pm_C) (F : Int → Int → Prop) (cs W : List Int) (r : Nat) (x : pr_ (List Int)) : Prop := match x with
  | .error (k, z) => F k z
  | .ok (p1, en1, ds) => ∀ ds1 U, ds = ds1 ++ U → ao_ U → ¬ rd_is t e en1 p1 w_and = true → ¬ rd_is t e en1 p1 w_or = true → B p1 en1 (cs ++ ds1) (U ++ W) r
theorem tm_P_b {α : Type} {cs W : List Int} {r : Nat} {x : pr_ α} {f : Int → Int → α → pr_ (List Int)} (h : tm_P B F cs W r (pr_b x f)) : (∀ k z, x = .error (k, z) → F k z) ∧ ∀ p1 en1 a, x = .ok (p1, en1, a) → tm_P B F cs W r (f p1 en1 a) := by
  match x, h with
  | .error (k, z), h => exact ⟨fun k' z' hx => (by cases hx; exact h), fun p1 en1 a hx => (by cases hx)⟩
  | .ok (p1, en1, a), h => exact ⟨fun k' z' hx => (by cases hx), fun p1' en1' a' hx => (by cases hx; exact h)⟩
theorem tm_M_b {α : Type} {cs W : List Int} {r : Nat} {x : pr_ α} {f : Int → Int → α → pr_ (List Int)} (h : tm_M t e B F cs W r (pr_b x f)) : (∀ k z, x = .error (k, z) → F k z) ∧ ∀ p1 en1 a, x = .ok (p1, en1, a) → tm_M t e B F cs W r (f p1 en1 a) := by
  match x, h with
  | .error (k, z), h => exact ⟨fun k' z' hx => (by cases hx; exact h), fun p1 en1 a hx => (by cases hx)⟩
  | .ok (p1, en1, a), h => exact ⟨fun k' z' hx => (by cases hx), fun p1' en1' a' hx => (by cases hx; exact h)⟩
theorem tm_S_b {α : Type} {cs W : List Int} {r : Nat} {x : pr_ α} {f : Int → Int → α → pr_ (List Int)} (h : tm_S t e B F cs W r (pr_b x f)) : (∀ k z, x = .error (k, z) → F k z) ∧ ∀ p1 en1 a, x = .ok (p1, en1, a) → tm_S t e B F cs W r (f p1 en1 a) := by
  match x, h with
  | .error (k, z), h => exact ⟨fun k' z' hx => (by cases hx; exact h), fun p1 en1 a hx => (by cases hx)⟩
  | .ok (p1, en1, a), h => exact ⟨fun k' z' hx => (by cases hx), fun p1' en1' a' hx => (by cases hx; exact h)⟩
/-- what is wanted of a reader of facts -/
def tm_A (t : Int → Int) (e : Int) (A B : pm_C) (F : Int → Int → Prop) (sub : Int → Int → pr_ (List Int)) (r : Nat) : Prop := ∀ p en cs W, 0 ≤ p → p ≤ e → rd_at t e p = p → tm_P B F cs W r (sub p en) → A p en cs W r
theorem tm_lpM (R : tm_R t e A B F) {sub : Int → Int → pr_ (List Int)} {r : Nat} (hg : pz_gs t e sub) (hA : tm_A t e A B F sub r) {cs W : List Int} (hW : hd_ (fun w => ¬ w = 10) W) : ∀ (m : Nat) (p en : Int) (ds ds1 U : List Int), e - p < m → 0 ≤ p → p ≤ e → rd_at t e p = p → ds = ds1 ++ U → an_ U → tm_M t e B F cs W r (pw_lp t e w_and 10 sub m p en ds) → B p en (cs ++ ds1) (U ++ W) r
  | 0, p, en, ds, ds1, U, hm, h0, h1, h2, hd, hU, h => by omega
  | m + 1, p, en, ds, ds1, U, hm, h0, h1, h2, hd, hU, h => by
    unfold pw_lp at h
    by_cases c1 : rd_is t e en p w_and = true
    · rw [if_pos c1] at h
      have hp := rd_is_pos c1
      have hl := (rd_wd_le (t := t) (en := en) h1).2
      have hr := rd_at_le (t := t) (e := e) (i := p + rd_wd t e en p) hl
      obtain ⟨b1, b2⟩ := tm_M_b h
      refine R.2.2.2.2.2.1 p en (cs ++ ds1) U W r hU hW c1 ?_
      have hgp := hg (rd_at t e (p + rd_wd t e en p)) (p + rd_wd t e en p) (by omega) hr.2 rd_at_at
      refine hA _ _ _ _ (by omega) hr.2 rd_at_at ?_
      cases hx : sub (rd_at t e (p + rd_wd t e en p)) (p + rd_wd t e en p) with
      | error z => exact b1 z.1 z.2 hx
      | ok z =>
        obtain ⟨p1, en1, fs⟩ := z
        obtain ⟨g1, g2, g3, g4, g5⟩ := pz_g_o hgp hx
        refine (pn_B_eq (hd_c (P := fun w => ¬ w = 12) (show ¬ (10 : Int) = 12 by decide))).mpr ?_
        have ih := tm_lpM R hg hA hW m p1 en1 (ds ++ fs ++ [10]) (ds ++ fs) [10] (by omega) (by omega) g2 g3 rfl an_1 (b2 p1 en1 fs hx)
        rw [show cs ++ ds1 ++ U ++ fs = cs ++ (ds ++ fs) by rw [hd]; simp only [List.append_assoc]]
        exact ih
    · rw [if_neg c1] at h
      exact h ds1 U hd hU c1
theorem tm_both (R : tm_R t e A B F) {sub : Int → Int → pr_ (List Int)} {r : Nat} (he : e ≤ 1600) (hg : pz_gs t e sub) (hA : tm_A t e A B F sub r) {cs W : List Int} (hW : hd_ (fun w => ¬ w = 10 ∧ ¬ w = 12) W) {p en : Int} (h0 : 0 ≤ p) (h1 : p ≤ e) (h2 : rd_at t e p = p) (h : tm_M t e B F cs W r (pw_both t e sub p en)) : A p en cs W r := by
  obtain ⟨b1, b2⟩ := tm_M_b h
  have hgp := hg p en h0 h1 h2
  have w1 : hd_ (fun w => ¬ w = 10) W := by
    cases W with
    | nil => trivial
    | cons w W => exact hW.1
  have w2 : hd_ (fun w => ¬ w = 12) W := by
    cases W with
    | nil => trivial
    | cons w W => exact hW.2
  refine hA p en cs W h0 h1 h2 ?_
  cases hx : sub p en with
  | error z => exact b1 z.1 z.2 hx
  | ok z =>
    obtain ⟨p1, en1, fs⟩ := z
    obtain ⟨g1, g2, g3, g4, g5⟩ := pz_g_o hgp hx
    refine (pn_B_eq w2).mpr ?_
    have ih := tm_lpM R hg hA w1 1600 p1 en1 fs fs [] (by omega) (by omega) g2 g3 (List.append_nil _).symm an_0 (b2 p1 en1 fs hx)
    exact ih
theorem tm_lpS (R : tm_R t e A B F) {sub : Int → Int → pr_ (List Int)} {r : Nat} (he : e ≤ 1600) (hg : pz_gs t e sub) (hA : tm_A t e A B F sub r) {cs W : List Int} (hW : hd_ (fun w => ¬ (w = 10 ∨ w = 11)) W) : ∀ (m : Nat) (p en : Int) (ds ds1 U : List Int), e - p < m → 0 ≤ p → p ≤ e → rd_at t e p = p → ds = ds1 ++ U → ao_ U → ¬ rd_is t e en p w_and = true → tm_S t e B F cs W r (pw_lp t e w_or 11 (pw_both t e sub) m p en ds) → B p en (cs ++ ds1) (U ++ W) r
  | 0, p, en, ds, ds1, U, hm, h0, h1, h2, hd, hU, n1, h => by omega
  | m + 1, p, en, ds, ds1, U, hm, h0, h1, h2, hd, hU, n1, h => by
    unfold pw_lp at h
    by_cases c1 : rd_is t e en p w_or = true
    · rw [if_pos c1] at h
      have hp := rd_is_pos c1
      have hl := (rd_wd_le (t := t) (en := en) h1).2
      have hr := rd_at_le (t := t) (e := e) (i := p + rd_wd t e en p) hl
      obtain ⟨b1, b2⟩ := tm_S_b h
      refine R.2.2.2.2.2.2.1 p en (cs ++ ds1) U W r hU hW c1 ?_
      have hgp := pw_both_g hg (rd_at t e (p + rd_wd t e en p)) (p + rd_wd t e en p) (by omega) hr.2 rd_at_at
      refine tm_both R he hg hA (hd_c (P := fun w => ¬ w = 10 ∧ ¬ w = 12) (show ¬ (11 : Int) = 10 ∧ ¬ (11 : Int) = 12 by decide)) (by omega) hr.2 rd_at_at ?_
      cases hx : pw_both t e sub (rd_at t e (p + rd_wd t e en p)) (p + rd_wd t e en p) with
      | error z => exact b1 z.1 z.2 hx
      | ok z =>
        obtain ⟨p1, en1, fs⟩ := z
        obtain ⟨g1, g2, g3, g4, g5⟩ := pz_g_o hgp hx
        intro fs1 V hf hV m1
        have ih := tm_lpS R he hg hA hW m p1 en1 (ds ++ fs ++ [11]) (ds ++ fs1) (V ++ [11]) (by omega) (by omega) g2 g3 (by rw [hf]; simp only [List.append_assoc]) (ao_ap (an_ao hV) ao_1) m1 (b2 p1 en1 fs hx)
        rw [show cs ++ ds1 ++ U ++ fs1 = cs ++ (ds ++ fs1) by rw [hd]; simp only [List.append_assoc], show V ++ 11 :: W = V ++ [11] ++ W by rw [List.append_assoc]; rfl]
        exact ih
    · rw [if_neg c1] at h
      exact h ds1 U hd hU n1 c1
theorem tm_test (R : tm_R t e A B F) {sub : Int → Int → pr_ (List Int)} {r : Nat} (he : e ≤ 1600) (hg : pz_gs t e sub) (hA : tm_A t e A B F sub r) {cs W : List Int} (hW : hd_ (fun w => ¬ (w = 10 ∨ w = 11) ∧ ¬ w = 12) W) {p en : Int} (h0 : 0 ≤ p) (h1 : p ≤ e) (h2 : rd_at t e p = p) (h : tm_S t e B F cs W r (pw_test t e sub p en)) : A p en cs W r := by
  obtain ⟨b1, b2⟩ := tm_S_b h
  have hgp := pw_both_g hg p en h0 h1 h2
  have w1 : hd_ (fun w => ¬ (w = 10 ∨ w = 11)) W := by
    cases W with
    | nil => trivial
    | cons w W => exact hW.1
  have w2 : hd_ (fun w => ¬ w = 10 ∧ ¬ w = 12) W := by
    cases W with
    | nil => trivial
    | cons w W => exact ⟨fun y => hW.1 (Or.inl y), hW.2⟩
  refine tm_both R he hg hA w2 h0 h1 h2 ?_
  cases hx : pw_both t e sub p en with
  | error z => exact b1 z.1 z.2 hx
  | ok z =>
    obtain ⟨p1, en1, fs⟩ := z
    obtain ⟨g1, g2, g3, g4, g5⟩ := pz_g_o hgp hx
    intro fs1 V hf hV m1
    exact tm_lpS R he hg hA w1 1600 p1 en1 fs fs1 V (by omega) (by omega) g2 g3 hf (an_ao hV) m1 (b2 p1 en1 fs hx)
theorem tm_body (R : tm_R t e A B F) (he : e ≤ 1600) {o : Option (Int → Int → pr_ (List Int))} {r : Nat} (ho : (o = none ∧ r = 0) ∨ ∃ sub r', o = some sub ∧ r = r' + 1 ∧ pz_gs t e sub ∧ tm_A t e A B F sub r') : tm_A t e A B F (pw_body t e r o) r := by
  intro p en cs W h0 h1 h2 h
  unfold pw_body at h
  have hl := rd_wd_le (t := t) (en := en) h1
  have hr := rd_at_le (t := t) (e := e) (i := p + rd_wd t e en p) hl.2
  by_cases c1 : rd_is t e en p w_not = true
  · rw [if_pos c1] at h
    have hp := rd_is_pos c1
    refine R.1 p en cs W r c1 (fun hr0 => ?_) (fun r' hr' => ?_)
    · rcases ho with ⟨o1, o2⟩ | ⟨sub, r', o1, o2, o3, o4⟩
      · rw [o1] at h; exact h
      · omega
    · rcases ho with ⟨o1, o2⟩ | ⟨sub, r2, o1, o2, o3, o4⟩
      · omega
      · have er : r' = r2 := by omega
        subst er
        subst o2
        rw [o1] at h
        obtain ⟨b1, b2⟩ := tm_P_b h
        refine o4 _ _ _ _ (by omega) hr.2 rd_at_at ?_
        cases hx : sub (rd_at t e (p + rd_wd t e en p)) (p + rd_wd t e en p) with
        | error z => exact b1 z.1 z.2 hx
        | ok z =>
          obtain ⟨p1, en1, fs⟩ := z
          refine pn_B_12.mpr ?_
          have := b2 p1 en1 fs hx
          rw [List.append_assoc]
          exact this
  · rw [if_neg c1] at h
    by_cases c2 : rc t e p = 91
    · rw [if_pos c2] at h
      have hlt := (rc_lt c2 (by decide)).1
      have hr1 := rd_at_le (t := t) (e := e) (i := p + 1) (by omega)
      refine R.2.1 p en cs W r c1 c2 (fun hr0 => ?_) (fun r' hr' => ?_)
      · rcases ho with ⟨o1, o2⟩ | ⟨sub, r', o1, o2, o3, o4⟩
        · rw [o1] at h; exact h
        · omega
      · rcases ho with ⟨o1, o2⟩ | ⟨sub, r2, o1, o2, o3, o4⟩
        · omega
        · have er : r' = r2 := by omega
          subst er
          subst o2
          rw [o1] at h
          obtain ⟨b1, b2⟩ := tm_P_b h
          refine tm_test R he o3 o4 (hd_c (P := fun w => ¬ (w = 10 ∨ w = 11) ∧ ¬ w = 12) (show ¬ ((25 : Int) = 10 ∨ (25 : Int) = 11) ∧ ¬ (25 : Int) = 12 by decide)) (by omega) hr1.2 rd_at_at ?_
          cases hx : pw_test t e sub (rd_at t e (p + 1)) en with
          | error z => exact b1 z.1 z.2 hx
          | ok z =>
            obtain ⟨p1, en1, fs⟩ := z
            intro fs1 U hfs hU n1 n2
            have hb := b2 p1 en1 fs hx
            unfold pr_sg at hb
            by_cases c : rc t e p1 = 93
            · rw [if_pos c] at hb
              refine R.2.2.2.2.1 p1 en1 (cs ++ fs1) U W r' hU c ?_
              rw [show cs ++ fs1 ++ U = cs ++ fs by rw [hfs, List.append_assoc]]
              exact hb
            · rw [if_neg c] at hb
              exact R.2.2.2.2.2.2.2 p1 en1 (cs ++ fs1) U W r' hU c n1 n2 hb
    · rw [if_neg c2] at h
      by_cases c3 : rd_is t e en p w_all = true
      · rw [if_pos c3] at h
        exact R.2.2.1 p en cs W r c1 c2 c3 h
      · rw [if_neg c3] at h
        refine R.2.2.2.1 p en cs W r c1 c2 c3 (fun k z hx => ?_) (fun p1 en1 ds hx => ?_)
        · rw [hx] at h; exact h
        · rw [hx] at h; exact h
theorem tm_fact (R : tm_R t e A B F) (he : e ≤ 1600) : ∀ r : Nat, tm_A t e A B F (pw_fact t e r) r
  | 0 => tm_body R he (Or.inl ⟨rfl, rfl⟩)
  | r + 1 => tm_body R he (Or.inr ⟨pw_fact t e r, r, rfl, rfl, pw_fact_g r, tm_fact R he r⟩)
end TM
