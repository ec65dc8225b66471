/-! A MACHINE WITH A STACK OF WHAT WAITS reads what the reader by parts reads: A ahead of a part, B behind one, F a fault; the codes so far, what waits (the newest first), how many more may be open -/
abbrev pm_C : Type := Int → Int → List Int → List Int → Nat → Prop
/-- behind a part: what waits for just one part is told -/
def pe_ : List Int → List Int → Nat → List Int × List Int × Nat
  | cs, [], r => (cs, [], r)
  | cs, w :: W, r => if 60 ≤ w then pe_ (cs ++ [w]) W (r + 1) else (cs, w :: W, r)
def pm_B (B : pm_C) (p en : Int) (cs W : List Int) (r : Nat) : Prop := B p en (pe_ cs W r).1 (pe_ cs W r).2.1 (pe_ cs W r).2.2
def mu_ (l : List Int) : Prop := ∀ x ∈ l, x = 3 ∨ x = 4
def op_ (l : List Int) : Prop := ∀ x ∈ l, 1 ≤ x ∧ x ≤ 4
def hd_ (P : Int → Prop) (W : List Int) : Prop := match W with
  | [] => True
  | w :: _ => P w
theorem hd_c {P : Int → Prop} {w : Int} {W : List Int} (h : P w) : hd_ P (w :: W) := h
theorem mu_op {l : List Int} (h : mu_ l) : op_ l := fun x hx => by have := h x hx; omega
theorem mu_0 : mu_ [] := fun x hx => by cases hx
theorem op_0 : op_ [] := fun x hx => by cases hx
theorem mu_1 {k : Int} (h : k = 3 ∨ k = 4) : mu_ [k] := fun x hx => by rw [List.mem_singleton] at hx; rw [hx]; exact h
theorem op_1 {k : Int} (h : 1 ≤ k ∧ k ≤ 4) : op_ [k] := fun x hx => by rw [List.mem_singleton] at hx; rw [hx]; exact h
theorem op_ap {l k : List Int} (h : op_ l) (h2 : op_ k) : op_ (l ++ k) := fun x hx => by
  rcases List.mem_append.mp hx with q | q
  · exact h x q
  · exact h2 x q
theorem pm_B_eq {B : pm_C} {p en : Int} {cs W : List Int} {r : Nat} (h : hd_ (fun w => w < 60) W) : pm_B B p en cs W r ↔ B p en cs W r := by
  unfold pm_B
  cases W with
  | nil => exact Iff.rfl
  | cons w W =>
    have h : w < 60 := h
    have e : pe_ cs (w :: W) r = (cs, w :: W, r) := if_neg (by omega)
    rw [e]
theorem pm_B_60 {B : pm_C} {p en : Int} {cs W : List Int} {r : Nat} : pm_B B p en cs (60 :: W) r ↔ pm_B B p en (cs ++ [60]) W (r + 1) := by
  unfold pm_B
  have e : pe_ cs (60 :: W) r = pe_ (cs ++ [60]) W (r + 1) := if_pos (by decide)
  rw [e]
/-- the rules -/
def pm_R (q : Bool) (t : Int → Int) (e : Int) (A B : pm_C) (F : Int → Int → Prop) : Prop :=
  (∀ p en cs W r, is_di (rc t e p) = true → (∀ k x, pr_num t e 9999 p en = .error (k, x) → F k x) → (∀ p1 en1 v, pr_num t e 9999 p en = .ok (p1, en1, v) → pm_B B p1 en1 (cs ++ [1000 + v]) W r) → A p en cs W r) ∧
  (∀ p en cs W r, rc t e p = 40 → (r = 0 → F 4 p) → (∀ r', r = r' + 1 → A (rd_at t e (p + 1)) en cs (20 :: W) r') → A p en cs W r) ∧
  (∀ p en cs W r, ¬ is_di (rc t e p) = true → ¬ rc t e p = 40 → (pr_wc t e en p (ts_ q) = 0 → F 1 p) →
    (pr_wc t e en p (ts_ q) = 5 ∨ pr_wc t e en p (ts_ q) = 6 → rc t e (rd_at t e (p + rd_wd t e en p)) = 40 → r = 0 → F 4 (rd_at t e (p + rd_wd t e en p))) →
    (pr_wc t e en p (ts_ q) = 5 ∨ pr_wc t e en p (ts_ q) = 6 → rc t e (rd_at t e (p + rd_wd t e en p)) = 40 → ∀ r', r = r' + 1 → A (rd_at t e (rd_at t e (p + rd_wd t e en p) + 1)) (p + rd_wd t e en p) cs ((16 + pr_wc t e en p (ts_ q)) :: W) r') →
    (pr_wc t e en p (ts_ q) = 5 ∨ pr_wc t e en p (ts_ q) = 6 → ¬ rc t e (rd_at t e (p + rd_wd t e en p)) = 40 → F 1 (rd_at t e (p + rd_wd t e en p))) →
    (pr_wc t e en p (ts_ q) = 60 → r = 0 → F 4 p) →
    (pr_wc t e en p (ts_ q) = 60 → ∀ r', r = r' + 1 → A (rd_at t e (p + rd_wd t e en p)) (p + rd_wd t e en p) cs (60 :: W) r') →
    (¬ pr_wc t e en p (ts_ q) = 0 → ¬ (pr_wc t e en p (ts_ q) = 5 ∨ pr_wc t e en p (ts_ q) = 6) → ¬ pr_wc t e en p (ts_ q) = 60 → pm_B B (rd_at t e (p + rd_wd t e en p)) (p + rd_wd t e en p) (cs ++ [pr_wc t e en p (ts_ q)]) W r) → A p en cs W r) ∧
  (∀ p en cs U m W r, op_ U → (m = 20 ∨ m = 23 ∨ m = 24) → rc t e p = 41 → pm_B B (rd_at t e (p + 1)) en (cs ++ U ++ (if m = 20 then [] else [m - 18])) W (r + 1) → B p en cs (U ++ m :: W) r) ∧
  (∀ p en cs U W r k, mu_ U → hd_ (fun w => ¬ (w = 3 ∨ w = 4)) W → (k = 3 ∧ rc t e p = 42 ∨ k = 4 ∧ rc t e p = 47) → A (rd_at t e (p + 1)) en (cs ++ U) (k :: W) r → B p en cs (U ++ W) r) ∧
  (∀ p en cs U W r k, op_ U → hd_ (fun w => ¬ (1 ≤ w ∧ w ≤ 4)) W → (k = 1 ∧ rc t e p = 43 ∨ k = 2 ∧ rc t e p = 45) → A (rd_at t e (p + 1)) en (cs ++ U) (k :: W) r → B p en cs (U ++ W) r) ∧
  (∀ p en cs U m W r, op_ U → (m = 21 ∨ m = 22) → ¬ rc t e p = 42 → ¬ rc t e p = 47 → ¬ rc t e p = 43 → ¬ rc t e p = 45 → (rc t e p = 44 → A (rd_at t e (p + 1)) en (cs ++ U) ((m + 2) :: W) r) → (¬ rc t e p = 44 → F 1 p) → B p en cs (U ++ m :: W) r) ∧
  (∀ p en cs U m W r, op_ U → (m = 20 ∨ m = 23 ∨ m = 24) → ¬ rc t e p = 42 → ¬ rc t e p = 47 → ¬ rc t e p = 43 → ¬ rc t e p = 45 → ¬ rc t e p = 41 → F 1 p → B p en cs (U ++ m :: W) r)
section PM
variable {q : Bool} {t : Int → Int} {e : Int} {A B : pm_C} {F : Int → Int → Prop}
/-- what a reader by parts gives, for the machine -/
def pm_P (B : pm_C) (F : Int → Int → Prop) (cs W : List Int) (r : Nat) (x : pr_ (List Int)) : Prop := match x with
  | .error (k, z) => F k z
  | .ok (p1, en1, ds) => pm_B B p1 en1 (cs ++ ds) W r
def pm_M (t : Int → Int) (e : Int) (B : pm_C) (F : Int → Int → Prop) (cs W : List Int) (r : Nat) (x : pr_ (List Int)) : Prop := match x with
  | .error (k, z) => F k z
  | .ok (p1, en1, ds) => ∀ ds1 U, ds = ds1 ++ U → mu_ U → ¬ rc t e p1 = 42 → ¬ rc t e p1 = 47 → B p1 en1 (cs ++ ds1) (U ++ W) r
def pm_S (t : Int → Int) (e : Int) (B : pm_C) (F : Int → Int → Prop) (cs W : List Int) (r : Nat) (x : pr_ (List Int)) : Prop := match x with
  | .error (k, z) => F k z
  | .ok (p1, en1, ds) => ∀ ds1 U, ds = ds1 ++ U → op_ U → ¬ rc t e p1 = 42 → ¬ rc t e p1 = 47 → ¬ rc t e p1 = 43 → ¬ rc t e p1 = 45 → B p1 en1 (cs ++ ds1) (U ++ W) r
theorem pm_P_b {α : Type} {cs W : List Int} {r : Nat} {x : pr_ α} {f : Int → Int → α → pr_ (List Int)} (h : pm_P B F cs W r (pr_b x f)) : (∀ k z, x = .error (k, z) → F k z) ∧ ∀ p1 en1 a, x = .ok (p1, en1, a) → pm_P B F cs W r (f p1 en1 a) := by
  match x, h with
  | .error (k, z), h => exact ⟨fun k' z' hx => (by cases hx; exact h), fun p1 en1 a hx => (by cases hx)⟩
  | .ok (p1, en1, a), h => exact ⟨fun k' z' hx => (by cases hx), fun p1' en1' a' hx => (by cases hx; exact h)⟩
theorem pm_M_b {α : Type} {cs W : List Int} {r : Nat} {x : pr_ α} {f : Int → Int → α → pr_ (List Int)} (h : pm_M t e B F cs W r (pr_b x f)) : (∀ k z, x = .error (k, z) → F k z) ∧ ∀ p1 en1 a, x = .ok (p1, en1, a) → pm_M t e B F cs W r (f p1 en1 a) := by
  match x, h with
  | .error (k, z), h => exact ⟨fun k' z' hx => (by cases hx; exact h), fun p1 en1 a hx => (by cases hx)⟩
  | .ok (p1, en1, a), h => exact ⟨fun k' z' hx => (by cases hx), fun p1' en1' a' hx => (by cases hx; exact h)⟩
theorem pm_S_b {α : Type} {cs W : List Int} {r : Nat} {x : pr_ α} {f : Int → Int → α → pr_ (List Int)} (h : pm_S t e B F cs W r (pr_b x f)) : (∀ k z, x = .error (k, z) → F k z) ∧ ∀ p1 en1 a, x = .ok (p1, en1, a) → pm_S t e B F cs W r (f p1 en1 a) := by
  match x, h with
  | .error (k, z), h => exact ⟨fun k' z' hx => (by cases hx; exact h), fun p1 en1 a hx => (by cases hx)⟩
  | .ok (p1, en1, a), h => exact ⟨fun k' z' hx => (by cases hx), fun p1' en1' a' hx => (by cases hx; exact h)⟩
/-- what is wanted of a reader of parts -/
def pm_A (t : Int → Int) (e : Int) (A B : pm_C) (F : Int → Int → Prop) (sub : Int → Int → pr_ (List Int)) (r : Nat) : Prop := ∀ p en cs W, 0 ≤ p → p ≤ e → rd_at t e p = p → pm_P B F cs W r (sub p en) → A p en cs W r
theorem pm_lpM (R : pm_R q t e A B F) {sub : Int → Int → pr_ (List Int)} {r : Nat} (hg : pz_gs t e sub) (hA : pm_A t e A B F sub r) {cs W : List Int} (hW : hd_ (fun w => ¬ (w = 3 ∨ w = 4)) W) : ∀ (m : Nat) (p en : Int) (ds ds1 U : List Int), e - p < m → 0 ≤ p → p ≤ e → rd_at t e p = p → ds = ds1 ++ U → mu_ U → pm_M t e B F cs W r (pz_lp t e 42 47 3 4 sub m p en ds) → B p en (cs ++ ds1) (U ++ W) r
  | 0, p, en, ds, ds1, U, hm, h0, h1, h2, hd, hU, h => by omega
  | m + 1, p, en, ds, ds1, U, hm, h0, h1, h2, hd, hU, h => by
    have go : ∀ c k : Int, (k = 3 ∧ rc t e p = 42 ∨ k = 4 ∧ rc t e p = 47) → p < e → pm_M t e B F cs W r (pr_b (sub (rd_at t e (p + 1)) en) (fun p' en' fs => pz_lp t e 42 47 3 4 sub m p' en' (ds ++ fs ++ [k]))) → B p en (cs ++ ds1) (U ++ W) r := fun c k hk hlt h => by
      have hr := rd_at_le (t := t) (e := e) (i := p + 1) (by omega)
      obtain ⟨b1, b2⟩ := pm_M_b h
      refine R.2.2.2.2.1 p en (cs ++ ds1) U W r k hU hW hk ?_
      have hgp := hg (rd_at t e (p + 1)) en (by omega) hr.2 rd_at_at
      refine hA _ _ _ _ (by omega) hr.2 rd_at_at ?_
      cases hx : sub (rd_at t e (p + 1)) en with
      | error z => exact b1 z.1 z.2 hx
      | ok z =>
        obtain ⟨p1, en1, fs⟩ := z
        obtain ⟨g1, g2, g3, g4, g5⟩ := pz_g_o hgp hx
        refine (pm_B_eq (hd_c (P := fun w => w < 60) (show (k : Int) < 60 by omega))).mpr ?_
        have ih := pm_lpM R hg hA hW m p1 en1 (ds ++ fs ++ [k]) (ds ++ fs) [k] (by omega) (by omega) g2 g3 rfl (mu_1 (by omega)) (b2 p1 en1 fs hx)
        rw [show cs ++ ds1 ++ U ++ fs = cs ++ (ds ++ fs) by rw [hd]; simp only [List.append_assoc]]
        exact ih
    unfold pz_lp at h
    by_cases c1 : rc t e p = 42
    · rw [if_pos c1] at h
      exact go 0 3 (Or.inl ⟨rfl, c1⟩) (rc_lt c1 (by decide)).1 h
    · rw [if_neg c1] at h
      by_cases c2 : rc t e p = 47
      · rw [if_pos c2] at h
        exact go 0 4 (Or.inr ⟨rfl, c2⟩) (rc_lt c2 (by decide)).1 h
      · rw [if_neg c2] at h
        exact h ds1 U hd hU c1 c2
theorem pm_prod (R : pm_R q t e A B F) {sub : Int → Int → pr_ (List Int)} {r : Nat} (he : e ≤ 1600) (hg : pz_gs t e sub) (hA : pm_A t e A B F sub r) {cs W : List Int} (hW : hd_ (fun w => ¬ (w = 3 ∨ w = 4) ∧ w < 60) W) {p en : Int} (h0 : 0 ≤ p) (h1 : p ≤ e) (h2 : rd_at t e p = p) (h : pm_M t e B F cs W r (pz_prod t e sub p en)) : A p en cs W r := by
  obtain ⟨b1, b2⟩ := pm_M_b h
  have hgp := hg p en h0 h1 h2
  have w1 : hd_ (fun w => ¬ (w = 3 ∨ w = 4)) W := by
    cases W with
    | nil => trivial
    | cons w W => exact hW.1
  have w2 : hd_ (fun w => w < 60) W := by
    cases W with
    | nil => trivial
    | cons w W => exact hW.2
  refine hA p en cs W h0 h1 h2 ?_
  cases hx : sub p en with
  | error z => exact b1 z.1 z.2 hx
  | ok z =>
    obtain ⟨p1, en1, fs⟩ := z
    obtain ⟨g1, g2, g3, g4, g5⟩ := pz_g_o hgp hx
    refine (pm_B_eq w2).mpr ?_
    have ih := pm_lpM R hg hA w1 1600 p1 en1 fs fs [] (by omega) (by omega) g2 g3 (List.append_nil _).symm mu_0 (b2 p1 en1 fs hx)
    exact ih
theorem pm_lpS (R : pm_R q t e A B F) {sub : Int → Int → pr_ (List Int)} {r : Nat} (he : e ≤ 1600) (hg : pz_gs t e sub) (hA : pm_A t e A B F sub r) {cs W : List Int} (hW : hd_ (fun w => ¬ (1 ≤ w ∧ w ≤ 4)) W) : ∀ (m : Nat) (p en : Int) (ds ds1 U : List Int), e - p < m → 0 ≤ p → p ≤ e → rd_at t e p = p → ds = ds1 ++ U → op_ U → ¬ rc t e p = 42 → ¬ rc t e p = 47 → pm_S t e B F cs W r (pz_lp t e 43 45 1 2 (pz_prod t e sub) m p en ds) → B p en (cs ++ ds1) (U ++ W) r
  | 0, p, en, ds, ds1, U, hm, h0, h1, h2, hd, hU, n1, n2, h => by omega
  | m + 1, p, en, ds, ds1, U, hm, h0, h1, h2, hd, hU, n1, n2, h => by
    have go : ∀ k : Int, (k = 1 ∧ rc t e p = 43 ∨ k = 2 ∧ rc t e p = 45) → p < e → pm_S t e B F cs W r (pr_b (pz_prod t e sub (rd_at t e (p + 1)) en) (fun p' en' fs => pz_lp t e 43 45 1 2 (pz_prod t e sub) m p' en' (ds ++ fs ++ [k]))) → B p en (cs ++ ds1) (U ++ W) r := fun k hk hlt h => by
      have hr := rd_at_le (t := t) (e := e) (i := p + 1) (by omega)
      obtain ⟨b1, b2⟩ := pm_S_b h
      refine R.2.2.2.2.2.1 p en (cs ++ ds1) U W r k hU hW hk ?_
      have hgp := pz_prod_g hg (rd_at t e (p + 1)) en (by omega) hr.2 rd_at_at
      refine pm_prod R he hg hA (hd_c (P := fun w => ¬ (w = 3 ∨ w = 4) ∧ w < 60) (show ¬ (k = 3 ∨ k = 4) ∧ k < 60 by omega)) (by omega) hr.2 rd_at_at ?_
      cases hx : pz_prod t e sub (rd_at t e (p + 1)) en with
      | error z => exact b1 z.1 z.2 hx
      | ok z =>
        obtain ⟨p1, en1, fs⟩ := z
        obtain ⟨g1, g2, g3, g4, g5⟩ := pz_g_o hgp hx
        intro fs1 V hf hV m1 m2
        have ih := pm_lpS R he hg hA hW m p1 en1 (ds ++ fs ++ [k]) (ds ++ fs1) (V ++ [k]) (by omega) (by omega) g2 g3 (by rw [hf]; simp only [List.append_assoc]) (op_ap (mu_op hV) (op_1 (by omega))) m1 m2 (b2 p1 en1 fs hx)
        rw [show cs ++ ds1 ++ U ++ fs1 = cs ++ (ds ++ fs1) by rw [hd]; simp only [List.append_assoc], show V ++ k :: W = V ++ [k] ++ W by rw [List.append_assoc]; rfl]
        exact ih
    unfold pz_lp at h
    by_cases c1 : rc t e p = 43
    · rw [if_pos c1] at h
      exact go 1 (Or.inl ⟨rfl, c1⟩) (rc_lt c1 (by decide)).1 h
    · rw [if_neg c1] at h
      by_cases c2 : rc t e p = 45
      · rw [if_pos c2] at h
        exact go 2 (Or.inr ⟨rfl, c2⟩) (rc_lt c2 (by decide)).1 h
      · rw [if_neg c2] at h
        exact h ds1 U hd hU n1 n2 c1 c2
theorem pm_sum (R : pm_R q t e A B F) {sub : Int → Int → pr_ (List Int)} {r : Nat} (he : e ≤ 1600) (hg : pz_gs t e sub) (hA : pm_A t e A B F sub r) {cs W : List Int} (hW : hd_ (fun w => ¬ (1 ≤ w ∧ w ≤ 4) ∧ w < 60) W) {p en : Int} (h0 : 0 ≤ p) (h1 : p ≤ e) (h2 : rd_at t e p = p) (h : pm_S t e B F cs W r (pz_sum t e sub p en)) : A p en cs W r := by
  obtain ⟨b1, b2⟩ := pm_S_b h
  have hgp := pz_prod_g hg p en h0 h1 h2
  have w1 : hd_ (fun w => ¬ (1 ≤ w ∧ w ≤ 4)) W := by
    cases W with
    | nil => trivial
    | cons w W => exact hW.1
  have w2 : hd_ (fun w => ¬ (w = 3 ∨ w = 4) ∧ w < 60) W := by
    cases W with
    | nil => trivial
    | cons w W =>
      have z : ¬ (1 ≤ w ∧ w ≤ 4) ∧ w < 60 := hW
      show ¬ (w = 3 ∨ w = 4) ∧ w < 60
      omega
  refine pm_prod R he hg hA w2 h0 h1 h2 ?_
  cases hx : pz_prod t e sub p en with
  | error z => exact b1 z.1 z.2 hx
  | ok z =>
    obtain ⟨p1, en1, fs⟩ := z
    obtain ⟨g1, g2, g3, g4, g5⟩ := pz_g_o hgp hx
    intro fs1 V hf hV m1 m2
    exact pm_lpS R he hg hA w1 1600 p1 en1 fs fs1 V (by omega) (by omega) g2 g3 hf (mu_op hV) m1 m2 (b2 p1 en1 fs hx)
/-- a bracket's sum, then what closes it -/
theorem pm_close (R : pm_R q t e A B F) {sub : Int → Int → pr_ (List Int)} {r : Nat} (he : e ≤ 1600) (hg : pz_gs t e sub) (hA : pm_A t e A B F sub r) {cs W : List Int} {m : Int} (hm : m = 20 ∨ m = 23 ∨ m = 24) {f : List Int → List Int} {p en : Int} (h0 : 0 ≤ p) (h1 : p ≤ e) (h2 : rd_at t e p = p) (h : pm_P B F cs W (r + 1) (pr_b (pz_sum t e sub p en) (fun p1 en1 ds => pr_sg t e 41 (f ds) p1 en1))) (cs0 : List Int) (hf : ∀ ds, cs0 ++ ds ++ (if m = 20 then [] else [m - 18]) = cs ++ f ds) : A p en cs0 (m :: W) r := by
  obtain ⟨b1, b2⟩ := pm_P_b h
  have hgp := pz_sum_g hg p en h0 h1 h2
  refine pm_sum R he hg hA (hd_c (P := fun w => ¬ (1 ≤ w ∧ w ≤ 4) ∧ w < 60) (show ¬ (1 ≤ m ∧ m ≤ 4) ∧ m < 60 by omega)) h0 h1 h2 ?_
  cases hx : pz_sum t e sub p en with
  | error z => exact b1 z.1 z.2 hx
  | ok z =>
    obtain ⟨p1, en1, fs⟩ := z
    intro fs1 U hfs hU n1 n2 n3 n4
    have hb := b2 p1 en1 fs hx
    unfold pr_sg at hb
    by_cases c : rc t e p1 = 41
    · rw [if_pos c] at hb
      refine R.2.2.2.1 p1 en1 (cs0 ++ fs1) U m W r hU hm c ?_
      rw [show cs0 ++ fs1 ++ U = cs0 ++ fs by rw [hfs, List.append_assoc], hf]
      exact hb
    · rw [if_neg c] at hb
      exact R.2.2.2.2.2.2.2 p1 en1 (cs0 ++ fs1) U m W r hU hm n1 n2 n3 n4 c hb
theorem pm_body (R : pm_R q t e A B F) (he : e ≤ 1600) {o : Option (Int → Int → pr_ (List Int))} {r : Nat} (ho : (o = none ∧ r = 0) ∨ ∃ sub r', o = some sub ∧ r = r' + 1 ∧ pz_gs t e sub ∧ pm_A t e A B F sub r') : pm_A t e A B F (pz_body q t e o) r := by
  intro p en cs W h0 h1 h2 h
  unfold pz_body at h
  by_cases c1 : is_di (rc t e p) = true
  · rw [if_pos c1] at h
    obtain ⟨b1, b2⟩ := pm_P_b h
    exact R.1 p en cs W r c1 b1 (fun p1 en1 v hx => b2 p1 en1 v hx)
  · rw [if_neg c1] at h
    by_cases c2 : rc t e p = 40
    · rw [if_pos c2] at h
      have hlt := (rc_lt c2 (by decide)).1
      have hr := rd_at_le (t := t) (e := e) (i := p + 1) (by omega)
      refine R.2.1 p en cs W r c2 (fun hr0 => ?_) (fun r' hr' => ?_)
      · rcases ho with ⟨o1, o2⟩ | ⟨sub, r', o1, o2, o3, o4⟩
        · rw [o1] at h; exact h
        · omega
      · rcases ho with ⟨o1, o2⟩ | ⟨sub, r2, o1, o2, o3, o4⟩
        · omega
        · have er : r' = r2 := by omega
          subst er
          subst o2
          rw [o1] at h
          exact pm_close R he o3 o4 (Or.inl rfl) (by omega) hr.2 rd_at_at h cs (fun ds => by rw [if_pos rfl, List.append_nil])
    · rw [if_neg c2] at h
      unfold pz_word at h
      have hl := (rd_wd_le (t := t) (en := en) h1).2
      have hl0 := (rd_wd_le (t := t) (en := en) h1).1
      have hr := rd_at_le (t := t) (e := e) (i := p + rd_wd t e en p) hl
      refine R.2.2.1 p en cs W r c1 c2 (fun z => ?_) (fun z z2 hr0 => ?_) (fun z z2 r' hr' => ?_) (fun z z2 => ?_) (fun z hr0 => ?_) (fun z r' hr' => ?_) (fun z z2 z3 => ?_)
      · rw [if_pos z] at h; exact h
      · rw [if_neg (by omega), if_pos z] at h
        unfold pz_pair at h
        rw [if_pos z2] at h
        rcases ho with ⟨o1, o2⟩ | ⟨sub, r', o1, o2, o3, o4⟩
        · rw [o1] at h; exact h
        · omega
      · rw [if_neg (by omega), if_pos z] at h
        unfold pz_pair at h
        rw [if_pos z2] at h
        rcases ho with ⟨o1, o2⟩ | ⟨sub, r2, o1, o2, o3, o4⟩
        · omega
        · have er : r' = r2 := by omega
          subst er
          subst o2
          rw [o1] at h
          generalize pr_wc t e en p (ts_ q) = c at z h ⊢
          generalize rd_at t e (p + rd_wd t e en p) = p2 at z2 h hr ⊢
          have hlt := (rc_lt z2 (by decide)).1
          have hr2 := rd_at_le (t := t) (e := e) (i := p2 + 1) (by omega)
          have h : pm_P B F cs W (r' + 1) (pr_b (pz_sum t e sub (rd_at t e (p2 + 1)) (p + rd_wd t e en p)) (fun p1 en1 cs => pr_b (pr_sg t e 44 cs p1 en1) (fun p2 en2 cs => pr_b (pz_sum t e sub p2 en2) (fun p3 en3 ds => pr_sg t e 41 (cs ++ ds ++ [c]) p3 en3)))) := h
          obtain ⟨b1, b2⟩ := pm_P_b h
          have hgp := pz_sum_g o3 (rd_at t e (p2 + 1)) (p + rd_wd t e en p) (by omega) hr2.2 rd_at_at
          refine pm_sum R he o3 o4 (hd_c (P := fun w => ¬ (1 ≤ w ∧ w ≤ 4) ∧ w < 60) (show ¬ (1 ≤ 16 + c ∧ 16 + c ≤ 4) ∧ 16 + c < 60 by omega)) (by omega) hr2.2 rd_at_at ?_
          cases hx : pz_sum t e sub (rd_at t e (p2 + 1)) (p + rd_wd t e en p) with
          | error z => exact b1 z.1 z.2 hx
          | ok z =>
            obtain ⟨p1, en1, fs⟩ := z
            obtain ⟨g1, g2, g3, g4, g5⟩ := pz_g_o hgp hx
            intro fs1 U hfs hU n1 n2 n3 n4
            obtain ⟨d1, d2⟩ := pm_P_b (b2 p1 en1 fs hx)
            refine R.2.2.2.2.2.2.1 p1 en1 (cs ++ fs1) U (16 + c) W r' hU (by omega) n1 n2 n3 n4 (fun y => ?_) (fun y => d1 1 p1 (if_neg y))
            have hlt1 := (rc_lt y (by decide)).1
            have hr3 := rd_at_le (t := t) (e := e) (i := p1 + 1) (by omega)
            have d3 := d2 (rd_at t e (p1 + 1)) en1 fs (if_pos y)
            refine pm_close R he o3 o4 (by omega) (by omega) hr3.2 rd_at_at d3 _ (fun ds => ?_)
            rw [if_neg (by omega), show cs ++ fs1 ++ U = cs ++ fs by rw [hfs, List.append_assoc], show 16 + c + 2 - 18 = c by omega]
            simp only [List.append_assoc]
      · rw [if_neg (by omega), if_pos z] at h
        unfold pz_pair at h
        rw [if_neg z2] at h
        exact h
      · rw [if_neg (by omega), if_neg (by omega), if_pos z] at h
        rcases ho with ⟨o1, o2⟩ | ⟨sub, r', o1, o2, o3, o4⟩
        · rw [o1] at h; exact h
        · omega
      · rw [if_neg (by omega), if_neg (by omega), if_pos z] at h
        rcases ho with ⟨o1, o2⟩ | ⟨sub, r2, o1, o2, o3, o4⟩
        · omega
        · have er : r' = r2 := by omega
          subst er
          subst o2
          rw [o1] at h
          obtain ⟨b1, b2⟩ := pm_P_b h
          refine o4 _ _ _ _ (by omega) hr.2 rd_at_at ?_
          cases hx : sub (rd_at t e (p + rd_wd t e en p)) (p + rd_wd t e en p) with
          | error z => exact b1 z.1 z.2 hx
          | ok z =>
            obtain ⟨p1, en1, fs⟩ := z
            refine pm_B_60.mpr ?_
            have := b2 p1 en1 fs hx
            rw [List.append_assoc]
            exact this
      · rw [if_neg z, if_neg z2, if_neg z3] at h
        exact h
theorem pm_part (R : pm_R q t e A B F) (he : e ≤ 1600) : ∀ r : Nat, pm_A t e A B F (pz_part q t e r) r
  | 0 => pm_body R he (Or.inl ⟨rfl, rfl⟩)
  | r + 1 => pm_body R he (Or.inr ⟨pz_part q t e r, r, rfl, rfl, pz_part_g r, pm_part R he r⟩)
end PM
