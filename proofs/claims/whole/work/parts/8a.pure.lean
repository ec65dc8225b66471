/-! WHAT READING GIVES, as a value: numbers, words, sums from a place on (blanks gone over ahead of it) -/
/-- a fault and its place; or the place behind, where the last word or number ended, and what was read -/
abbrev pr_ (α : Type) : Type := Except (Int × Int) (Int × Int × α)
def pr_b {α β : Type} (x : pr_ α) (f : Int → Int → α → pr_ β) : pr_ β := match x with
  | .error q => .error q
  | .ok (p, en, a) => f p en a
theorem pr_b_e {α β : Type} {q : Int × Int} {f : Int → Int → α → pr_ β} : pr_b (.error q) f = .error q := rfl
theorem pr_b_o {α β : Type} {p en : Int} {a : α} {f : Int → Int → α → pr_ β} : pr_b (.ok (p, en, a)) f = f p en a := rfl
/-- the byte at a place -/
def rc (t : Int → Int) (e p : Int) : Int := if p < e then t p else -1
/-- a sign is asked -/
def pr_sg (t : Int → Int) (e c : Int) {α : Type} (a : α) (p en : Int) : pr_ α := if rc t e p = c then .ok (rd_at t e (p + 1), en, a) else .error (1, p)
/-- a number, up to g -/
def pr_num (t : Int → Int) (e g p en : Int) : pr_ Int :=
  if is_di (rc t e p) = true ∧ ¬ p = en then
    (if is_di (rd_by t e (rd_num t e 4 p 0).2) = true then .error (1, (rd_num t e 4 p 0).2)
     else if g < (rd_num t e 4 p 0).1 then .error (2, p)
     else .ok (rd_at t e (rd_num t e 4 p 0).2, (rd_num t e 4 p 0).2, (rd_num t e 4 p 0).1))
  else .error (1, p)
/-- the code of the word here, in a row of words with codes; 0 without -/
def pr_wc (t : Int → Int) (e en p : Int) : List (List Int × Int) → Int
  | [] => 0
  | x :: l => if rd_is t e en p x.1 = true then x.2 else pr_wc t e en p l
def w_dread : List Int := [100, 114, 101, 97, 100]
def w_dreamer : List Int := [100, 114, 101, 97, 109, 101, 114]
def w_brave : List Int := [98, 114, 97, 118, 101]
def w_fears : List Int := [102, 101, 97, 114, 115]
def w_guide : List Int := [103, 117, 105, 100, 101]
def w_of : List Int := [111, 102]
def w_meet : List Int := [109, 101, 101, 116]
def w_shun : List Int := [115, 104, 117, 110]
def w_byday : List Int := [98, 121, 100, 97, 121]
def w_home : List Int := [104, 111, 109, 101]
def w_laugh : List Int := [108, 97, 117, 103, 104]
def w_spite : List Int := [115, 112, 105, 116, 101]
def w_weigh : List Int := [119, 101, 105, 103, 104]
def w_worst : List Int := [119, 111, 114, 115, 116]
def w_sum : List Int := [115, 117, 109]
def w_many : List Int := [109, 97, 110, 121]
def w_number : List Int := [110, 117, 109, 98, 101, 114]
def w_min : List Int := [109, 105, 110]
def w_max : List Int := [109, 97, 120]
def w_room : List Int := [114, 111, 111, 109]
def w_first : List Int := [102, 105, 114, 115, 116]
def w_lst : List Int := [108, 97, 115, 116]
def w_often : List Int := [111, 102, 116, 101, 110]
def w_total : List Int := [116, 111, 116, 97, 108]
def w_most : List Int := [109, 111, 115, 116]
def w_least : List Int := [108, 101, 97, 115, 116]
def w_not : List Int := [110, 111, 116]
def w_and : List Int := [97, 110, 100]
def w_or : List Int := [111, 114]
def w_all : List Int := [97, 108, 108]
/-- the words of a part, in a dream's sums and in a question's -/
def ts_ (q : Bool) : List (List Int × Int) := if q = true then [(w_room, 40), (w_dread, 41), (w_worst, 42), (w_sum, 43), (w_many, 44), (w_weigh, 60), (w_min, 5), (w_max, 6)] else [(w_weigh, 7), (w_worst, 8), (w_sum, 9), (w_many, 10), (w_number, 11), (w_brave, 12), (w_min, 5), (w_max, 6)]
/-- what comes again behind one of two signs -/
def pz_lp (t : Int → Int) (e : Int) (a b ca cb : Int) (sub : Int → Int → pr_ (List Int)) : Nat → Int → Int → List Int → pr_ (List Int)
  | 0, p, en, cs => .ok (p, en, cs)
  | m + 1, p, en, cs =>
    if rc t e p = a then pr_b (sub (rd_at t e (p + 1)) en) (fun p' en' ds => pz_lp t e a b ca cb sub m p' en' (cs ++ ds ++ [ca]))
    else if rc t e p = b then pr_b (sub (rd_at t e (p + 1)) en) (fun p' en' ds => pz_lp t e a b ca cb sub m p' en' (cs ++ ds ++ [cb]))
    else .ok (p, en, cs)
def pz_prod (t : Int → Int) (e : Int) (sub : Int → Int → pr_ (List Int)) (p en : Int) : pr_ (List Int) := pr_b (sub p en) (fun p' en' cs => pz_lp t e 42 47 3 4 sub 1600 p' en' cs)
def pz_sum (t : Int → Int) (e : Int) (sub : Int → Int → pr_ (List Int)) (p en : Int) : pr_ (List Int) := pr_b (pz_prod t e sub p en) (fun p' en' cs => pz_lp t e 43 45 1 2 (pz_prod t e sub) 1600 p' en' cs)
/-- behind min or max, at a place: two sums -/
def pz_pair (t : Int → Int) (e : Int) (o : Option (Int → Int → pr_ (List Int))) (c p en : Int) : pr_ (List Int) :=
  if rc t e p = 40 then (match o with
    | none => .error (4, p)
    | some sub => pr_b (pz_sum t e sub (rd_at t e (p + 1)) en) (fun p1 en1 cs => pr_b (pr_sg t e 44 cs p1 en1) (fun p2 en2 cs => pr_b (pz_sum t e sub p2 en2) (fun p3 en3 ds => pr_sg t e 41 (cs ++ ds ++ [c]) p3 en3))))
  else .error (1, p)
/-- a part that begins with a word -/
def pz_word (q : Bool) (t : Int → Int) (e : Int) (o : Option (Int → Int → pr_ (List Int))) (p en : Int) : pr_ (List Int) :=
  if pr_wc t e en p (ts_ q) = 0 then .error (1, p)
  else if pr_wc t e en p (ts_ q) = 5 ∨ pr_wc t e en p (ts_ q) = 6 then pz_pair t e o (pr_wc t e en p (ts_ q)) (rd_at t e (p + rd_wd t e en p)) (p + rd_wd t e en p)
  else if pr_wc t e en p (ts_ q) = 60 then (match o with
    | none => .error (4, p)
    | some sub => pr_b (sub (rd_at t e (p + rd_wd t e en p)) (p + rd_wd t e en p)) (fun p1 en1 cs => .ok (p1, en1, cs ++ [60])))
  else .ok (rd_at t e (p + rd_wd t e en p), p + rd_wd t e en p, [pr_wc t e en p (ts_ q)])
def pz_body (q : Bool) (t : Int → Int) (e : Int) (o : Option (Int → Int → pr_ (List Int))) (p en : Int) : pr_ (List Int) :=
  if is_di (rc t e p) = true then pr_b (pr_num t e 9999 p en) (fun p1 en1 v => .ok (p1, en1, [1000 + v]))
  else if rc t e p = 40 then (match o with
    | none => .error (4, p)
    | some sub => pr_b (pz_sum t e sub (rd_at t e (p + 1)) en) (fun p1 en1 cs => pr_sg t e 41 cs p1 en1))
  else pz_word q t e o p en
/-- a part, so many more may be open -/
def pz_part (q : Bool) (t : Int → Int) (e : Int) : Nat → Int → Int → pr_ (List Int)
  | 0 => pz_body q t e none
  | r + 1 => pz_body q t e (some (pz_part q t e r))
/-- what holds of all that is read: it goes on, with no more codes than bytes -/
def pz_g (t : Int → Int) (e p : Int) (x : pr_ (List Int)) : Prop := match x with
  | .error (k, _) => ¬ k = 0
  | .ok (p1, _, cs) => p < p1 ∧ p1 ≤ e ∧ rd_at t e p1 = p1 ∧ 1 ≤ cs.length ∧ (cs.length : Int) ≤ p1 - p
def pz_gs (t : Int → Int) (e : Int) (sub : Int → Int → pr_ (List Int)) : Prop := ∀ p en : Int, 0 ≤ p → p ≤ e → rd_at t e p = p → pz_g t e p (sub p en)
theorem rc_lt {t : Int → Int} {e p c : Int} (h : rc t e p = c) (hc : 0 ≤ c) : p < e ∧ t p = c := by
  unfold rc at h
  by_cases q : p < e
  · rw [if_pos q] at h; exact ⟨q, h⟩
  · rw [if_neg q] at h; omega
theorem rd_at_le {t : Int → Int} {e i : Int} (h : i ≤ e) : i ≤ rd_at t e i ∧ rd_at t e i ≤ e := by
  obtain ⟨h1, h2, -⟩ := rd_at_spec (t := t) (e := e) i
  exact ⟨h1, by rcases h2 with h2 | h2 <;> omega⟩
theorem rd_wd_le {t : Int → Int} {e en p : Int} (h : p ≤ e) : 0 ≤ rd_wd t e en p ∧ p + rd_wd t e en p ≤ e := by
  unfold rd_wd
  by_cases c : p = en
  · rw [if_pos c]; omega
  · rw [if_neg c]
    obtain ⟨h1, h2, -⟩ := rd_les_spec (t := t) (e := e) p
    refine ⟨h1, ?_⟩
    rcases h2 with h2 | h2 <;> omega
theorem pr_wc_0 {t : Int → Int} {e en p : Int} : ∀ l : List (List Int × Int), ¬ pr_wc t e en p l = 0 → 0 < rd_wd t e en p
  | [], h => absurd rfl h
  | x :: l, h => by
    unfold pr_wc at h
    by_cases c : rd_is t e en p x.1 = true
    · have := rd_is_len c
      have hne : ¬ x.1 = [] := by
        unfold rd_is at c
        simp only [Bool.and_eq_true, decide_eq_true_eq] at c
        exact c.1.2
      have : 0 < x.1.length := List.length_pos_iff.mpr hne
      omega
    · rw [if_neg c] at h
      exact pr_wc_0 l h
theorem pr_num_g {t : Int → Int} {e g p en : Int} (h0 : 0 ≤ p) (hp : p ≤ e) : match pr_num t e g p en with
    | .error (k, _) => ¬ k = 0
    | .ok (p1, _, v) => p < p1 ∧ p1 ≤ e ∧ rd_at t e p1 = p1 ∧ 0 ≤ v ∧ v ≤ g := by
  unfold pr_num
  by_cases c : is_di (rc t e p) = true ∧ ¬ p = en
  · rw [if_pos c]
    have hd := is_di_iff.mp c.1
    have hl := rc_lt (c := rc t e p) rfl (by omega)
    have hby : is_di (rd_by t e p) = true := by rw [rd_by_see h0 hl.1, hl.2]; exact c.1
    have hl4 := rd_num_le (t := t) (e := e) 3 (p + 1) (10 * 0 + t p - 48)
    have e4 : rd_num t e 4 p 0 = rd_num t e 3 (p + 1) (10 * 0 + t p - 48) := if_pos hby
    rw [← e4] at hl4
    by_cases c1 : is_di (rd_by t e (rd_num t e 4 p 0).2) = true
    · rw [if_pos c1]; exact (by decide : ¬ (1 : Int) = 0)
    · rw [if_neg c1]
      by_cases c2 : g < (rd_num t e 4 p 0).1
      · rw [if_pos c2]; exact (by decide : ¬ (2 : Int) = 0)
      · rw [if_neg c2]
        have hi : (rd_num t e 4 p 0).2 ≤ e := by rcases hl4.2.1 with q | q <;> omega
        have hr := rd_at_le (t := t) hi
        exact ⟨by omega, hr.2, rd_at_at, hl4.2.2 (by omega), by omega⟩
  · rw [if_neg c]; exact (by decide : ¬ (1 : Int) = 0)
theorem pz_g_b {t : Int → Int} {e p : Int} {α : Type} {x : pr_ α} {f : Int → Int → α → pr_ (List Int)} (h0 : ∀ k q, x = .error (k, q) → ¬ k = 0) (h : ∀ p1 en1 a, x = .ok (p1, en1, a) → pz_g t e p (f p1 en1 a)) : pz_g t e p (pr_b x f) := by
  match x, h0, h with
  | .error (k, q), h0, _ => exact h0 k q rfl
  | .ok (p1, en1, a), _, h => exact h p1 en1 a rfl
theorem pz_g_e {t : Int → Int} {e p k q : Int} {x : pr_ (List Int)} (h : pz_g t e p x) (hx : x = .error (k, q)) : ¬ k = 0 := by
  rw [hx] at h; exact h
theorem pz_g_o {t : Int → Int} {e p p1 en1 : Int} {cs : List Int} {x : pr_ (List Int)} (h : pz_g t e p x) (hx : x = .ok (p1, en1, cs)) : p < p1 ∧ p1 ≤ e ∧ rd_at t e p1 = p1 ∧ 1 ≤ cs.length ∧ (cs.length : Int) ≤ p1 - p := by
  rw [hx] at h; exact h
theorem pz_lp_g {t : Int → Int} {e a b ca cb : Int} {sub : Int → Int → pr_ (List Int)} (ha : 0 ≤ a) (hb : 0 ≤ b) (hs : pz_gs t e sub) {p0 : Int} (h00 : 0 ≤ p0) : ∀ (m : Nat) (p en : Int) (cs : List Int), p0 < p → p ≤ e → rd_at t e p = p → 1 ≤ cs.length → (cs.length : Int) ≤ p - p0 → pz_g t e p0 (pz_lp t e a b ca cb sub m p en cs)
  | 0, p, en, cs, h1, h2, h3, h4, h5 => ⟨h1, h2, h3, h4, h5⟩
  | m + 1, p, en, cs, h1, h2, h3, h4, h5 => by
    have go : ∀ c : Int, p < e → pz_g t e p0 (pr_b (sub (rd_at t e (p + 1)) en) (fun p' en' ds => pz_lp t e a b ca cb sub m p' en' (cs ++ ds ++ [c]))) := fun c hlt => by
      have hr := rd_at_le (t := t) (e := e) (i := p + 1) (by omega)
      have hg := hs (rd_at t e (p + 1)) en (by omega) hr.2 rd_at_at
      refine pz_g_b (fun k q hx => pz_g_e hg hx) (fun p1 en1 ds hx => ?_)
      obtain ⟨g1, g2, g3, g4, g5⟩ := pz_g_o hg hx
      have el : (cs ++ ds ++ [c]).length = cs.length + ds.length + 1 := by rw [List.length_append, List.length_append, List.length_singleton]
      exact pz_lp_g ha hb hs h00 m p1 en1 _ (by omega) g2 g3 (by omega) (by omega)
    unfold pz_lp
    by_cases c1 : rc t e p = a
    · rw [if_pos c1]; exact go ca (rc_lt c1 ha).1
    · rw [if_neg c1]
      by_cases c2 : rc t e p = b
      · rw [if_pos c2]; exact go cb (rc_lt c2 hb).1
      · rw [if_neg c2]; exact ⟨h1, h2, h3, h4, h5⟩
theorem pz_prod_g {t : Int → Int} {e : Int} {sub : Int → Int → pr_ (List Int)} (hs : pz_gs t e sub) : pz_gs t e (pz_prod t e sub) := fun p en h0 h1 h2 => by
  have hg := hs p en h0 h1 h2
  refine pz_g_b (fun k q hx => pz_g_e hg hx) (fun p1 en1 ds hx => ?_)
  obtain ⟨g1, g2, g3, g4, g5⟩ := pz_g_o hg hx
  exact pz_lp_g (by decide) (by decide) hs h0 1600 p1 en1 ds g1 g2 g3 g4 g5
theorem pz_sum_g {t : Int → Int} {e : Int} {sub : Int → Int → pr_ (List Int)} (hs : pz_gs t e sub) : pz_gs t e (pz_sum t e sub) := fun p en h0 h1 h2 => by
  have hg := pz_prod_g hs p en h0 h1 h2
  refine pz_g_b (fun k q hx => pz_g_e hg hx) (fun p1 en1 ds hx => ?_)
  obtain ⟨g1, g2, g3, g4, g5⟩ := pz_g_o hg hx
  exact pz_lp_g (by decide) (by decide) (pz_prod_g hs) h0 1600 p1 en1 ds g1 g2 g3 g4 g5
theorem pr_sg_o {t : Int → Int} {e c p en p1 en1 : Int} {α : Type} {a a1 : α} (hc : 0 ≤ c) (h : pr_sg t e c a p en = .ok (p1, en1, a1)) : p < p1 ∧ p1 ≤ e ∧ rd_at t e p1 = p1 ∧ en1 = en ∧ a1 = a := by
  unfold pr_sg at h
  by_cases q : rc t e p = c
  · rw [if_pos q] at h
    have hl := (rc_lt q hc).1
    have hr := rd_at_le (t := t) (e := e) (i := p + 1) (by omega)
    simp only [Except.ok.injEq, Prod.mk.injEq] at h
    obtain ⟨h1, h2, h3⟩ := h
    rw [← h1]
    exact ⟨by omega, hr.2, rd_at_at, h2.symm, h3.symm⟩
  · rw [if_neg q] at h; cases h
theorem pr_sg_e {t : Int → Int} {e c p en k q : Int} {α : Type} {a : α} (h : pr_sg t e c a p en = .error (k, q)) : k = 1 ∧ q = p := by
  unfold pr_sg at h
  by_cases z : rc t e p = c
  · rw [if_pos z] at h; cases h
  · rw [if_neg z] at h
    simp only [Except.error.injEq, Prod.mk.injEq] at h
    exact ⟨h.1.symm, h.2.symm⟩
theorem pr_sg_g {t : Int → Int} {e c p en p0 : Int} {cs : List Int} (hc : 0 ≤ c) (h0 : p0 < p) (h1 : 1 ≤ cs.length) (h2 : (cs.length : Int) ≤ p + 1 - p0) : pz_g t e p0 (pr_sg t e c cs p en) := by
  cases hx : pr_sg t e c cs p en with
  | error q =>
    obtain ⟨k, q⟩ := q
    have := (pr_sg_e hx).1
    show ¬ k = 0
    omega
  | ok r =>
    obtain ⟨p1, en1, a1⟩ := r
    obtain ⟨g1, g2, g3, g4, g5⟩ := pr_sg_o hc hx
    rw [g5]
    exact ⟨by omega, g2, g3, h1, by omega⟩
theorem pz_pair_g {t : Int → Int} {e : Int} {o : Option (Int → Int → pr_ (List Int))} (ho : ∀ sub, o = some sub → pz_gs t e sub) {c p en : Int} (h0 : 0 ≤ p) (h1 : p ≤ e) : pz_g t e p (pz_pair t e o c p en) := by
  unfold pz_pair
  by_cases c1 : rc t e p = 40
  · rw [if_pos c1]
    have hlt := (rc_lt c1 (by decide)).1
    cases o with
    | none => exact (by decide : ¬ (4 : Int) = 0)
    | some sub =>
      have hs := pz_sum_g (ho sub rfl)
      have hr := rd_at_le (t := t) (e := e) (i := p + 1) (by omega)
      have hg := hs (rd_at t e (p + 1)) en (by omega) hr.2 rd_at_at
      refine pz_g_b (fun k q hx => pz_g_e hg hx) (fun p1 en1 cs hx => ?_)
      obtain ⟨g1, g2, g3, g4, g5⟩ := pz_g_o hg hx
      refine pz_g_b (fun k q hx => by have := (pr_sg_e hx).1; omega) (fun p2 en2 cs2 hx2 => ?_)
      obtain ⟨i1, i2, i3, i4, i5⟩ := pr_sg_o (by decide) hx2
      subst i5
      have hg2 := hs p2 en2 (by omega) i2 i3
      refine pz_g_b (fun k q hx => pz_g_e hg2 hx) (fun p3 en3 ds hx3 => ?_)
      obtain ⟨j1, j2, j3, j4, j5⟩ := pz_g_o hg2 hx3
      have el : (cs2 ++ ds ++ [c]).length = cs2.length + ds.length + 1 := by rw [List.length_append, List.length_append, List.length_singleton]
      exact pr_sg_g (by decide) (by omega) (by omega) (by omega)
  · rw [if_neg c1]; exact (by decide : ¬ (1 : Int) = 0)
theorem pz_body_g {q : Bool} {t : Int → Int} {e : Int} {o : Option (Int → Int → pr_ (List Int))} (ho : ∀ sub, o = some sub → pz_gs t e sub) : pz_gs t e (pz_body q t e o) := fun p en h0 h1 h2 => by
  unfold pz_body
  by_cases c1 : is_di (rc t e p) = true
  · rw [if_pos c1]
    have hn := pr_num_g (t := t) (g := 9999) (en := en) h0 h1
    refine pz_g_b (fun k q hx => by rw [hx] at hn; exact hn) (fun p1 en1 v hx => ?_)
    rw [hx] at hn
    obtain ⟨g1, g2, g3, g4, g5⟩ := hn
    exact ⟨g1, g2, g3, Nat.le_refl _, by show (1 : Int) ≤ p1 - p; omega⟩
  · rw [if_neg c1]
    by_cases c2 : rc t e p = 40
    · rw [if_pos c2]
      have hlt := (rc_lt c2 (by decide)).1
      cases o with
      | none => exact (by decide : ¬ (4 : Int) = 0)
      | some sub =>
        have hs := pz_sum_g (ho sub rfl)
        have hr := rd_at_le (t := t) (e := e) (i := p + 1) (by omega)
        have hg := hs (rd_at t e (p + 1)) en (by omega) hr.2 rd_at_at
        refine pz_g_b (fun k q hx => pz_g_e hg hx) (fun p1 en1 cs hx => ?_)
        obtain ⟨g1, g2, g3, g4, g5⟩ := pz_g_o hg hx
        exact pr_sg_g (by decide) (by omega) g4 (by omega)
    · rw [if_neg c2]
      unfold pz_word
      by_cases c3 : pr_wc t e en p (ts_ q) = 0
      · rw [if_pos c3]; exact (by decide : ¬ (1 : Int) = 0)
      · rw [if_neg c3]
        have hw := pr_wc_0 (t := t) (e := e) (en := en) (p := p) (ts_ q) c3
        have hl := (rd_wd_le (t := t) (en := en) h1).2
        have hr := rd_at_le (t := t) (e := e) (i := p + rd_wd t e en p) hl
        have wide : ∀ x : pr_ (List Int), pz_g t e (rd_at t e (p + rd_wd t e en p)) x → pz_g t e p x := fun x hx => by
          match x, hx with
          | .error (k, z), hx => exact hx
          | .ok (p1, en1, cs), hx =>
            obtain ⟨g1, g2, g3, g4, g5⟩ := hx
            exact ⟨by omega, g2, g3, g4, by omega⟩
        by_cases c4 : pr_wc t e en p (ts_ q) = 5 ∨ pr_wc t e en p (ts_ q) = 6
        · rw [if_pos c4]
          exact wide _ (pz_pair_g ho (by omega) hr.2)
        · rw [if_neg c4]
          by_cases c5 : pr_wc t e en p (ts_ q) = 60
          · rw [if_pos c5]
            cases o with
            | none => exact (by decide : ¬ (4 : Int) = 0)
            | some sub =>
              have hg := ho sub rfl (rd_at t e (p + rd_wd t e en p)) (p + rd_wd t e en p) (by omega) hr.2 rd_at_at
              refine pz_g_b (fun k z hx => pz_g_e hg hx) (fun p1 en1 cs hx => ?_)
              obtain ⟨g1, g2, g3, g4, g5⟩ := pz_g_o hg hx
              refine ⟨by omega, g2, g3, ?_, ?_⟩
              · rw [List.length_append]; omega
              · rw [List.length_append, List.length_singleton]; omega
          · rw [if_neg c5]
            exact ⟨by omega, hr.2, rd_at_at, Nat.le_refl _, by show (1 : Int) ≤ rd_at t e (p + rd_wd t e en p) - p; omega⟩
theorem pz_part_g {q : Bool} {t : Int → Int} {e : Int} : ∀ r : Nat, pz_gs t e (pz_part q t e r)
  | 0 => pz_body_g (fun sub h => by cases h)
  | r + 1 => pz_body_g (fun sub h => by cases h; exact pz_part_g r)
