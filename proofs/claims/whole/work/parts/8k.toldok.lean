/-! WHAT IS TOLD IS RIGHT -/
def tk_ (T : tt_) : Prop :=
  (∀ k : Int, 0 ≤ k → k < 3 → ∀ n ∈ tN T k, nk_ n) ∧ ((tN T 0).length ≤ 6 ∧ (tN T 1).length ≤ 4 ∧ (tN T 2).length ≤ 4) ∧
  (∀ a : Int, 0 ≤ a → a < ((tN T 1).length : Int) → 0 ≤ tBr T a ∧ tBr T a ≤ 9) ∧
  (∀ j : Int, 0 ≤ j → j < 24 → 0 ≤ tFe T j ∧ tFe T j ≤ 999) ∧
  (∀ a b : Int, 0 ≤ a → a < 4 → ((tN T 0).length : Int) ≤ b → b < 6 → tFe T (6 * a + b) = 0) ∧
  (∀ g : Int, 0 ≤ g → g < ((tN T 2).length : Int) → 0 ≤ tGu T g ∧ tGu T g < ((tN T 0).length : Int)) ∧
  ((0 ≤ tHo T ∧ tHo T ≤ 9999) ∧ (0 ≤ tLa T ∧ tLa T ≤ 100) ∧ (0 ≤ tSp T ∧ tSp T ≤ 999)) ∧
  (∀ k : Int, 0 ≤ k → k < 3 → ∀ f g : Nat, tS T k = some (f, g) → f < g ∧ g ≤ (tC T).length ∧ er_ok (((tC T).drop f).take (g - f)))
theorem tN_aN {T : tt_} {k k' : Int} {n : List Int} (hk : 0 ≤ k ∧ k < 3) (hk' : 0 ≤ k' ∧ k' < 3) : tN (aN T k n) k' = if k' = k then tN T k' ++ [n] else tN T k' := by
  rcases (show k = 0 ∨ k = 1 ∨ k = 2 by omega) with rfl | rfl | rfl <;> rcases (show k' = 0 ∨ k' = 1 ∨ k' = 2 by omega) with rfl | rfl | rfl <;> rfl
theorem tk_t0 : tk_ t0_ := by
  refine ⟨fun k k0 k1 n hn => ?_, ⟨by decide, by decide, by decide⟩, fun a a0 a1 => ⟨by show (0 : Int) ≤ 0; decide, by show (0 : Int) ≤ 9; decide⟩, fun j _ _ => ⟨by show (0 : Int) ≤ 0; decide, by show (0 : Int) ≤ 999; decide⟩, fun a b _ _ _ _ => rfl, fun g g0 g1 => ?_, ⟨by decide, by decide, by decide⟩, fun k _ _ f g h => by cases h⟩
  · rcases (show k = 0 ∨ k = 1 ∨ k = 2 by omega) with rfl | rfl | rfl <;> cases hn
  · have g1 : g < ((0 : Nat) : Int) := g1
    omega
theorem tk_aN {T : tt_} {k : Int} {n : List Int} (h : tk_ T) (hk : 0 ≤ k ∧ k < 3) (hn : nk_ n) (hr : (k = 0 → (tN T 0).length < 6) ∧ (k = 1 → (tN T 1).length < 4) ∧ (k = 2 → (tN T 2).length < 4)) (hb : k = 1 → 0 ≤ tBr T (tN T 1).length ∧ tBr T (tN T 1).length ≤ 9) (hg : k = 2 → 0 ≤ tGu T (tN T 2).length ∧ tGu T (tN T 2).length < ((tN T 0).length : Int)) : tk_ (aN T k n) := by
  obtain ⟨h1, ⟨h2, h3, h4⟩, h5, h6, h7, h8, h9, h10⟩ := h
  have e0 := tN_aN (T := T) (n := n) hk (k' := 0) (by decide)
  have e1 := tN_aN (T := T) (n := n) hk (k' := 1) (by decide)
  have e2 := tN_aN (T := T) (n := n) hk (k' := 2) (by decide)
  have len : ∀ l : List (List Int), (l ++ [n]).length = l.length + 1 := fun l => by rw [List.length_append, List.length_singleton]
  refine ⟨fun k' k0 k1 m hm => ?_, ⟨?_, ?_, ?_⟩, fun a a0 a1 => ?_, h6, fun a b a0 a1 b0 b1 => h7 a b a0 a1 ?_ b1, fun g g0 g1 => ?_, h9, h10⟩
  · rw [tN_aN hk ⟨k0, k1⟩] at hm
    by_cases c : k' = k
    · rw [if_pos c] at hm
      rcases List.mem_append.mp hm with q | q
      · exact h1 k' k0 k1 m q
      · rw [List.mem_singleton] at q; rw [q]; exact hn
    · rw [if_neg c] at hm
      exact h1 k' k0 k1 m hm
  · rw [e0]
    split
    · rename_i c; rw [len]; have := hr.1 c.symm; omega
    · exact h2
  · rw [e1]
    split
    · rename_i c; rw [len]; have := hr.2.1 c.symm; omega
    · exact h3
  · rw [e2]
    split
    · rename_i c; rw [len]; have := hr.2.2 c.symm; omega
    · exact h4
  · rw [e1] at a1
    show 0 ≤ tBr T a ∧ tBr T a ≤ 9
    by_cases c : (1 : Int) = k
    · rw [if_pos c, len] at a1
      by_cases y : a = ((tN T 1).length : Int)
      · rw [y]; exact hb c.symm
      · exact h5 a a0 (by omega)
    · rw [if_neg c] at a1
      exact h5 a a0 a1
  · rw [e0] at b0
    by_cases c : (0 : Int) = k
    · rw [if_pos c, len] at b0; omega
    · rw [if_neg c] at b0; exact b0
  · rw [e2] at g1
    rw [e0]
    show 0 ≤ tGu T g ∧ tGu T g < _
    have up : ((tN T 0).length : Int) ≤ (((if (0 : Int) = k then tN T 0 ++ [n] else tN T 0).length : Nat) : Int) := by
      split
      · rw [len]; omega
      · exact Int.le_refl _
    by_cases c : (2 : Int) = k
    · rw [if_pos c, len] at g1
      by_cases y : g = ((tN T 2).length : Int)
      · rw [y]; have := hg c.symm; omega
      · have := h8 g g0 (by omega); omega
    · rw [if_neg c] at g1
      have := h8 g g0 g1; omega
theorem tk_aB {T : tt_} {a v : Int} (h : tk_ T) (hv : 0 ≤ v ∧ v ≤ 9) : tk_ (aB T a v) := by
  obtain ⟨h1, h2, h5, h6, h7, h8, h9, h10⟩ := h
  refine ⟨h1, h2, fun b b0 b1 => ?_, h6, h7, h8, h9, h10⟩
  show 0 ≤ (if b = a then v else tBr T b) ∧ (if b = a then v else tBr T b) ≤ 9
  split
  · exact hv
  · exact h5 b b0 b1
theorem tk_aF {T : tt_} {a b v : Int} (h : tk_ T) (ha : 0 ≤ a ∧ a < 4) (hb : 0 ≤ b ∧ b < ((tN T 0).length : Int)) (hv : 0 ≤ v ∧ v ≤ 999) : tk_ (aF T (6 * a + b) v) := by
  obtain ⟨h1, h2, h5, h6, h7, h8, h9, h10⟩ := h
  refine ⟨h1, h2, h5, fun j j0 j1 => ?_, fun x y x0 x1 y0 y1 => ?_, h8, h9, h10⟩
  · show 0 ≤ (if j = 6 * a + b then v else tFe T j) ∧ (if j = 6 * a + b then v else tFe T j) ≤ 999
    split
    · exact hv
    · exact h6 j j0 j1
  · have y0 : ((tN T 0).length : Int) ≤ y := y0
    show (if 6 * x + y = 6 * a + b then v else tFe T (6 * x + y)) = 0
    rw [if_neg (by omega)]
    exact h7 x y x0 x1 y0 y1
theorem tk_aG {T : tt_} {g v : Int} (h : tk_ T) (hv : 0 ≤ v ∧ v < ((tN T 0).length : Int)) : tk_ (aG T g v) := by
  obtain ⟨h1, h2, h5, h6, h7, h8, h9, h10⟩ := h
  refine ⟨h1, h2, h5, h6, h7, fun b b0 b1 => ?_, h9, h10⟩
  show 0 ≤ (if b = g then v else tGu T b) ∧ (if b = g then v else tGu T b) < ((tN T 0).length : Int)
  split
  · exact hv
  · exact h8 b b0 b1
theorem tk_aW {T : tt_} {k v : Int} (h : tk_ T) (hk : 0 ≤ k ∧ k < 3) (hv : 0 ≤ v ∧ v ≤ (if k = 0 then 9999 else if k = 1 then 100 else 999)) : tk_ (aW T k v) := by
  obtain ⟨h1, h2, h5, h6, h7, h8, ⟨h9, h9', h9''⟩, h10⟩ := h
  refine ⟨h1, h2, h5, h6, h7, h8, ?_, h10⟩
  rcases (show k = 0 ∨ k = 1 ∨ k = 2 by omega) with rfl | rfl | rfl
  · exact ⟨hv, h9', h9''⟩
  · exact ⟨h9, hv, h9''⟩
  · exact ⟨h9, h9', hv⟩
theorem tk_aS {T : tt_} {k : Int} {ds : List Int} (h : tk_ T) (hd : 1 ≤ ds.length) (he : er_ok ds) : tk_ (aS T k ds) := by
  obtain ⟨h1, h2, h5, h6, h7, h8, h9, h10⟩ := h
  refine ⟨h1, h2, h5, h6, h7, h8, h9, fun w w0 w1 f g hs => ?_⟩
  have hs : (if w = k then some ((tC T).length, (tC T).length + ds.length) else tS T w) = some (f, g) := hs
  show f < g ∧ g ≤ (tC T ++ ds).length ∧ er_ok (((tC T ++ ds).drop f).take (g - f))
  rw [List.length_append]
  by_cases c : w = k
  · rw [if_pos c] at hs
    simp only [Option.some.injEq, Prod.mk.injEq] at hs
    obtain ⟨rfl, rfl⟩ := hs
    refine ⟨by omega, Nat.le_refl _, ?_⟩
    rw [List.drop_left, show (tC T).length + ds.length - (tC T).length = ds.length by omega, List.take_length]
    exact he
  · rw [if_neg c] at hs
    obtain ⟨a, b, c2⟩ := h10 w w0 w1 f g hs
    refine ⟨a, by omega, ?_⟩
    rw [List.drop_append_of_le_length (by omega), List.take_append_of_le_length (by rw [List.length_drop]; omega)]
    exact c2
theorem pr_b_io {α β : Type} {x : pr_ α} {f : Int → Int → α → pr_ β} {p en : Int} {b : β} (h : pr_b x f = .ok (p, en, b)) : ∃ p1 en1 a, x = .ok (p1, en1, a) ∧ f p1 en1 a = .ok (p, en, b) := by
  match x, h with
  | .error q, h => cases h
  | .ok (p1, en1, a), h => exact ⟨p1, en1, a, rfl, h⟩
theorem pz_new_o {t : Int → Int} {e : Int} {T : tt_} {p en p1 en1 : Int} {n : List Int} (h : pz_new t e T p en = .ok (p1, en1, n)) : pr_name t e p en = .ok (p1, en1, n) ∧ fn_ (tN T 0) n 0 = -1 ∧ fn_ (tN T 1) n 0 = -1 ∧ fn_ (tN T 2) n 0 = -1 := by
  obtain ⟨p2, en2, m, h1, h2⟩ := pr_b_io h
  by_cases c : fn_ (tN T 0) m 0 = -1 ∧ fn_ (tN T 1) m 0 = -1 ∧ fn_ (tN T 2) m 0 = -1
  · rw [if_pos c] at h2
    simp only [Except.ok.injEq, Prod.mk.injEq] at h2
    obtain ⟨rfl, rfl, rfl⟩ := h2
    exact ⟨h1, c⟩
  · rw [if_neg c] at h2; cases h2
theorem pz_known_o {t : Int → Int} {e : Int} {T : tt_} {k p en p1 en1 a : Int} (h : pz_known t e T k p en = .ok (p1, en1, a)) : 0 ≤ a ∧ a < ((tN T k).length : Int) ∧ ∃ n, pr_name t e p en = .ok (p1, en1, n) ∧ a = fn_ (tN T k) n 0 := by
  obtain ⟨p2, en2, m, h1, h2⟩ := pr_b_io h
  by_cases c : fn_ (tN T k) m 0 = -1
  · rw [if_pos c] at h2; cases h2
  · rw [if_neg c] at h2
    simp only [Except.ok.injEq, Prod.mk.injEq] at h2
    obtain ⟨rfl, rfl, rfl⟩ := h2
    rcases fn_in (tN T k) m 0 with q | q
    · exact absurd q c
    · exact ⟨q.1, by omega, m, h1, rfl⟩
theorem pr_wrd_o {t : Int → Int} {e : Int} {w : List Int} {α : Type} {a a1 : α} {p en p1 en1 : Int} (h : pr_wrd t e w a p en = .ok (p1, en1, a1)) : a1 = a ∧ rd_is t e en p w = true ∧ p1 = rd_at t e (p + rd_wd t e en p) ∧ en1 = p + rd_wd t e en p := by
  unfold pr_wrd at h
  split at h
  · rename_i c
    simp only [Except.ok.injEq, Prod.mk.injEq] at h
    exact ⟨h.2.2.symm, c, h.1.symm, h.2.1.symm⟩
  · cases h
theorem pz_do_ok {t : Int → Int} {e : Int} {T T1 : tt_} {c p en p1 en1 : Int} (h : tk_ T) (hc : 1 ≤ c ∧ c ≤ 10) (hf : ¬ tf_l T c) (h0 : 0 ≤ p) (h1 : p ≤ e) (h2 : rd_at t e p = p) (hd : pz_do t e T c p en = .ok (p1, en1, T1)) : tk_ T1 ∧ ((tC T1).length : Int) ≤ (tC T).length + (p1 - p) ∨ (tk_ T1 ∧ tC T1 = tC T) := by
  unfold tf_l at hf
  unfold pz_do at hd
  have hk := h
  obtain ⟨k1, ⟨k2, k3, k4⟩, -⟩ := hk
  by_cases c1 : c = 1
  · rw [if_pos c1] at hd
    obtain ⟨p2, en2, n, d1, d2⟩ := pr_b_io hd
    simp only [Except.ok.injEq, Prod.mk.injEq] at d2
    obtain ⟨-, -, rfl⟩ := d2
    exact Or.inr ⟨tk_aN h (by decide) (pr_name_o (pz_new_o d1).1).1 ⟨fun _ => by omega, fun z => absurd z (by decide), fun z => absurd z (by decide)⟩ (fun z => absurd z (by decide)) (fun z => absurd z (by decide)), rfl⟩
  rw [if_neg c1] at hd
  by_cases c2 : c = 2
  · rw [if_pos c2] at hd
    obtain ⟨p2, en2, n, d1, d2⟩ := pr_b_io hd
    obtain ⟨p3, en3, n2, d3, d4⟩ := pr_b_io d2
    obtain ⟨p4, en4, v, d5, d6⟩ := pr_b_io d4
    simp only [Except.ok.injEq, Prod.mk.injEq] at d6
    obtain ⟨-, -, rfl⟩ := d6
    obtain ⟨rfl, -⟩ := pr_wrd_o d3
    have hv := pr_num_v d5
    refine Or.inr ⟨tk_aN (tk_aB h hv) (by decide) (pr_name_o (pz_new_o d1).1).1 ⟨fun z => absurd z (by decide), fun _ => ?_, fun z => absurd z (by decide)⟩ (fun _ => ?_) (fun z => absurd z (by decide)), rfl⟩
    · show (tN T 1).length < 4
      omega
    · show 0 ≤ pu_up (tBr T) (tN T 1).length v (tN T 1).length ∧ pu_up (tBr T) (tN T 1).length v (tN T 1).length ≤ 9
      unfold pu_up
      rw [if_pos rfl]; exact hv
  rw [if_neg c2] at hd
  by_cases c3 : c = 3
  · rw [if_pos c3] at hd
    obtain ⟨p2, en2, a, d1, d2⟩ := pr_b_io hd
    obtain ⟨p3, en3, b, d3, d4⟩ := pr_b_io d2
    obtain ⟨p4, en4, v, d5, d6⟩ := pr_b_io d4
    simp only [Except.ok.injEq, Prod.mk.injEq] at d6
    obtain ⟨-, -, rfl⟩ := d6
    have ha := pz_known_o d1
    have hb := pz_known_o d3
    exact Or.inr ⟨tk_aF h ⟨ha.1, by have := ha.2.1; omega⟩ ⟨hb.1, hb.2.1⟩ (pr_num_v d5), rfl⟩
  rw [if_neg c3] at hd
  by_cases c4 : c = 4
  · rw [if_pos c4] at hd
    obtain ⟨p2, en2, n, d1, d2⟩ := pr_b_io hd
    obtain ⟨p3, en3, n2, d3, d4⟩ := pr_b_io d2
    obtain ⟨p4, en4, b, d5, d6⟩ := pr_b_io d4
    simp only [Except.ok.injEq, Prod.mk.injEq] at d6
    obtain ⟨-, -, rfl⟩ := d6
    obtain ⟨rfl, -⟩ := pr_wrd_o d3
    have hb := pz_known_o d5
    refine Or.inr ⟨tk_aN (tk_aG h ⟨hb.1, hb.2.1⟩) (by decide) (pr_name_o (pz_new_o d1).1).1 ⟨fun z => absurd z (by decide), fun z => absurd z (by decide), fun _ => ?_⟩ (fun z => absurd z (by decide)) (fun _ => ?_), rfl⟩
    · show (tN T 2).length < 4
      omega
    · show 0 ≤ pu_up (tGu T) (tN T 2).length b (tN T 2).length ∧ pu_up (tGu T) (tN T 2).length b (tN T 2).length < ((tN T 0).length : Int)
      unfold pu_up
      rw [if_pos rfl]; exact ⟨hb.1, hb.2.1⟩
  rw [if_neg c4] at hd
  by_cases c5 : c = 5 ∨ c = 6 ∨ c = 7
  · rw [if_pos c5] at hd
    obtain ⟨p2, en2, ds, d1, d2⟩ := pr_b_io hd
    simp only [Except.ok.injEq, Prod.mk.injEq] at d2
    obtain ⟨rfl, rfl, rfl⟩ := d2
    obtain ⟨g1, g2, g3, g4, g5⟩ := pz_g_o (pz_sum_g (pz_part_g 6) p en h0 h1 h2) d1
    refine Or.inl ⟨tk_aS h g4 (sum_ok d1), ?_⟩
    show ((tC T ++ ds).length : Int) ≤ _
    rw [List.length_append]; omega
  rw [if_neg c5] at hd
  obtain ⟨p2, en2, v, d1, d2⟩ := pr_b_io hd
  simp only [Except.ok.injEq, Prod.mk.injEq] at d2
  obtain ⟨-, -, rfl⟩ := d2
  have hv := pr_num_v d1
  refine Or.inr ⟨tk_aW h (by omega) ?_, rfl⟩
  rcases (show c = 8 ∨ c = 9 ∨ c = 10 by omega) with rfl | rfl | rfl <;> exact hv
