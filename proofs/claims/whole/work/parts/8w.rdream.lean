/-! THE REFERENCE READS A DREAM'S TEXT, and lets it stand -/
def cr2_ (M0 : am_M) (f : am_M → Prop) (x : pr_ (tt_ × Nat)) : Prop := match x with
  | .error (k, z) => ∀ n M', yz_ M0 M' k z n → f M'
  | .ok (p1, en1, (T1, l)) => tk_ T1 → ∀ M', ys_ M0 M' p1 en1 T1 (70 - (l : Int)) → f M'
theorem cr2_b {α : Type} {M0 : am_M} {f : am_M → Prop} {x : pr_ α} {g : Int → Int → α → pr_ (tt_ × Nat)} (h : cr2_ M0 f (pr_b x g)) : (∀ k z, x = .error (k, z) → ∀ n M', yz_ M0 M' k z n → f M') ∧ ∀ p1 en1 a, x = .ok (p1, en1, a) → cr2_ M0 f (g p1 en1 a) := by
  match x, h with
  | .error (k, z), h => exact ⟨fun k' z' hx => (by cases hx; exact h), fun p1 en1 a hx => (by cases hx)⟩
  | .ok (p1, en1, a), h => exact ⟨fun k' z' hx => (by cases hx), fun p1' en1' a' hx => (by cases hx; exact h)⟩
theorem rt_all {d : Nat} {f : Int → am_M → Prop} {M0 : am_M} (hw : rw_all M0) : ∀ (m : Nat) (M : am_M) (p en : Int) (T : tt_), m ≤ 70 → tk_ T → ((tC T).length : Int) ≤ p → ys_ M0 M p en T (70 - (m : Int)) → cr2_ M0 (fun M' => am_g 12 0 co_X12_dream (d + 10) (am_c0 sh_T f) 120 [(2, 152), (3, 0)] [] sh_T M') (pz_all (M0 153) (M0 152 3) m p en T) → am_g 12 0 co_X12_dream (d + 10) (am_c0 sh_T f) 98 [(2, 152), (3, 0)] [] sh_T M := by
  intro m
  induction m with
  | zero =>
    intro M p en T hm hT hl h hk
    have hk : cr2_ M0 _ (if rc (M0 153) (M0 152 3) p = -1 then .ok (p, en, (T, 0)) else .error (5, p)) := hk
    obtain ⟨e1, e2⟩ := yf_t h.1
    refine bk_X12_dream_98 ⟨fun y => absurd h.2.1.2.2.2.2.1 y, fun _ => rt_look h.2.1 (fun M1 m1 q1 t1 => ?_)⟩
    rw [e1, e2]
    have s1 := ys_tf h m1 t1
    refine ⟨fun y => ?_, fun y => en_X12_statementTold (bk_X12_statementTold_0 ⟨fun z => by have := s1.2.2.2.2; omega, fun _ => sp_fail (am_cv_i ?_)⟩)⟩
    · rw [if_pos y] at hk
      exact hk hT M1 s1
    · rw [if_neg y] at hk
      rw [q1]
      have rb := rx_bl s1.2.1 (k := 5) (z := p) (by decide)
      exact bk_X12_dream_98 ⟨fun _ => hk _ _ (yz_ru s1.1 s1.2.2.2.2 rb), fun z => absurd z (ru_b rb)⟩
  | succ m ih =>
    intro M p en T hm hT hl h hk
    have hk : cr2_ M0 _ (if rc (M0 153) (M0 152 3) p = -1 then .ok (p, en, (T, m + 1)) else pr_b (pz_stmt (M0 153) (M0 152 3) T p en) (fun p1 en1 T1 => pz_all (M0 153) (M0 152 3) m p1 en1 T1)) := hk
    obtain ⟨e1, e2⟩ := yf_t h.1
    refine bk_X12_dream_98 ⟨fun y => absurd h.2.1.2.2.2.2.1 y, fun _ => rt_look h.2.1 (fun M1 m1 q1 t1 => ?_)⟩
    have hin := rx_in h.2.1
    rw [e1, e2]
    rw [e2] at hin
    have s1 := ys_tf h m1 t1
    refine ⟨fun y => ?_, fun y => ?_⟩
    · rw [if_pos y] at hk
      exact hk hT M1 s1
    · rw [if_neg y] at hk
      have hk3 := hk
      rw [pz_stmt_st, pr_b_b] at hk3
      obtain ⟨-, k3⟩ := cr2_b hk3
      obtain ⟨eS, kS⟩ := cr2_b hk
      refine rt_statement (f := fun M4 => am_g 12 0 co_X12_dream (d + 10) (am_c0 sh_T f) 98 [(2, 152), (3, 0)] [] sh_T M4) hw hT ⟨by omega, by omega⟩ hl s1 q1 (ci_mk (fun k z hx M2 m2 => ?_) (fun p1 en1 T1 hx M2 m2 => ?_))
      · exact bk_X12_dream_98 ⟨fun _ => eS k z hx _ M2 m2, fun z => absurd z (ru_b m2.2.1)⟩
      · have hx' := hx
        rw [pz_stmt_st] at hx'
        obtain ⟨p2, en2, T2, x1, x2⟩ := pr_b_io hx'
        obtain ⟨t1, t2, t3, t4, t5⟩ := pz_st_ok hT hin.1 hin.2.1 hl x1
        obtain ⟨o1, o2, o3, o4, o5⟩ := pr_sg_o (by decide) x2
        subst o5
        refine ih M2 p1 en1 T1 (by omega) t1 (by omega) ?_ (kS p1 en1 T1 hx)
        rw [show 70 - (m : Int) = 70 - ((m + 1 : Nat) : Int) + 1 by omega]
        exact m2
/-- where standing writes -/
def sd_ (M M' : am_M) : Prop := ∀ x j, ¬ (x = 174 ∧ 3 ≤ j ∧ j < 6) → ¬ (x = 179 ∧ 3 ≤ j ∧ j < 6) → ¬ (x = 180 ∧ 3 ≤ j ∧ j < 6) → ¬ (x = 181 ∧ 3 ≤ j ∧ j < 6) → ¬ (x = 175 ∧ 18 ≤ j ∧ j < 36) → ¬ (x = 176 ∧ 4 ≤ j ∧ j < 8) → ¬ (x = 178 ∧ 4 ≤ j ∧ j < 8) → ¬ (x = 182 ∧ 1600 ≤ j ∧ j < 3200) → ¬ x = 186 → M' x j = M x j
theorem rt_stands {d : Nat} {M : am_M} {f : am_M → Prop} (hc : 0 ≤ M 152 40 ∧ M 152 40 ≤ 1600) (h : ∀ M', sd_ M M' → (∀ k : Int, 0 ≤ k → k < 3 → M' 174 (3 + k) = M 174 k ∧ M' 179 (3 + k) = M 179 k ∧ M' 180 (3 + k) = M 180 k ∧ M' 181 (3 + k) = M 181 k) → (∀ j : Int, 0 ≤ j → j < 18 → M' 175 (18 + j) = M 175 j) → (∀ j : Int, 0 ≤ j → j < 4 → M' 176 (4 + j) = M 176 j ∧ M' 178 (4 + j) = M 178 j) → (∀ j : Int, 0 ≤ j → j < M 152 40 → M' 182 (1600 + j) = M 182 j) → (∀ a : Int, 0 ≤ a → a < 4 → M' 186 (7 * a) = -1 ∧ ∀ j : Int, 0 ≤ j → j < 6 → M' 186 (7 * a + 1 + j) = M 177 (6 * a + j)) → f (am_up (am_up M' 152 58 0) 152 61 0)) : am_cal pg (d + 1) 195 [(2, 152)] sh_T M (am_cv sh_T f) := by
  -- the rooms where each sleeper lies
  have l5 : ∀ (m a : Nat), a + m = 4 → ∀ M1 : am_M, sd_ M M1 → (∀ k : Int, 0 ≤ k → k < 3 → M1 174 (3 + k) = M 174 k ∧ M1 179 (3 + k) = M 179 k ∧ M1 180 (3 + k) = M 180 k ∧ M1 181 (3 + k) = M 181 k) → (∀ j : Int, 0 ≤ j → j < 18 → M1 175 (18 + j) = M 175 j) → (∀ j : Int, 0 ≤ j → j < 4 → M1 176 (4 + j) = M 176 j ∧ M1 178 (4 + j) = M 178 j) → (∀ j : Int, 0 ≤ j → j < M 152 40 → M1 182 (1600 + j) = M 182 j) → (∀ b : Int, 0 ≤ b → b < a → M1 186 (7 * b) = -1 ∧ ∀ j : Int, 0 ≤ j → j < 6 → M1 186 (7 * b + 1 + j) = M 177 (6 * b + j)) → am_g 12 9 co_X12_stands d (am_cv sh_T f) 173 [(2, 152), (0, (a : Int)), (3, 0)] [] sh_T M1 := by
    intro m
    induction m with
    | zero =>
      intro a ha M1 h1 h2 h3 h4 h5 h6
      exact bk_X12_stands_173 ⟨fun _ => am_cv_i (h M1 h1 h2 h3 h4 h5 (fun b b0 b1 => h6 b b0 (by omega))), fun y => by omega⟩
    | succ m ih =>
      intro a ha M1 h1 h2 h3 h4 h5 h6
      have inner : ∀ (m2 i : Nat), i + m2 = 6 → ∀ M2 : am_M, sd_ M M2 → (∀ k : Int, 0 ≤ k → k < 3 → M2 174 (3 + k) = M 174 k ∧ M2 179 (3 + k) = M 179 k ∧ M2 180 (3 + k) = M 180 k ∧ M2 181 (3 + k) = M 181 k) → (∀ j : Int, 0 ≤ j → j < 18 → M2 175 (18 + j) = M 175 j) → (∀ j : Int, 0 ≤ j → j < 4 → M2 176 (4 + j) = M 176 j ∧ M2 178 (4 + j) = M 178 j) → (∀ j : Int, 0 ≤ j → j < M 152 40 → M2 182 (1600 + j) = M 182 j) → (∀ b : Int, 0 ≤ b → b < a → M2 186 (7 * b) = -1 ∧ ∀ j : Int, 0 ≤ j → j < 6 → M2 186 (7 * b + 1 + j) = M 177 (6 * b + j)) → M2 186 (7 * (a : Int)) = -1 → (∀ j : Int, 0 ≤ j → j < i → M2 186 (7 * (a : Int) + 1 + j) = M 177 (6 * (a : Int) + j)) → am_g 12 9 co_X12_stands d (am_cv sh_T f) 190 [(2, 152), (0, (a : Int)), (0, (i : Int))] [] sh_T M2 := by
        intro m2
        induction m2 with
        | zero =>
          intro i hi M2 g1 g2 g3 g4 g5 g6 g7 g8
          refine bk_X12_stands_190 ⟨fun _ => ⟨⟨by omega, by omega⟩, ih (a + 1) (by omega) M2 g1 g2 g3 g4 g5 (fun b b0 b1 => ?_)⟩, fun y => by omega⟩
          by_cases z : b = (a : Int)
          · rw [z]; exact ⟨g7, fun j j0 j1 => g8 j j0 (by omega)⟩
          · exact g6 b b0 (by omega)
        | succ m2 ih2 =>
          intro i hi M2 g1 g2 g3 g4 g5 g6 g7 g8
          have e : ∀ x j, ¬ x = 186 → am_up M2 186 (((7 * (a : Int)) + 1) + (i : Int)) (M2 177 ((6 * (a : Int)) + (i : Int))) x j = M2 x j := fun x j y => am_up_el (by omega)
          have e177 : ∀ j, M2 177 j = M 177 j := fun j => g1 177 j (by omega) (by omega) (by omega) (by omega) (by omega) (by omega) (by omega) (by omega) (by omega)
          refine bk_X12_stands_190 ⟨fun y => by omega, fun _ => ⟨⟨by omega, by omega⟩, ⟨by omega, by omega⟩, ⟨by omega, by omega⟩, ⟨by omega, by omega⟩, ⟨by omega, by omega⟩, ⟨by omega, by omega⟩, ⟨by omega, by omega⟩, ⟨by omega, by omega⟩, ih2 (i + 1) (by omega) _ (fun x j a1 a2 a3 a4 a5 a6 a7 a8 a9 => ?_) (fun k k0 k1 => ?_) (fun j j0 j1 => ?_) (fun j j0 j1 => ?_) (fun j j0 j1 => ?_) (fun b b0 b1 => ⟨?_, fun j j0 j1 => ?_⟩) ?_ (fun j j0 j1 => ?_)⟩⟩
          · rw [e x j a9]; exact g1 x j a1 a2 a3 a4 a5 a6 a7 a8 a9
          · rw [e _ _ (by omega), e _ _ (by omega), e _ _ (by omega), e _ _ (by omega)]; exact g2 k k0 k1
          · rw [e _ _ (by omega)]; exact g3 j j0 j1
          · rw [e _ _ (by omega), e _ _ (by omega)]; exact g4 j j0 j1
          · rw [e _ _ (by omega)]; exact g5 j j0 j1
          · rw [am_up_el (by omega)]; exact (g6 b b0 b1).1
          · rw [am_up_el (by omega)]; exact (g6 b b0 b1).2 j j0 j1
          · rw [am_up_el (by omega)]; exact g7
          · by_cases z : j = (i : Int)
            · rw [z, am_up_at, e177]
            · rw [am_up_el (by omega)]; exact g8 j j0 (by omega)
      have e : ∀ x j, ¬ x = 186 → am_up M1 186 (7 * (a : Int)) (-1) x j = M1 x j := fun x j y => am_up_el (by omega)
      refine bk_X12_stands_173 ⟨fun y => by omega, fun _ => ⟨⟨by omega, by omega⟩, ⟨by omega, by omega⟩, inner 6 0 rfl _ (fun x j a1 a2 a3 a4 a5 a6 a7 a8 a9 => ?_) (fun k k0 k1 => ?_) (fun j j0 j1 => ?_) (fun j j0 j1 => ?_) (fun j j0 j1 => ?_) (fun b b0 b1 => ⟨?_, fun j j0 j1 => ?_⟩) am_up_at (fun j j0 j1 => by omega)⟩⟩
      · rw [e x j a9]; exact h1 x j a1 a2 a3 a4 a5 a6 a7 a8 a9
      · rw [e _ _ (by omega), e _ _ (by omega), e _ _ (by omega), e _ _ (by omega)]; exact h2 k k0 k1
      · rw [e _ _ (by omega)]; exact h3 j j0 j1
      · rw [e _ _ (by omega), e _ _ (by omega)]; exact h4 j j0 j1
      · rw [e _ _ (by omega)]; exact h5 j j0 j1
      · rw [am_up_el (by omega)]; exact (h6 b b0 b1).1
      · rw [am_up_el (by omega)]; exact (h6 b b0 b1).2 j j0 j1
  -- the codes
  have l4 : ∀ (m i : Nat), (i : Int) + m = M 152 40 → ∀ M1 : am_M, sd_ M M1 → (∀ k : Int, 0 ≤ k → k < 3 → M1 174 (3 + k) = M 174 k ∧ M1 179 (3 + k) = M 179 k ∧ M1 180 (3 + k) = M 180 k ∧ M1 181 (3 + k) = M 181 k) → (∀ j : Int, 0 ≤ j → j < 18 → M1 175 (18 + j) = M 175 j) → (∀ j : Int, 0 ≤ j → j < 4 → M1 176 (4 + j) = M 176 j ∧ M1 178 (4 + j) = M 178 j) → (∀ j : Int, 0 ≤ j → j < i → M1 182 (1600 + j) = M 182 j) → am_g 12 9 co_X12_stands d (am_cv sh_T f) 141 [(2, 152), (0, (i : Int)), (3, 0)] [] sh_T M1 := by
    intro m
    induction m with
    | zero =>
      intro i hi M1 h1 h2 h3 h4 h5
      have e40 : M1 152 40 = M 152 40 := h1 152 40 (by omega) (by omega) (by omega) (by omega) (by omega) (by omega) (by omega) (by omega) (by omega)
      exact bk_X12_stands_141 ⟨fun _ => l5 4 0 rfl M1 h1 h2 h3 h4 (fun j j0 j1 => h5 j j0 (by omega)) (fun b b0 b1 => by omega), fun y => by omega⟩
    | succ m ih =>
      intro i hi M1 h1 h2 h3 h4 h5
      have e40 : M1 152 40 = M 152 40 := h1 152 40 (by omega) (by omega) (by omega) (by omega) (by omega) (by omega) (by omega) (by omega) (by omega)
      have e182 : M1 182 i = M 182 i := h1 182 i (by omega) (by omega) (by omega) (by omega) (by omega) (by omega) (by omega) (by omega) (by omega)
      refine bk_X12_stands_141 ⟨fun y => by omega, fun _ => ⟨⟨by omega, by omega⟩, ⟨by omega, by omega⟩, ⟨by omega, by omega⟩, ⟨by omega, by omega⟩, ih (i + 1) (by omega) _ (fun x j a1 a2 a3 a4 a5 a6 a7 a8 a9 => ?_) (fun k k0 k1 => ?_) (fun j j0 j1 => ?_) (fun j j0 j1 => ?_) (fun j j0 j1 => ?_)⟩⟩
      · rw [am_up_el (by omega)]; exact h1 x j a1 a2 a3 a4 a5 a6 a7 a8 a9
      · rw [am_up_el (by omega), am_up_el (by omega), am_up_el (by omega), am_up_el (by omega)]; exact h2 k k0 k1
      · rw [am_up_el (by omega)]; exact h3 j j0 j1
      · rw [am_up_el (by omega), am_up_el (by omega)]; exact h4 j j0 j1
      · by_cases z : j = (i : Int)
        · rw [z, am_up_at, e182]
        · rw [am_up_el (by omega)]; exact h5 j j0 (by omega)
  have l3 : ∀ (m i : Nat), i + m = 4 → ∀ M1 : am_M, sd_ M M1 → (∀ k : Int, 0 ≤ k → k < 3 → M1 174 (3 + k) = M 174 k ∧ M1 179 (3 + k) = M 179 k ∧ M1 180 (3 + k) = M 180 k ∧ M1 181 (3 + k) = M 181 k) → (∀ j : Int, 0 ≤ j → j < 18 → M1 175 (18 + j) = M 175 j) → (∀ j : Int, 0 ≤ j → j < i → M1 176 (4 + j) = M 176 j ∧ M1 178 (4 + j) = M 178 j) → am_g 12 9 co_X12_stands d (am_cv sh_T f) 100 [(2, 152), (0, (i : Int)), (3, 0)] [] sh_T M1 := by
    intro m
    induction m with
    | zero =>
      intro i hi M1 h1 h2 h3 h4
      exact bk_X12_stands_100 ⟨fun _ => l4 (M 152 40).toNat 0 (by omega) M1 h1 h2 h3 (fun j j0 j1 => h4 j j0 (by omega)) (fun j j0 j1 => by omega), fun y => by omega⟩
    | succ m ih =>
      intro i hi M1 h1 h2 h3 h4
      have e176 : M1 176 i = M 176 i := h1 176 i (by omega) (by omega) (by omega) (by omega) (by omega) (by omega) (by omega) (by omega) (by omega)
      have e178 : M1 178 i = M 178 i := h1 178 i (by omega) (by omega) (by omega) (by omega) (by omega) (by omega) (by omega) (by omega) (by omega)
      refine bk_X12_stands_100 ⟨fun y => by omega, fun _ => ⟨⟨by omega, by omega⟩, ⟨by omega, by omega⟩, ⟨by omega, by omega⟩, ⟨by omega, by omega⟩, ⟨by omega, by omega⟩, ⟨by omega, by omega⟩, ⟨by omega, by omega⟩, ih (i + 1) (by omega) _ (fun x j a1 a2 a3 a4 a5 a6 a7 a8 a9 => ?_) (fun k k0 k1 => ?_) (fun j j0 j1 => ?_) (fun j j0 j1 => ?_)⟩⟩
      · rw [am_up_el (by omega), am_up_el (by omega)]; exact h1 x j a1 a2 a3 a4 a5 a6 a7 a8 a9
      · rw [am_up_el (by omega), am_up_el (by omega), am_up_el (by omega), am_up_el (by omega), am_up_el (by omega), am_up_el (by omega), am_up_el (by omega), am_up_el (by omega)]; exact h2 k k0 k1
      · rw [am_up_el (by omega), am_up_el (by omega)]; exact h3 j j0 j1
      · by_cases z : j = (i : Int)
        · rw [z]
          refine ⟨?_, ?_⟩
          · rw [am_up_el (by omega), am_up_at, e176]
          · rw [am_up_at, e178]
        · rw [am_up_el (by omega), am_up_el (by omega), am_up_el (by omega), am_up_el (by omega)]; exact h4 j j0 (by omega)
  have l2 : ∀ (m i : Nat), i + m = 18 → ∀ M1 : am_M, sd_ M M1 → (∀ k : Int, 0 ≤ k → k < 3 → M1 174 (3 + k) = M 174 k ∧ M1 179 (3 + k) = M 179 k ∧ M1 180 (3 + k) = M 180 k ∧ M1 181 (3 + k) = M 181 k) → (∀ j : Int, 0 ≤ j → j < i → M1 175 (18 + j) = M 175 j) → am_g 12 9 co_X12_stands d (am_cv sh_T f) 71 [(2, 152), (0, (i : Int)), (3, 0)] [] sh_T M1 := by
    intro m
    induction m with
    | zero =>
      intro i hi M1 h1 h2 h3
      exact bk_X12_stands_71 ⟨fun _ => l3 4 0 rfl M1 h1 h2 (fun j j0 j1 => h3 j j0 (by omega)) (fun j j0 j1 => by omega), fun y => by omega⟩
    | succ m ih =>
      intro i hi M1 h1 h2 h3
      have e175 : M1 175 i = M 175 i := h1 175 i (by omega) (by omega) (by omega) (by omega) (by omega) (by omega) (by omega) (by omega) (by omega)
      refine bk_X12_stands_71 ⟨fun y => by omega, fun _ => ⟨⟨by omega, by omega⟩, ⟨by omega, by omega⟩, ⟨by omega, by omega⟩, ⟨by omega, by omega⟩, ih (i + 1) (by omega) _ (fun x j a1 a2 a3 a4 a5 a6 a7 a8 a9 => ?_) (fun k k0 k1 => ?_) (fun j j0 j1 => ?_)⟩⟩
      · rw [am_up_el (by omega)]; exact h1 x j a1 a2 a3 a4 a5 a6 a7 a8 a9
      · rw [am_up_el (by omega), am_up_el (by omega), am_up_el (by omega), am_up_el (by omega)]; exact h2 k k0 k1
      · by_cases z : j = (i : Int)
        · rw [z, am_up_at, e175]
        · rw [am_up_el (by omega)]; exact h3 j j0 (by omega)
  have l1 : ∀ (m i : Nat), i + m = 3 → ∀ M1 : am_M, sd_ M M1 → (∀ k : Int, 0 ≤ k → k < i → M1 174 (3 + k) = M 174 k ∧ M1 179 (3 + k) = M 179 k ∧ M1 180 (3 + k) = M 180 k ∧ M1 181 (3 + k) = M 181 k) → am_g 12 9 co_X12_stands d (am_cv sh_T f) 2 [(2, 152), (0, (i : Int)), (3, 0)] [] sh_T M1 := by
    intro m
    induction m with
    | zero =>
      intro i hi M1 h1 h2
      exact bk_X12_stands_2 ⟨fun _ => l2 18 0 rfl M1 h1 (fun k k0 k1 => h2 k k0 (by omega)) (fun j j0 j1 => by omega), fun y => by omega⟩
    | succ m ih =>
      intro i hi M1 h1 h2
      have e : ∀ x : Int, (x = 174 ∨ x = 179 ∨ x = 180 ∨ x = 181) → M1 x i = M x i := fun x hx => h1 x i (by omega) (by omega) (by omega) (by omega) (by omega) (by omega) (by omega) (by omega) (by omega)
      refine bk_X12_stands_2 ⟨fun y => by omega, fun _ => ⟨⟨by omega, by omega⟩, ⟨by omega, by omega⟩, ⟨by omega, by omega⟩, ⟨by omega, by omega⟩, ⟨by omega, by omega⟩, ⟨by omega, by omega⟩, ⟨by omega, by omega⟩, ⟨by omega, by omega⟩, ⟨by omega, by omega⟩, ⟨by omega, by omega⟩, ⟨by omega, by omega⟩, ⟨by omega, by omega⟩, ⟨by omega, by omega⟩, ih (i + 1) (by omega) _ (fun x j a1 a2 a3 a4 a5 a6 a7 a8 a9 => ?_) (fun k k0 k1 => ?_)⟩⟩
      · rw [am_up_el (by omega), am_up_el (by omega), am_up_el (by omega), am_up_el (by omega)]; exact h1 x j a1 a2 a3 a4 a5 a6 a7 a8 a9
      · by_cases z : k = (i : Int)
        · rw [z]
          refine ⟨?_, ?_, ?_, ?_⟩
          · rw [am_up_el (by omega), am_up_el (by omega), am_up_el (by omega), am_up_at]; exact e 174 (by omega)
          · rw [am_up_el (by omega), am_up_el (by omega), am_up_at]; exact e 179 (by omega)
          · rw [am_up_el (by omega), am_up_at]; exact e 180 (by omega)
          · rw [am_up_at]; exact e 181 (by omega)
        · rw [am_up_el (by omega), am_up_el (by omega), am_up_el (by omega), am_up_el (by omega), am_up_el (by omega), am_up_el (by omega), am_up_el (by omega), am_up_el (by omega), am_up_el (by omega), am_up_el (by omega), am_up_el (by omega), am_up_el (by omega), am_up_el (by omega), am_up_el (by omega), am_up_el (by omega), am_up_el (by omega)]
          exact h2 k k0 (by omega)
  exact en_X12_stands (bk_X12_stands_0 (l1 3 0 rfl M (fun x j _ _ _ _ _ _ _ _ _ => rfl) (fun k k0 k1 => by omega)))
