/-! THE REFERENCE'S dream -/
def yg_ (M M' : am_M) : Prop := ∀ x j, ¬ yc_ x j → ¬ (x = 152 ∧ (j = 1 ∨ j = 3 ∨ j = 7 ∨ j = 8)) → ¬ (x = 154 ∧ j = 1) → M' x j = M x j
def yh_ (M M' : am_M) : Prop := ∀ x j, ¬ yc_ x j → ¬ (x = 152 ∧ (j = 1 ∨ j = 3 ∨ j = 7 ∨ j = 8 ∨ j = 58 ∨ j = 61)) → ¬ (174 ≤ x ∧ x ≤ 182) → ¬ x = 186 → M' x j = M x j
/-- the standing dream, as the reference has it -/
def sg_ (M : am_M) (T : tt_) : Prop := (∀ k : Int, 0 ≤ k → k < 3 → M 174 (3 + k) = ((tN T k).length : Int)) ∧ (∀ k : Int, 0 ≤ k → k < 3 → ∀ i : Nat, i < (tN T k).length → M 175 (18 + (6 * k + i)) = nv_ ((tN T k).getD i []) 0) ∧ (∀ a : Int, 0 ≤ a → a < ((tN T 1).length : Int) → M 176 (4 + a) = tBr T a) ∧ (∀ a : Int, 0 ≤ a → a < 4 → M 186 (7 * a) = -1 ∧ ∀ j : Int, 0 ≤ j → j < 6 → M 186 (7 * a + 1 + j) = tFe T (6 * a + j)) ∧ (∀ g : Int, 0 ≤ g → g < ((tN T 2).length : Int) → M 178 (4 + g) = tGu T g) ∧ (M 179 3 = tHo T ∧ M 179 4 = tLa T ∧ M 179 5 = tSp T) ∧ (∀ k : Int, 0 ≤ k → k < 3 → (tS T k = none ∧ M 180 (3 + k) = -1) ∨ ∃ f g : Nat, tS T k = some (f, g) ∧ M 180 (3 + k) = f ∧ M 181 (3 + k) = g) ∧ ((tC T).length ≤ 1600 ∧ ∀ i : Nat, i < (tC T).length → M 182 (1600 + (i : Int)) = (tC T).getD i 0)
theorem rt_dream {d : Nat} {M : am_M} {f : Int → am_M → Prop} (hw : rw_all M) (h0 : 0 ≤ M 152 1 ∧ M 152 1 ≤ 1600) (hr : am_r (M 154 1 + 1)) (h1 : ∀ k z, pz_all (M 153) (M 152 1) 70 (rd_at (M 153) (M 152 1) 0) (-1) t0_ = .error (k, z) → ∀ M', yg_ M M' → M' 152 7 = k → M' 152 8 = z → ¬ k = 0 → M' 152 1 = 0 → M' 154 1 = M 154 1 + 1 → f (-1) M') (h2 : ∀ p en T l, pz_all (M 153) (M 152 1) 70 (rd_at (M 153) (M 152 1) 0) (-1) t0_ = .ok (p, en, (T, l)) → tk_ T → ∀ M', yh_ M M' → sg_ M' T → M' 152 7 = 0 → M' 152 8 = -1 → M' 152 1 = 0 → M' 152 58 = 0 → M' 152 61 = 0 → f (70 - (l : Int)) M') : am_cal pg (d + 11) 194 [(2, 152)] sh_T M (am_c0 sh_T f) := by
  refine en_X12_dream (bk_X12_dream_0 ?_)
  generalize hA : am_up (am_up (am_up (am_up (am_up (am_up (am_up (am_up M 152 3 (M 152 1)) 152 1 0) 152 2 0) 152 4 (-1)) 152 5 0) 152 6 (-1)) 152 38 0) 152 40 0 = A
  have fA : ∀ x j, ¬ (x = 152 ∧ ((1 ≤ j ∧ j ≤ 6) ∨ j = 38 ∨ j = 40)) → A x j = M x j := fun x j y => by
    rw [← hA, am_up_el (by omega), am_up_el (by omega), am_up_el (by omega), am_up_el (by omega), am_up_el (by omega), am_up_el (by omega), am_up_el (by omega), am_up_el (by omega)]
  have a40 : A 152 40 = 0 := by rw [← hA, am_up_at]
  have a38 : A 152 38 = 0 := by rw [← hA, am_up_el (by omega), am_up_at]
  have a6 : A 152 6 = -1 := by rw [← hA, am_up_el (by omega), am_up_el (by omega), am_up_at]
  have a5 : A 152 5 = 0 := by rw [← hA, am_up_el (by omega), am_up_el (by omega), am_up_el (by omega), am_up_at]
  have a4 : A 152 4 = -1 := by rw [← hA, am_up_el (by omega), am_up_el (by omega), am_up_el (by omega), am_up_el (by omega), am_up_at]
  have a2 : A 152 2 = 0 := by rw [← hA, am_up_el (by omega), am_up_el (by omega), am_up_el (by omega), am_up_el (by omega), am_up_el (by omega), am_up_at]
  have a1 : A 152 1 = 0 := by rw [← hA, am_up_el (by omega), am_up_el (by omega), am_up_el (by omega), am_up_el (by omega), am_up_el (by omega), am_up_el (by omega), am_up_at]
  have a3 : A 152 3 = M 152 1 := by rw [← hA, am_up_el (by omega), am_up_el (by omega), am_up_el (by omega), am_up_el (by omega), am_up_el (by omega), am_up_el (by omega), am_up_el (by omega), am_up_at]
  -- all is laid bare
  have read : ∀ B : am_M, (∀ x j, ¬ (x = 174 ∧ j < 3) → ¬ (x = 179 ∧ j < 3) → ¬ (x = 180 ∧ j < 3) → ¬ x = 177 → B x j = A x j) → (∀ k : Int, 0 ≤ k → k < 3 → B 174 k = 0 ∧ B 179 k = 0 ∧ B 180 k = -1) → (∀ j : Int, 0 ≤ j → j < 24 → B 177 j = 0) → am_g 12 0 co_X12_dream (d + 10) (am_c0 sh_T f) 98 [(2, 152), (3, 0)] [] sh_T B := by
    intro B fB k3 k24
    have b : ∀ j, B 152 j = A 152 j := fun j => fB 152 j (by omega) (by omega) (by omega) (by omega)
    have bM : ∀ x j, ¬ yc_ x j → ¬ (x = 152 ∧ (j = 1 ∨ j = 3)) → B x j = M x j := fun x j y y2 => by
      unfold yc_ at y
      rw [fB x j (by omega) (by omega) (by omega) (by omega)]
      exact fA x j (by omega)
    have bt : B 153 = M 153 := funext fun j => bM 153 j (by unfold yc_; omega) (by omega)
    have b3 : B 152 3 = M 152 1 := (b 3).trans a3
    have hwB : rw_all B := fun x hx => by
      obtain ⟨w1, w2, w3, w4⟩ := hw x hx
      have hi := rws_in x hx
      have h6 := rws_no x hx
      exact ⟨w1, w2, fun i hl => (bM x.1 i (by unfold yc_; omega) (by omega)).trans (w3 i hl), w4⟩
    have s : ys_ B B (rd_at (B 153) (B 152 3) 0) (-1) t0_ 0 := by
      refine ⟨fun _ _ _ => rfl, ⟨rp_rf, ⟨?_, ?_, ?_⟩, ?_, ?_, ?_, ?_⟩, ⟨fun k k0 k1 => ?_, fun k k0 k1 i i1 => ?_, fun a x y => ?_, fun j x y => ?_, fun g x y => ?_, ⟨?_, ?_, ?_⟩, fun k k0 k1 => Or.inl ⟨rfl, (k3 k k0 k1).2.2⟩⟩, ⟨?_, by decide, fun i hi => absurd hi (Nat.not_lt_zero i)⟩, ?_⟩
      · rw [b3]; exact h0.2
      · rw [b, a2]; exact Int.le_refl _
      · rw [b3, b, a2]; exact h0.1
      · show rd_at (B 153) (B 152 3) (B 152 2) = _
        rw [b 2, a2]
      · rw [b, a4]
      · rw [b, a5]
      · rw [b, a6]
      · rw [(k3 k k0 k1).1]
        rcases (show k = 0 ∨ k = 1 ∨ k = 2 by omega) with rfl | rfl | rfl <;> rfl
      · rcases (show k = 0 ∨ k = 1 ∨ k = 2 by omega) with rfl | rfl | rfl <;> exact absurd i1 (Nat.not_lt_zero _)
      · have y : a < ((0 : Nat) : Int) := y
        omega
      · rw [k24 j x y]; rfl
      · have y : g < ((0 : Nat) : Int) := y
        omega
      · exact (k3 0 (by decide) (by decide)).2.1
      · exact (k3 1 (by decide) (by decide)).2.1
      · exact (k3 2 (by decide) (by decide)).2.1
      · rw [b, a40]; rfl
      · rw [b, a38]
    rw [← bt, ← b3] at h1 h2
    have hra := rd_at_le (t := B 153) (e := B 152 3) (i := 0) (by rw [b3]; exact h0.1)
    refine rt_all hwB 70 B _ (-1) t0_ (by decide) tk_t0 (by show ((0 : Nat) : Int) ≤ _; omega) s ?_
    cases hx : pz_all (B 153) (B 152 3) 70 (rd_at (B 153) (B 152 3) 0) (-1) t0_ with
    | error q =>
      obtain ⟨k, z⟩ := q
      intro n M' m
      obtain ⟨m1, ⟨-, m2, m3, m4, m5⟩, m6⟩ := m
      have e154 : M' 154 1 = M 154 1 := (m1 154 1 (by unfold yc_; omega)).trans (bM 154 1 (by unfold yc_; omega) (by omega))
      refine bk_X12_dream_120 ⟨fun y => absurd (m3.symm.trans y) m5, fun _ => ⟨?_, am_c0_i (h1 k z hx _ (fun x j y y2 y3 => ?_) ?_ ?_ m5 ?_ ?_)⟩⟩
      · rw [e154]; exact hr
      · rw [am_up_el (by omega), am_up_el (by omega), am_up_el (by omega), m1 x j y]; exact bM x j y (by omega)
      · rw [am_up_el (by omega), am_up_el (by omega), am_up_at]; exact m3
      · rw [am_up_el (by omega), am_up_at]; exact m4
      · rw [am_up_el (by omega), am_up_el (by omega), am_up_el (by omega), m1 152 1 (by unfold yc_; omega), b]; exact a1
      · rw [am_up_at, e154]
    | ok q =>
      obtain ⟨p, en, T, l⟩ := q
      intro hT M' m
      obtain ⟨m1, ⟨-, m2, m3, m4, m5⟩, ⟨q1, q2, q3, q4, q5, ⟨q6, q7, q8⟩, q9⟩, ⟨g4, g5, g6⟩, g7⟩ := m
      generalize hN : am_up (am_up M' 152 7 (M' 152 5)) 152 8 (M' 152 6) = N
      have fN : ∀ x j, ¬ (x = 152 ∧ (j = 7 ∨ j = 8)) → N x j = M' x j := fun x j y => by rw [← hN, am_up_el (by omega), am_up_el (by omega)]
      have n7 : N 152 7 = 0 := by rw [← hN, am_up_el (by omega), am_up_at]; exact m5.1
      have n8 : N 152 8 = -1 := by rw [← hN, am_up_at]; exact m5.2
      have n40 : N 152 40 = ((tC T).length : Int) := (fN 152 40 (by omega)).trans g4
      refine bk_X12_dream_120 ⟨fun _ => ?_, fun y => absurd m5.1 y⟩
      rw [hN]
      refine rt_stands (by omega) (fun S sS s1 s2 s3 s4 s5 => am_c0_i ?_)
      have S152 : ∀ j, S 152 j = N 152 j := fun j => sS 152 j (by omega) (by omega) (by omega) (by omega) (by omega) (by omega) (by omega) (by omega) (by omega)
      have eS : ∀ x j, ¬ x = 152 → am_up (am_up S 152 58 0) 152 61 0 x j = S x j := fun x j y => by rw [am_up_el (by omega), am_up_el (by omega)]
      have e38 : am_up (am_up S 152 58 0) 152 61 0 152 38 = 70 - (l : Int) := by rw [am_up_el (by omega), am_up_el (by omega), S152, fN 152 38 (by omega)]; exact g7
      rw [e38]
      refine h2 p en T l hx hT _ (fun x j y y2 y3 y4 => ?_) ⟨fun k k0 k1 => ?_, fun k k0 k1 i i1 => ?_, fun a x y => ?_, fun a x y => ⟨?_, fun j j0 j1 => ?_⟩, fun g x y => ?_, ⟨?_, ?_, ?_⟩, fun k k0 k1 => ?_, g5, fun i hi => ?_⟩ ?_ ?_ ?_ ?_ ?_
      · rw [am_up_el (by omega), am_up_el (by omega), sS x j (by omega) (by omega) (by omega) (by omega) (by omega) (by omega) (by omega) (by omega) y4, fN x j (by omega), m1 x j y]; exact bM x j y (by omega)
      · rw [eS _ _ (by omega), (s1 k k0 k1).1, fN _ _ (by omega)]; exact q1 k k0 k1
      · have hl := (tn_len (tk_n hT) ⟨k0, k1⟩).1
        rw [eS _ _ (by omega), s2 _ (by omega) (by omega), fN _ _ (by omega)]; exact q2 k k0 k1 i i1
      · have hl := hT.2.1
        rw [eS _ _ (by omega), (s3 a x (by omega)).1, fN _ _ (by omega)]; exact q3 a x y
      · rw [eS _ _ (by omega)]; exact (s5 a x y).1
      · rw [eS _ _ (by omega), (s5 a x y).2 j j0 j1, fN _ _ (by omega)]; exact q4 _ (by omega) (by omega)
      · have hl := hT.2.1
        rw [eS _ _ (by omega), (s3 g x (by omega)).2, fN _ _ (by omega)]; exact q5 g x y
      · rw [eS _ _ (by omega), show (3 : Int) = 3 + 0 by decide, (s1 0 (by decide) (by decide)).2.1, fN _ _ (by omega)]; exact q6
      · rw [eS _ _ (by omega), show (4 : Int) = 3 + 1 by decide, (s1 1 (by decide) (by decide)).2.1, fN _ _ (by omega)]; exact q7
      · rw [eS _ _ (by omega), show (5 : Int) = 3 + 2 by decide, (s1 2 (by decide) (by decide)).2.1, fN _ _ (by omega)]; exact q8
      · rw [eS _ _ (by omega), eS _ _ (by omega), (s1 k k0 k1).2.2.1, (s1 k k0 k1).2.2.2, fN _ _ (by omega), fN _ _ (by omega)]; exact q9 k k0 k1
      · rw [eS _ _ (by omega), s4 i (by omega) (by omega), fN _ _ (by omega)]; exact g6 i hi
      · rw [am_up_el (by omega), am_up_el (by omega), S152]; exact n7
      · rw [am_up_el (by omega), am_up_el (by omega), S152]; exact n8
      · rw [am_up_el (by omega), am_up_el (by omega), S152, fN _ _ (by omega), m1 152 1 (by unfold yc_; omega), b]; exact a1
      · rw [am_up_el (by omega), am_up_at]
      · rw [am_up_at]
  have l2 : ∀ (m i : Nat), i + m = 24 → ∀ B : am_M, (∀ x j, ¬ (x = 174 ∧ j < 3) → ¬ (x = 179 ∧ j < 3) → ¬ (x = 180 ∧ j < 3) → ¬ x = 177 → B x j = A x j) → (∀ k : Int, 0 ≤ k → k < 3 → B 174 k = 0 ∧ B 179 k = 0 ∧ B 180 k = -1) → (∀ j : Int, 0 ≤ j → j < i → B 177 j = 0) → am_g 12 0 co_X12_dream (d + 10) (am_c0 sh_T f) 79 [(2, 152), (0, (i : Int))] [] sh_T B := by
    intro m
    induction m with
    | zero => exact fun i hi B g1 g2 g3 => bk_X12_dream_79 ⟨fun _ => read B g1 g2 (fun j j0 j1 => g3 j j0 (by omega)), fun y => by omega⟩
    | succ m ih =>
      intro i hi B g1 g2 g3
      refine bk_X12_dream_79 ⟨fun y => by omega, fun _ => ⟨⟨by omega, by omega⟩, ⟨by omega, by omega⟩, ih (i + 1) (by omega) _ (fun x j y1 y2 y3 y4 => ?_) (fun k k0 k1 => ?_) (fun j j0 j1 => ?_)⟩⟩
      · rw [am_up_el (by omega)]; exact g1 x j y1 y2 y3 y4
      · rw [am_up_el (by omega), am_up_el (by omega), am_up_el (by omega)]; exact g2 k k0 k1
      · by_cases z : j = (i : Int)
        · rw [z, am_up_at]
        · rw [am_up_el (by omega)]; exact g3 j j0 (by omega)
  have l1 : ∀ (m i : Nat), i + m = 3 → ∀ B : am_M, (∀ x j, ¬ (x = 174 ∧ j < 3) → ¬ (x = 179 ∧ j < 3) → ¬ (x = 180 ∧ j < 3) → ¬ x = 177 → B x j = A x j) → (∀ k : Int, 0 ≤ k → k < i → B 174 k = 0 ∧ B 179 k = 0 ∧ B 180 k = -1) → am_g 12 0 co_X12_dream (d + 10) (am_c0 sh_T f) 45 [(2, 152), (0, (i : Int))] [] sh_T B := by
    intro m
    induction m with
    | zero => exact fun i hi B g1 g2 => bk_X12_dream_45 ⟨fun _ => l2 24 0 rfl B g1 (fun k k0 k1 => g2 k k0 (by omega)) (fun j j0 j1 => by omega), fun y => by omega⟩
    | succ m ih =>
      intro i hi B g1 g2
      refine bk_X12_dream_45 ⟨fun y => by omega, fun _ => ⟨⟨by omega, by omega⟩, ⟨by omega, by omega⟩, ⟨by omega, by omega⟩, ⟨by omega, by omega⟩, ih (i + 1) (by omega) _ (fun x j y1 y2 y3 y4 => ?_) (fun k k0 k1 => ?_)⟩⟩
      · rw [am_up_el (by omega), am_up_el (by omega), am_up_el (by omega)]; exact g1 x j y1 y2 y3 y4
      · by_cases z : k = (i : Int)
        · rw [z]
          refine ⟨?_, ?_, ?_⟩
          · rw [am_up_el (by omega), am_up_el (by omega), am_up_at]
          · rw [am_up_el (by omega), am_up_at]
          · rw [am_up_at]
        · rw [am_up_el (by omega), am_up_el (by omega), am_up_el (by omega), am_up_el (by omega), am_up_el (by omega), am_up_el (by omega), am_up_el (by omega), am_up_el (by omega), am_up_el (by omega)]
          exact g2 k k0 (by omega)
  exact l1 3 0 rfl A (fun x j _ _ _ _ => rfl) (fun k k0 k1 => by omega)
