/-! BOTH READ A DREAM -/
theorem pz_all_le {t : Int → Int} {e : Int} : ∀ (m : Nat) (p en p1 en1 : Int) (T T1 : tt_) (l : Nat), pz_all t e m p en T = .ok (p1, en1, (T1, l)) → l ≤ m
  | 0, p, en, p1, en1, T, T1, l, h => by
    have h : (if rc t e p = -1 then (.ok (p, en, (T, 0)) : pr_ (tt_ × Nat)) else .error (5, p)) = .ok (p1, en1, (T1, l)) := h
    split at h
    · simp only [Except.ok.injEq, Prod.mk.injEq] at h
      omega
    · cases h
  | m + 1, p, en, p1, en1, T, T1, l, h => by
    have h : (if rc t e p = -1 then (.ok (p, en, (T, m + 1)) : pr_ (tt_ × Nat)) else pr_b (pz_stmt t e T p en) (fun p1 en1 T1 => pz_all t e m p1 en1 T1)) = .ok (p1, en1, (T1, l)) := h
    split at h
    · simp only [Except.ok.injEq, Prod.mk.injEq] at h
      omega
    · obtain ⟨p2, en2, T2, h1, h2⟩ := pr_b_io h
      have := pz_all_le m p2 en2 p1 en1 T2 T1 l h2
      omega
theorem st_lay {d : Nat} {M : am_M} {f : am_M → Prop} {c v i : Int} (hc : dr_is c) (hv : sl_is v) (hi : 0 ≤ i ∧ i < 4) (h : ∀ M', (∀ x j, ¬ (x = v ∧ (j = 1 ∨ j = 2)) → ¬ (x = v + 1 ∧ 0 ≤ j ∧ j < 6) → M' x j = M x j) → M' v 1 = i → M' v 2 = -1 → (∀ j : Int, 0 ≤ j → j < 6 → M' (v + 1) j = M (c + 4) (6 * i + j)) → f M') : am_cal pg (d + 2) 28 [(2, c), (2, v), (0, i)] sh_T M (am_cv sh_T f) := by
  obtain ⟨⟨ob, -⟩, -, -, -, ⟨e1, e2⟩, -⟩ := dr_sh_of hc
  have hcc := hc
  unfold dr_is at hcc
  have hv38 := hv.2.2.2.2
  have loop : ∀ (m k : Nat), k + m = 6 → ∀ M1 : am_M, (∀ x j, ¬ (x = v ∧ (j = 1 ∨ j = 2)) → ¬ (x = v + 1 ∧ 0 ≤ j ∧ j < 6) → M1 x j = M x j) → M1 v 1 = i → M1 v 2 = -1 → (∀ j : Int, 0 ≤ j → j < k → M1 (v + 1) j = M (c + 4) (6 * i + j)) → am_g 2 9 co_X2_lay (d + 1) (am_cv sh_T f) 12 [(2, c), (2, v), (0, i), (0, (k : Int)), (3, 0)] [] sh_T M1 := by
    intro m
    induction m with
    | zero => exact fun k hk M1 h1 h2 h3 h4 => bk_X2_lay_12 ⟨fun _ => am_cv_i (h M1 h1 h2 h3 (fun j j0 j1 => h4 j j0 (by omega))), fun y => by omega⟩
    | succ m ih =>
      intro k hk M1 h1 h2 h3 h4
      refine bk_X2_lay_12 ⟨fun y => by omega, fun _ => ⟨⟨by omega, by omega⟩, ⟨by omega, by omega⟩, fun y => by omega, fun _ => ⟨ob, 24, e1, fun y => by omega, fun _ => ⟨(e2 _ (by omega) (by omega)).1, hv.1, st_put hv (by omega) (by omega) ⟨⟨by omega, by omega⟩, ih (k + 1) (by omega) _ (fun x j y1 y2 => ?_) ?_ ?_ (fun j j0 j1 => ?_)⟩⟩⟩⟩⟩
      · rw [am_up_el (by omega)]; exact h1 x j y1 y2
      · rw [am_up_el (by omega)]; exact h2
      · rw [am_up_el (by omega)]; exact h3
      · by_cases z : j = (k : Int)
        · rw [z, am_up_at, h1 (c + 4) _ (by omega) (by omega), show i * 6 + (k : Int) = 6 * i + (k : Int) by omega]
        · rw [am_up_el (by omega)]; exact h4 j j0 (by omega)
  refine en_X2_lay (bk_X2_lay_0 ⟨hv.1, loop 6 0 rfl _ (fun x j y1 y2 => by rw [am_up_el (by omega), am_up_el (by omega)]) (by rw [am_up_el (by omega), am_up_at]) am_up_at (fun j j0 j1 => by omega)⟩)
def xd_ (s : Int) (M M' : am_M) : Prop := ∀ x j, ¬ (x = 1 ∧ 1 ≤ j ∧ j ≤ 7) → ¬ (x = 3 ∧ (j = 1 ∨ j = 2)) → ¬ (s ≤ x ∧ x ≤ s + 12) → ¬ (x = 151 ∧ j = 1) → M' x j = M x j
def xe_ (s : Int) (M M' : am_M) : Prop := ∀ x j, ¬ (x = 1 ∧ 1 ≤ j ∧ j ≤ 7) → ¬ (x = 3 ∧ (j = 1 ∨ j = 2)) → ¬ (s ≤ x ∧ x ≤ s + 12) → ¬ (x = 0 ∧ (j = 4 ∨ j = 5 ∨ j = 13)) → ¬ (38 ≤ x ∧ x ≤ 45) → ¬ (x = 46 ∧ j = 2) → M' x j = M x j
/-- the codes that a dream's reckoner holds -/
def ce_ (M : am_M) (c : Int) (C : List Int) : Prop := M (c + 6) 1 = C.length ∧ C.length ≤ 1600 ∧ ∀ i : Nat, i < C.length → M (c + 7) i = cv (C.getD i 0)
theorem ct_dream {d : Nat} {M : am_M} {f : Int → am_M → Prop} {u s : Int} (hu : dr_is u) (hs : dr_is s) (hne : ¬ u = s) (h4 : M 0 4 = u) (h5 : M 0 5 = s) (h0 : 0 ≤ M 1 1 ∧ M 1 1 ≤ 1600) (hw : xw_ M) (hb : 0 ≤ M 151 1 ∧ M 151 1 ≤ 1000000)
    (h1 : ∀ k z, pz_all (M 2) (M 1 1) 70 (rd_at (M 2) (M 1 1) 0) (-1) t0_ = .error (k, z) → ∀ M', xd_ s M M' → M' 1 1 = 0 → M' 1 3 = k → M' 1 4 = z → ¬ k = 0 → M' 151 1 = M 151 1 + 1 → f (-1) M')
    (h2 : ∀ p en T l, pz_all (M 2) (M 1 1) 70 (rd_at (M 2) (M 1 1) 0) (-1) t0_ = .ok (p, en, (T, l)) → tk_ T → ∀ M', xe_ s M M' → M' 1 1 = 0 → M' 1 3 = 0 → M' 1 4 = -1 → M' 0 4 = s → M' 0 5 = u → td_ M' s T ((tN T 1).length : Int) ((tN T 2).length : Int) → ce_ M' s (tC T) → (∀ a : Int, 0 ≤ a → a < 4 → M' (37 + 1 + 2 * a) 1 = a ∧ M' (37 + 1 + 2 * a) 2 = -1 ∧ ∀ j : Int, 0 ≤ j → j < 6 → M' (37 + 1 + 2 * a + 1) j = tFe T (6 * a + j)) → M' 46 2 = 0 → M' 0 13 = -1 → f (70 - (l : Int)) M') : am_cal pg (d + 46) 128 [(2, 0)] sh_T M (am_c0 sh_T f) := by
  have huu := hu
  have hss := hs
  unfold dr_is at huu hss
  refine en_X11_dream (bk_X11_dream_0 ?_)
  rw [h5]
  refine ct_read hs h0 hw (fun B hB => ?_)
  cases hx : pz_all (M 2) (M 1 1) 70 (rd_at (M 2) (M 1 1) 0) (-1) t0_ with
  | error q =>
    obtain ⟨k, z⟩ := q
    intro M1 m
    obtain ⟨m1, -, -, ⟨m2, m3, m4⟩, -⟩ := m
    have e151 : M1 151 1 = M 151 1 := (m1 151 1 (by omega) (by omega)).trans (hB 151 1 (by omega) (by omega) (by omega))
    refine en_X9_wipe (bk_X9_wipe_0 (am_cv_i ⟨fun y => absurd rfl y, fun _ => st_refuse (by decide) ?_ (am_c0_i (h1 k z hx _ (fun x j y1 y2 y3 y4 => ?_) ?_ ?_ ?_ m4 ?_))⟩))
    · rw [am_up_el (by omega), e151]; exact hb
    · rw [am_up_el (by omega), am_up_el (by omega), m1 x j (by omega) y3]; exact hB x j (by omega) y2 y3
    · rw [am_up_el (by omega), am_up_at]
    · rw [am_up_el (by omega), am_up_el (by omega)]; exact m2
    · rw [am_up_el (by omega), am_up_el (by omega)]; exact m3
    · rw [am_up_at, am_up_el (by omega), e151]
  | ok q =>
    obtain ⟨p, en, T, l⟩ := q
    intro hT M1 m
    have hl := pz_all_le _ _ _ _ _ _ _ _ hx
    obtain ⟨m1, ⟨-, -, ⟨-, -, m2, m3⟩, m4, m5, m6⟩, m7⟩ := m
    refine en_X9_wipe (bk_X9_wipe_0 (am_cv_i ⟨fun _ => ?_, fun y => by omega⟩))
    have e05 : am_up M1 1 1 0 0 5 = s := by rw [am_up_el (by omega), m1 0 5 (by omega) (by omega), hB 0 5 (by omega) (by omega) (by omega)]; exact h5
    have e04 : am_up M1 1 1 0 0 4 = u := by rw [am_up_el (by omega), m1 0 4 (by omega) (by omega), hB 0 4 (by omega) (by omega) (by omega)]; exact h4
    rw [e05, e04]
    generalize hN : am_up (am_up (am_up M1 1 1 0) 0 4 s) 0 5 u = N
    have fN : ∀ x j, ¬ (x = 1 ∧ j = 1) → ¬ (x = 0 ∧ (j = 4 ∨ j = 5)) → N x j = M1 x j := fun x j y y2 => by rw [← hN, am_up_el (by omega), am_up_el (by omega), am_up_el (by omega)]
    have n4 : N 0 4 = s := by rw [← hN, am_up_el (by omega), am_up_at]
    have n5 : N 0 5 = u := by rw [← hN, am_up_at]
    have n11 : N 1 1 = 0 := by rw [← hN, am_up_el (by omega), am_up_el (by omega), am_up_at]
    have loop : ∀ (m i : Nat), i + m = 4 → ∀ M2 : am_M, (∀ x j, ¬ (38 ≤ x ∧ x ≤ 45) → M2 x j = N x j) → (∀ a : Int, 0 ≤ a → a < i → M2 (37 + 1 + 2 * a) 1 = a ∧ M2 (37 + 1 + 2 * a) 2 = -1 ∧ ∀ j : Int, 0 ≤ j → j < 6 → M2 (37 + 1 + 2 * a + 1) j = tFe T (6 * a + j)) → am_g 11 0 co_X11_dream (d + 45) (am_c0 sh_T f) 50 [(2, 0), (0, 70 - (l : Int)), (3, 0), (0, (i : Int))] [] sh_T M2 := by
      intro m
      induction m with
      | zero =>
        intro i hi M2 g1 g2
        have g : ∀ x j, ¬ (38 ≤ x ∧ x ≤ 45) → ¬ (x = 46 ∧ j = 2) → ¬ (x = 0 ∧ j = 13) → am_up (am_up M2 46 2 0) 0 13 (-1) x j = N x j := fun x j y1 y2 y3 => by rw [am_up_el (by omega), am_up_el (by omega)]; exact g1 x j y1
        obtain ⟨⟨t1, t1'⟩, t2, t3, t4, ⟨t5, t6, t7⟩, t8⟩ := m7
        refine bk_X11_dream_50 ⟨fun _ => en_X0_forget (bk_X0_forget_0 (am_cv_i (am_c0_i (h2 p en T l hx hT _ (fun x j y1 y2 y3 y4 y5 y6 => ?_) ?_ ?_ ?_ ?_ ?_ ⟨⟨fun k k0 k1 => ?_, fun k k0 k1 i j i1 j1 => ?_⟩, fun a x y => ?_, fun j x y => ?_, fun g' x y => ?_, ⟨?_, ?_, ?_⟩, fun k k0 k1 => ?_⟩ ⟨?_, m5, fun i hi => ?_⟩ (fun a a0 a1 => ?_) ?_ am_up_at)))), fun y => by omega⟩
        · rw [g x j y5 y6 (by omega), fN x j (by omega) (by omega), m1 x j (by omega) y3]; exact hB x j (by omega) y2 y3
        · rw [g _ _ (by omega) (by omega) (by omega)]; exact n11
        · rw [g _ _ (by omega) (by omega) (by omega), fN _ _ (by omega) (by omega)]; exact m2
        · rw [g _ _ (by omega) (by omega) (by omega), fN _ _ (by omega) (by omega)]; exact m3
        · rw [g _ _ (by omega) (by omega) (by omega)]; exact n4
        · rw [g _ _ (by omega) (by omega) (by omega)]; exact n5
        · rw [g _ _ (by omega) (by omega) (by omega), fN _ _ (by omega) (by omega)]; exact t1 k k0 k1
        · rw [g _ _ (by omega) (by omega) (by omega), fN _ _ (by omega) (by omega)]; exact t1' k k0 k1 i j i1 j1
        · rw [g _ _ (by omega) (by omega) (by omega), fN _ _ (by omega) (by omega)]; exact t2 a x y
        · rw [g _ _ (by omega) (by omega) (by omega), fN _ _ (by omega) (by omega)]; exact t3 j x y
        · rw [g _ _ (by omega) (by omega) (by omega), fN _ _ (by omega) (by omega)]; exact t4 g' x y
        · rw [g _ _ (by omega) (by omega) (by omega), fN _ _ (by omega) (by omega)]; exact t5
        · rw [g _ _ (by omega) (by omega) (by omega), fN _ _ (by omega) (by omega)]; exact t6
        · rw [g _ _ (by omega) (by omega) (by omega), fN _ _ (by omega) (by omega)]; exact t7
        · rw [g _ _ (by omega) (by omega) (by omega), fN _ _ (by omega) (by omega), g _ _ (by omega) (by omega) (by omega), fN _ _ (by omega) (by omega)]; exact t8 k k0 k1
        · rw [g _ _ (by omega) (by omega) (by omega), fN _ _ (by omega) (by omega)]; exact m4
        · rw [show s + 7 = s + 6 + 1 by omega, g _ _ (by omega) (by omega) (by omega), fN _ _ (by omega) (by omega)]; exact m6 i hi
        · have e : ∀ x j, 38 ≤ x → x ≤ 45 → am_up (am_up M2 46 2 0) 0 13 (-1) x j = M2 x j := fun x j y1 y2 => by rw [am_up_el (by omega), am_up_el (by omega)]
          obtain ⟨w1, w2, w3⟩ := g2 a a0 (by omega)
          refine ⟨?_, ?_, fun j j0 j1 => ?_⟩
          · rw [e _ _ (by omega) (by omega)]; exact w1
          · rw [e _ _ (by omega) (by omega)]; exact w2
          · rw [e _ _ (by omega) (by omega)]; exact w3 j j0 j1
        · rw [am_up_el (by omega), am_up_at]
      | succ m ih =>
        intro i hi M2 g1 g2
        have e4 : M2 0 4 = s := (g1 0 4 (by omega)).trans n4
        refine bk_X11_dream_50 ⟨fun y => by omega, fun _ => ⟨⟨by omega, by omega⟩, ?_, ?_⟩⟩
        · rw [e4]; exact dr_ob hs
        · rw [e4]
          refine st_lay hs (sl_row_37 (by omega) (by omega)) ⟨by omega, by omega⟩ (fun M3 f3 v1 v2 v3 => ⟨⟨by omega, by omega⟩, ih (i + 1) (by omega) M3 (fun x j y => ?_) (fun a a0 a1 => ?_)⟩)
          · rw [f3 x j (by omega) (by omega)]; exact g1 x j y
          · by_cases z : a = (i : Int)
            · rw [z]
              refine ⟨v1, v2, fun j j0 j1 => ?_⟩
              rw [v3 j j0 j1, g1 (s + 4) _ (by omega), fN _ _ (by omega) (by omega)]
              exact m7.2.2.1 _ (by omega) (by omega)
            · obtain ⟨w1, w2, w3⟩ := g2 a a0 (by omega)
              refine ⟨?_, ?_, fun j j0 j1 => ?_⟩
              · rw [f3 _ _ (by omega) (by omega)]; exact w1
              · rw [f3 _ _ (by omega) (by omega)]; exact w2
              · rw [f3 _ _ (by omega) (by omega)]; exact w3 j j0 j1
    exact loop 4 0 rfl N (fun x j _ => rfl) (fun a a0 a1 => by omega)
