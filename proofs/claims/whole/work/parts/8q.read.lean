/-! THE CLASS READS A DREAM'S TEXT -/
/-- reading goes on -/
def pl_ (t : Int → Int) (e p : Int) {α : Type} (x : pr_ α) : Prop := ∀ p1 en1 a, x = .ok (p1, en1, a) → p ≤ p1 ∧ p1 ≤ e ∧ rd_at t e p1 = p1
theorem pl_b {t : Int → Int} {e p : Int} {α β : Type} {x : pr_ α} {f : Int → Int → α → pr_ β} (h : pl_ t e p x) (hf : ∀ p1 en1 a, p ≤ p1 → p1 ≤ e → rd_at t e p1 = p1 → pl_ t e p1 (f p1 en1 a)) : pl_ t e p (pr_b x f) := fun p2 en2 b hb => by
  obtain ⟨p1, en1, a, h1, h2⟩ := pr_b_io hb
  obtain ⟨a1, a2, a3⟩ := h p1 en1 a h1
  obtain ⟨b1, b2, b3⟩ := hf p1 en1 a a1 a2 a3 p2 en2 b h2
  exact ⟨by omega, b2, b3⟩
theorem pl_ok {t : Int → Int} {e p en : Int} {α : Type} {a : α} (h : p ≤ e) (h2 : rd_at t e p = p) : pl_ t e p (.ok (p, en, a) : pr_ α) := fun p1 en1 b hb => by cases hb; exact ⟨Int.le_refl _, h, h2⟩
theorem pl_er {t : Int → Int} {e p : Int} {α : Type} {q : Int × Int} : pl_ t e p (.error q : pr_ α) := fun p1 en1 b hb => by cases hb
theorem pl_num {t : Int → Int} {e g p en : Int} (h0 : 0 ≤ p) (h : p ≤ e) : pl_ t e p (pr_num t e g p en) := fun p1 en1 v hb => by
  have := pr_num_g (t := t) (g := g) (en := en) h0 h
  rw [hb] at this
  obtain ⟨h1, h2, h3, -⟩ := this
  exact ⟨by omega, h2, h3⟩
theorem pl_name {t : Int → Int} {e p en : Int} (h : p ≤ e) : pl_ t e p (pr_name t e p en) := fun p1 en1 v hb => by
  obtain ⟨-, -, h1, -⟩ := pr_name_o hb
  have h2 := rd_wd_le (t := t) (en := en) h
  have h3 := rd_at_le (t := t) h2.2
  rw [h1]
  exact ⟨by omega, h3.2, rd_at_at⟩
theorem pl_wrd {t : Int → Int} {e p en : Int} {w : List Int} {α : Type} {a : α} (h : p ≤ e) : pl_ t e p (pr_wrd t e w a p en) := fun p1 en1 v hb => by
  obtain ⟨-, -, h1, -⟩ := pr_wrd_o hb
  have h2 := rd_wd_le (t := t) (en := en) h
  have h3 := rd_at_le (t := t) h2.2
  rw [h1]
  exact ⟨by omega, h3.2, rd_at_at⟩
theorem pl_new {t : Int → Int} {e p en : Int} {T : tt_} (h : p ≤ e) : pl_ t e p (pz_new t e T p en) := fun p1 en1 v hb => pl_name h p1 en1 v (pz_new_o hb).1
theorem pl_known {t : Int → Int} {e k p en : Int} {T : tt_} (h : p ≤ e) : pl_ t e p (pz_known t e T k p en) := fun p1 en1 v hb => by
  obtain ⟨-, -, n, h1, -⟩ := pz_known_o hb
  exact pl_name h p1 en1 n h1
theorem pl_do {t : Int → Int} {e c p en : Int} {T : tt_} (h0 : 0 ≤ p) (h : p ≤ e) (h2 : rd_at t e p = p) : pl_ t e p (pz_do t e T c p en) := by
  unfold pz_do
  split
  · exact pl_b (pl_new h) (fun p1 en1 a a1 a2 a3 => pl_ok a2 a3)
  split
  · exact pl_b (pl_new h) (fun p1 en1 a a1 a2 a3 => pl_b (pl_wrd a2) (fun p2 en2 b b1 b2 b3 => pl_b (pl_num (by omega) b2) (fun p3 en3 d d1 d2 d3 => pl_ok d2 d3)))
  split
  · exact pl_b (pl_known h) (fun p1 en1 a a1 a2 a3 => pl_b (pl_known a2) (fun p2 en2 b b1 b2 b3 => pl_b (pl_num (by omega) b2) (fun p3 en3 d d1 d2 d3 => pl_ok d2 d3)))
  split
  · exact pl_b (pl_new h) (fun p1 en1 a a1 a2 a3 => pl_b (pl_wrd a2) (fun p2 en2 b b1 b2 b3 => pl_b (pl_known b2) (fun p3 en3 d d1 d2 d3 => pl_ok d2 d3)))
  split
  · refine pl_b (fun p1 en1 v hb => ?_) (fun p1 en1 a a1 a2 a3 => pl_ok a2 a3)
    obtain ⟨g1, g2, g3, -⟩ := pz_g_o (pz_sum_g (pz_part_g 6) p en h0 h h2) hb
    exact ⟨by omega, g2, g3⟩
  · exact pl_b (pl_num h0 h) (fun p1 en1 a a1 a2 a3 => pl_ok a2 a3)
theorem pr_wc_to {t : Int → Int} {e en p : Int} : 0 ≤ pr_wc t e en p to_ ∧ pr_wc t e en p to_ ≤ 10 := by
  rcases ix_wc (t := t) (e := e) (en := en) (p := p) to_ 0 with ⟨-, h⟩ | ⟨i, h1, -, h3⟩
  · rw [h]; decide
  · have h1 : i < 10 := h1
    rw [h3, to_i i h1]; omega
theorem pz_st_ok {t : Int → Int} {e p en p1 en1 : Int} {T T1 : tt_} (hT : tk_ T) (h0 : 0 ≤ p) (h : p ≤ e) (hl : ((tC T).length : Int) ≤ p) (hs : pz_st t e T p en = .ok (p1, en1, T1)) : tk_ T1 ∧ ((tC T1).length : Int) ≤ p1 ∧ p ≤ p1 ∧ p1 ≤ e ∧ rd_at t e p1 = p1 := by
  unfold pz_st at hs
  have hw := pr_wc_to (t := t) (e := e) (en := en) (p := p)
  split at hs
  · cases hs
  · rename_i c1
    split at hs
    · cases hs
    · rename_i c2
      have h2 := rd_wd_le (t := t) (en := en) h
      have h3 := rd_at_le (t := t) h2.2
      have g := pl_do (by omega) h3.2 rd_at_at p1 en1 T1 hs
      rcases pz_do_ok hT ⟨by omega, hw.2⟩ c2 (by omega) h3.2 rd_at_at hs with ⟨k1, k2⟩ | ⟨k1, k2⟩
      · exact ⟨k1, by omega, by omega, g.2⟩
      · exact ⟨k1, by rw [k2]; omega, by omega, g.2⟩
/-- what reading gives, for the class -/
def cr_ (M0 : am_M) (c : Int) (f : Int → am_M → Prop) (x : pr_ (tt_ × Nat)) : Prop := match x with
  | .error (k, z) => ∀ M', xz_ M0 M' c k z → f (-1) M'
  | .ok (p1, en1, (T1, l)) => tk_ T1 → ∀ M', xs_ M0 M' c p1 en1 T1 ((tN T1 1).length : Int) ((tN T1 2).length : Int) → f (70 - (l : Int)) M'
theorem cr_b {α : Type} {M0 : am_M} {c : Int} {f : Int → am_M → Prop} {x : pr_ α} {g : Int → Int → α → pr_ (tt_ × Nat)} (h : cr_ M0 c f (pr_b x g)) : (∀ k z, x = .error (k, z) → ∀ M', xz_ M0 M' c k z → f (-1) M') ∧ ∀ p1 en1 a, x = .ok (p1, en1, a) → cr_ M0 c f (g p1 en1 a) := by
  match x, h with
  | .error (k, z), h => exact ⟨fun k' z' hx => (by cases hx; exact h), fun p1 en1 a hx => (by cases hx)⟩
  | .ok (p1, en1, a), h => exact ⟨fun k' z' hx => (by cases hx), fun p1' en1' a' hx => (by cases hx; exact h)⟩
theorem pr_b_b {α β γ : Type} {x : pr_ α} {f : Int → Int → α → pr_ β} {g : Int → Int → β → pr_ γ} : pr_b (pr_b x f) g = pr_b x (fun p en a => pr_b (f p en a) g) := by
  match x with
  | .error q => rfl
  | .ok (p, en, a) => rfl
theorem ch_mk {M0 : am_M} {c : Int} {f : am_M → Prop} {x : pr_ tt_} (h1 : ∀ k z, x = .error (k, z) → ∀ M', xz_ M0 M' c k z → f M') (h2 : ∀ p1 en1 T1, x = .ok (p1, en1, T1) → ∀ M', xs_ M0 M' c p1 en1 T1 ((tN T1 1).length : Int) ((tN T1 2).length : Int) → f M') : ch_ M0 c f x := by
  match x, h1, h2 with
  | .error (k, z), h1, _ => exact h1 k z rfl
  | .ok (p1, en1, a), _, h2 => exact h2 p1 en1 a rfl
theorem ct_all {d : Nat} {f : Int → am_M → Prop} {M0 : am_M} {c : Int} (hq : xq_ M0 c) : ∀ (m : Nat) (M : am_M) (p en : Int) (T : tt_), m ≤ 70 → tk_ T → ((tC T).length : Int) ≤ p → xs_ M0 M c p en T ((tN T 1).length : Int) ((tN T 2).length : Int) → cr_ M0 c f (pz_all (M0 2) (M0 1 1) m p en T) → am_g 3 0 co_X3_read (d + 44) (am_c0 sh_T f) 25 [(2, 4), (2, c), (0, 70 - (m : Int))] [] sh_T M := by
  -- behind a fault
  have bad : ∀ (n : Int) (M : am_M) (k z : Int), xz_ M0 M c k z → f (-1) M → am_g 3 0 co_X3_read (d + 44) (am_c0 sh_T f) 25 [(2, 4), (2, c), (0, n)] [] sh_T M := fun n M k z m hf => bk_X3_read_25 ⟨fun _ => cf_failed m.2 ⟨fun y => absurd y (by decide), fun _ => am_c0_i hf⟩, fun _ => cf_failed m.2 ⟨fun _ => cf_failed m.2 ⟨fun y => absurd y (by decide), fun _ => am_c0_i hf⟩, fun y => absurd y (by decide)⟩⟩
  have hc := hq.1
  have step : ∀ (m : Nat) (M : am_M) (p en : Int) (T : tt_), m ≤ 70 → xs_ M0 M c p en T ((tN T 1).length : Int) ((tN T 2).length : Int) → (rc (M0 2) (M0 1 1) p = -1 → ∀ M', xs_ M0 M' c p en T ((tN T 1).length : Int) ((tN T 2).length : Int) → f (70 - (m : Int)) M') → (¬ rc (M0 2) (M0 1 1) p = -1 → ∀ M', xs_ M0 M' c p en T ((tN T 1).length : Int) ((tN T 2).length : Int) → (¬ 70 - (m : Int) = 70 → am_cal pg (d + 44) 38 [(2, 4), (2, c)] sh_T M' (am_cv sh_T fun M13 => am_cal pg (d + 44) 101 [(2, 1), (0, 59)] sh_T M13 (am_cv sh_T fun M14 => am_r ((70 - (m : Int)) + 1) ∧ am_g 3 0 co_X3_read (d + 44) (am_c0 sh_T f) 25 [(2, 4), (2, c), (0, (70 - (m : Int)) + 1)] [] sh_T M14))) ∧ (70 - (m : Int) = 70 → am_cal pg (d + 44) 97 [(2, 1), (0, 5)] sh_T M' (am_cv sh_T fun M16 => am_r ((70 - (m : Int)) + 1) ∧ am_g 3 0 co_X3_read (d + 44) (am_c0 sh_T f) 25 [(2, 4), (2, c), (0, (70 - (m : Int)) + 1)] [] sh_T M16))) → am_g 3 0 co_X3_read (d + 44) (am_c0 sh_T f) 25 [(2, 4), (2, c), (0, 70 - (m : Int))] [] sh_T M := fun m M p en T hm h h1 h2 => by
    obtain ⟨et, ee⟩ := xs_t hc h.1
    refine bk_X3_read_25 ⟨fun y => by omega, fun _ => ct_failed h.2.1 ⟨fun y => absurd rfl y, fun _ => ct_look (xq_fr hq h.1).2.1 h.2.1 (fun M1 m1 hp1 => ?_)⟩⟩
    rw [et, ee]
    have s1 := xs_cs hc h m1
    exact ⟨fun y => ct_failed s1.2.1 ⟨fun _ => am_c0_i (h1 y M1 s1), fun y => absurd rfl y⟩, fun y => h2 y M1 s1⟩
  intro m
  induction m with
  | zero =>
    intro M p en T hm hT hl h hk
    have hk : cr_ M0 c f (if rc (M0 2) (M0 1 1) p = -1 then .ok (p, en, (T, 0)) else .error (5, p)) := hk
    refine step 0 M p en T hm h (fun y M' s => ?_) (fun y M' s => ⟨fun z => absurd (by omega) z, fun _ => ct_blame (xq_fr hq s.1).2.1 s.2.1 (by decide) (fun M2 m2 => ⟨⟨by omega, by omega⟩, ?_⟩)⟩)
    · rw [if_pos y] at hk
      exact hk hT M' s
    · rw [if_neg y] at hk
      exact bad _ M2 5 p (xz_cf s.1 m2) (hk M2 (xz_cf s.1 m2))
  | succ m ih =>
    intro M p en T hm hT hl h hk
    have hk : cr_ M0 c f (if rc (M0 2) (M0 1 1) p = -1 then .ok (p, en, (T, m + 1)) else pr_b (pz_stmt (M0 2) (M0 1 1) T p en) (fun p1 en1 T1 => pz_all (M0 2) (M0 1 1) m p1 en1 T1)) := hk
    refine step (m + 1) M p en T hm h (fun y M' s => ?_) (fun y M' s => ⟨fun _ => ?_, fun z => by omega⟩)
    · rw [if_pos y] at hk
      exact hk hT M' s
    · rw [if_neg y, pz_stmt_st, pr_b_b] at hk
      obtain ⟨e1, k1⟩ := cr_b hk
      have hin := cs_in (xq_fr hq h.1).2.1 h.2.1
      obtain ⟨et, ee⟩ := xs_t hc h.1
      rw [ee] at hin
      refine ct_statement hq hT hl s (ch_mk (fun k z hx M2 m2 => cf_demand (by decide) (xq_fr hq m2.1).2.1 m2.2 (fun M3 m3 => ⟨⟨by omega, by omega⟩, bad _ M3 k z (xz_cf m2.1 m3) (e1 k z hx M3 (xz_cf m2.1 m3))⟩)) (fun p1 en1 T1 hx M2 m2 => ?_))
      obtain ⟨t1, t2, t3, t4, t5⟩ := pz_st_ok hT hin.1 hin.2.1 hl hx
      have hk2 := k1 p1 en1 T1 hx
      obtain ⟨e2, k2⟩ := cr_b hk2
      obtain ⟨et2, ee2⟩ := xs_t hc m2.1
      refine ct_demand (by decide) (xq_fr hq m2.1).2.1 m2.2.1 (fun y2 M3 m3 => ⟨⟨by omega, by omega⟩, ?_⟩) (fun y2 M3 m3 => ⟨⟨by omega, by omega⟩, bad _ M3 1 p1 (xz_cf m2.1 m3) (e2 1 p1 ?_ M3 (xz_cf m2.1 m3))⟩)
      · rw [et2, ee2] at y2 m3
        have hlt := (rc_lt y2 (by decide)).1
        have hra := rd_at_le (t := M0 2) (e := M0 1 1) (i := p1 + 1) (by omega)
        have r := ih M3 _ _ T1 (by omega) t1 (by omega) (xs_cs hc m2 m3) (k2 _ _ T1 (if_pos y2))
        rw [show (70 - ((m + 1 : Nat) : Int)) + 1 = 70 - (m : Int) by omega]
        exact r
      · rw [et2, ee2] at y2
        exact if_neg y2
/-- the dream is cleared -/
theorem st_clear {d : Nat} {M : am_M} {f : am_M → Prop} {c : Int} (hc : dr_is c) (h : ∀ M', (∀ x j, ¬ (c ≤ x ∧ x ≤ c + 12) → M' x j = M x j) → td_ M' c t0_ 0 0 → M' (c + 6) 1 = 0 → f M') : am_cal pg (d + 2) 13 [(2, c)] sh_T M (am_cv sh_T f) := by
  obtain ⟨⟨ob, ob6⟩, -, ⟨b1, b2⟩, -, ⟨e1, e2⟩, -, ⟨-, f2⟩, ⟨-, g2⟩⟩ := dr_sh_of hc
  have l3 : ∀ (m i : Nat), i + m = 3 → ∀ M1 : am_M, (∀ x j, ¬ (c ≤ x ∧ x ≤ c + 12) → M1 x j = M x j) → (∀ k : Int, 0 ≤ k → k < 3 → M1 (c + 2) k = 0) → (∀ k : Int, 0 ≤ k → k < 24 → M1 (c + 4) k = 0) → (∀ k : Int, 0 ≤ k → k < i → M1 (c + 11) k = 0 ∧ M1 (c + 12) k = 0) → am_g 2 9 co_X2_clear (d + 1) (am_cv sh_T f) 50 [(2, c), (0, (i : Int))] [] sh_T M1 := by
    intro m
    induction m with
    | zero =>
      intro i hi M1 h1 h2 h3 h4
      refine bk_X2_clear_50 ⟨fun _ => ⟨ob, ob6, en_X6_clear (bk_X6_clear_0 ⟨ob6, am_cv_i (am_cv_i (h _ (fun x j hx => ?_) ⟨⟨fun k k0 k1 => ?_, fun k k0 k1 i j i1 => ?_⟩, fun a a0 a1 => by omega, fun j j0 j1 => ?_, fun a a0 a1 => by omega, ⟨?_, ?_, ?_⟩, fun k k0 k1 => Or.inl ⟨rfl, ?_, ?_⟩⟩ am_up_at))⟩)⟩, fun y => by omega⟩
      · rw [am_up_el (by omega), am_up_el (by omega), am_up_el (by omega), am_up_el (by omega)]; exact h1 x j hx
      · rw [am_up_el (by omega), am_up_el (by omega), am_up_el (by omega), am_up_el (by omega), h2 k k0 k1]
        rcases (show k = 0 ∨ k = 1 ∨ k = 2 by omega) with rfl | rfl | rfl <;> rfl
      · rcases (show k = 0 ∨ k = 1 ∨ k = 2 by omega) with rfl | rfl | rfl <;> exact absurd i1 (Nat.not_lt_zero _)
      · rw [am_up_el (by omega), am_up_el (by omega), am_up_el (by omega), am_up_el (by omega)]; exact h3 j j0 j1
      · rw [am_up_el (by omega), am_up_el (by omega), am_up_el (by omega), am_up_at]; rfl
      · rw [am_up_el (by omega), am_up_el (by omega), am_up_at]; rfl
      · rw [am_up_el (by omega), am_up_at]; rfl
      · rw [am_up_el (by omega), am_up_el (by omega), am_up_el (by omega), am_up_el (by omega)]; exact (h4 k k0 (by omega)).1
      · rw [am_up_el (by omega), am_up_el (by omega), am_up_el (by omega), am_up_el (by omega)]; exact (h4 k k0 (by omega)).2
    | succ m ih =>
      intro i hi M1 h1 h2 h3 h4
      refine bk_X2_clear_50 ⟨fun y => by omega, fun _ => ⟨ob, (f2 i (by omega) (by omega)).2, (g2 i (by omega) (by omega)).2, ⟨by omega, by omega⟩, ih (i + 1) (by omega) _ (fun x j hx => ?_) (fun k k0 k1 => ?_) (fun k k0 k1 => ?_) (fun k k0 k1 => ?_)⟩⟩
      · rw [am_up_el (by omega), am_up_el (by omega)]; exact h1 x j hx
      · rw [am_up_el (by omega), am_up_el (by omega)]; exact h2 k k0 k1
      · rw [am_up_el (by omega), am_up_el (by omega)]; exact h3 k k0 k1
      · by_cases y : k = (i : Int)
        · rw [y]; exact ⟨by rw [am_up_el (by omega), am_up_at], am_up_at⟩
        · rw [am_up_el (by omega), am_up_el (by omega), am_up_el (by omega), am_up_el (by omega)]; exact h4 k k0 (by omega)
  have l2 : ∀ (m i : Nat), i + m = 24 → ∀ M1 : am_M, (∀ x j, ¬ (c ≤ x ∧ x ≤ c + 12) → M1 x j = M x j) → (∀ k : Int, 0 ≤ k → k < 3 → M1 (c + 2) k = 0) → (∀ k : Int, 0 ≤ k → k < i → M1 (c + 4) k = 0) → am_g 2 9 co_X2_clear (d + 1) (am_cv sh_T f) 26 [(2, c), (0, (i : Int))] [] sh_T M1 := by
    intro m
    induction m with
    | zero =>
      intro i hi M1 h1 h2 h3
      have hi : i = 24 := by omega
      subst hi
      exact bk_X2_clear_26 ⟨ob, 24, e1, fun _ => l3 3 0 rfl M1 h1 h2 h3 (fun k k0 k1 => by omega), fun y => by omega⟩
    | succ m ih =>
      intro i hi M1 h1 h2 h3
      refine bk_X2_clear_26 ⟨ob, 24, e1, fun y => by omega, fun _ => ⟨(e2 i (by omega) (by omega)).2, ⟨by omega, by omega⟩, ih (i + 1) (by omega) _ (fun x j hx => ?_) (fun k k0 k1 => ?_) (fun k k0 k1 => ?_)⟩⟩
      · rw [am_up_el (by omega)]; exact h1 x j hx
      · rw [am_up_el (by omega)]; exact h2 k k0 k1
      · by_cases y : k = (i : Int)
        · rw [y, am_up_at]
        · rw [am_up_el (by omega)]; exact h3 k k0 (by omega)
  have l1 : ∀ (m i : Nat), i + m = 3 → ∀ M1 : am_M, (∀ x j, ¬ (c ≤ x ∧ x ≤ c + 12) → M1 x j = M x j) → (∀ k : Int, 0 ≤ k → k < i → M1 (c + 2) k = 0) → am_g 2 9 co_X2_clear (d + 1) (am_cv sh_T f) 2 [(2, c), (0, (i : Int))] [] sh_T M1 := by
    intro m
    induction m with
    | zero =>
      intro i hi M1 h1 h2
      have hi : i = 3 := by omega
      subst hi
      exact bk_X2_clear_2 ⟨ob, 3, b1, fun _ => l2 24 0 rfl M1 h1 h2 (fun k k0 k1 => by omega), fun y => by omega⟩
    | succ m ih =>
      intro i hi M1 h1 h2
      refine bk_X2_clear_2 ⟨ob, 3, b1, fun y => by omega, fun _ => ⟨(b2 i (by omega) (by omega)).2, ⟨by omega, by omega⟩, ih (i + 1) (by omega) _ (fun x j hx => ?_) (fun k k0 k1 => ?_)⟩⟩
      · rw [am_up_el (by omega)]; exact h1 x j hx
      · by_cases y : k = (i : Int)
        · rw [y, am_up_at]
        · rw [am_up_el (by omega)]; exact h2 k k0 (by omega)
  exact en_X2_clear (bk_X2_clear_0 (l1 3 0 rfl M (fun x j _ => rfl) (fun k k0 k1 => by omega)))
/-- what a reading of a dream may write -/
def xr_ (c : Int) (M M' : am_M) : Prop := ∀ x j, ¬ (x = 1 ∧ 2 ≤ j ∧ j ≤ 7) → ¬ (x = 3 ∧ (j = 1 ∨ j = 2)) → ¬ (c ≤ x ∧ x ≤ c + 12) → M' x j = M x j
/-- the rows that a reading stands on -/
def xw_ (M : am_M) : Prop := ro_ M ∧ (∀ i : Nat, i < 8 → M 2000001 i = cv ((ts_ false).getD i ([], 0)).2 ∧ M 2000002 i = qv ((ts_ true).getD i ([], 0)).2) ∧ ∀ j, am_r (M 2000003 j)
theorem rk_of {c : Int} (hc : dr_is c) : rk_is (c + 6) := by
  rcases hc with rfl | rfl
  · exact rk_17
  · exact rk_30
theorem ct_read {d : Nat} {M : am_M} {f : Int → am_M → Prop} {c : Int} (hc : dr_is c) (h0 : 0 ≤ M 1 1 ∧ M 1 1 ≤ 1600) (hw : xw_ M) (h : ∀ B, xr_ c M B → cr_ B c f (pz_all (M 2) (M 1 1) 70 (rd_at (M 2) (M 1 1) 0) (-1) t0_)) : am_cal pg (d + 45) 37 [(2, 4), (2, c)] sh_T M (am_c0 sh_T f) := by
  have hcc := hc
  unfold dr_is at hcc
  refine en_X3_read (bk_X3_read_0 ⟨(dr_sh_of hc).1.1, st_clear hc (fun M2 f2 t2 s2 => en_X8_write (bk_X8_write_0 ⟨Or.inl rfl, am_cv_i (en_X9_start (bk_X9_start_0 (am_cv_i ?_)))⟩))⟩)
  generalize hB : am_up (am_up (am_up (am_up (am_up (am_up M2 3 1 (c + 6)) 3 2 0) 1 2 0) 1 3 0) 1 4 (-1)) 1 5 (-1) = B
  have fB : ∀ x j, ¬ (x = 1 ∧ 2 ≤ j ∧ j ≤ 5) → ¬ (x = 3 ∧ (j = 1 ∨ j = 2)) → B x j = M2 x j := fun x j x1 x2 => by
    rw [← hB, am_up_el (by omega), am_up_el (by omega), am_up_el (by omega), am_up_el (by omega), am_up_el (by omega), am_up_el (by omega)]
  have b12 : B 1 2 = 0 := by rw [← hB, am_up_el (by omega), am_up_el (by omega), am_up_el (by omega), am_up_at]
  have b13 : B 1 3 = 0 := by rw [← hB, am_up_el (by omega), am_up_el (by omega), am_up_at]
  have b14 : B 1 4 = -1 := by rw [← hB, am_up_el (by omega), am_up_at]
  have b15 : B 1 5 = -1 := by rw [← hB, am_up_at]
  have b31 : B 3 1 = c + 6 := by rw [← hB, am_up_el (by omega), am_up_el (by omega), am_up_el (by omega), am_up_el (by omega), am_up_el (by omega), am_up_at]
  have b32 : B 3 2 = 0 := by rw [← hB, am_up_el (by omega), am_up_el (by omega), am_up_el (by omega), am_up_el (by omega), am_up_at]
  have b2 : B 2 = M 2 := funext fun j => by rw [fB 2 j (by omega) (by omega), f2 2 j (by omega)]
  have b11 : B 1 1 = M 1 1 := by rw [fB 1 1 (by omega) (by omega), f2 1 1 (by omega)]
  have hr : xr_ c M B := fun x j x1 x2 x3 => by rw [fB x j (by omega) (by omega), f2 x j x3]
  have hq : xq_ B c := ⟨hc, ⟨rk_of hc, by omega, ⟨b31, by rw [b32]; rfl⟩, fun i hi => by
    rw [hr 2000001 i (by omega) (by omega) (by omega), hr 2000002 i (by omega) (by omega) (by omega)]
    exact hw.2.1 i hi⟩, fun k k0 k1 => by rw [hr 2000000 k (by omega) (by omega) (by omega)]; exact hw.1 k k0 k1⟩
  have s : xs_ B B c (rd_at (M 2) (M 1 1) 0) (-1) t0_ 0 0 := by
    refine ⟨fun _ _ _ _ => rfl, ⟨fun _ _ _ _ _ => rfl, ⟨by rw [b11]; exact h0.1, by rw [b11]; exact h0.2, by rw [b12]; exact Int.le_refl _, by rw [b12, b11]; exact h0.1⟩, ⟨?_, b15, b13, b14⟩, ?_, by decide, fun i hi => absurd hi (Nat.not_lt_zero i)⟩, ?_⟩
    · show rd_at (B 2) (B 1 1) (B 1 2) = _
      rw [b2, b11, b12]
    · rw [fB (c + 6) 1 (by omega) (by omega), s2]; rfl
    · obtain ⟨⟨q3, q3'⟩, q4, q5, q6, ⟨q7, q8, q9⟩, q10⟩ := t2
      refine ⟨⟨fun k k0 k1 => ?_, fun k k0 k1 i j i1 j1 => ?_⟩, fun a x y => ?_, fun j x y => ?_, fun g x y => ?_, ⟨?_, ?_, ?_⟩, fun k k0 k1 => ?_⟩
      · rw [fB _ _ (by omega) (by omega)]; exact q3 k k0 k1
      · rw [fB _ _ (by omega) (by omega)]; exact q3' k k0 k1 i j i1 j1
      · omega
      · rw [fB _ _ (by omega) (by omega)]; exact q5 j x y
      · omega
      · rw [fB _ _ (by omega) (by omega)]; exact q7
      · rw [fB _ _ (by omega) (by omega)]; exact q8
      · rw [fB _ _ (by omega) (by omega)]; exact q9
      · rw [fB _ _ (by omega) (by omega), fB _ _ (by omega) (by omega)]; exact q10 k k0 k1
  have hk := h B hr
  rw [← b2, ← b11] at hk s
  have hra := rd_at_le (t := B 2) (e := B 1 1) (i := 0) (by rw [b11]; exact h0.1)
  have r := ct_all (d := d) (f := f) hq 70 B _ (-1) t0_ (by decide) tk_t0 (by show ((0 : Nat) : Int) ≤ _; omega) s hk
  exact r
