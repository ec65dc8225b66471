/-! THE REFERENCE READS STATEMENTS, each kind -/
section YU
variable {M0 M : am_M} {p en n : Int} {T : tt_}
def ci_ (M0 : am_M) (n : Int) (f : am_M → Prop) (x : pr_ tt_) : Prop := match x with
  | .error (k, z) => ∀ M', yz_ M0 M' k z n → f M'
  | .ok (p1, en1, T1) => ∀ M', ys_ M0 M' p1 en1 T1 n → f M'
theorem ci_b {α : Type} {f : am_M → Prop} {x : pr_ α} {g : Int → Int → α → pr_ tt_} (h : ci_ M0 n f (pr_b x g)) : (∀ k z, x = .error (k, z) → ∀ M', yz_ M0 M' k z n → f M') ∧ ∀ p1 en1 a, x = .ok (p1, en1, a) → ci_ M0 n f (g p1 en1 a) := by
  match x, h with
  | .error (k, z), h => exact ⟨fun k' z' hx => (by cases hx; exact h), fun p1 en1 a hx => (by cases hx)⟩
  | .ok (p1, en1, a), h => exact ⟨fun k' z' hx => (by cases hx), fun p1' en1' a' hx => (by cases hx; exact h)⟩
theorem ci_mk {f : am_M → Prop} {x : pr_ tt_} (h1 : ∀ k z, x = .error (k, z) → ∀ M', yz_ M0 M' k z n → f M') (h2 : ∀ p1 en1 T1, x = .ok (p1, en1, T1) → ∀ M', ys_ M0 M' p1 en1 T1 n → f M') : ci_ M0 n f x := by
  match x, h1, h2 with
  | .error (k, z), h1, _ => exact h1 k z rfl
  | .ok (p1, en1, a), _, h2 => exact h2 p1 en1 a rfl
theorem ci_cv {f : am_M → Prop} {x : pr_ tt_} (h : ci_ M0 n f x) : ci_ M0 n (fun M => am_cv sh_T f (none, sh_T, M)) x := by
  match x, h with
  | .error (k, z), h => exact fun M' m => am_cv_i (h M' m)
  | .ok (p1, en1, a), h => exact fun M' m => am_cv_i (h M' m)
theorem ys_full {d : Nat} {f : Int → am_M → Prop} {k C z : Int} (hk : 0 ≤ k ∧ k < 3) (h : ys_ M0 M p en T n) (h1 : ((tN T k).length : Int) = C → ∀ M', yz_ M0 M' 5 z n → f 1 M') (h0 : ¬ ((tN T k).length : Int) = C → f 0 M) : am_cal pg (d + 2) 184 [(2, 152), (0, k), (0, C), (0, z)] sh_T M (am_c0 sh_T f) := by
  have e := h.2.2.1.1 k hk.1 hk.2
  refine en_X12_isFull (bk_X12_isFull_0 ⟨fun y => absurd h.2.1.2.2.2.2.1 y, fun _ => ⟨⟨by omega, by omega⟩, fun y => am_c0_i (h0 (by rw [← e]; exact y)), fun y => sp_fail ?_⟩⟩)
  have rb := rx_bl h.2.1 (k := 5) (z := z) (by decide)
  exact ⟨fun y2 => absurd y2 (ru_b rb), fun _ => am_c0_i (h1 (by rw [← e]; exact y) _ (yz_ru h.1 h.2.2.2.2 rb))⟩
theorem ys_asks {d : Nat} {f : am_M → Prop} {a : Int} {w : List Int} {α : Type} {b : α} (hw : rw_all M0) (hx : (a, w) ∈ rws) (h : ys_ M0 M p en T n) (h1 : ∀ k z, pr_wrd (M0 153) (M0 152 3) w b p en = .error (k, z) → ∀ M', yz_ M0 M' k z n → tr_ M' T → f M') (h2 : ∀ p1 en1, pr_wrd (M0 153) (M0 152 3) w b p en = .ok (p1, en1, b) → ∀ M', ys_ M0 M' p1 en1 T n → f M') : am_cal pg (d + 4) 178 [(2, 152), (2, a)] sh_T M (am_cv sh_T f) := by
  obtain ⟨e1, e2⟩ := yf_t h.1
  have hwM := rw_yf hw h.1
  rw [← e1, ← e2] at h1 h2
  unfold pr_wrd at h1 h2
  exact rt_asks hwM hx h.2.1 (fun y M1 m1 t1 => h2 _ _ (if_pos y) M1 (ys_tf h m1 t1)) (fun y M1 m1 => h1 1 p (if_neg y) M1 (yz_ru h.1 h.2.2.2.2 m1) (tr_rp m1.1 h.2.2.1))
theorem ys_num {d : Nat} {f : Int → am_M → Prop} {g : Int} (hg : 0 ≤ g) (h : ys_ M0 M p en T n) (h1 : ∀ k z, pr_num (M0 153) (M0 152 3) g p en = .error (k, z) → ∀ x M', yz_ M0 M' k z n → f x M') (h2 : ∀ p1 en1 v, pr_num (M0 153) (M0 152 3) g p en = .ok (p1, en1, v) → ∀ M', ys_ M0 M' p1 en1 T n → f v M') : am_cal pg (d + 3) 181 [(2, 152), (0, 0), (0, g)] sh_T M (am_c0 sh_T f) := by
  obtain ⟨e1, e2⟩ := yf_t h.1
  rw [← e1, ← e2] at h1 h2
  exact rt_num hg h.2.1 (fun k z hx x M1 _ _ m1 t1 => h1 k z hx x M1 (yz_ru h.1 h.2.2.2.2 m1)) (fun p1 en1 v hx M1 m1 t1 => h2 p1 en1 v hx M1 (ys_tf h m1 t1))
theorem yz_num {d : Nat} {f : Int → am_M → Prop} {g k z : Int} (h : yz_ M0 M k z n) (hf : f 0 M) : am_cal pg (d + 1) 181 [(2, 152), (0, 0), (0, g)] sh_T M (am_c0 sh_T f) := ru_number h.2.1 hf
/-- cells of the dream's are put down -/
theorem ys_put {M1 : am_M} {T1 : tt_} (h : ys_ M0 M p en T n) (h1 : ∀ x j, ¬ (174 ≤ x ∧ x ≤ 181) → M1 x j = M x j) (h2 : ∀ x j, ¬ yc_ x j → M1 x j = M x j) (ht : tr_ M1 T1) (hC : tC T1 = tC T) : ys_ M0 M1 p en T1 n := by
  obtain ⟨g1, ⟨-, r2, r3, r4, r5⟩, g3, ⟨g4, g5, g6⟩, g7⟩ := h
  have e152 : ∀ j, M1 152 j = M 152 j := fun j => h1 152 j (by omega)
  refine ⟨yf_tr g1 h2, ⟨rp_rf, ⟨?_, ?_, ?_⟩, ?_, ?_, ?_⟩, ht, ⟨?_, ?_, fun i hi => ?_⟩, ?_⟩
  · rw [e152]; exact r2.1
  · rw [e152]; exact r2.2.1
  · rw [e152, e152]; exact r2.2.2
  · show rd_at (M1 153) (M1 152 3) (M1 152 2) = p
    rw [e152, e152, show M1 153 = M 153 from funext fun j => h1 153 j (by omega)]; exact r3
  · rw [e152]; exact r4
  · rw [e152, e152]; exact r5
  · rw [e152, hC]; exact g4
  · rw [hC]; exact g5
  · rw [hC] at hi ⊢
    rw [h1 182 i (by omega)]; exact g6 i hi
  · rw [e152]; exact g7
theorem tr_nm {M1 : am_M} {k : Int} {x : List Int} (hk : 0 ≤ k ∧ k < 3) (hT : tkn_ T) (hroom : (tN T k).length < 6) (h : tr_ M T) (h1 : ∀ k' : Int, 0 ≤ k' → k' < 3 → M1 174 k' = if k' = k then ((tN T k).length : Int) + 1 else M 174 k') (h2 : ∀ j, M1 175 j = if j = 6 * k + ((tN T k).length : Int) then nv_ x 0 else M 175 j) : (∀ k' : Int, 0 ≤ k' → k' < 3 → M1 174 k' = ((tN (aN T k x) k').length : Int)) ∧ (∀ k' : Int, 0 ≤ k' → k' < 3 → ∀ i : Nat, i < (tN (aN T k x) k').length → M1 175 (6 * k' + i) = nv_ ((tN (aN T k x) k').getD i []) 0) := by
  refine ⟨fun k' k0 k1 => ?_, fun k' k0 k1 i hi => ?_⟩
  · rw [h1 k' k0 k1, tN_aN hk ⟨k0, k1⟩]
    by_cases z : k' = k
    · rw [if_pos z, if_pos z, z, List.length_append, List.length_singleton]; omega
    · rw [if_neg z, if_neg z]; exact h.1 k' k0 k1
  · rw [tN_aN hk ⟨k0, k1⟩] at hi ⊢
    rw [h2]
    have hl := (tn_len hT ⟨k0, k1⟩).1
    by_cases z : k' = k
    · rw [if_pos z] at hi ⊢
      subst z
      rw [List.length_append, List.length_singleton] at hi
      by_cases y : i = (tN T k').length
      · rw [y, gn_r, if_pos rfl]
      · have y2 : i < (tN T k').length := by omega
        rw [gn_l y2, if_neg (by omega)]
        exact h.2.1 k' k0 k1 i y2
    · rw [if_neg z] at hi ⊢
      rw [if_neg (by omega)]
      exact h.2.1 k' k0 k1 i hi
theorem rt_dread {d : Nat} {f : am_M → Prop} {c p0 : Int} (hw : rw_all M0) (hT : tkn_ T) (h : ys_ M0 M p en T n) (hfull : (tN T 0).length = 6 → ∀ M', yz_ M0 M' 5 p0 n → f M') (hf : ¬ (tN T 0).length = 6 → ci_ M0 n f (pz_do (M0 153) (M0 152 3) T 1 p en)) : am_cal pg (d + 6) 188 [(2, 152), (0, p0)] sh_T M (am_cv sh_T f) := by
  refine en_X12_dreadTold (bk_X12_dreadTold_0 (ys_full (by decide) h (fun y M1 m1 => ⟨fun z => absurd z (by decide), fun _ => am_cv_i (hfull (by omega) M1 m1)⟩) (fun y => ⟨fun _ => ?_, fun z => absurd rfl z⟩)))
  have y2 : ¬ (tN T 0).length = 6 := by omega
  have hf : ci_ M0 n f (pr_b (pz_new (M0 153) (M0 152 3) T p en) (fun p1 en1 n => .ok (p1, en1, aN T 0 n))) := hf y2
  obtain ⟨e1, k1⟩ := ci_b hf
  refine rt_new hw hT h (fun e z hx x M1 m1 _ => ⟨fun y => absurd y (ru_b m1.2.1), fun _ => am_cv_i (e1 e z hx M1 m1)⟩) (fun p1 en1 x hx M1 m1 => ⟨fun _ => ?_, fun y => absurd m1.2.1.2.2.2.2.1 y⟩)
  have hl := (tn_len hT (k := 0) (by decide)).1
  have ec := m1.2.2.1.1 0 (by decide) (by decide)
  have ht := m1.2.2.1
  rw [ec]
  refine ⟨⟨by omega, by omega⟩, ⟨by omega, by omega⟩, am_cv_i (k1 p1 en1 x hx _ (ys_put m1 (fun x j y => ?_) (fun x j y => ?_) ?_ rfl))⟩
  · rw [am_up_el (by omega), am_up_el (by omega)]
  · unfold yc_ at y; rw [am_up_el (by omega), am_up_el (by omega)]
  · obtain ⟨a1, a2, a3, a4, a5, ⟨a6, a7, a8⟩, a9⟩ := ht
    have nm := tr_nm (M1 := am_up (am_up M1 175 ((tN T 0).length : Int) (nv_ x 0)) 174 0 (((tN T 0).length : Int) + 1)) (k := 0) (x := x) (by decide) hT (by omega) m1.2.2.1
    obtain ⟨q1, q2⟩ := nm (fun k' k0 k1 => by
      by_cases y : k' = 0
      · rw [if_pos y, y, am_up_at]
      · rw [if_neg y, am_up_el (by omega), am_up_el (by omega)]) (fun j => by
      rw [am_up_el (by omega), show 6 * (0 : Int) + ((tN T 0).length : Int) = ((tN T 0).length : Int) by omega]
      by_cases y : j = ((tN T 0).length : Int)
      · rw [if_pos y, y, am_up_at]
      · rw [if_neg y, am_up_el (by omega)])
    · refine ⟨q1, q2, fun a x y => ?_, fun j x y => ?_, fun g x y => ?_, ⟨?_, ?_, ?_⟩, fun k k0 k1 => ?_⟩
      · rw [am_up_el (by omega), am_up_el (by omega)]; exact a3 a x y
      · rw [am_up_el (by omega), am_up_el (by omega)]; exact a4 j x y
      · rw [am_up_el (by omega), am_up_el (by omega)]; exact a5 g x y
      · rw [am_up_el (by omega), am_up_el (by omega)]; exact a6
      · rw [am_up_el (by omega), am_up_el (by omega)]; exact a7
      · rw [am_up_el (by omega), am_up_el (by omega)]; exact a8
      · rw [am_up_el (by omega), am_up_el (by omega), am_up_el (by omega), am_up_el (by omega)]; exact a9 k k0 k1
theorem rt_dreamer {d : Nat} {f : am_M → Prop} {p0 : Int} (hw : rw_all M0) (hT : tkn_ T) (h : ys_ M0 M p en T n) (hfull : (tN T 1).length = 4 → ∀ M', yz_ M0 M' 5 p0 n → f M') (hf : ¬ (tN T 1).length = 4 → ci_ M0 n f (pz_do (M0 153) (M0 152 3) T 2 p en)) : am_cal pg (d + 6) 189 [(2, 152), (0, p0)] sh_T M (am_cv sh_T f) := by
  refine en_X12_dreamerTold (bk_X12_dreamerTold_0 (ys_full (by decide) h (fun y M1 m1 => ⟨fun z => absurd z (by decide), fun _ => am_cv_i (hfull (by omega) M1 m1)⟩) (fun y => ⟨fun _ => ?_, fun z => absurd rfl z⟩)))
  have y2 : ¬ (tN T 1).length = 4 := by omega
  have hf : ci_ M0 n f (pr_b (pz_new (M0 153) (M0 152 3) T p en) (fun p1 en1 n => pr_b (pr_wrd (M0 153) (M0 152 3) w_brave n p1 en1) (fun p2 en2 n => pr_b (pr_num (M0 153) (M0 152 3) 9 p2 en2) (fun p3 en3 v => .ok (p3, en3, aN (aB T (tN T 1).length v) 1 n))))) := hf y2
  obtain ⟨e1, k1⟩ := ci_b hf
  refine rt_new hw hT h (fun e z hx x M1 m1 _ => sp_asks_bad (ru_b m1.2.1) (yz_num m1 ⟨fun y => absurd y (ru_b m1.2.1), fun _ => am_cv_i (e1 e z hx M1 m1)⟩)) (fun p1 en1 x hx M1 m1 => ?_)
  obtain ⟨e2, k2⟩ := ci_b (k1 p1 en1 x hx)
  refine ys_asks (b := x) hw (show ((157 : Int), w_brave) ∈ rws by decide +kernel) m1 (fun e z hx2 M2 m2 _ => yz_num m2 ⟨fun y => absurd y (ru_b m2.2.1), fun _ => am_cv_i (e2 e z hx2 M2 m2)⟩) (fun p2 en2 hx2 M2 m2 => ?_)
  obtain ⟨e3, k3⟩ := ci_b (k2 p2 en2 x hx2)
  refine ys_num (by decide) m2 (fun e z hx3 v M3 m3 => ⟨fun y => absurd y (ru_b m3.2.1), fun _ => am_cv_i (e3 e z hx3 M3 m3)⟩) (fun p3 en3 v hx3 M3 m3 => ⟨fun _ => ?_, fun y => absurd m3.2.1.2.2.2.2.1 y⟩)
  have hl := hT.2.2.1
  have ec := m3.2.2.1.1 1 (by decide) (by decide)
  have ht := m3.2.2.1
  rw [ec]
  refine ⟨⟨by omega, by omega⟩, ⟨by omega, by omega⟩, ⟨by omega, by omega⟩, ⟨by omega, by omega⟩, am_cv_i (k3 p3 en3 v hx3 _ (ys_put m3 (fun x j y => ?_) (fun x j y => ?_) ?_ rfl))⟩
  · rw [am_up_el (by omega), am_up_el (by omega), am_up_el (by omega)]
  · unfold yc_ at y; rw [am_up_el (by omega), am_up_el (by omega), am_up_el (by omega)]
  · obtain ⟨a1, a2, a3, a4, a5, ⟨a6, a7, a8⟩, a9⟩ := ht
    have nm := tr_nm (T := aB T (tN T 1).length v) (M1 := am_up (am_up (am_up M3 175 (6 + ((tN T 1).length : Int)) (nv_ x 0)) 176 ((tN T 1).length : Int) v) 174 1 (((tN T 1).length : Int) + 1)) (M := am_up M3 176 ((tN T 1).length : Int) v) (k := 1) (x := x) (by decide) hT (by show (tN T 1).length < 6; omega) ⟨fun k k0 k1 => (am_up_el (by omega)).trans (a1 k k0 k1), fun k k0 k1 i i1 => (am_up_el (by omega)).trans (a2 k k0 k1 i i1), fun a x y => by
        show _ = if a = ((tN T 1).length : Int) then v else tBr T a
        have y : a < ((tN T 1).length : Int) := y
        rw [if_neg (by omega), am_up_el (by omega)]; exact a3 a x y, fun j x y => (am_up_el (by omega)).trans (a4 j x y), fun g x y => (am_up_el (by omega)).trans (a5 g x y), ⟨(am_up_el (by omega)).trans a6, (am_up_el (by omega)).trans a7, (am_up_el (by omega)).trans a8⟩, fun k k0 k1 => by rw [am_up_el (by omega), am_up_el (by omega)]; exact a9 k k0 k1⟩ 
    obtain ⟨q1, q2⟩ := nm (fun k' k0 k1 => by
      by_cases y : k' = 1
      · rw [if_pos y, y, am_up_at]; rfl
      · rw [if_neg y, am_up_el (by omega), am_up_el (by omega), am_up_el (by omega), am_up_el (by omega)]) (fun j => by
      show _ = if j = 6 * 1 + ((tN T 1).length : Int) then nv_ x 0 else _
      rw [am_up_el (by omega), am_up_el (by omega), show 6 * (1 : Int) + ((tN T 1).length : Int) = 6 + ((tN T 1).length : Int) by omega]
      by_cases y : j = 6 + ((tN T 1).length : Int)
      · rw [if_pos y, y, am_up_at]
      · rw [if_neg y, am_up_el (by omega), am_up_el (by omega)])
    · refine ⟨q1, q2, fun a x' y => ?_, fun j x y => ?_, fun g x y => ?_, ⟨?_, ?_, ?_⟩, fun k k0 k1 => ?_⟩
      · rw [show ((tN (aN (aB T (tN T 1).length v) 1 x) 1).length : Int) = ((tN T 1).length : Int) + 1 from len_aN (T := aB T (tN T 1).length v) (by decide)] at y
        show _ = if a = ((tN T 1).length : Int) then v else tBr T a
        by_cases w : a = ((tN T 1).length : Int)
        · rw [if_pos w, w, am_up_el (by omega), am_up_at]
        · rw [if_neg w, am_up_el (by omega), am_up_el (by omega), am_up_el (by omega)]; exact a3 a x' (by omega)
      · rw [am_up_el (by omega), am_up_el (by omega), am_up_el (by omega)]; exact a4 j x y
      · rw [am_up_el (by omega), am_up_el (by omega), am_up_el (by omega)]; exact a5 g x y
      · rw [am_up_el (by omega), am_up_el (by omega), am_up_el (by omega)]; exact a6
      · rw [am_up_el (by omega), am_up_el (by omega), am_up_el (by omega)]; exact a7
      · rw [am_up_el (by omega), am_up_el (by omega), am_up_el (by omega)]; exact a8
      · rw [am_up_el (by omega), am_up_el (by omega), am_up_el (by omega), am_up_el (by omega), am_up_el (by omega), am_up_el (by omega)]; exact a9 k k0 k1
end YU
