/-! THE REFERENCE READS STATEMENTS, the other kinds, and one of them -/
section YV
variable {M0 M : am_M} {p en n : Int} {T : tt_}
theorem rt_fears {d : Nat} {f : am_M → Prop} (hw : rw_all M0) (hT : tkn_ T) (h : ys_ M0 M p en T n) (hf : ci_ M0 n f (pz_do (M0 153) (M0 152 3) T 3 p en)) : am_cal pg (d + 6) 190 [(2, 152)] sh_T M (am_cv sh_T f) := by
  have hf : ci_ M0 n f (pr_b (pz_known (M0 153) (M0 152 3) T 1 p en) (fun p1 en1 a => pr_b (pz_known (M0 153) (M0 152 3) T 0 p1 en1) (fun p2 en2 b => pr_b (pr_num (M0 153) (M0 152 3) 999 p2 en2) (fun p3 en3 v => .ok (p3, en3, aF T (6 * a + b) v))))) := hf
  obtain ⟨e1, k1⟩ := ci_b hf
  have hl := hT.2
  refine en_X12_fearsTold (bk_X12_fearsTold_0 (rt_one hw (by decide) hT h (fun e z hx M1 m1 t1 => yz_one (by decide) hT t1 m1 (yz_num m1 ⟨fun _ => am_cv_i (e1 e z hx M1 m1), fun y => absurd y (ru_b m1.2.1)⟩)) (fun p1 en1 a hx M1 m1 => ?_)))
  have ha := pz_known_o hx
  obtain ⟨e2, k2⟩ := ci_b (k1 p1 en1 a hx)
  refine rt_one hw (by decide) hT m1 (fun e z hx2 M2 m2 _ => yz_num m2 ⟨fun _ => am_cv_i (e2 e z hx2 M2 m2), fun y => absurd y (ru_b m2.2.1)⟩) (fun p2 en2 b hx2 M2 m2 => ?_)
  have hb := pz_known_o hx2
  obtain ⟨e3, k3⟩ := ci_b (k2 p2 en2 b hx2)
  refine ys_num (by decide) m2 (fun e z hx3 v M3 m3 => ⟨fun _ => am_cv_i (e3 e z hx3 M3 m3), fun y => absurd y (ru_b m3.2.1)⟩) (fun p3 en3 v hx3 M3 m3 => ⟨fun y => absurd m3.2.1.2.2.2.2.1 y, fun _ => ⟨⟨by omega, by omega⟩, ⟨by omega, by omega⟩, ⟨by omega, by omega⟩, am_cv_i (k3 p3 en3 v hx3 _ (ys_put m3 (fun x j y => am_up_el (by omega)) (fun x j y => ?_) ?_ rfl))⟩⟩)
  · unfold yc_ at y; rw [am_up_el (by omega)]
  · obtain ⟨a1, a2, a3, a4, a5, ⟨a6, a7, a8⟩, a9⟩ := m3.2.2.1
    refine ⟨fun k k0 k1 => (am_up_el (by omega)).trans (a1 k k0 k1), fun k k0 k1 i i1 => (am_up_el (by omega)).trans (a2 k k0 k1 i i1), fun a x y => (am_up_el (by omega)).trans (a3 a x y), fun j x y => ?_, fun g x y => (am_up_el (by omega)).trans (a5 g x y), ⟨(am_up_el (by omega)).trans a6, (am_up_el (by omega)).trans a7, (am_up_el (by omega)).trans a8⟩, fun k k0 k1 => ?_⟩
    · show _ = if j = 6 * a + b then v else tFe T j
      by_cases w : j = 6 * a + b
      · rw [if_pos w, w, am_up_at]
      · rw [if_neg w, am_up_el (by omega)]; exact a4 j x y
    · rw [am_up_el (by omega), am_up_el (by omega)]; exact a9 k k0 k1
theorem rt_guide {d : Nat} {f : am_M → Prop} {p0 : Int} (hw : rw_all M0) (hT : tkn_ T) (h : ys_ M0 M p en T n) (hfull : (tN T 2).length = 4 → ∀ M', yz_ M0 M' 5 p0 n → f M') (hf : ¬ (tN T 2).length = 4 → ci_ M0 n f (pz_do (M0 153) (M0 152 3) T 4 p en)) : am_cal pg (d + 6) 191 [(2, 152), (0, p0)] sh_T M (am_cv sh_T f) := by
  refine en_X12_guideTold (bk_X12_guideTold_0 (ys_full (by decide) h (fun y M1 m1 => ⟨fun z => absurd z (by decide), fun _ => am_cv_i (hfull (by omega) M1 m1)⟩) (fun y => ⟨fun _ => ?_, fun z => absurd rfl z⟩)))
  have y2 : ¬ (tN T 2).length = 4 := by omega
  have hf : ci_ M0 n f (pr_b (pz_new (M0 153) (M0 152 3) T p en) (fun p1 en1 n => pr_b (pr_wrd (M0 153) (M0 152 3) w_of n p1 en1) (fun p2 en2 n => pr_b (pz_known (M0 153) (M0 152 3) T 0 p2 en2) (fun p3 en3 b => .ok (p3, en3, aN (aG T (tN T 2).length b) 2 n))))) := hf y2
  obtain ⟨e1, k1⟩ := ci_b hf
  refine rt_new hw hT h (fun e z hx x M1 m1 t1 => sp_asks_bad (ru_b m1.2.1) (yz_one (by decide) hT t1 m1 ⟨fun y => absurd y (ru_b m1.2.1), fun _ => am_cv_i (e1 e z hx M1 m1)⟩)) (fun p1 en1 x hx M1 m1 => ?_)
  obtain ⟨e2, k2⟩ := ci_b (k1 p1 en1 x hx)
  refine ys_asks (b := x) hw (show ((160 : Int), w_of) ∈ rws by decide +kernel) m1 (fun e z hx2 M2 m2 t2 => yz_one (by decide) hT t2 m2 ⟨fun y => absurd y (ru_b m2.2.1), fun _ => am_cv_i (e2 e z hx2 M2 m2)⟩) (fun p2 en2 hx2 M2 m2 => ?_)
  obtain ⟨e3, k3⟩ := ci_b (k2 p2 en2 x hx2)
  refine rt_one hw (by decide) hT m2 (fun e z hx3 M3 m3 _ => ⟨fun y => absurd y (ru_b m3.2.1), fun _ => am_cv_i (e3 e z hx3 M3 m3)⟩) (fun p3 en3 v hx3 M3 m3 => ⟨fun _ => ?_, fun y => absurd m3.2.1.2.2.2.2.1 y⟩)
  have hl := hT.2.2.2
  have ec := m3.2.2.1.1 2 (by decide) (by decide)
  have ht := m3.2.2.1
  rw [ec]
  refine ⟨⟨by omega, by omega⟩, ⟨by omega, by omega⟩, ⟨by omega, by omega⟩, ⟨by omega, by omega⟩, am_cv_i (k3 p3 en3 v hx3 _ (ys_put m3 (fun x j y => ?_) (fun x j y => ?_) ?_ rfl))⟩
  · rw [am_up_el (by omega), am_up_el (by omega), am_up_el (by omega)]
  · unfold yc_ at y; rw [am_up_el (by omega), am_up_el (by omega), am_up_el (by omega)]
  · obtain ⟨a1, a2, a3, a4, a5, ⟨a6, a7, a8⟩, a9⟩ := ht
    have nm := tr_nm (T := aG T (tN T 2).length v) (M1 := am_up (am_up (am_up M3 175 (12 + ((tN T 2).length : Int)) (nv_ x 0)) 178 ((tN T 2).length : Int) v) 174 2 (((tN T 2).length : Int) + 1)) (M := am_up M3 178 ((tN T 2).length : Int) v) (k := 2) (x := x) (by decide) hT (by show (tN T 2).length < 6; omega) ⟨fun k k0 k1 => (am_up_el (by omega)).trans (a1 k k0 k1), fun k k0 k1 i i1 => (am_up_el (by omega)).trans (a2 k k0 k1 i i1), fun a x y => (am_up_el (by omega)).trans (a3 a x y), fun j x y => (am_up_el (by omega)).trans (a4 j x y), fun g x y => by
        show _ = if g = ((tN T 2).length : Int) then v else tGu T g
        have y : g < ((tN T 2).length : Int) := y
        rw [if_neg (by omega), am_up_el (by omega)]; exact a5 g x y, ⟨(am_up_el (by omega)).trans a6, (am_up_el (by omega)).trans a7, (am_up_el (by omega)).trans a8⟩, fun k k0 k1 => by rw [am_up_el (by omega), am_up_el (by omega)]; exact a9 k k0 k1⟩
    obtain ⟨q1, q2⟩ := nm (fun k' k0 k1 => by
      by_cases y : k' = 2
      · rw [if_pos y, y, am_up_at]; rfl
      · rw [if_neg y, am_up_el (by omega), am_up_el (by omega), am_up_el (by omega), am_up_el (by omega)]) (fun j => by
      show _ = if j = 6 * 2 + ((tN T 2).length : Int) then nv_ x 0 else _
      rw [am_up_el (by omega), am_up_el (by omega), show 6 * (2 : Int) + ((tN T 2).length : Int) = 12 + ((tN T 2).length : Int) by omega]
      by_cases y : j = 12 + ((tN T 2).length : Int)
      · rw [if_pos y, y, am_up_at]
      · rw [if_neg y, am_up_el (by omega), am_up_el (by omega)])
    refine ⟨q1, q2, fun a x y => ?_, fun j x y => ?_, fun g x' y => ?_, ⟨?_, ?_, ?_⟩, fun k k0 k1 => ?_⟩
    · rw [am_up_el (by omega), am_up_el (by omega), am_up_el (by omega)]; exact a3 a x y
    · rw [am_up_el (by omega), am_up_el (by omega), am_up_el (by omega)]; exact a4 j x y
    · rw [show ((tN (aN (aG T (tN T 2).length v) 2 x) 2).length : Int) = ((tN T 2).length : Int) + 1 from len_aN (T := aG T (tN T 2).length v) (by decide)] at y
      show _ = if g = ((tN T 2).length : Int) then v else tGu T g
      by_cases w : g = ((tN T 2).length : Int)
      · rw [if_pos w, w, am_up_el (by omega), am_up_at]
      · rw [if_neg w, am_up_el (by omega), am_up_el (by omega), am_up_el (by omega)]; exact a5 g x' (by omega)
    · rw [am_up_el (by omega), am_up_el (by omega), am_up_el (by omega)]; exact a6
    · rw [am_up_el (by omega), am_up_el (by omega), am_up_el (by omega)]; exact a7
    · rw [am_up_el (by omega), am_up_el (by omega), am_up_el (by omega)]; exact a8
    · rw [am_up_el (by omega), am_up_el (by omega), am_up_el (by omega), am_up_el (by omega), am_up_el (by omega), am_up_el (by omega)]; exact a9 k k0 k1
theorem rt_sumof {d : Nat} {f : am_M → Prop} {k p0 : Int} (hw : rw_all M0) (hk : 0 ≤ k ∧ k < 3) (hlen : ((tC T).length : Int) < p) (h : ys_ M0 M p en T n) (hfull : ¬ tS T k = none → ∀ M', yz_ M0 M' 5 p0 n → f M') (hf : tS T k = none → ci_ M0 n f (pz_do (M0 153) (M0 152 3) T (k + 5) p en)) : am_cal pg (d + 9) 192 [(2, 152), (0, k), (0, p0)] sh_T M (am_cv sh_T f) := by
  have hdo : pz_do (M0 153) (M0 152 3) T (k + 5) p en = pr_b (pz_sum (M0 153) (M0 152 3) (pz_part false (M0 153) (M0 152 3) 6) p en) (fun p1 en1 ds => .ok (p1, en1, aS T k ds)) := by
    rcases (show k = 0 ∨ k = 1 ∨ k = 2 by omega) with rfl | rfl | rfl <;> rfl
  rw [hdo] at hf
  have hwM := rw_yf hw h.1
  obtain ⟨e1, e2⟩ := yf_t h.1
  obtain ⟨g1, ⟨-, r2, r3, r4, r5⟩, ⟨a1, a2, a3, a4, a5, ⟨a6, a7, a8⟩, a9⟩, ⟨g4, g5, g6⟩, g7⟩ := h
  have h : ys_ M0 M p en T n := ⟨g1, ⟨rp_rf, r2, r3, r4, r5⟩, ⟨a1, a2, a3, a4, a5, ⟨a6, a7, a8⟩, a9⟩, ⟨g4, g5, g6⟩, g7⟩
  refine en_X12_sumIsTold (bk_X12_sumIsTold_0 ⟨fun y => absurd r5.1 y, fun _ => ⟨⟨by omega, by omega⟩, fun y => ?_, fun y => sp_fail ?_⟩⟩)
  · have hn : tS T k = none := by
      rcases a9 k hk.1 hk.2 with ⟨q, -⟩ | ⟨f', g, q1, q2, q3⟩
      · exact q
      · omega
    obtain ⟨e3, k3⟩ := ci_b (hf hn)
    generalize hB : am_up (am_up (am_up (am_up M 180 k (M 152 40)) 152 42 0) 152 43 0) 152 44 0 = B
    have fB : ∀ x j, ¬ (x = 180 ∧ j = k) → ¬ (x = 152 ∧ 42 ≤ j ∧ j ≤ 44) → B x j = M x j := fun x j x1 x2 => by
      rw [← hB, am_up_el (by omega), am_up_el (by omega), am_up_el (by omega), am_up_el (by omega)]
    have b180 : B 180 k = M 152 40 := by rw [← hB, am_up_el (by omega), am_up_el (by omega), am_up_el (by omega), am_up_at]
    have b42 : B 152 42 = 0 := by rw [← hB, am_up_el (by omega), am_up_el (by omega), am_up_at]
    have b43 : B 152 43 = 0 := by rw [← hB, am_up_el (by omega), am_up_at]
    have b44 : B 152 44 = 0 := by rw [← hB, am_up_at]
    have bt : B 153 = M 153 := funext fun j => fB 153 j (by omega) (by omega)
    have yB : yf_ M B := fun x j y => by unfold yc_ at y; exact fB x j (by omega) (by omega)
    have hwB := rw_yf hwM yB
    have rB : rx_ B B p en := by
      refine ⟨rp_rf, ⟨?_, ?_, ?_⟩, ?_, ?_, ?_⟩
      · rw [fB 152 3 (by omega) (by omega)]; exact r2.1
      · rw [fB 152 2 (by omega) (by omega)]; exact r2.2.1
      · rw [fB 152 2 (by omega) (by omega), fB 152 3 (by omega) (by omega)]; exact r2.2.2
      · show rd_at (B 153) (B 152 3) (B 152 2) = p
        rw [bt, fB 152 2 (by omega) (by omega), fB 152 3 (by omega) (by omega)]; exact r3
      · rw [fB 152 4 (by omega) (by omega)]; exact r4
      · rw [fB 152 5 (by omega) (by omega), fB 152 6 (by omega) (by omega)]; exact r5
    have sB : wsk B (tC T) [] 6 0 := by
      refine ⟨⟨?_, fun i hi => ?_⟩, ⟨b42, fun i hi => absurd hi (Nat.not_lt_zero i)⟩, ⟨by rw [b43]; rfl, by decide⟩, b44, by simpa using g5⟩
      · rw [fB 152 40 (by omega) (by omega)]; exact g4
      · rw [fB 182 i (by omega) (by omega)]; exact g6 i hi
    rw [← e1, ← e2, ← bt, show M 152 3 = B 152 3 from (fB 152 3 (by omega) (by omega)).symm] at e3 k3
    refine wssums (W0 := []) hwB (show True from trivial) rB sB (by simpa using hlen) (fun e z hx M1 m1 => ⟨⟨by omega, by omega⟩, am_cv_i (e3 e z hx _ ?_)⟩) (fun p1 en1 ds hx M1 m1 s1 => ⟨⟨by omega, by omega⟩, am_cv_i (k3 p1 en1 ds hx _ ?_)⟩)
    · have z1 := yz_ru (n := n) (yf_tr g1 yB) ((fB 152 38 (by omega) (by omega)).trans g7) m1
      obtain ⟨z2, ⟨-, ⟨z3, z4, z5⟩, z6, z7, z8⟩, z9⟩ := z1
      have e : ∀ j, am_up M1 181 k (M1 152 40) 152 j = M1 152 j := fun j => am_up_el (by omega)
      refine ⟨yf_tr z2 (fun x j y => by unfold yc_ at y; exact am_up_el (by omega)), ⟨rp_rf, ⟨?_, ?_, ?_⟩, ?_, ?_, z8⟩, ?_⟩
      · rw [e]; exact z3
      · rw [e]; exact z4
      · rw [e, e]; exact z5
      · rw [e]; exact z6
      · rw [e]; exact z7
      · rw [e]; exact z9
    · obtain ⟨⟨s2, s3⟩, -, -, -, s4⟩ := s1
      have e : ∀ x j, ¬ (x = 181 ∧ j = k) → am_up M1 181 k (M1 152 40) x j = M1 x j := fun x j y => am_up_el y
      have e174 : ∀ x j, 174 ≤ x → x ≤ 181 → M1 x j = B x j := fun x j y1 y2 => m1.1 x j (by omega) (by omega) (by omega) (by omega) (by omega)
      have m38 : M1 152 38 = n := ((m1.1 152 38 (by omega) (by omega) (by omega) (by omega) (by omega)).trans (fB 152 38 (by omega) (by omega))).trans g7
      refine ⟨yf_tr (yf_tr (yf_tr g1 yB) (yf_rp m1.1)) (fun x j y => by unfold yc_ at y; exact e x j (by omega)), ?_, ⟨fun k k0 k1 => ?_, fun k k0 k1 i i1 => ?_, fun a x y => ?_, fun j x y => ?_, fun g x y => ?_, ⟨?_, ?_, ?_⟩, fun w w0 w1 => ?_⟩, ⟨?_, ?_, fun i hi => ?_⟩, ?_⟩
      · obtain ⟨-, ⟨z3, z4, z5⟩, z6, z7, z8⟩ := m1
        refine ⟨rp_rf, ⟨?_, ?_, ?_⟩, ?_, ?_, ?_⟩
        · rw [e _ _ (by omega)]; exact z3
        · rw [e _ _ (by omega)]; exact z4
        · rw [e _ _ (by omega), e _ _ (by omega)]; exact z5
        · show rd_at (am_up M1 181 k (M1 152 40) 153) (am_up M1 181 k (M1 152 40) 152 3) (am_up M1 181 k (M1 152 40) 152 2) = p1
          rw [e _ _ (by omega), e _ _ (by omega), show am_up M1 181 k (M1 152 40) 153 = M1 153 from funext fun j => e _ _ (by omega)]; exact z6
        · rw [e _ _ (by omega)]; exact z7
        · rw [e _ _ (by omega), e _ _ (by omega)]; exact z8
      · rw [e _ _ (by omega), e174 _ _ (by omega) (by omega), fB _ _ (by omega) (by omega)]; exact a1 k k0 k1
      · rw [e _ _ (by omega), e174 _ _ (by omega) (by omega), fB _ _ (by omega) (by omega)]; exact a2 k k0 k1 i i1
      · rw [e _ _ (by omega), e174 _ _ (by omega) (by omega), fB _ _ (by omega) (by omega)]; exact a3 a x y
      · rw [e _ _ (by omega), e174 _ _ (by omega) (by omega), fB _ _ (by omega) (by omega)]; exact a4 j x y
      · rw [e _ _ (by omega), e174 _ _ (by omega) (by omega), fB _ _ (by omega) (by omega)]; exact a5 g x y
      · rw [e _ _ (by omega), e174 _ _ (by omega) (by omega), fB _ _ (by omega) (by omega)]; exact a6
      · rw [e _ _ (by omega), e174 _ _ (by omega) (by omega), fB _ _ (by omega) (by omega)]; exact a7
      · rw [e _ _ (by omega), e174 _ _ (by omega) (by omega), fB _ _ (by omega) (by omega)]; exact a8
      · show ((if w = k then some ((tC T).length, (tC T).length + ds.length) else tS T w) = none ∧ _) ∨ ∃ f g : Nat, (if w = k then some ((tC T).length, (tC T).length + ds.length) else tS T w) = some (f, g) ∧ _
        by_cases z : w = k
        · rw [if_pos z, z]
          refine Or.inr ⟨_, _, rfl, ?_, ?_⟩
          · rw [e _ _ (by omega), e174 _ _ (by omega) (by omega), b180]; exact g4
          · rw [am_up_at, s2, List.length_append]
        · rw [if_neg z, e _ _ (by omega), e _ _ (by omega), e174 _ _ (by omega) (by omega), e174 _ _ (by omega) (by omega), fB _ _ (by omega) (by omega), fB _ _ (by omega) (by omega)]
          exact a9 w w0 w1
      · rw [e _ _ (by omega)]; exact s2
      · show (tC T ++ ds).length ≤ 1600
        simpa using s4
      · rw [e _ _ (by omega)]; exact s3 i hi
      · rw [e _ _ (by omega)]; exact m38
  · have hn : ¬ tS T k = none := by
      rcases a9 k hk.1 hk.2 with ⟨q, q2⟩ | ⟨f', g, q1, q2, q3⟩
      · omega
      · rw [q1]; exact fun z => by cases z
    have rb := rx_bl h.2.1 (k := 5) (z := p0) (by decide)
    exact ⟨fun y2 => absurd y2 (ru_b rb), fun _ => am_cv_i (hfull hn _ (yz_ru h.1 h.2.2.2.2 rb))⟩
end YV
