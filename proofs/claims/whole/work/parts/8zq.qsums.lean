/-! THE REFERENCE'S SUMS OF A QUESTION once more, with how many codes stand there behind a fault -/
def qu_ (M0 M : am_M) (k z : Int) : Prop := ru_ M0 M k z ∧ 0 ≤ M 152 83 ∧ M 152 83 ≤ 1600
def qxF (M0 : am_M) (Q : am_Q) (v1 : Int) : Int → Int → Prop := fun k z => ∀ M, qu_ M0 M k z → Q (none, sh_T, am_up M 152 87 v1)
section XM
variable {M0 M : am_M} {W0 : List Int} {Q : am_Q} {d : Nat} {v1 p en : Int} {C W : List Int} {r : Nat}
theorem rt_asksSignE {d : Nat} {f : am_M → Prop} {c : Int} (hc : 0 ≤ c) (h : rx_ M0 M p en) (h1 : rc (M0 153) (M0 152 3) p = c → ∀ M', rx_ M0 M' (rd_at (M0 153) (M0 152 3) (p + 1)) en → tf_ M M' → f M') (h2 : ¬ rc (M0 153) (M0 152 3) p = c → ∀ M', ru_ M0 M' 1 p → tg_ M M' → f M') : am_cal pg (d + 3) 180 [(2, 152), (0, c)] sh_T M (am_cv sh_T f) := by
  obtain ⟨i1, i2, i3, i4, i5⟩ := rx_in h
  refine sp_asksSign h.2.1 h.2.2.2.2.1 (fun z => ?_) (fun z => ?_)
  · rw [i5] at z
    have hlt := (rc_lt z hc).1
    have fr : tf_ M (am_up M 152 2 (rf_p M + 1)) := fun x j y => am_up_el (by omega)
    have e2 : am_up M 152 2 (rf_p M + 1) 152 2 = p + 1 := by rw [am_up_at, show rf_p M = p from h.2.2.1]
    exact h1 z _ (rx_at h e2 ((am_up_el (by omega)).trans h.2.2.2.1) (by omega) fr) fr
  · rw [i5] at z
    obtain ⟨a, b, c⟩ := rx_p h
    have r := rx_bl a (k := 1) (z := p) (by decide)
    rw [show rf_p M = p from h.2.2.1] at r ⊢
    exact h2 z _ r (fun x j y => (rf_bl_el (by omega)).trans (am_up_el (by omega)))
theorem qu_of {k z : Int} (h : ru_ M0 M k z) {N : am_M} {V : List Int} {b : Int} (hs : qsk N C V r b) (e : M 152 83 = N 152 83) : qu_ M0 M k z := ⟨h, by rw [e, hs.1.1]; omega, by rw [e, hs.1.1]; have := hs.2.2.2.2; omega⟩
theorem qxfin {k z : Int} (hF : qxF M0 Q v1 k z) (h : qu_ M0 M k z) : qsG d Q v1 0 M :=
  bk_X12_qSums_15 ⟨fun _ => bk_X12_qSums_53 ⟨fun _ => hF M h, fun y => absurd y (ru_b h.1)⟩, fun y => absurd rfl y⟩
theorem qxfg {k z : Int} (hF : qxF M0 Q v1 k z) (h : qu_ M0 M k z) : qsKG d Q v1 (some (0, 0), sh_T, M) := am_c0_i ⟨fun _ => qxfin hF h, fun y => absurd rfl y⟩
theorem qxfq {k z : Int} (hF : qxF M0 Q v1 k z) (h : qu_ M0 M k z) : qsKP d Q v1 (none, sh_T, M) := am_cv_i ⟨fun _ => qxfin hF h, fun y => absurd y (ru_b h.1)⟩
theorem qxfp {k z x : Int} (hF : qxF M0 Q v1 k z) (h : qu_ M0 M k z) : am_g 12 9 co_X12_qPartTold d (qsKP d Q v1) 2 [(2, 152), (0, x), (3, 0), (3, 0), (3, 0), (3, 0)] [] sh_T M := by
  have e : am_g 12 9 co_X12_qPartTold d (qsKP d Q v1) 184 [(2, 152), (3, 0), (3, 0), (3, 0), (3, 0), (3, 0)] [] sh_T M := bk_X12_qPartTold_184 ⟨fun y => absurd y (ru_b h.1), fun _ => qxfq hF h⟩
  exact bk_X12_qPartTold_2 ⟨fun _ => e, fun _ => ⟨fun _ => e, fun y => absurd y (ru_b h.1)⟩⟩
theorem qxg118 (n1 : ¬ rc (M0 153) (M0 152 3) p = 42) (n2 : ¬ rc (M0 153) (M0 152 3) p = 47) (n3 : ¬ rc (M0 153) (M0 152 3) p = 43) (n4 : ¬ rc (M0 153) (M0 152 3) p = 45) (hx : rx_ M0 M p en) (hs : qsk M C (W ++ W0) r W0.length) {K : am_Q} (h1 : lm_ W = 21 ∨ lm_ W = 22 → ∀ M1, rx_ M0 M1 p en → qsk M1 C (W ++ W0) r W0.length → am_g 12 5 co_X12_qGoesOn (d + 6) K 326 [(2, 152), (3, 0)] [] sh_T M1) (h2 : lm_ W = -1 → ∀ M1, rx_ M0 M1 p en → qsk M1 C (W ++ W0) r W0.length → K (some (0, 0), sh_T, M1)) (h3 : ¬ (lm_ W = 21 ∨ lm_ W = 22) → ¬ lm_ W = -1 → ∀ M1, qu_ M0 M1 1 p → K (some (0, 0), sh_T, M1)) : am_g 12 5 co_X12_qGoesOn (d + 6) K 122 [(2, 152), (3, 0)] [] sh_T M := by
  refine bk_X12_qGoesOn_122 (rt_sign (by decide) hx (fun y => absurd y n1) (fun _ M2 h2' hp2 t2 => ⟨fun y => absurd rfl y, fun _ => rt_sign (by decide) h2' (fun y => absurd y n2) (fun _ M3 h3' hp3 t3 => ⟨fun _ => rt_sign (by decide) h3' (fun y => absurd y n3) (fun _ M4 h4' hp4 t4 => ⟨fun y => absurd rfl y, fun _ => rt_sign (by decide) h4' (fun y => absurd y n4) (fun _ M5 h5' hp5 t5 => ⟨fun _ => ?_, fun y => absurd rfl y⟩)⟩), fun y => absurd rfl y⟩)⟩))
  have k5 := qsk_tf t5 (qsk_tf t4 (qsk_tf t3 (qsk_tf t2 hs)))
  refine qslast k5 ⟨fun y => h1 (Or.inl y) M5 h5' k5, fun y => qslast k5 ⟨fun y2 => qslast k5 ⟨fun y3 => bk_X12_qGoesOn_386 (h2 y3 M5 h5' k5), fun y3 => ⟨fun y4 => absurd h5'.2.2.2.2.1 y4, fun _ => sp_fail (bk_X12_qGoesOn_386 (h3 (by omega) y3 _ ?_))⟩⟩, fun y2 => h1 (Or.inr y2) M5 h5' k5⟩⟩
  rw [hp5]
  exact qu_of (rx_bl h5' (by decide)) k5 (rf_bl_el (by omega))
theorem qxR7 {U : List Int} {m : Int} (hU : op_ U) (hm : m = 21 ∨ m = 22) (n1 : ¬ rc (M0 153) (M0 152 3) p = 42) (n2 : ¬ rc (M0 153) (M0 152 3) p = 47) (n3 : ¬ rc (M0 153) (M0 152 3) p = 43) (n4 : ¬ rc (M0 153) (M0 152 3) p = 45) (hA : rc (M0 153) (M0 152 3) p = 44 → qsA M0 W0 Q d v1 (rd_at (M0 153) (M0 152 3) (p + 1)) en (C ++ U) ((m + 2) :: W) r) (hF : ¬ rc (M0 153) (M0 152 3) p = 44 → qxF M0 Q v1 1 p) : qsB M0 W0 Q d v1 p en C (U ++ m :: W) r := by
  intro ho M hx hs hl
  obtain ⟨i1, i2, i3, i4, -⟩ := rx_in hx
  have ho1 : qso ((m + 2) :: W) := qso_c (by omega) (qso_tl (qso_ap ho))
  have eL : lm_ (U ++ m :: W) = m := by rw [lm_op U _ hU, lm_m (by omega)]
  rw [List.length_append, List.length_append, List.length_cons] at hl
  have g322 : ∀ M1, rx_ M0 M1 p en → qsk M1 C (U ++ m :: W ++ W0) r W0.length → am_g 12 5 co_X12_qGoesOn (d + 6) (qsKG (d + 6) Q v1) 326 [(2, 152), (3, 0)] [] sh_T M1 := fun M1 h1 k1 => by
    refine bk_X12_qGoesOn_326 (rt_asksSignE (by decide) h1 (fun y M2 h2 t2 => ⟨fun _ => ?_, fun y2 => absurd h2.2.2.2.2.1 y2⟩) (fun y M2 h2 t2 => ⟨fun y2 => absurd y2 (ru_b h2), fun _ => qxfg (hF y) (qu_of h2 k1 (t2 152 83 (by omega)))⟩))
    have hlt := (rc_lt y (by decide)).1
    have hr := rd_at_le (t := M0 153) (e := M0 152 3) (i := p + 1) (by omega)
    have k2 : qsk M2 C (U ++ m :: (W ++ W0)) r W0.length := by
      have := qsk_tf t2 k1
      rw [List.append_assoc] at this
      exact this
    refine en_X12_qDropsToBracket (qstoMark (by omega) U C _ hU k2 (fun M3 k3 f3 => ?_))
    obtain ⟨e1, e2⟩ := qshd k3
    obtain ⟨⟨a1, a2⟩, ⟨a3, a4⟩, ⟨a5, a6⟩, a7, a8⟩ := k3
    have a8' := a8
    rw [List.length_append, List.length_cons, List.length_append] at a8'
    rw [List.length_append] at e2
    rw [e1]
    obtain ⟨h3, hp3⟩ := qsx h2 f3
    have f4 : qsf M3 (am_up M3 212 (M3 152 85 - 1) (m + 2)) := fun x j y1 y2 y3 => am_up_el (by omega)
    have h4 := (qsx h3 f4).1
    have eo : on_ ((m + 2) :: (W ++ W0)) = on_ (m :: (W ++ W0)) := by
      show (if m + 2 = 12 ∨ 20 ≤ m + 2 then 1 else 0) + on_ (W ++ W0) = (if m = 12 ∨ 20 ≤ m then 1 else 0) + on_ (W ++ W0)
      rw [if_pos (by omega), if_pos (by omega)]
    refine ⟨⟨by omega, by omega⟩, ⟨by omega, by omega⟩, ⟨by omega, by omega⟩, am_c0_i ⟨fun y => absurd y (by decide), fun _ => bk_X12_qSums_15 ⟨fun y => absurd y (by decide), fun _ => ⟨fun y => absurd h4.2.2.2.2.1 y, fun _ => en_X12_qPartTold (bk_X12_qPartTold_0 (hA y ho1 _ h4 ⟨⟨?_, fun i hi => ?_⟩, ⟨?_, fun i hi => ?_⟩, ⟨?_, by show r + on_ ((m + 2) :: (W ++ W0)) ≤ 6; omega⟩, ?_, ?_⟩ ?_))⟩⟩⟩⟩
    · rw [am_up_el (by omega)]; exact a1
    · rw [am_up_el (by omega)]; exact a2 i hi
    · rw [am_up_el (by omega)]; exact a3
    · have hi : i < (m :: (W ++ W0)).length := hi
      have r4 := a4 i hi
      show am_up _ 212 _ _ 212 ((((m + 2) :: (W ++ W0)).length : Int) - 1 - i) = ((m + 2) :: (W ++ W0)).getD i 0
      rw [List.length_cons] at hi r4 a3 ⊢
      cases i with
      | zero =>
        rw [show ((((W ++ W0).length + 1 : Nat) : Int) - 1 - ((0 : Nat) : Int)) = M3 152 85 - 1 by omega, am_up_at]
        rfl
      | succ i =>
        rw [am_up_el (by omega)]
        exact r4
    · rw [am_up_el (by omega)]; exact a5
    · rw [am_up_el (by omega)]; exact a7
    · exact a8
    · show (((C ++ U).length + ((m + 2) :: (W ++ W0)).length : Nat) : Int) < _
      rw [List.length_append, List.length_cons, List.length_append]; omega
  have g118 : ∀ M1, rx_ M0 M1 p en → qsk M1 C (U ++ m :: W ++ W0) r W0.length → am_g 12 5 co_X12_qGoesOn (d + 6) (qsKG (d + 6) Q v1) 122 [(2, 152), (3, 0)] [] sh_T M1 := fun M1 h1 k1 =>
    qxg118 n1 n2 n3 n4 h1 k1 (fun _ M2 h2 k2 => g322 M2 h2 k2) (fun y => by rw [eL] at y; omega) (fun y => by rw [eL] at y; omega)
  refine bk_X12_qGoesOn_0 ⟨fun y => absurd hx.2.2.2.2.1 y, fun _ => rt_look hx (fun M1 h1 hp1 t1 => ⟨fun _ => g118 M1 h1 (qsk_tf t1 hs), fun _ => ?_⟩)⟩
  have k1 := qsk_tf t1 hs
  refine qslast k1 ⟨fun y => by rw [eL] at y; omega, fun _ => qslast k1 ⟨fun y => by rw [eL] at y; omega, fun _ => qslast k1 ⟨fun _ => g118 M1 h1 k1, fun y => by rw [eL] at y; omega⟩⟩⟩
theorem qxR8 {U : List Int} {m : Int} (hU : op_ U) (hm : m = 20 ∨ m = 23 ∨ m = 24) (n1 : ¬ rc (M0 153) (M0 152 3) p = 42) (n2 : ¬ rc (M0 153) (M0 152 3) p = 47) (n3 : ¬ rc (M0 153) (M0 152 3) p = 43) (n4 : ¬ rc (M0 153) (M0 152 3) p = 45) (n5 : ¬ rc (M0 153) (M0 152 3) p = 41) (hF : qxF M0 Q v1 1 p) : qsB M0 W0 Q d v1 p en C (U ++ m :: W) r := by
  intro ho M hx hs hl
  have eL : lm_ (U ++ m :: W) = m := by rw [lm_op U _ hU, lm_m (by omega)]
  exact bk_X12_qGoesOn_0 ⟨fun y => absurd hx.2.2.2.2.1 y, fun _ => rt_look hx (fun M1 h1 hp1 t1 => ⟨fun _ => qxg118 n1 n2 n3 n4 h1 (qsk_tf t1 hs) (fun y => by rw [eL] at y; omega) (fun y => by rw [eL] at y; omega) (fun _ _ M2 h2 => qxfg hF h2), fun y => absurd y n5⟩)⟩
theorem qxcodef {f : am_M → Prop} {c k z : Int} (h : ru_ M0 M k z) (hn : 0 ≤ M 152 83 ∧ M 152 83 < 1600) (hf : ∀ M', qu_ M0 M' k z → f M') : am_cal pg (d + 1) 277 [(2, 152), (0, c)] sh_T M (am_cv sh_T f) := by
  have e3 := (rp_t h.1).2
  have g0 := h.2.1.2.1
  have g1 := h.2.1.2.2
  have key : f (am_up (am_up M 211 (M 152 83) c) 152 83 (M 152 83 + 1)) := by
    refine hf _ ⟨ru_fr h (fun x j a b c d f => ?_) ?_, by rw [am_up_at]; omega, by rw [am_up_at]; omega⟩
    · rw [am_up_el (by omega), am_up_el (by omega)]
    · rw [am_up_el (by omega), am_up_el (by omega)]; omega
  exact en_X12_qCode (bk_X12_qCode_0 ⟨⟨by omega, by omega⟩, ⟨by omega, by omega⟩, am_cv_i key⟩)
theorem qxnum (hF : ∀ k x, pr_num (M0 153) (M0 152 3) 9999 p en = .error (k, x) → qxF M0 Q v1 k x) (hB : ∀ p1 en1 v, pr_num (M0 153) (M0 152 3) 9999 p en = .ok (p1, en1, v) → pm_B (qsB M0 W0 Q d v1) p1 en1 (C ++ [1000 + v]) W r) (ho : qso W) (hx : rx_ M0 M p en) (hs : qsk M C (W ++ W0) r W0.length) (hl : ((C.length + (W ++ W0).length : Nat) : Int) < p) : am_g 12 9 co_X12_qPartTold (d + 6) (qsKP (d + 6) Q v1) 209 [(2, 152), (3, 0), (0, -1), (3, 0), (3, 0), (3, 0)] [] sh_T M := by
  obtain ⟨i1, i2, i3, i4, -⟩ := rx_in hx
  have hn := pr_num_g (t := M0 153) (e := M0 152 3) (g := 9999) (en := en) i1 i2
  rw [List.length_append] at hl
  refine bk_X12_qPartTold_209 ⟨fun _ => rt_num (by decide) hx (fun k z hy x M8 x0 x1 h8 t8 => ⟨⟨by omega, by omega⟩, ?_⟩) (fun p1 en1 w hy M8 h8 t8 => ?_), fun y => absurd rfl y⟩
  · refine qxcodef h8 ?_ (fun M9 h9 => en_X12_qEndsPart (bk_X12_qEndsPart_0 ⟨fun _ => am_cv_i (qxfq (hF k z hy) h9), fun y => absurd y (ru_b h9.1)⟩))
    rw [t8 152 83 (by omega)]
    have := hs.1.1
    omega
  · have hv := pr_num_v hy
    rw [hy] at hn
    obtain ⟨g1, g2, g3, g4, g5⟩ := hn
    have k8 := qsk_tf t8 hs
    refine ⟨⟨by omega, by omega⟩, qscode k8 (by rw [List.length_append]; omega) (fun M9 k9 f9 => qsendp (hB p1 en1 w hy) ho (qsx h8 f9).1 k9 ?_)⟩
    rw [List.length_append, List.length_singleton, List.length_append]; omega
theorem qxR1 (hw : rw_all M0) (c1 : is_di (rc (M0 153) (M0 152 3) p) = true) (hF : ∀ k x, pr_num (M0 153) (M0 152 3) 9999 p en = .error (k, x) → qxF M0 Q v1 k x) (hB : ∀ p1 en1 v, pr_num (M0 153) (M0 152 3) 9999 p en = .ok (p1, en1, v) → pm_B (qsB M0 W0 Q d v1) p1 en1 (C ++ [1000 + v]) W r) : qsA M0 W0 Q d v1 p en C W r := by
  intro ho M hx hs hl
  have hd := is_di_iff.mp c1
  have nw : ∀ {w : List Int}, ¬ rd_is (M0 153) (M0 152 3) en p w = true := fun y => by have := rd_is_le y; omega
  have z0 : pr_wc (M0 153) (M0 152 3) en p (ts_ true) = 0 := Classical.byContradiction fun z => by
    have := rd_wd_c (pr_wc_0 (ts_ true) z)
    omega
  have eq : qi_ (pr_wc (M0 153) (M0 152 3) en p (ts_ true)) = -1 := by rw [z0]; rfl
  have g184 : ∀ M1, rx_ M0 M1 p en → qsk M1 C (W ++ W0) r W0.length → am_g 12 9 co_X12_qPartTold (d + 6) (qsKP (d + 6) Q v1) 184 [(2, 152), (3, 0), (3, 0), (3, 0), (3, 0), (3, 0)] [] sh_T M1 := fun M1 h1 k1 => by
    refine bk_X12_qPartTold_184 ⟨fun _ => qt_of hw h1 (fun M2 h2 hp2 t2 => ?_), fun y => absurd h1.2.2.2.2.1 y⟩
    rw [eq, if_neg (by decide)]
    exact ⟨fun _ => qxnum hF hB ho h2 (qsk_tf t2 k1) hl, fun y => absurd rfl y⟩
  refine bk_X12_qPartTold_2 ⟨fun y => absurd y (by decide), fun _ => ⟨fun y => absurd hx.2.2.2.2.1 y, fun _ => rt_look hx (fun M1 h1 hp1 t1 => qt_of hw h1 (fun M2 h2 hp2 t2 => ?_))⟩⟩
  rw [eq, if_neg (by decide)]
  exact ⟨fun _ => rt_here hw (w := w_min) (by decide) h2 (fun M3 h3 hp3 t3 => ⟨fun y => absurd (am_b_nz y) nw, fun _ => rt_here hw (w := w_max) (by decide) h3 (fun M4 h4 hp4 t4 => ⟨fun _ => ⟨fun _ => bk_X12_qPartTold_181 (bk_X12_qPartTold_2 ⟨fun _ => g184 M4 h4 (qsk_tf t4 (qsk_tf t3 (qsk_tf t2 (qsk_tf t1 hs)))), fun y => absurd rfl y⟩), fun y => absurd rfl y⟩, fun y => absurd (am_b_nz y) nw⟩)⟩), fun y => by omega⟩
theorem qxR2 (hw : rw_all M0) (c1 : rc (M0 153) (M0 152 3) p = 40) (hF : r = 0 → qxF M0 Q v1 4 p) (hA : ∀ r', r = r' + 1 → qsA M0 W0 Q d v1 (rd_at (M0 153) (M0 152 3) (p + 1)) en C (20 :: W) r') : qsA M0 W0 Q d v1 p en C W r := by
  intro ho M hx hs hl
  obtain ⟨i1, i2, i3, i4, -⟩ := rx_in hx
  have hlt := (rc_lt c1 (by decide)).1
  have hr := rd_at_le (t := M0 153) (e := M0 152 3) (i := p + 1) (by omega)
  refine bk_X12_qPartTold_2 ⟨fun y => absurd y (by decide), fun _ => ⟨fun y => absurd hx.2.2.2.2.1 y, fun _ => rt_look hx (fun M1' h1' hp1' t1' => qt_of hw h1' (fun M1 h1 hp1 t1 => ⟨fun y => absurd c1 y, fun _ => ?_⟩))⟩⟩
  have k1 := qsk_tf t1 (qsk_tf t1' hs)
  rw [hp1]
  refine qsopens h1.2.2.2.2.1 k1 (by omega) (Or.inr (by decide)) (fun hr0 => ?_) (fun r' hr' M2 k2 f2 => ?_)
  · have u1 := rx_bl h1 (k := 4) (z := p) (by decide)
    have e2 : rf_bl M1 4 p 152 2 = p := by rw [rf_bl_0 h1.2.2.2.2.1, am_up_el (by omega), am_up_el (by omega)]; exact hp1
    rw [e2]
    exact ⟨⟨by omega, by omega⟩, bk_X12_qPartTold_181 (qxfp (hF hr0) (qu_of (ru_fr u1 (fun x j a b c d f => am_up_el (by omega)) (by rw [am_up_at]; omega)) k1 ((am_up_el (by omega)).trans (rf_bl_el (by omega)))))⟩
  · obtain ⟨h2, hp2⟩ := qsx h1 f2
    rw [hp1] at hp2
    rw [hp2]
    have t3 : tf_ M2 (am_up M2 152 2 (p + 1)) := fun x j y => am_up_el (by omega)
    have h3 : rx_ M0 (am_up M2 152 2 (p + 1)) (rd_at (M0 153) (M0 152 3) (p + 1)) en := rx_at h2 am_up_at ((am_up_el (by omega)).trans h2.2.2.2.1) (by omega) t3
    refine ⟨⟨by omega, by omega⟩, bk_X12_qPartTold_181 (hA r' hr' (qso_c (by decide) ho) _ h3 (qsk_tf t3 k2) ?_)⟩
    show ((C.length + (20 :: (W ++ W0)).length : Nat) : Int) < _
    rw [List.length_cons]; omega
theorem qxR3 (hw : rw_all M0) (c1 : ¬ is_di (rc (M0 153) (M0 152 3) p) = true) (c2 : ¬ rc (M0 153) (M0 152 3) p = 40) (hF0 : pr_wc (M0 153) (M0 152 3) en p (ts_ true) = 0 → qxF M0 Q v1 1 p)
    (hF4 : pr_wc (M0 153) (M0 152 3) en p (ts_ true) = 5 ∨ pr_wc (M0 153) (M0 152 3) en p (ts_ true) = 6 → rc (M0 153) (M0 152 3) (rd_at (M0 153) (M0 152 3) (p + rd_wd (M0 153) (M0 152 3) en p)) = 40 → r = 0 → qxF M0 Q v1 4 (rd_at (M0 153) (M0 152 3) (p + rd_wd (M0 153) (M0 152 3) en p)))
    (hA : pr_wc (M0 153) (M0 152 3) en p (ts_ true) = 5 ∨ pr_wc (M0 153) (M0 152 3) en p (ts_ true) = 6 → rc (M0 153) (M0 152 3) (rd_at (M0 153) (M0 152 3) (p + rd_wd (M0 153) (M0 152 3) en p)) = 40 → ∀ r', r = r' + 1 → qsA M0 W0 Q d v1 (rd_at (M0 153) (M0 152 3) (rd_at (M0 153) (M0 152 3) (p + rd_wd (M0 153) (M0 152 3) en p) + 1)) (p + rd_wd (M0 153) (M0 152 3) en p) C ((16 + pr_wc (M0 153) (M0 152 3) en p (ts_ true)) :: W) r')
    (hF1 : pr_wc (M0 153) (M0 152 3) en p (ts_ true) = 5 ∨ pr_wc (M0 153) (M0 152 3) en p (ts_ true) = 6 → ¬ rc (M0 153) (M0 152 3) (rd_at (M0 153) (M0 152 3) (p + rd_wd (M0 153) (M0 152 3) en p)) = 40 → qxF M0 Q v1 1 (rd_at (M0 153) (M0 152 3) (p + rd_wd (M0 153) (M0 152 3) en p)))
    (hF6 : pr_wc (M0 153) (M0 152 3) en p (ts_ true) = 60 → r = 0 → qxF M0 Q v1 4 p)
    (hA6 : pr_wc (M0 153) (M0 152 3) en p (ts_ true) = 60 → ∀ r', r = r' + 1 → qsA M0 W0 Q d v1 (rd_at (M0 153) (M0 152 3) (p + rd_wd (M0 153) (M0 152 3) en p)) (p + rd_wd (M0 153) (M0 152 3) en p) C (60 :: W) r')
    (hB : ¬ pr_wc (M0 153) (M0 152 3) en p (ts_ true) = 0 → ¬ (pr_wc (M0 153) (M0 152 3) en p (ts_ true) = 5 ∨ pr_wc (M0 153) (M0 152 3) en p (ts_ true) = 6) → ¬ pr_wc (M0 153) (M0 152 3) en p (ts_ true) = 60 → pm_B (qsB M0 W0 Q d v1) (rd_at (M0 153) (M0 152 3) (p + rd_wd (M0 153) (M0 152 3) en p)) (p + rd_wd (M0 153) (M0 152 3) en p) (C ++ [pr_wc (M0 153) (M0 152 3) en p (ts_ true)]) W r) : qsA M0 W0 Q d v1 p en C W r := by
  intro ho M hx hs hl
  obtain ⟨i1, i2, i3, i4, -⟩ := rx_in hx
  have hwd := rd_wd_le (t := M0 153) (en := en) i2
  have hwr := rd_at_le (t := M0 153) (e := M0 152 3) (i := p + rd_wd (M0 153) (M0 152 3) en p) hwd.2
  have hin := pr_wc_in (q := true) (t := M0 153) (e := M0 152 3) (en := en) (p := p)
  have hc0 := pr_wc_0 (t := M0 153) (e := M0 152 3) (en := en) (p := p) (ts_ true)
  have is : ∀ {w : List Int} {cw : Int}, (w, cw) ∈ ts_ true → (rd_is (M0 153) (M0 152 3) en p w = true ↔ pr_wc (M0 153) (M0 152 3) en p (ts_ true) = cw) := fun hm => pr_wc_is (ts_u true) hm
  have eqi : qi_ (pr_wc (M0 153) (M0 152 3) en p (ts_ true)) = if pr_wc (M0 153) (M0 152 3) en p (ts_ true) = 60 then 5 else if 40 ≤ pr_wc (M0 153) (M0 152 3) en p (ts_ true) ∧ pr_wc (M0 153) (M0 152 3) en p (ts_ true) ≤ 44 then pr_wc (M0 153) (M0 152 3) en p (ts_ true) - 40 else -1 := rfl
  rw [List.length_append] at hl
  have g184 : ¬ (pr_wc (M0 153) (M0 152 3) en p (ts_ true) = 5 ∨ pr_wc (M0 153) (M0 152 3) en p (ts_ true) = 6) → ¬ pr_wc (M0 153) (M0 152 3) en p (ts_ true) = 60 → ∀ M1, rx_ M0 M1 p en → qsk M1 C (W ++ W0) r W0.length → am_g 12 9 co_X12_qPartTold (d + 6) (qsKP (d + 6) Q v1) 184 [(2, 152), (3, 0), (3, 0), (3, 0), (3, 0), (3, 0)] [] sh_T M1 := fun n56 n60 M1 h1 k1 => by
    refine bk_X12_qPartTold_184 ⟨fun _ => qt_of hw h1 (fun M2 h2 hp2 t2 => ?_), fun y => absurd h1.2.2.2.2.1 y⟩
    have k2 := qsk_tf t2 k1
    by_cases c : 40 ≤ pr_wc (M0 153) (M0 152 3) en p (ts_ true) ∧ pr_wc (M0 153) (M0 152 3) en p (ts_ true) ≤ 44
    · rw [if_neg n60, if_pos c] at eqi
      have hpos := hc0 (by omega)
      have as := qt_asks (d := d + 1) (f := fun M4 => am_g 12 9 co_X12_qPartTold (d + 6) (qsKP (d + 6) Q v1) 209 [(2, 152), (3, 0), (0, qi_ (pr_wc (M0 153) (M0 152 3) en p (ts_ true))), (3, 0), (3, 0), (3, 0)] [] sh_T M4) hw h2 (Or.inr c) (fun M4 h4 t4 => by
        rw [eqi]
        refine bk_X12_qPartTold_209 ⟨fun y => by omega, fun _ => ⟨⟨by omega, by omega⟩, ?_⟩⟩
        rw [show 40 + (pr_wc (M0 153) (M0 152 3) en p (ts_ true) - 40) = pr_wc (M0 153) (M0 152 3) en p (ts_ true) by omega]
        refine qscode (qsk_tf t4 k2) (by rw [List.length_append]; omega) (fun M5 k5 f5 => qsendp (hB (by omega) n56 n60) ho (qsx h4 f5).1 k5 ?_)
        rw [List.length_append, List.length_singleton, List.length_append]; omega)
      rw [if_pos ⟨by omega, by omega⟩]
      exact ⟨fun y => by omega, fun _ => as⟩
    · rw [if_neg n60, if_neg c] at eqi
      have z0 : pr_wc (M0 153) (M0 152 3) en p (ts_ true) = 0 := by
        rcases hin with z | z | z | z | z
        · exact z
        · exact absurd (Or.inl z) n56
        · exact absurd (Or.inr z) n56
        · exact absurd z.1 (by decide)
        · rcases z.2 with z2 | z2
          · exact absurd z2 n60
          · exact absurd z2 c
      rw [eqi, if_neg (by decide)]
      have en0 : pr_num (M0 153) (M0 152 3) 9999 p en = .error (1, p) := if_neg (fun y => c1 y.1)
      exact ⟨fun _ => qxnum (fun k x hy => by rw [en0] at hy; cases hy; exact hF0 z0) (fun p1 en1 v hy => by rw [en0] at hy; cases hy) ho h2 k2 (by rw [List.length_append]; omega), fun y => absurd rfl y⟩
  have g143f : ∀ (M1 : am_M) (k z : Int), qxF M0 Q v1 k z → qu_ M0 M1 k z → am_g 12 9 co_X12_qPartTold (d + 6) (qsKP (d + 6) Q v1) 143 [(2, 152), (0, 1), (3, 0), (3, 0), (3, 0), (3, 0)] [] sh_T M1 := fun M1 k z hF h1 => bk_X12_qPartTold_143 (sp_asksSign_bad (ru_b h1.1) (bk_X12_qPartTold_181 (qxfp hF h1)))
  have g100 : ∀ (v4 : Int), (pr_wc (M0 153) (M0 152 3) en p (ts_ true) = 5 ∧ ¬ v4 = 0 ∨ pr_wc (M0 153) (M0 152 3) en p (ts_ true) = 6 ∧ v4 = 0) → ∀ M1, rx_ M0 M1 (rd_at (M0 153) (M0 152 3) (p + rd_wd (M0 153) (M0 152 3) en p)) (p + rd_wd (M0 153) (M0 152 3) en p) → qsk M1 C (W ++ W0) r W0.length → am_g 12 9 co_X12_qPartTold (d + 6) (qsKP (d + 6) Q v1) 100 [(2, 152), (0, 1), (3, 0), (3, 0), (0, v4), (3, 0)] [] sh_T M1 := fun v4 hv M1 h1 k1 => by
    have h56 : pr_wc (M0 153) (M0 152 3) en p (ts_ true) = 5 ∨ pr_wc (M0 153) (M0 152 3) en p (ts_ true) = 6 := hv.elim (fun y => Or.inl y.1) (fun y => Or.inr y.1)
    have hpos := hc0 (by omega)
    generalize rd_at (M0 153) (M0 152 3) (p + rd_wd (M0 153) (M0 152 3) en p) = p2 at h1 hwr hF4 hA hF1 ⊢
    have two : ∀ w : Int, w = 16 + pr_wc (M0 153) (M0 152 3) en p (ts_ true) → rc (M0 153) (M0 152 3) p2 = 40 → ∀ M2, rx_ M0 M2 p2 (p + rd_wd (M0 153) (M0 152 3) en p) → M2 152 2 = p2 → qsk M2 C (W ++ W0) r W0.length → am_cal pg (d + 6) 278 [(2, 152), (0, w), (0, M2 152 2)] sh_T M2 (am_cv sh_T fun M5 => am_g 12 9 co_X12_qPartTold (d + 6) (qsKP (d + 6) Q v1) 143 [(2, 152), (0, 1), (3, 0), (3, 0), (3, 0), (3, 0)] [] sh_T M5) := fun w hw y M2 h2 hp2 k2 => by
      have hlt := (rc_lt y (by decide)).1
      have hr := rd_at_le (t := M0 153) (e := M0 152 3) (i := p2 + 1) (by omega)
      rw [hp2]
      refine qsopens h2.2.2.2.2.1 k2 (by rw [List.length_append]; omega) (Or.inr (by omega)) (fun hr0 => g143f _ _ _ (hF4 h56 y hr0) (qu_of (rx_bl h2 (by decide)) k2 (rf_bl_el (by omega)))) (fun r' hr' M3 k3 f3 => ?_)
      have h3 := (qsx h2 f3).1
      rw [hw] at k3
      refine bk_X12_qPartTold_143 (rt_asksSign (by decide) h3 (fun _ M4 h4 t4 => bk_X12_qPartTold_181 (hA h56 y r' hr' (qso_c (by omega) ho) M4 h4 (qsk_tf t4 k3) ?_)) (fun y2 => absurd y y2))
      show ((C.length + ((16 + pr_wc (M0 153) (M0 152 3) en p (ts_ true)) :: (W ++ W0)).length : Nat) : Int) < _
      rw [List.length_cons, List.length_append]; omega
    refine bk_X12_qPartTold_100 (rt_look h1 (fun M2 h2 hp2 t2 => ⟨fun y => ?_, fun y => ⟨fun y2 => by omega, fun _ => ⟨fun y3 => two 22 (by omega) y M2 h2 hp2 (qsk_tf t2 k1), fun y3 => two 21 (by omega) y M2 h2 hp2 (qsk_tf t2 k1)⟩⟩⟩))
    exact bk_X12_qPartTold_143 (rt_asksSignE (by decide) h2 (fun y2 => absurd y2 y) (fun _ M3 h3 t3 => bk_X12_qPartTold_181 (qxfp (hF1 h56 y) (qu_of h3 (qsk_tf t2 k1) (t3 152 83 (by omega))))))
  have g77 : (pr_wc (M0 153) (M0 152 3) en p (ts_ true) = 5 ∨ pr_wc (M0 153) (M0 152 3) en p (ts_ true) = 6) → ∀ M1, rx_ M0 M1 p en → qsk M1 C (W ++ W0) r W0.length → am_g 12 9 co_X12_qPartTold (d + 6) (qsKP (d + 6) Q v1) 77 [(2, 152), (0, 1), (3, 0), (3, 0), (3, 0), (3, 0)] [] sh_T M1 := fun h56 M1 h1 k1 => by
    refine bk_X12_qPartTold_77 (rt_takes hw (w := w_min) (by decide) h1 (fun y M2 h2 t2 => ⟨fun _ => g100 1 (Or.inl ⟨(is (by decide)).mp y, by decide⟩) M2 h2 (qsk_tf t2 k1), fun z => absurd z (by decide)⟩) (fun y M2 h2 hp2 t2 => ⟨fun z => absurd rfl z, fun _ => ?_⟩))
    rw [is (cw := 5) (by decide)] at y
    have z6 : pr_wc (M0 153) (M0 152 3) en p (ts_ true) = 6 := h56.elim (fun z => absurd z y) id
    exact rt_asks hw (w := w_max) (by decide) h2 (fun _ M3 h3 t3 => g100 0 (Or.inr ⟨z6, rfl⟩) M3 h3 (qsk_tf t3 (qsk_tf t2 k1))) (fun y2 => absurd ((is (by decide)).mpr z6) y2)
  refine bk_X12_qPartTold_2 ⟨fun y => absurd y (by decide), fun _ => ⟨fun y => absurd hx.2.2.2.2.1 y, fun _ => rt_look hx (fun M0' h0' hp0' t0' => qt_of hw h0' (fun M1 h1 hp1 t1 => ⟨fun _ => rt_here hw (w := w_min) (by decide) h1 (fun M2 h2 hp2 t2 => ⟨fun y => ?_, fun y => rt_here hw (w := w_max) (by decide) h2 (fun M3 h3 hp3 t3 => ⟨fun y2 => ?_, fun y2 => ?_⟩)⟩), fun y => absurd y c2⟩))⟩⟩
  · exact g77 (Or.inl ((is (by decide)).mp (am_b_nz y))) M2 h2 (qsk_tf t2 (qsk_tf t1 (qsk_tf t0' hs)))
  · have n5 := am_b_z.mp y
    have n6 := am_b_z.mp y2
    rw [is (cw := 5) (by decide)] at n5
    rw [is (cw := 6) (by decide)] at n6
    have k3 := qsk_tf t3 (qsk_tf t2 (qsk_tf t1 (qsk_tf t0' hs)))
    by_cases c : pr_wc (M0 153) (M0 152 3) en p (ts_ true) = 60
    · have as : ∀ (N : am_M), rx_ M0 N p en → ∀ F : am_M → Prop, (∀ M', rx_ M0 M' (rd_at (M0 153) (M0 152 3) (p + rd_wd (M0 153) (M0 152 3) en p)) (p + rd_wd (M0 153) (M0 152 3) en p) → tf_ N M' → F M') → am_cal pg (d + 6) 286 [(2, 152), (0, 5)] sh_T N (am_cv sh_T F) := fun N hN F hF => by
        have r := qt_asks (d := d + 1) (f := F) hw hN (Or.inl c) hF
        rw [eqi, if_pos c] at r
        exact r
      have hpos := hc0 (by omega)
      rw [if_pos c] at eqi
      rw [eqi, if_pos (by decide), hp3]
      refine ⟨fun z => absurd z (by decide), fun _ => ⟨⟨by decide, by decide⟩, ⟨by decide, by decide⟩, ?_⟩⟩
      have op : am_cal pg (d + 6) 278 [(2, 152), (0, 60), (0, p)] sh_T M3 (am_cv sh_T fun M13 => am_cal pg (d + 6) 286 [(2, 152), (0, 5)] sh_T M13 (am_cv sh_T fun M14 => am_g 12 9 co_X12_qPartTold (d + 6) (qsKP (d + 6) Q v1) 181 [(2, 152), (0, 1), (3, 0), (3, 0), (3, 0), (3, 0)] [] sh_T M14)) := by
        refine qsopens h3.2.2.2.2.1 k3 (by rw [List.length_append]; omega) (Or.inr (by decide)) (fun hr0 => ?_) (fun r' hr' M4 k4 f4 => ?_)
        · have u := rx_bl h3 (k := 4) (z := p) (by decide)
          exact qt_asks_bad (ru_b u) (bk_X12_qPartTold_181 (qxfp (hF6 c hr0) (qu_of u k3 (rf_bl_el (by omega)))))
        · refine as M4 (qsx h3 f4).1 _ (fun M5 h5 t5 => bk_X12_qPartTold_181 (hA6 c r' hr' trivial M5 h5 (qsk_tf t5 k4) ?_))
          show ((C.length + (60 :: (W ++ W0)).length : Nat) : Int) < _
          rw [List.length_cons, List.length_append]; omega
      exact op
    · have em : (if (5 : Int) ≤ qi_ (pr_wc (M0 153) (M0 152 3) en p (ts_ true)) ∧ qi_ (pr_wc (M0 153) (M0 152 3) en p (ts_ true)) < 6 then qi_ (pr_wc (M0 153) (M0 152 3) en p (ts_ true)) else -1) = -1 := by
        rw [if_neg c] at eqi
        by_cases c4 : 40 ≤ pr_wc (M0 153) (M0 152 3) en p (ts_ true) ∧ pr_wc (M0 153) (M0 152 3) en p (ts_ true) ≤ 44
        · rw [if_pos c4] at eqi
          rw [if_neg (by omega)]
        · rw [if_neg c4] at eqi
          rw [if_neg (by omega)]
      rw [em]
      exact ⟨fun _ => bk_X12_qPartTold_181 (bk_X12_qPartTold_2 ⟨fun _ => g184 (fun z => z.elim n5 n6) c M3 h3 k3, fun z => absurd rfl z⟩), fun z => absurd rfl z⟩
  · exact g77 (Or.inr ((is (by decide)).mp (am_b_nz y2))) M3 h3 (qsk_tf t3 (qsk_tf t2 (qsk_tf t1 (qsk_tf t0' hs))))
theorem qxrules (hw : rw_all M0) (hW0 : hd_ (fun w => ¬ (1 ≤ w ∧ w ≤ 4)) W0) : pm_R true (M0 153) (M0 152 3) (qsA M0 W0 Q d v1) (qsB M0 W0 Q d v1) (qxF M0 Q v1) :=
  ⟨fun _ _ _ _ _ h1 h2 h3 => qxR1 hw h1 h2 h3, fun _ _ _ _ _ h1 h2 h3 => qxR2 hw h1 h2 h3, fun _ _ _ _ _ h1 h2 h3 h4 h5 h6 h7 h8 h9 => qxR3 hw h1 h2 h3 h4 h5 h6 h7 h8 h9, fun _ _ _ _ _ _ _ h1 h2 h3 h4 => qsR4 h1 h2 h3 h4, fun _ _ _ _ _ _ _ h1 h2 h3 h4 => qsR5 hW0 h1 h2 h3 h4, fun _ _ _ _ _ _ _ h1 h2 h3 h4 => qsR6 hW0 h1 h2 h3 h4, fun _ _ _ _ _ _ _ h1 h2 h3 h4 h5 h6 h7 h8 => qxR7 h1 h2 h3 h4 h5 h6 h7 h8, fun _ _ _ _ _ _ _ h1 h2 h3 h4 h5 h6 h7 h8 => qxR8 h1 h2 h3 h4 h5 h6 h7 h8⟩
end XM
theorem qxsums {M0 M : am_M} {d : Nat} {f : am_M → Prop} {C W0 : List Int} {r : Nat} {b p en : Int} (hw : rw_all M0) (hW0 : hd_ (fun w => ¬ (1 ≤ w ∧ w ≤ 4)) W0) (hx : rx_ M0 M p en) (hs : qsk M C W0 r b) (hl : ((C.length + W0.length : Nat) : Int) < p) (h1 : ∀ k z, pz_sum (M0 153) (M0 152 3) (pz_part true (M0 153) (M0 152 3) r) p en = .error (k, z) → ∀ M', qu_ M0 M' k z → f M') (h2 : ∀ p1 en1 ds, pz_sum (M0 153) (M0 152 3) (pz_part true (M0 153) (M0 152 3) r) p en = .ok (p1, en1, ds) → ∀ M', rx_ M0 M' p1 en1 → qsk M' (C ++ ds) W0 r b → f M') : am_cal pg (d + 8) 290 [(2, 152)] sh_T M (am_cv sh_T f) := by
  obtain ⟨i1, i2, i3, i4, -⟩ := rx_in hx
  have a3 := hs.2.1.1
  have a7 := hs.2.2.2.1
  have t1 : ∀ x j, ¬ (x = 152 ∧ j = 87) → am_up M 152 87 (M 152 85) x j = M x j := fun x j y => am_up_el y
  have hx1 : rx_ M0 (am_up M 152 87 (M 152 85)) p en := by
    obtain ⟨g1, g2, g3, g4, g5⟩ := hx
    refine ⟨rp_tr g1 (fun x j a b c d f => t1 x j (by omega)), ⟨?_, ?_, ?_⟩, ?_, ?_, ?_⟩
    · rw [t1 152 3 (by omega)]; exact g2.1
    · rw [t1 152 2 (by omega)]; exact g2.2.1
    · rw [t1 152 2 (by omega), t1 152 3 (by omega)]; exact g2.2.2
    · show rd_at ((am_up M 152 87 (M 152 85)) 153) ((am_up M 152 87 (M 152 85)) 152 3) ((am_up M 152 87 (M 152 85)) 152 2) = p
      rw [t1 152 3 (by omega), t1 152 2 (by omega), show (am_up M 152 87 (M 152 85)) 153 = M 153 from funext fun j => t1 153 j (by omega)]
      exact g3
    · rw [t1 152 4 (by omega)]; exact g4
    · rw [t1 152 5 (by omega)]; exact g5
  have move : ∀ (N : am_M) (C' : List Int) (x b' : Int), qsk N C' W0 r b' → qsk (am_up N 152 87 x) C' W0 r x := fun N C' x b' hN => by
    obtain ⟨⟨a1, a2⟩, ⟨a3, a4⟩, ⟨a5, a6⟩, a7, a8⟩ := hN
    exact ⟨⟨(am_up_el (by omega)).trans a1, fun i hi => (am_up_el (by omega)).trans (a2 i hi)⟩, ⟨(am_up_el (by omega)).trans a3, fun i hi => (am_up_el (by omega)).trans (a4 i hi)⟩, ⟨(am_up_el (by omega)).trans a5, a6⟩, am_up_at, a8⟩
  have k1 : qsk (am_up M 152 87 (M 152 85)) C ([] ++ W0) r W0.length := by
    have := move M C (M 152 85) b hs
    rw [a3] at this ⊢
    exact this
  have R := qxrules (Q := am_cv sh_T f) (d := d) (v1 := M 152 87) hw hW0
  have hA := pm_sum R i4 (pz_part_g r) (pm_part R i4 r) (cs := C) (W := []) trivial (p := p) (en := en) i1 i2 i3 (by
    refine (?_ : pm_S _ _ _ _ _ _ _ _)
    generalize hg : pz_sum (M0 153) (M0 152 3) _ p en = x at h1 h2
    match x, h1, h2 with
    | .error (k, z), h1, _ =>
      intro N hN
      obtain ⟨hN, b0, b1⟩ := hN
      have g0 := hN.2.1.2.1
      have g1 := hN.2.1.2.2
      have e3 := (rp_t hN.1).2
      exact am_cv_i (h1 k z rfl _ ⟨ru_fr hN (fun x j a b c d f => am_up_el (by omega)) (by rw [am_up_el (by omega)]; omega), by rw [am_up_el (by omega)]; exact b0, by rw [am_up_el (by omega)]; exact b1⟩)
    | .ok (p1, en1, ds), _, h2 =>
      intro ds1 U hd hU n1 n2 n3 n4
      refine qsE hU n1 n2 n3 n4 (fun N hN kN => am_cv_i (h2 p1 en1 ds rfl _ ?_ ?_))
      · obtain ⟨g1, g2, g3, g4, g5⟩ := hN
        have t2 : ∀ x j, ¬ (x = 152 ∧ j = 87) → am_up N 152 87 (M 152 87) x j = N x j := fun x j y => am_up_el y
        refine ⟨rp_tr g1 (fun x j a b c d f => t2 x j (by omega)), ⟨?_, ?_, ?_⟩, ?_, ?_, ?_⟩
        · rw [t2 152 3 (by omega)]; exact g2.1
        · rw [t2 152 2 (by omega)]; exact g2.2.1
        · rw [t2 152 2 (by omega), t2 152 3 (by omega)]; exact g2.2.2
        · show rd_at ((am_up N 152 87 (M 152 87)) 153) ((am_up N 152 87 (M 152 87)) 152 3) ((am_up N 152 87 (M 152 87)) 152 2) = p1
          rw [t2 152 3 (by omega), t2 152 2 (by omega), show (am_up N 152 87 (M 152 87)) 153 = N 153 from funext fun j => t2 153 j (by omega)]
          exact g3
        · rw [t2 152 4 (by omega)]; exact g4
        · rw [t2 152 5 (by omega)]; exact g5
      · have := move N _ (M 152 87) _ kN
        rw [a7, show C ++ ds1 ++ U = C ++ ds by rw [hd, List.append_assoc]] at this
        rw [a7]
        exact this)
  refine en_X12_qSums (bk_X12_qSums_0 (bk_X12_qSums_15 ⟨fun y => absurd y (by decide), fun _ => ⟨fun y => absurd hx1.2.2.2.2.1 y, fun _ => en_X12_qPartTold (bk_X12_qPartTold_0 (hA ?_ _ hx1 k1 ?_))⟩⟩))
  · exact trivial
  · show ((C.length + W0.length : Nat) : Int) < p
    exact hl
