/-! BOTH DREAMS, one behind the other -/
theorem yh_lo {M M' : am_M} (h : yh_ M M') {x j : Int} (hx : x < 152 ∨ 2000000 ≤ x) : M' x j = M x j := h x j (by unfold yc_; omega) (by omega) (by omega) (by omega)
theorem yg_lo {M M' : am_M} (h : yg_ M M') {x j : Int} (hx : x < 152 ∨ 2000000 ≤ x) : M' x j = M x j := h x j (by unfold yc_; omega) (by omega) (by omega)
theorem rq_step {n : Nat} {M M' : am_M} {k : Int} (hk : 0 ≤ k ∧ k < 6) (h : rq_ok n M) (h1 : ∀ j, M' 151 j = if j = k then M 151 k + 1 else M 151 j) (h2 : ∀ j, M' 154 j = if j = k then M 154 k + 1 else M 154 j) : rq_ok (n + 1) M' := fun i i0 i1 => by
  have a := h i i0 i1
  have b := h k hk.1 hk.2
  rw [h1, h2]
  by_cases z : i = k
  · rw [if_pos z, if_pos z]; omega
  · rw [if_neg z, if_neg z]; omega
theorem iv_dream {d n : Nat} {M : am_M} (hn : n < 600) (h : iv_ n M) : tr_two (d + 46) 128 194 [] M (iv_ (n + 1)) := by
  have hI := h
  obtain ⟨⟨D, ⟨G, W, a1, a2, a3, a4⟩, h2, h3, h4⟩, ⟨T0, h5⟩, ⟨t1, t2, t3, t4⟩, -, ⟨s1, s2, s3⟩, h7, h8, h9⟩ := h
  have hu := s1
  have hs := s2
  unfold dr_is at hu hs
  have r1 := a3 1 (by decide) (by decide)
  have t153 : M 153 = M 2 := funext fun j => (t1 j).symm
  refine ct_dream (d := d) s1 s2 s3 rfl rfl t3 h8 ⟨r1.2.1, by omega⟩ (fun k z hx M1 f1 b11 b13 b14 bk b151 => ⟨fun j => f1 2000003 j (by omega) (by omega) (by omega) (by omega), ?_⟩) (fun p en T l hx hT M1 f1 b11 b13 b14 b04 b05 btd bce bsl b46 b013 => ⟨fun j => f1 2000003 j (by omega) (by omega) (by omega) (by omega) (by omega) (by omega), ?_⟩)
  · -- refused
    have e : ∀ x j, 152 ≤ x → M1 x j = M x j := fun x j y => f1 x j (by omega) (by omega) (by omega) (by omega)
    have et : M1 153 = M 2 := (funext fun j => e 153 j (by omega) : M1 153 = M 153).trans t153
    have e1 : M1 152 1 = M 1 1 := (e 152 1 (by omega)).trans t2.symm
    have hw1 : rw_all M1 := fun x hx => by
      obtain ⟨w1, w2, w3, w4⟩ := h9 x hx
      have hi := rws_ab x hx
      exact ⟨w1, w2, fun i hl => (e x.1 i (by omega)).trans (w3 i hl), w4⟩
    have key := rt_dream (d := d + 35) (M := M1) (f := fun y M2 => -1 = y ∧ iv_ (n + 1) M2) hw1 (by rw [e1]; exact t3) (by rw [e 154 1 (by omega)]; exact ⟨by omega, by omega⟩) (by
      rw [et, e1]
      intro k' z' hx' M2 f2 c7 c8 ck c1 c154
      rw [hx] at hx'
      simp only [Except.error.injEq, Prod.mk.injEq] at hx'
      refine ⟨rfl, iv_up hI (fun x j y => ?_) ?_ ⟨fun j => ?_, ?_, ?_, ?_⟩ ⟨?_, ?_⟩⟩
      · have y1 : M1 x j = M x j := f1 x j (by omega) (by omega) (by omega) (by omega)
        rw [f2 x j (by unfold yc_; omega) (by omega) (by omega)]
        exact y1
      · refine rq_step (k := 1) (by decide) a3 (fun j => ?_) (fun j => ?_)
        · rw [yg_lo f2 (by omega)]
          by_cases w : j = 1
          · rw [if_pos w, w]; exact b151
          · rw [if_neg w]; exact f1 151 j (by omega) (by omega) (by omega) (by omega)
        · by_cases w : j = 1
          · rw [if_pos w, w, c154, e 154 1 (by omega)]
          · rw [if_neg w, f2 154 j (by unfold yc_; omega) (by omega) (by omega)]; exact e 154 j (by omega)
      · rw [yg_lo f2 (by omega), f2 153 j (by unfold yc_; omega) (by omega) (by omega), f1 2 j (by omega) (by omega) (by omega) (by omega), e 153 j (by omega)]
        exact t1 j
      · rw [yg_lo f2 (by omega), b11, c1]
      · rw [yg_lo f2 (by omega), b11]; decide
      · intro j j0 j1
        rw [yg_lo f2 (by omega), b11] at j1
        omega
      · rw [yg_lo f2 (by omega), b13, c7]; exact hx'.1
      · rw [yg_lo f2 (by omega), b14, c8]; exact hx'.2) (by
      rw [et, e1]
      intro p' en' T' l' hx'
      rw [hx] at hx'
      cases hx')
    exact key
  · -- told
    have e : ∀ x j, 152 ≤ x → M1 x j = M x j := fun x j y => f1 x j (by omega) (by omega) (by omega) (by omega) (by omega) (by omega)
    have et : M1 153 = M 2 := (funext fun j => e 153 j (by omega) : M1 153 = M 153).trans t153
    have e1 : M1 152 1 = M 1 1 := (e 152 1 (by omega)).trans t2.symm
    have hw1 : rw_all M1 := fun x hx => by
      obtain ⟨w1, w2, w3, w4⟩ := h9 x hx
      have hi := rws_ab x hx
      exact ⟨w1, w2, fun i hl => (e x.1 i (by omega)).trans (w3 i hl), w4⟩
    have key := rt_dream (d := d + 35) (M := M1) (f := fun y M2 => 70 - (l : Int) = y ∧ iv_ (n + 1) M2) hw1 (by rw [e1]; exact t3) (by rw [e 154 1 (by omega)]; exact ⟨by omega, by omega⟩) (by
      rw [et, e1]
      intro k' z' hx'
      rw [hx] at hx'
      cases hx') (by
      rw [et, e1]
      intro p' en' T' l' hx' hT' M2 f2 sg c7 c8 c1 c58 c61
      rw [hx] at hx'
      simp only [Except.ok.injEq, Prod.mk.injEq] at hx'
      obtain ⟨-, -, rfl, rfl⟩ := hx'
      have lo : ∀ x j, x < 152 → M2 x j = M1 x j := fun x j y => yh_lo f2 (Or.inl y)
      have d04 : M2 0 4 = M 0 5 := (lo 0 4 (by omega)).trans b04
      have d05 : M2 0 5 = M 0 4 := (lo 0 5 (by omega)).trans b05
      have btd2 : td_ M2 (M 0 5) T ((tN T 1).length : Int) ((tN T 2).length : Int) := by
        obtain ⟨⟨q1, q1'⟩, q2, q3, q4, ⟨q5, q6, q7⟩, q8⟩ := btd
        refine ⟨⟨fun k k0 k1 => (lo _ _ (by omega)).trans (q1 k k0 k1), fun k k0 k1 i j i1 j1 => (lo _ _ (by omega)).trans (q1' k k0 k1 i j i1 j1)⟩, fun a x y => (lo _ _ (by omega)).trans (q2 a x y), fun j x y => (lo _ _ (by omega)).trans (q3 j x y), fun g x y => (lo _ _ (by omega)).trans (q4 g x y), ⟨(lo _ _ (by omega)).trans q5, (lo _ _ (by omega)).trans q6, (lo _ _ (by omega)).trans q7⟩, fun k k0 k1 => ?_⟩
        rw [lo _ _ (by omega), lo _ _ (by omega)]; exact q8 k k0 k1
      have bce2 : ce_ M2 (M 0 5) (tC T) := ⟨(lo _ _ (by omega)).trans bce.1, bce.2.1, fun i hi => (lo _ _ (by omega)).trans (bce.2.2 i hi)⟩
      have bsl2 : ∀ a : Int, 0 ≤ a → a < 4 → M2 (37 + 1 + 2 * a) 1 = a ∧ M2 (37 + 1 + 2 * a) 2 = -1 ∧ ∀ j : Int, 0 ≤ j → j < 6 → M2 (37 + 1 + 2 * a + 1) j = tFe T (6 * a + j) := fun a x y => by
        obtain ⟨w1, w2, w3⟩ := bsl a x y
        exact ⟨(lo _ _ (by omega)).trans w1, (lo _ _ (by omega)).trans w2, fun j j0 j1 => (lo _ _ (by omega)).trans (w3 j j0 j1)⟩
      have bt := bt_T (M := M2) hT (by rw [d04]; exact s2) (by rw [d04]; exact btd2) (by rw [d04]; exact bce2) bsl2 sg
      obtain ⟨hk1, hk2, -, -, -, -, ⟨k1, k2, k3⟩, -⟩ := hT
      refine ⟨rfl, ⟨dT_ T, ⟨_, _, bt, ?_, ?_, ?_⟩, Or.inl ⟨?_, c61⟩, k2, k3⟩, ⟨T, ⟨hk1, hk2⟩, by rw [d04]; exact btd2.1, sg.1, sg.2.1⟩, ⟨fun j => ?_, ?_, ?_, fun j j0 j1 => ?_⟩, ⟨?_, ?_⟩, ⟨?_, ?_, ?_⟩, ⟨?_, ?_, fun j j0 j1 => ?_⟩, ⟨fun k k0 k1 => ?_, fun i hi => ?_, fun j => ?_⟩, fun x hx => ?_⟩
      · obtain ⟨na, ha, x1, x2, x3, x4, x5⟩ := a2
        refine ⟨0, fun _ => (0, 0, fun _ => 0), by decide, ⟨?_, c58⟩, ?_, ?_, fun k hk => absurd hk (Nat.not_lt_zero k)⟩
        · rw [lo _ _ (by omega)]; exact b46
        · rw [lo _ _ (by omega), f1 46 1 (by omega) (by omega) (by omega) (by omega) (by omega) (by omega)]; exact x3
        · rw [f2 152 59 (by unfold yc_; omega) (by omega) (by omega) (by omega), e 152 59 (by omega)]; exact x4
      · refine rq_ok_s (fun k k0 k1 => ?_)
        rw [lo 151 k (by omega), f1 151 k (by omega) (by omega) (by omega) (by omega) (by omega) (by omega), f2 154 k (by unfold yc_; omega) (by omega) (by omega) (by omega), e 154 k (by omega)]
        exact a3 k k0 k1
      · unfold lo_ok
        rw [lo 0 17 (by omega), f1 0 17 (by omega) (by omega) (by omega) (by omega) (by omega) (by omega), f2 152 60 (by unfold yc_; omega) (by omega) (by omega) (by omega), e 152 60 (by omega)]
        exact a4
      · rw [lo 0 13 (by omega), b013]; omega
      · rw [lo 2 j (by omega), f1 2 j (by omega) (by omega) (by omega) (by omega) (by omega) (by omega), f2 153 j (by unfold yc_; omega) (by omega) (by omega) (by omega), e 153 j (by omega)]
        exact t1 j
      · rw [lo 1 1 (by omega), b11, c1]
      · rw [lo 1 1 (by omega), b11]; decide
      · rw [lo 1 1 (by omega), b11] at j1; omega
      · rw [lo 1 3 (by omega), b13, c7]
      · rw [lo 1 4 (by omega), b14, c8]
      · rw [d04]; exact s2
      · rw [d05]; exact s1
      · rw [d04, d05]; exact fun z => s3 z.symm
      · rw [lo 0 15 (by omega), f1 0 15 (by omega) (by omega) (by omega) (by omega) (by omega) (by omega), f2 152 93 (by unfold yc_; omega) (by omega) (by omega) (by omega), e 152 93 (by omega)]
        exact h7.1
      · rw [lo 0 15 (by omega), f1 0 15 (by omega) (by omega) (by omega) (by omega) (by omega) (by omega)]
        exact h7.2.1
      · rw [lo 0 15 (by omega), f1 0 15 (by omega) (by omega) (by omega) (by omega) (by omega) (by omega)] at j1
        rw [lo 150 j (by omega), f1 150 j (by omega) (by omega) (by omega) (by omega) (by omega) (by omega), f2 214 j (by unfold yc_; omega) (by omega) (by omega) (by omega), e 214 j (by omega)]
        exact h7.2.2 j j0 j1
      · rw [yh_lo f2 (by omega), f1 2000000 k (by omega) (by omega) (by omega) (by omega) (by omega) (by omega)]
        exact h8.1 k k0 k1
      · rw [yh_lo f2 (by omega), yh_lo f2 (by omega), f1 2000001 i (by omega) (by omega) (by omega) (by omega) (by omega) (by omega), f1 2000002 i (by omega) (by omega) (by omega) (by omega) (by omega) (by omega)]
        exact h8.2.1 i hi
      · rw [yh_lo f2 (by omega), f1 2000003 j (by omega) (by omega) (by omega) (by omega) (by omega) (by omega)]
        exact h8.2.2 j
      · obtain ⟨w1, w2, w3, w4⟩ := hw1 x hx
        have hi := rws_ab x hx
        exact ⟨w1, w2, fun i hl => (f2 x.1 i (by unfold yc_; omega) (by omega) (by omega) (by omega)).trans (w3 i hl), w4⟩)
    exact key
