/-! on: BOTH, one behind the other -/
theorem iv_on {d n : Nat} {M : am_M} (hn : n < 600) (h : iv_ n M) : tr_two (d + 4) 158 312 [] M (iv_ (n + 1)) := by
  have hI := h
  have hq := rq_of h
  have r5 := hq 5 (by decide) (by decide)
  obtain ⟨⟨D, ⟨G, W, a1, a2, a3, a4⟩, h2, h3⟩, ⟨T, h5⟩, ⟨t1, t2, t3, t4⟩, ⟨l1, l2⟩, h6, ⟨p1, p2, p3⟩, h8, h9⟩ := h
  have hu : (M 0 4 = 11 ∨ M 0 4 = 24) := h6.1
  obtain ⟨b1, b2, b3, b4, b5⟩ := a1
  have hN6 : dN D ≤ 6 := b1.2.1.1
  have e53 : ∀ j, M 153 j = M 2 j := fun j => (t1 j).symm
  refine st_on (d := d) (N := dN D) (A := dA D) (g := dG D) h6.1 b1.2.2.1 (b3.1.1.trans b3.1.2) (b4.1.1.trans b4.1.2) hN6 (by omega) t3 t4 ⟨r5.2.1, by omega⟩ (fun hpo M1 f1 c11 c46 same done => ⟨fun j => f1 _ _ (by omega) (by omega) (by omega), ?_⟩) (fun hno => ⟨fun j => by rw [am_up_el (by omega), am_up_el (by omega)], ?_⟩)
  · have e : ∀ x j, 47 ≤ x → M1 x j = M x j := fun x j y => f1 x j (by omega) (by omega) (by omega)
    have eb := b2
    refine sp_on (d := d + 1) (N := dN D) (A := dA D) (g := dG D) (R := M 1 1) (t := M 2) ((e 174 3 (by omega)).trans b2.2.1) ((e 174 4 (by omega)).trans b3.1.2) ((e 174 5 (by omega)).trans b4.1.2) hN6 (by omega) ((e 152 1 (by omega)).trans t2.symm) t3 (fun j => (e 153 j (by omega)).trans (e53 j)) t4 (by rw [e 154 5 (by omega)]; exact ⟨by omega, by omega⟩) (fun _ M2 f2 c1 c58 same2 done2 => ⟨rfl, ?_⟩) (fun y => absurd hpo y)
    have g : ∀ x j, ¬ (38 ≤ x ∧ x ≤ 45) → ¬ (x = 46 ∧ j = 2) → ¬ (x = 1 ∧ j = 1) → ¬ x = 186 → ¬ (x = 152 ∧ (j = 1 ∨ j = 58)) → M2 x j = M x j := fun x j y1 y2 y3 y4 y5 => by rw [f2 x j y4 y5, f1 x j y1 y2 y3]
    have lo : ∀ x j, x < 152 → M2 x j = M1 x j := fun x j y => f2 x j (by omega) (by omega)
    have ka : ka_ M M2 := fun x j y => g x j (by omega) (by omega) (by omega) (by omega) (by omega)
    obtain ⟨w1, w2, w3, w4⟩ := ka_ok ka h5 h6 h8 h9
    have e4 : M2 0 4 = M 0 4 := ka 0 4 (by omega)
    have e174 : ∀ j, M2 174 j = M 174 j := fun j => ka 174 j (by omega)
    -- what a sleeper's octets tell
    have oct : ∀ a : Int, 0 ≤ a → a < dA D → (-1 ≤ M 2 (ps_ (dN D) a) - 1 ∧ M 2 (ps_ (dN D) a) - 1 < 4 ∧ M 2 (ps_ (dN D) a) - 1 < dG D) ∧ ∀ j : Int, 0 ≤ j → j < (dN D : Int) → 0 ≤ pk_ (M 2) (dN D) a j ∧ pk_ (M 2) (dN D) a j ≤ 999 := fun a x0 x1 => by
      have hp := ps_bd (N := dN D) (a := a) (A := dA D) hN6 (by omega) x0 x1
      have hR := hpo.1
      obtain ⟨q1, q2⟩ := hpo.2.2 a x0 x1
      have k1 := t4 (ps_ (dN D) a) hp.1 (by omega)
      refine ⟨⟨by omega, by omega, by omega⟩, fun j j0 j1 => ⟨?_, q2 j j0 j1⟩⟩
      have k2 := t4 (ps_ (dN D) a + 1 + 2 * j) (by omega) (by omega)
      have k3 := t4 (ps_ (dN D) a + 2 + 2 * j) (by omega) (by omega)
      unfold pk_
      omega
    refine ⟨⟨D, ⟨fun a => M 2 (ps_ (dN D) a) - 1, fun a j => if 0 ≤ j ∧ j < (dN D : Int) then pk_ (M 2) (dN D) a j else W a j, ⟨?_, rg_is_fr (fun x j x1 x2 => ka x j (by omega)) b2, ?_, ?_, fun a x0 x1 => ?_⟩, ?_, rq_ok_s (fun k k0 k1 => ?_), ?_⟩, ?_, h3⟩, ⟨T, w1⟩, ⟨fun j => ?_, ?_, ?_, fun j j0 j1 => ?_⟩, ⟨?_, ?_⟩, w2, ⟨?_, ?_, fun j j0 j1 => ?_⟩, w3, w4⟩
    · rw [e4]
      exact dm_ok_fr (fun x j x1 x2 x3 x4 x5 x6 => ka x j (by omega)) b1
    · rw [e4, e174, ka (M 0 4 + 2) 1 (by omega)]; exact b3
    · rw [e4, e174, ka (M 0 4 + 2) 2 (by omega)]; exact b4
    · obtain ⟨s1, s2⟩ := b5 a x0 x1
      obtain ⟨o1, o2⟩ := oct a x0 x1.2
      have hz := s1.2.2.2.2.2
      have hw : dw_ok D (fun j => if 0 ≤ j ∧ j < (dN D : Int) then pk_ (M 2) (dN D) a j else W a j) := by
        refine ⟨fun j j0 j1 => ?_, fun j j0 j1 => ?_⟩
        · show 0 ≤ (if 0 ≤ j ∧ j < (dN D : Int) then pk_ (M 2) (dN D) a j else W a j) ∧ (if 0 ≤ j ∧ j < (dN D : Int) then pk_ (M 2) (dN D) a j else W a j) ≤ 999
          by_cases z : 0 ≤ j ∧ j < (dN D : Int)
          · rw [if_pos z]; exact o2 j z.1 z.2
          · rw [if_neg z]; exact s1.2.2.2.2.1 j j0 j1
        · show (if 0 ≤ j ∧ j < (dN D : Int) then pk_ (M 2) (dN D) a j else W a j) = 0
          rw [if_neg (by omega)]; exact hz j j0 j1
      refine ⟨⟨s1.1, ⟨?_, x0, x1⟩, ⟨?_, o1⟩, fun j j0 j1 => ?_, hw⟩, ⟨⟨x0, x1⟩, ⟨?_, o1⟩, fun j j0 j1 => ?_, hw⟩⟩
      · rw [lo _ _ (by omega), (same a x0 x1.1).1 1 (by decide)]; exact s1.2.1.1
      · rw [lo _ _ (by omega)]; exact (done a x0 x1.2).1
      · show _ = if 0 ≤ j ∧ j < (dN D : Int) then pk_ (M 2) (dN D) a j else W a j
        rw [lo _ _ (by omega)]
        by_cases z : 0 ≤ j ∧ j < (dN D : Int)
        · rw [if_pos z]; exact (done a x0 x1.2).2 j z.1 z.2
        · rw [if_neg z, (same a x0 x1.1).2 j z]; exact s1.2.2.2.1 j j0 j1
      · exact (done2 a x0 x1.2).1
      · show M2 186 (7 * a + 1 + j) = if 0 ≤ j ∧ j < (dN D : Int) then pk_ (M 2) (dN D) a j else W a j
        by_cases z : 0 ≤ j ∧ j < (dN D : Int)
        · rw [if_pos z]; exact (done2 a x0 x1.2).2 j z.1 z.2
        · rw [if_neg z, same2 a x0 x1.1 j (by omega) j1, e 186 _ (by omega)]; exact s2.2.2.1 j j0 j1
    · obtain ⟨na, ha, y1, y2, y3, y4, y5⟩ := a2
      refine ⟨0, fun _ => (0, 0, fun _ => 0), by decide, ⟨?_, c58⟩, ?_, ?_, fun k hk => absurd hk (Nat.not_lt_zero k)⟩
      · rw [lo 46 2 (by omega)]; exact c46
      · rw [g 46 1 (by omega) (by omega) (by omega) (by omega) (by omega)]; exact y3
      · rw [g 152 59 (by omega) (by omega) (by omega) (by omega) (by omega)]; exact y4
    · rw [g 151 k (by omega) (by omega) (by omega) (by omega) (by omega), g 154 k (by omega) (by omega) (by omega) (by omega) (by omega)]; exact hq k k0 k1
    · unfold lo_ok
      rw [g 0 17 (by omega) (by omega) (by omega) (by omega) (by omega), g 152 60 (by omega) (by omega) (by omega) (by omega) (by omega)]; exact a4
    · have f13 : M2 0 13 = M 0 13 := g _ _ (by omega) (by omega) (by omega) (by omega) (by omega)
      have f61 : M2 152 61 = M 152 61 := g _ _ (by omega) (by omega) (by omega) (by omega) (by omega)
      rcases h2 with ⟨z1, z2⟩ | ⟨R, z1, z2, z3, z4, z5, z6⟩
      · exact Or.inl ⟨by rw [f13, e174]; exact z1, by rw [f61]; exact z2⟩
      · refine Or.inr ⟨R, z1, by rw [f61]; exact z2, ?_, ?_, ?_, fun t ht => ?_⟩
        · rw [g 0 12 (by omega) (by omega) (by omega) (by omega) (by omega)]; exact z3
        · rw [f13, g 152 62 (by omega) (by omega) (by omega) (by omega) (by omega)]; exact z4
        · rw [g 152 62 (by omega) (by omega) (by omega) (by omega) (by omega), e174]; exact z5
        · rw [g 149 _ (by omega) (by omega) (by omega) (by omega) (by omega), g 192 _ (by omega) (by omega) (by omega) (by omega) (by omega)]; exact z6 t ht
    · rw [g 2 j (by omega) (by omega) (by omega) (by omega) (by omega), g 153 j (by omega) (by omega) (by omega) (by omega) (by omega)]; exact t1 j
    · rw [lo 1 1 (by omega), c11, c1]
    · rw [lo 1 1 (by omega), c11]; decide
    · rw [lo 1 1 (by omega), c11] at j1; omega
    · rw [g 1 3 (by omega) (by omega) (by omega) (by omega) (by omega), g 152 7 (by omega) (by omega) (by omega) (by omega) (by omega)]; exact l1
    · rw [g 1 4 (by omega) (by omega) (by omega) (by omega) (by omega), g 152 8 (by omega) (by omega) (by omega) (by omega) (by omega)]; exact l2
    · rw [g 0 15 (by omega) (by omega) (by omega) (by omega) (by omega), g 152 93 (by omega) (by omega) (by omega) (by omega) (by omega)]; exact p1
    · rw [g 0 15 (by omega) (by omega) (by omega) (by omega) (by omega)]; exact p2
    · rw [g 0 15 (by omega) (by omega) (by omega) (by omega) (by omega)] at j1
      rw [g 150 j (by omega) (by omega) (by omega) (by omega) (by omega), g 214 j (by omega) (by omega) (by omega) (by omega) (by omega)]; exact p3 j j0 j1
  · have e : ∀ x j, 152 ≤ x → am_up (am_up M 151 5 (M 151 5 + 1)) 1 1 0 x j = M x j := fun x j y => by rw [am_up_el (by omega), am_up_el (by omega)]
    refine sp_on (d := d + 1) (N := dN D) (A := dA D) (g := dG D) (R := M 1 1) (t := M 2) ((e 174 3 (by omega)).trans b2.2.1) ((e 174 4 (by omega)).trans b3.1.2) ((e 174 5 (by omega)).trans b4.1.2) hN6 (by omega) ((e 152 1 (by omega)).trans t2.symm) t3 (fun j => (e 153 j (by omega)).trans (e53 j)) t4 (by rw [e 154 5 (by omega)]; exact ⟨by omega, by omega⟩) (fun y => absurd y hno) (fun _ => ⟨rfl, ?_⟩)
    rw [e 154 5 (by omega)]
    have g : ∀ x j, ¬ (x = 1 ∧ j = 1) → ¬ (x = 152 ∧ j = 1) → ¬ (x = 151 ∧ j = 5) → ¬ (x = 154 ∧ j = 5) → am_up (am_up (am_up (am_up M 151 5 (M 151 5 + 1)) 1 1 0) 152 1 0) 154 5 (M 154 5 + 1) x j = M x j := fun x j y1 y2 y3 y4 => by rw [am_up_el (by omega), am_up_el (by omega), am_up_el (by omega), am_up_el (by omega)]
    have n11 : am_up (am_up (am_up (am_up M 151 5 (M 151 5 + 1)) 1 1 0) 152 1 0) 154 5 (M 154 5 + 1) 1 1 = 0 := by rw [am_up_el (by omega), am_up_el (by omega), am_up_at]
    have n1521 : am_up (am_up (am_up (am_up M 151 5 (M 151 5 + 1)) 1 1 0) 152 1 0) 154 5 (M 154 5 + 1) 152 1 = 0 := by rw [am_up_el (by omega), am_up_at]
    refine iv_up hI (fun x j y => g x j (by omega) (by omega) (by omega) (by omega)) (rq_step (k := 5) (by decide) hq (fun j => ?_) (fun j => ?_)) ⟨fun j => ?_, ?_, ?_, fun j j0 j1 => ?_⟩ ⟨?_, ?_⟩
    · by_cases w : j = 5
      · rw [if_pos w, w, am_up_el (by omega), am_up_el (by omega), am_up_el (by omega), am_up_at]
      · rw [if_neg w]; exact g _ _ (by omega) (by omega) (by omega) (by omega)
    · by_cases w : j = 5
      · rw [if_pos w, w, am_up_at]
      · rw [if_neg w]; exact g _ _ (by omega) (by omega) (by omega) (by omega)
    · rw [g 2 j (by omega) (by omega) (by omega) (by omega), g 153 j (by omega) (by omega) (by omega) (by omega)]; exact t1 j
    · rw [n11, n1521]
    · rw [n11]; decide
    · rw [n11] at j1; omega
    · rw [g 1 3 (by omega) (by omega) (by omega) (by omega), g 152 7 (by omega) (by omega) (by omega) (by omega)]; exact l1
    · rw [g 1 4 (by omega) (by omega) (by omega) (by omega), g 152 8 (by omega) (by omega) (by omega) (by omega)]; exact l2
