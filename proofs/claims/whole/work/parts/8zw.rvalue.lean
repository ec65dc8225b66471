/-! THE REFERENCE'S VALUE OF A QUESTION at a room -/
def qp_f (M M' : am_M) : Prop := ∀ a j, ¬ a = 213 → ¬ (a = 152 ∧ j = 89) → M' a j = M a j
theorem qp_tr {M M1 M2 : am_M} (h : qp_f M M1) (h2 : qp_f M1 M2) : qp_f M M2 := fun a j p q => (h2 a j p q).trans (h a j p q)
def qp_s (M : am_M) (st : List Int) : Prop := M 152 89 = st.length ∧ st.length ≤ 64 ∧ ∀ i : Nat, i < st.length → M 213 ((st.length : Int) - 1 - i) = st.getD i 0
theorem sq_puts {d : Nat} {M : am_M} {f : am_M → Prop} {x : Int} {st : List Int} (hs : qp_s M st) (hl : st.length < 64) (h : ∀ M', qp_f M M' → qp_s M' (x :: st) → f M') : am_cal pg (d + 1) 298 [(2, 152), (1, x)] sh_T M (am_cv sh_T f) := by
  obtain ⟨s1, s2, s3⟩ := hs
  refine en_X12_qPuts (bk_X12_qPuts_0 ⟨⟨by omega, by omega⟩, ⟨by omega, by omega⟩, am_cv_i (h _ ?_ ?_)⟩)
  · intro a j q1 q2
    rw [am_up_el q2, am_up_el (fun q => q1 q.1)]
  · refine ⟨?_, by simp; omega, fun i hi => ?_⟩
    · rw [am_up_at, s1]; simp
    · rw [am_up_el (by omega)]
      cases i with
      | zero =>
        rw [s1]
        simp
        exact am_up_at
      | succ i =>
        simp only [List.length_cons] at hi ⊢
        rw [am_up_el (by omega)]
        have := s3 i (by omega)
        simp only [List.getD_cons_succ]
        rw [← this]
        congr 1
        omega
theorem sq_clip {d : Nat} {M : am_M} {f : Int → am_M → Prop} {x : Int} (h : f (pu_cl x) M) : am_cal pg (d + 1) 296 [(1, x)] sh_T M (am_c1 sh_T f) := by
  unfold pu_cl at h
  refine en_X12_qClip (bk_X12_qClip_0 ⟨fun c => ⟨fun c2 => am_c1_i ?_, fun c2 => am_c1_i ?_⟩, fun c => am_c1_i ?_⟩)
  · rw [if_neg (by omega), if_neg (by omega)] at h; exact h
  · rw [if_neg (by omega), if_pos c2] at h; exact h
  · rw [if_pos c] at h; exact h
theorem sq_clip_in {d : Nat} {M : am_M} {f : Int → am_M → Prop} {x : Int} (hx : mi_ok x) (h : f x M) : am_cal pg (d + 1) 296 [(1, x)] sh_T M (am_c1 sh_T f) := by
  refine sq_clip ?_
  unfold pu_cl
  unfold mi_ok at hx
  rw [if_neg (by omega), if_neg (by omega)]
  exact h
theorem sq_floor {d : Nat} {M : am_M} {f : Int → am_M → Prop} {x y : Int} (hx : mi_ok x) (hy : mi_ok y) (h : f (pu_fl x y) M) : am_cal pg (d + 1) 297 [(1, x), (1, y)] sh_T M (am_c1 sh_T f) := by
  have ht := tdiv_le (y := y) hx
  unfold pu_fl at h
  refine en_X12_qFloor (bk_X12_qFloor_0 ⟨fun c => ⟨c, ⟨by omega, by omega⟩, c, fun c2 => am_c1_i ?_, fun c2 => ⟨fun c3 => ⟨fun c4 => am_c1_i ?_, fun c4 => ⟨⟨by omega, by omega⟩, am_c1_i ?_⟩⟩, fun c3 => ⟨fun c4 => ⟨⟨by omega, by omega⟩, am_c1_i ?_⟩, fun c4 => am_c1_i ?_⟩⟩⟩, fun c => am_c1_i ?_⟩)
  · rw [if_neg c, if_neg (fun q => q.1 c2)] at h; exact h
  · rw [if_neg c, if_neg (fun q => q.2 (by omega))] at h; exact h
  · rw [if_neg c, if_pos ⟨c2, by omega⟩] at h; exact h
  · rw [if_neg c, if_pos ⟨c2, by omega⟩] at h; exact h
  · rw [if_neg c, if_neg (fun q => q.2 (by omega))] at h; exact h
  · rw [if_pos c] at h; exact h
theorem sq_joins {d : Nat} {M : am_M} {f : am_M → Prop} {c x y : Int} {st : List Int} (hc : 1 ≤ c ∧ c ≤ 11) (hx : mi_ok x) (hy : mi_ok y) (h01 : c ≤ 9 ∨ ((x = 0 ∨ x = 1) ∧ (y = 0 ∨ y = 1))) (hs : qp_s M (y :: x :: st)) (h : ∀ M', qp_f M M' → qp_s M' (ec_j (-c) x y :: st) → f M') : am_cal pg (d + 2) 299 [(2, 152), (0, c)] sh_T M (am_cv sh_T f) := by
  obtain ⟨s1, s2, s3⟩ := hs
  simp only [List.length_cons] at s1 s2 s3
  have ey : M 213 (M 152 89 - 1) = y := by
    have := s3 0 (by omega)
    simp only [List.getD_cons_zero] at this
    rw [← this]; congr 1; omega
  have ex : M 213 (M 152 89 - 2) = x := by
    have := s3 1 (by omega)
    simp only [List.getD_cons_succ, List.getD_cons_zero] at this
    rw [← this]; congr 1; omega
  have hm := mi_mul hx hy
  have hst : qp_s (am_up M 152 89 (M 152 89 - 2)) st := by
    refine ⟨by rw [am_up_at]; omega, by omega, fun i hi => ?_⟩
    rw [am_up_el (by omega)]
    have := s3 (i + 2) (by omega)
    simp only [List.getD_cons_succ] at this
    rw [← this]; congr 1; omega
  have hpf : qp_f M (am_up M 152 89 (M 152 89 - 2)) := fun a j q1 q2 => am_up_el q2
  have put : ∀ z, ec_j (-c) x y = z → am_cal pg (d + 1) 298 [(2, 152), (1, z)] sh_T (am_up M 152 89 (M 152 89 - 2)) (am_cv sh_T fun M7 => am_cv sh_T f (none, sh_T, M7)) := fun z e => sq_puts hst (by omega) (fun M' q1 q2 => am_cv_i (h M' (qp_tr hpf q1) (by rw [e]; exact q2)))
  have hx' := hx
  have hy' := hy
  obtain ⟨x0, x1⟩ := hx
  obtain ⟨y0, y1⟩ := hy
  refine en_X12_qJoins (bk_X12_qJoins_0 ?_)
  rw [ex, ey]
  refine ⟨⟨by omega, by omega⟩, ⟨by omega, by omega⟩, ⟨by omega, by omega⟩, ⟨by omega, by omega⟩, ⟨by omega, by omega⟩, fun q => ⟨⟨by omega, by omega⟩, fun q2 => put _ ?_, fun q2 => put _ ?_⟩, fun q => ⟨⟨by omega, by omega⟩, sq_clip (put _ ?_)⟩, fun q => ⟨⟨by omega, by omega⟩, sq_clip (put _ ?_)⟩, fun q => ⟨hm, sq_clip (put _ ?_)⟩, fun q => sq_floor hx' hy' (put _ ?_), fun q => ⟨fun q2 => put _ ?_, fun q2 => put _ ?_⟩, fun q => ⟨fun q2 => put _ ?_, fun q2 => put _ ?_⟩, fun q => ⟨fun q2 => put _ ?_, fun q2 => put _ ?_⟩, fun q => ⟨fun q2 => put _ ?_, fun q2 => put _ ?_⟩, fun q => ⟨fun q2 => put _ ?_, fun q2 => put _ ?_⟩, fun q => ⟨hm, put _ ?_⟩⟩
  · have e : c = 11 := by omega
    subst e
    have z := h01.elim (fun z => absurd z (by decide)) id
    rw [(ej_an z.1 z.2).2.1, if_neg (by omega)]
  · have e : c = 11 := by omega
    subst e
    have z := h01.elim (fun z => absurd z (by decide)) id
    rw [(ej_an z.1 z.2).2.1, if_pos (by omega)]
  · subst q; exact ej_1
  · subst q; exact ej_2
  · subst q; exact ej_3
  · subst q; exact ej_4
  · subst q
    show (if y < x then y else x) = _
    split <;> omega
  · subst q
    show (if y < x then y else x) = _
    split <;> omega
  · subst q
    show (if x < y then y else x) = _
    split <;> omega
  · subst q
    show (if x < y then y else x) = _
    split <;> omega
  · subst q
    rw [ej_7]; exact am_b_0 (by omega)
  · subst q
    rw [ej_7]; exact am_b_1 q2
  · subst q
    rw [ej_8]; exact am_b_0 (by omega)
  · subst q
    rw [ej_8]; exact am_b_1 q2
  · subst q
    rw [ej_9]; exact am_b_0 q2
  · subst q
    rw [ej_9]; exact am_b_1 q2
  · subst q
    have z := h01.elim (fun z => absurd z (by decide)) id
    exact (ej_an z.1 z.2).1
/-- a part without one behind it -/
theorem sq_part {d t : Nat} {M : am_M} {f : Int → am_M → Prop} {D : dm_D} {w a : Int → Int} {c dr : Int} (hc : 0 ≤ c ∧ c ≤ 4) (ht : t < 200) (hd : rg_is M D) (hw : rw_ok M D (7 * (t : Int)) w) (hdr : M 188 (t : Int) = dr) (ha : a 0 = t ∧ a 1 = dr ∧ a 2 = pu_max w 6 ∧ a 3 = pu_sum w 6 ∧ a 4 = pu_many w 6) (h : f (a c) M) : am_cal pg (d + 4) 300 [(2, 152), (0, c), (0, (t : Int))] sh_T M (am_c1 sh_T f) := by
  have hN := hd.1.1
  have hcn := rg_cn hd
  have hro := rw_ro hw
  have e3 : (M 174 3).toNat = dN D := by rw [hd.2.1]; omega
  have en : ∀ k : Nat, k < dN D → ro M (7 * (t : Int)) (k : Int) = w k := fun k hk => hw.2.1 k (by omega) (by omega)
  obtain ⟨a0, a1, a2, a3, a4⟩ := ha
  refine en_X12_qPartOf (bk_X12_qPartOf_0 ⟨fun q => ⟨⟨by omega, by omega⟩, sp_manyAt hcn hro (am_c1_i ?_)⟩, fun q => am_c1_i ?_, fun q => ⟨⟨by omega, by omega⟩, am_c1_i ?_⟩, fun q => en_X12_worstOf (bk_X12_worstOf_0 ⟨⟨by omega, by omega⟩, sp_greatestAt hcn hro (am_c1_i (am_c1_i ?_))⟩), fun q => ⟨⟨by omega, by omega⟩, sp_sumAt hcn hro (am_c1_i ?_)⟩⟩)
  · rw [e3, pu_many_eq (dN D) en, ← pu_many_6 hN hw.2.2.1 hw.2.2.2, ← a4]
    rw [show c = 4 by omega] at h
    exact h
  · rw [q, a0] at h; exact h
  · rw [q, a1] at h
    rw [hdr]; exact h
  · rw [e3, pu_max_eq (dN D) en, ← pu_max_6 hN hw.2.2.1 hw.2.2.2, ← a2]
    rw [q] at h
    exact h
  · rw [e3, pu_sum_eq (dN D) en, ← pu_sum_6 hN hw.2.2.1 hw.2.2.2, ← a3]
    rw [q] at h
    exact h
theorem sq_of {d t : Nat} {M : am_M} {f : Int → am_M → Prop} {D : dm_D} {w : Int → Int} {x k : Int} (ht : t < 200) (hx : mi_ok x) (hd : rg_is M D) (hw : rw_ok M D (7 * (t : Int)) w) (h : f (if 0 ≤ x ∧ x < 6 then w x else 0) M) : am_cal pg (d + 2) 301 [(2, 152), (0, k), (1, x), (0, (t : Int))] sh_T M (am_c1 sh_T f) := by
  have hN := hd.1.1
  obtain ⟨x0, x1⟩ := hx
  refine en_X12_qOf (bk_X12_qOf_0 (sp_dreadMany ?_))
  rw [hd.2.1]
  refine ⟨⟨by omega, by omega⟩, sp_isIn ⟨fun y => am_c1_i ?_, fun y => ?_⟩⟩
  · have y' := am_b_z.mp y
    by_cases c : 0 ≤ x ∧ x < 6
    · rw [if_pos c, hw.2.2.2 x (by omega) c.2] at h; exact h
    · rw [if_neg c] at h; exact h
  · have y' := am_b_nz y
    rw [if_pos ⟨y'.1, by omega⟩] at h
    have e : M 187 (7 * (t : Int) + x) = w x := hw.2.1 x y'.1 (by omega)
    refine ⟨⟨by omega, by omega⟩, ⟨by omega, by omega⟩, ⟨by omega, by omega⟩, ⟨by omega, by omega⟩, am_c1_i ?_⟩
    rw [e]; exact h
theorem sq_told_g {d t : Nat} {M0 : am_M} {f : Int → am_M → Prop} {D : dm_D} {w a : Int → Int} {dr x : Int} {C0 : List Int} (ht : t < 200) (hd : rg_is M0 D) (hw : rw_ok M0 D (7 * (t : Int)) w) (hdr : M0 188 (t : Int) = dr) (hdi : mi_ok dr) (ha : a 0 = t ∧ a 1 = dr ∧ a 2 = pu_max w 6 ∧ a 3 = pu_sum w 6 ∧ a 4 = pu_many w 6) (hC : M0 152 83 = C0.length ∧ C0.length ≤ 1600 ∧ ∀ i : Nat, i < C0.length → M0 211 i = C0.getD i 0) (h : ∀ M', qp_f M0 M' → f x M') : ∀ (cs : List Int) (k : Nat) (M : am_M) (st : List Int), qp_f M0 M → qp_s M st → (∀ z ∈ st, mi_ok z) → k + cs.length = C0.length → (∀ i : Nat, i < cs.length → C0.getD (k + i) 0 = cs.getD i 0) → qe_ a w cs st = some [x] → am_g 12 1 co_X12_qTold (d + 4) (am_c1 sh_T f) 7 [(2, 152), (0, (t : Int)), (0, (k : Int)), (3, 0)] [] sh_T M := by
  obtain ⟨hC1, hC2, hC3⟩ := hC
  have hwk : ∀ k : Nat, k < 6 → 0 ≤ w k ∧ w k ≤ 999 := fun k hk => hw.2.2.1 k (by omega) (by omega)
  have hb : ∀ i : Int, 0 ≤ i → i ≤ 4 → mi_ok (a i) := fun i i0 i1 => by
    have q : ∀ i : Int, mi_ok (pu_ask w 6 0 0 i) := fun i => pu_ask_le (Nat.le_refl _) hw.2.2.1 (by decide) (by decide) i
    obtain ⟨a0, a1, a2, a3, a4⟩ := ha
    rcases (show i = 0 ∨ i = 1 ∨ i = 2 ∨ i = 3 ∨ i = 4 by omega) with z | z | z | z | z
    · rw [z, a0]; exact ⟨by omega, by omega⟩
    · rw [z, a1]; exact hdi
    · rw [z, a2]; exact q 1
    · rw [z, a3]; exact q 2
    · rw [z, a4]; exact q 3
  intro cs
  induction cs with
  | nil =>
    intro k M st hf hs hm hk hc he
    have he : some st = some [x] := he
    cases he
    rw [List.length_nil] at hk
    have e1 : M 152 83 = C0.length := (hf 152 83 (by omega) (by omega)).trans hC1
    have e2 : M 213 0 = x := by
      have := hs.2.2 0 Nat.zero_lt_one
      simpa using this
    refine bk_X12_qTold_7 ⟨fun _ => am_c1_i ?_, fun y => by omega⟩
    rw [e2]; exact h M hf
  | cons c cs ih =>
    intro k M st hf hs hm hk hc he
    rw [List.length_cons] at hk hc
    have e1 : M 152 83 = C0.length := (hf 152 83 (by omega) (by omega)).trans hC1
    have e3 : M 211 (k : Int) = c := by
      rw [hf 211 _ (by omega) (by omega), hC3 k (by omega)]
      have := hc 0 (by omega)
      exact this
    have hd1 : rg_is M D := rg_is_fr (fun x j x1 x2 => hf x j (by omega) (by omega)) hd
    have hw1 : rw_ok M D (7 * (t : Int)) w := rw_fr (fun k k0 k1 => hf 187 _ (by omega) (by omega)) hw
    have hdr1 : M 188 (t : Int) = dr := (hf 188 _ (by omega) (by omega)).trans hdr
    have next : ∀ (M' : am_M) (st' : List Int), qp_f M M' → qp_s M' st' → (∀ z ∈ st', mi_ok z) → qe_ a w cs st' = some [x] → am_g 12 1 co_X12_qTold (d + 4) (am_c1 sh_T f) 162 [(2, 152), (0, (t : Int)), (0, (k : Int)), (3, 0)] [] sh_T M' := by
      intro M' st' q1 q2 q3 q4
      refine bk_X12_qTold_162 ⟨⟨by omega, by omega⟩, ih (k + 1) M' st' (qp_tr hf q1) q2 q3 (by omega) (fun i hi => ?_) q4⟩
      have := hc (i + 1) (by omega)
      rw [show k + 1 + i = k + (i + 1) by omega]
      exact this
    have hcons : ∀ (y : Int) (t : List Int), mi_ok y → (∀ z ∈ t, mi_ok z) → ∀ z ∈ y :: t, mi_ok z := fun y t hy ht z hz => by
      rcases List.mem_cons.mp hz with rfl | hz
      · exact hy
      · exact ht z hz
    refine bk_X12_qTold_7 ⟨fun y => by omega, fun _ => ⟨⟨by omega, by omega⟩, ?_⟩⟩
    rw [e3]
    by_cases c1 : 1000 ≤ c
    · rw [qe_n c1] at he
      by_cases c2 : c ≤ 10999 ∧ st.length < 64
      · rw [if_pos c2] at he
        exact ⟨fun q => by omega, fun _ => ⟨⟨by omega, by omega⟩, sq_puts hs c2.2 (fun M' q1 q2 => next M' _ q1 q2 (hcons _ _ ⟨by omega, by omega⟩ hm) he)⟩⟩
      · rw [if_neg c2] at he; cases he
    · refine ⟨fun _ => ?_, fun q => by omega⟩
      by_cases c2 : c = 60
      · subst c2
        rw [qe_60] at he
        refine ⟨fun q => by omega, fun _ => ?_⟩
        cases st with
        | nil => cases he
        | cons y t' =>
          have hm' : ∀ z ∈ t', mi_ok z := fun z hz => hm z (List.mem_cons_of_mem _ hz)
          have hy : mi_ok y := hm y List.mem_cons_self
          have he : qe_ a w cs ((if 0 ≤ y ∧ y < 6 then w y else 0) :: t') = some [x] := he
          obtain ⟨s1, s2, s3⟩ := hs
          rw [List.length_cons] at s1 s2
          have ey : M 213 (M 152 89 - 1) = y := by
            have := s3 0 (by rw [List.length_cons]; omega)
            rw [List.length_cons] at this
            rw [show M 152 89 - 1 = ((t'.length + 1 : Nat) : Int) - 1 - ((0 : Nat) : Int) by omega]
            exact this
          have hv : mi_ok (if 0 ≤ y ∧ y < 6 then w y else 0) := by
            by_cases z : 0 ≤ y ∧ y < 6
            · rw [if_pos z]
              have := hw.2.2.1 y z.1 z.2
              exact ⟨by omega, by omega⟩
            · rw [if_neg z]; exact ⟨by decide, by decide⟩
          rw [ey]
          refine ⟨⟨by omega, by omega⟩, ⟨by decide, by decide⟩, ⟨by omega, by omega⟩, ⟨by omega, by omega⟩, sq_of ht hy hd1 hw1 (sq_clip_in hv (next _ _ (fun a j q1 q2 => am_up_el (by omega)) ⟨?_, by rw [List.length_cons]; omega, fun i hi => ?_⟩ (hcons _ _ hv hm') he))⟩
          · rw [am_up_el (by omega), List.length_cons]; exact s1
          · rw [List.length_cons] at hi ⊢
            cases i with
            | zero =>
              rw [show ((t'.length + 1 : Nat) : Int) - 1 - ((0 : Nat) : Int) = M 152 89 - 1 by omega, am_up_at]
              rfl
            | succ i =>
              rw [am_up_el (by omega)]
              have := s3 (i + 1) (by rw [List.length_cons]; omega)
              rw [List.length_cons] at this
              exact this
      · by_cases c3 : 40 ≤ c ∧ c ≤ 44
        · rw [qe_40 c3] at he
          by_cases c4 : st.length < 64
          · rw [if_pos c4] at he
            have hv := hb (c - 40) (by omega) (by omega)
            exact ⟨fun _ => ⟨fun q => by omega, fun _ => ⟨⟨by omega, by omega⟩, sq_part ⟨by omega, by omega⟩ ht hd1 hw1 hdr1 ha (sq_clip_in hv (sq_puts hs c4 (fun M' q1 q2 => next M' _ q1 q2 (hcons _ _ hv hm) he)))⟩⟩, fun q => by omega⟩
          · rw [if_neg c4] at he; cases he
        · by_cases c4 : c = 13
          · subst c4
            rw [qe_13] at he
            by_cases c5 : st.length < 64
            · rw [if_pos c5] at he
              exact ⟨fun _ => ⟨fun _ => ⟨fun q => absurd rfl q, fun _ => sq_puts hs c5 (fun M' q1 q2 => next M' _ q1 q2 (hcons _ _ ⟨by decide, by decide⟩ hm) he)⟩, fun q => by omega⟩, fun q => by omega⟩
            · rw [if_neg c5] at he; cases he
          · by_cases c5 : c = 12
            · subst c5
              rw [qe_12] at he
              cases st with
              | nil => cases he
              | cons y t' =>
                have hm' : ∀ z ∈ t', mi_ok z := fun z hz => hm z (List.mem_cons_of_mem _ hz)
                have he : (if y = 0 ∨ y = 1 then qe_ a w cs ((1 - y) :: t') else none) = some [x] := he
                by_cases c6 : y = 0 ∨ y = 1
                · rw [if_pos c6] at he
                  obtain ⟨s1, s2, s3⟩ := hs
                  rw [List.length_cons] at s1 s2
                  have ey : M 213 (M 152 89 - 1) = y := by
                    have := s3 0 (by rw [List.length_cons]; omega)
                    rw [List.length_cons] at this
                    rw [show M 152 89 - 1 = ((t'.length + 1 : Nat) : Int) - 1 - ((0 : Nat) : Int) by omega]
                    exact this
                  rw [ey]
                  refine ⟨fun _ => ⟨fun _ => ⟨fun _ => ⟨fun q => absurd rfl q, fun _ => ⟨⟨by omega, by omega⟩, ⟨by omega, by omega⟩, ⟨by omega, by omega⟩, ⟨by omega, by omega⟩, next _ ((1 - y) :: t') (fun a j q1 q2 => am_up_el (by omega)) ⟨?_, by rw [List.length_cons]; omega, fun i hi => ?_⟩ (hcons _ _ ⟨by omega, by omega⟩ hm') he⟩⟩, fun q => absurd q (by decide)⟩, fun q => absurd q (by decide)⟩, fun q => absurd q (by decide)⟩
                  · rw [am_up_el (by omega), List.length_cons]; exact s1
                  · rw [List.length_cons] at hi ⊢
                    cases i with
                    | zero =>
                      rw [show ((t'.length + 1 : Nat) : Int) - 1 - ((0 : Nat) : Int) = M 152 89 - 1 by omega, am_up_at]
                      rfl
                    | succ i =>
                      rw [am_up_el (by omega)]
                      have := s3 (i + 1) (by rw [List.length_cons]; omega)
                      rw [List.length_cons] at this
                      exact this
                · rw [if_neg c6] at he; cases he
            · by_cases c6 : 1 ≤ c ∧ c ≤ 11
              · rw [qe_2 c6] at he
                match st, hs, hm, he with
                | [], _, _, he => cases he
                | [_], _, _, he => cases he
                | y :: z :: t', hs, hm, he =>
                  have he : (if c ≤ 9 ∨ ((z = 0 ∨ z = 1) ∧ (y = 0 ∨ y = 1)) then qe_ a w cs (ec_j (-c) z y :: t') else none) = some [x] := he
                  by_cases c7 : c ≤ 9 ∨ ((z = 0 ∨ z = 1) ∧ (y = 0 ∨ y = 1))
                  · rw [if_pos c7] at he
                    have hy : mi_ok y := hm y List.mem_cons_self
                    have hz : mi_ok z := hm z (List.mem_cons_of_mem _ List.mem_cons_self)
                    have ht' : ∀ v ∈ t', mi_ok v := fun v hw' => hm v (List.mem_cons_of_mem _ (List.mem_cons_of_mem _ hw'))
                    exact ⟨fun _ => ⟨fun _ => ⟨fun _ => ⟨fun _ => sq_joins c6 hz hy c7 hs (fun M' q1 q2 => next M' _ q1 q2 (hcons _ _ (ec_j_le (by omega) hz hy (c7.elim (fun v => Or.inl (by omega)) Or.inr)) ht') he), fun q => absurd q c5⟩, fun q => absurd q c4⟩, fun q => by omega⟩, fun q => by omega⟩
                  · rw [if_neg c7] at he; cases he
              · rw [qe_no c1 c2 c3 (by omega)] at he; cases he
theorem sq_told {d t : Nat} {M : am_M} {f : Int → am_M → Prop} {D : dm_D} {w a : Int → Int} {dr x : Int} {C : List Int} (ht : t < 200) (hd : rg_is M D) (hw : rw_ok M D (7 * (t : Int)) w) (hdr : M 188 (t : Int) = dr) (hdi : mi_ok dr) (ha : a 0 = t ∧ a 1 = dr ∧ a 2 = pu_max w 6 ∧ a 3 = pu_sum w 6 ∧ a 4 = pu_many w 6) (hC : M 152 83 = C.length ∧ C.length ≤ 1600 ∧ ∀ i : Nat, i < C.length → M 211 i = C.getD i 0) (he : qe_ a w C [] = some [x]) (h : ∀ M', qp_f M M' → f x M') : am_cal pg (d + 5) 302 [(2, 152), (0, (t : Int))] sh_T M (am_c1 sh_T f) := by
  have u : ∀ x j, ¬ (x = 152 ∧ j = 89) → am_up M 152 89 0 x j = M x j := fun x j y => am_up_el y
  have r := sq_told_g (d := d) (M0 := am_up M 152 89 0) (f := f) (D := D) (w := w) (a := a) (dr := dr) (x := x) (C0 := C) ht (rg_is_fr (fun x j x1 x2 => u x j (by omega)) hd) (rw_fr (fun k k0 k1 => u 187 _ (by omega)) hw) ((u 188 _ (by omega)).trans hdr) hdi ha ⟨(u 152 83 (by omega)).trans hC.1, hC.2.1, fun i hi => (u 211 _ (by omega)).trans (hC.2.2 i hi)⟩ (fun M' q => h M' (fun a j q1 q2 => (q a j q1 q2).trans (u a j q2))) C 0 (am_up M 152 89 0) [] (fun _ _ _ _ => rfl) ⟨am_up_at, by decide, fun i hi => absurd hi (Nat.not_lt_zero i)⟩ (fun z hz => by cases hz) (Nat.zero_add _) (fun i hi => by rw [Nat.zero_add]) he
  exact en_X12_qTold (bk_X12_qTold_0 r)
