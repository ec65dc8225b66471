/-! THE CLASS'S VALUE OF A QUESTION at a room -/
theorem st_value7_g {d : Nat} {M0 : am_M} {f : Int → am_M → Prop} {m v to x : Int} (hm7 : m ≤ 7) (hv : rk_is v) (hk : ∀ k, ((1 ≤ k ∧ k ≤ 4) ∨ k = 6) → mi_ok (M0 (v + 3) k)) (hw : ∀ k, 0 ≤ k → k < 6 → mi_ok (M0 (v + 4) k)) (hto : to ≤ M0 v 1 ∧ M0 v 1 ≤ 1600) (h : ∀ M', rk_fr v M0 M' → f x M') : ∀ (ss : List Int) (k : Int) (M : am_M) (st : List Int), rk_fr v M0 M → rk_st v M st → (∀ z ∈ st, mi_ok z) → 0 ≤ k → k + ss.length = to → (∀ i : Nat, i < ss.length → M0 (v + 1) (k + i) = ss.getD i 0) → (∀ z ∈ ss, ¬ z = -20 ∧ ¬ z = -25) → ec m (M0 (v + 3)) (M0 (v + 4)) ss st = some [x] → am_g 6 0 co_X6_value (d + 2) (am_c0 sh_T f) 11 [(2, v), (3, 0), (0, to), (0, k), (3, 0), (3, 0)] [] sh_T M := by
  have hv0 := hv
  obtain ⟨a1, ⟨a2, a3⟩, -⟩ := hv0
  intro ss
  induction ss with
  | nil =>
    intro k M st hf hs hm k0 hk1 hst hq he
    unfold ec at he
    cases he
    simp at hk1
    exact bk_X6_value_11 ⟨fun _ => bk_X6_value_153 ⟨a1, st_pop hv hs (fun M' q1 q2 => am_c0_i (h M' (rk_fr_tr hf q1)))⟩, fun c => by omega⟩
  | cons s ss ih =>
    intro k M st hf hs hm k0 hk1 hst hq he
    simp only [List.length_cons] at hk1 hst
    have e1 : M (v + 1) k = s := by
      rw [hf (v + 1) k (by omega) (by omega)]
      have := hst 0 (by omega)
      simpa using this
    have e2 : M v 1 = M0 v 1 := hf v 1 (by omega) (by omega)
    have next : ∀ (M' : am_M) (st' : List Int), rk_fr v M M' → rk_st v M' st' → (∀ z ∈ st', mi_ok z) → ec m (M0 (v + 3)) (M0 (v + 4)) ss st' = some [x] → am_g 6 0 co_X6_value (d + 2) (am_c0 sh_T f) 147 [(2, v), (3, 0), (0, to), (0, k), (3, 0), (3, 0)] [] sh_T M' := by
      intro M' st' q1 q2 q3 q4
      refine bk_X6_value_147 ⟨⟨by omega, by omega⟩, ih (k + 1) M' st' (rk_fr_tr hf q1) q2 q3 (by omega) (by omega) (fun i hi => ?_) (fun z hz => hq z (List.mem_cons_of_mem _ hz)) q4⟩
      have := hst (i + 1) (by omega)
      simp only [List.getD_cons_succ] at this
      rw [← this]
      congr 1
      omega
    have hcons : ∀ (y : Int) (t : List Int), mi_ok y → (∀ z ∈ t, mi_ok z) → ∀ z ∈ y :: t, mi_ok z := fun y t hy ht z hz => by
      rcases List.mem_cons.mp hz with rfl | hz
      · exact hy
      · exact ht z hz
    unfold ec at he
    refine bk_X6_value_11 ⟨fun c => by omega, fun _ => ⟨a1, fun c => by omega, fun _ => ⟨_, a2, fun c => by omega, fun c => ⟨(a3 k k0 (by omega)).1, ?_⟩⟩⟩⟩
    rw [e1]
    by_cases c0 : 0 ≤ s
    · rw [if_pos c0] at he
      by_cases c1 : s ≤ 9999 ∧ st.length < 64
      · rw [if_pos c1] at he
        exact ⟨fun q => by omega, fun _ => st_push hv hs c1.2 (fun M' q1 q2 => next M' _ q1 q2 (hcons _ _ ⟨by omega, by omega⟩ hm) he)⟩
      · rw [if_neg c1] at he; cases he
    · rw [if_neg c0] at he
      refine ⟨fun _ => ?_, fun q => by omega⟩
      by_cases c1 : s ≤ -20
      · rw [if_pos c1] at he
        by_cases c2 : -20 - s < m ∧ st.length < 64
        · rw [if_pos c2] at he
          refine ⟨fun q => by omega, fun _ => ⟨⟨by omega, by omega⟩, st_fact hv (by omega) (by omega) ?_⟩⟩
          rw [hf (v + 3) _ (by omega) (by omega)]
          exact st_push hv hs c2.2 (fun M' q1 q2 => next M' _ q1 q2 (hcons _ _ (hk _ (by have := hq s List.mem_cons_self; omega)) hm) he)
        · rw [if_neg c2] at he; cases he
      · rw [if_neg c1] at he
        refine ⟨fun _ => ?_, fun q => by omega⟩
        by_cases c2 : s = -12
        · rw [if_pos c2] at he
          refine ⟨fun q => absurd c2 q, fun _ => ?_⟩
          cases st with
          | nil => cases he
          | cons y t =>
            have hm' : ∀ z ∈ t, mi_ok z := fun z hz => hm z (List.mem_cons_of_mem _ hz)
            have hl : t.length < 64 := by have := hs.2.1; simp at this; omega
            refine st_pop hv hs (fun M' q1 q2 => ⟨fun q => st_push hv q2 hl (fun M2 q3 q4 => next M2 _ (rk_fr_tr q1 q3) q4 (hcons _ _ ⟨by decide, by decide⟩ hm') ?_), fun q => st_push hv q2 hl (fun M2 q3 q4 => next M2 _ (rk_fr_tr q1 q3) q4 (hcons _ _ ⟨by decide, by decide⟩ hm') ?_)⟩)
            · have he : ec m (M0 (v + 3)) (M0 (v + 4)) ss ((if y = 0 then 1 else 0) :: t) = some [x] := he
              rw [if_neg q] at he; exact he
            · have he : ec m (M0 (v + 3)) (M0 (v + 4)) ss ((if y = 0 then 1 else 0) :: t) = some [x] := he
              rw [if_pos q] at he; exact he
        · rw [if_neg c2] at he
          refine ⟨fun _ => ?_, fun q => absurd q c2⟩
          by_cases c3 : s = -13
          · rw [if_pos c3] at he
            refine ⟨fun q => absurd c3 q, fun _ => ?_⟩
            cases st with
            | nil => cases he
            | cons y t =>
              have hm' : ∀ z ∈ t, mi_ok z := fun z hz => hm z (List.mem_cons_of_mem _ hz)
              have hl : t.length < 64 := by have := hs.2.1; simp at this; omega
              have he : ec m (M0 (v + 3)) (M0 (v + 4)) ss ((if 0 ≤ y ∧ y < 6 then M0 (v + 4) y else 0) :: t) = some [x] := he
              refine st_pop hv hs (fun M' q1 q2 => st_weightOf hv ?_)
              rw [q1 (v + 4) y (by omega) (by omega), hf (v + 4) y (by omega) (by omega)]
              refine st_push hv q2 hl (fun M2 q3 q4 => next M2 _ (rk_fr_tr q1 q3) q4 (hcons _ _ ?_ hm') he)
              split
              · rename_i hy; exact hw y hy.1 hy.2
              · exact ⟨by decide, by decide⟩
          · rw [if_neg c3] at he
            refine ⟨fun _ => ?_, fun q => absurd q c3⟩
            by_cases c4 : -11 ≤ s
            · rw [if_pos c4] at he
              match st, hs, hm, he with
              | [], _, _, he => cases he
              | [_], _, _, he => cases he
              | y :: z :: t, hs, hm, he =>
                have he : (if -9 ≤ s ∨ ((z = 0 ∨ z = 1) ∧ (y = 0 ∨ y = 1)) then ec m (M0 (v + 3)) (M0 (v + 4)) ss (ec_j s z y :: t) else none) = some [x] := he
                by_cases c5 : -9 ≤ s ∨ ((z = 0 ∨ z = 1) ∧ (y = 0 ∨ y = 1))
                · rw [if_pos c5] at he
                  have hy : mi_ok y := hm y List.mem_cons_self
                  have hz : mi_ok z := hm z (List.mem_cons_of_mem _ List.mem_cons_self)
                  have ht : ∀ w ∈ t, mi_ok w := fun w hw' => hm w (List.mem_cons_of_mem _ (List.mem_cons_of_mem _ hw'))
                  have hl : t.length < 64 := by have := hs.2.1; simp at this; omega
                  exact st_pop hv hs (fun M1 q1 q2 => st_pop hv q2 (fun M2 q3 q4 => st_join (by omega) hz hy (st_push hv q4 hl (fun M3 q5 q6 => next M3 _ (rk_fr_tr q1 (rk_fr_tr q3 q5)) q6 (hcons _ _ (ec_j_le (by omega) hz hy c5) ht) he))))
                · rw [if_neg c5] at he; cases he
            · rw [if_neg c4] at he; cases he
theorem st_value7 {d : Nat} {M : am_M} {f : Int → am_M → Prop} {m v fr to x : Int} {ss : List Int} (hm7 : m ≤ 7) (hv : rk_is v) (hk : ∀ k, ((1 ≤ k ∧ k ≤ 4) ∨ k = 6) → mi_ok (M (v + 3) k)) (hw : ∀ k, 0 ≤ k → k < 6 → mi_ok (M (v + 4) k)) (hto : to ≤ M v 1 ∧ M v 1 ≤ 1600) (h0 : 0 ≤ fr) (hl : fr + ss.length = to) (hs : ∀ i : Nat, i < ss.length → M (v + 1) (fr + i) = ss.getD i 0) (hq : ∀ z ∈ ss, ¬ z = -20 ∧ ¬ z = -25) (he : ec m (M (v + 3)) (M (v + 4)) ss [] = some [x]) (h : ∀ M', rk_fr v M M' → f x M') : am_cal pg (d + 3) 64 [(2, v), (0, fr), (0, to)] sh_T M (am_c0 sh_T f) := by
  have hfr : rk_fr v M (am_up M v 3 0) := fun a j q1 q2 => am_up_el q2
  refine en_X6_value (bk_X6_value_0 ⟨hv.1, st_max ?_⟩)
  rw [if_neg (by omega)]
  refine st_value7_g hm7 hv hk hw hto h ss fr _ [] hfr ⟨am_up_at, by simp, fun i hi => by simp at hi⟩ (fun z hz => by simp at hz) h0 hl hs hq he

/-- a room's value in the class -/
theorem st_valueIn {d T t : Nat} {M : am_M} {f : Int → am_M → Prop} {w : Int → Int} {C : List Int} {dr x : Int} {a : Int → Int} (hT : M 88 2 = T ∧ T ≤ 200) (ht : t < T) (hr : ∀ k : Int, 0 ≤ k → k < 6 → M 89 (6 * (t : Int) + k) = w k) (hw : we_ok w) (hd : M 90 t = dr) (hdr : mi_ok dr) (hC : M 6 1 = C.length ∧ C.length ≤ 1600 ∧ ∀ i : Nat, i < C.length → M 7 i = qv (C.getD i 0)) (ha : a 0 = t ∧ a 1 = dr ∧ a 2 = pu_max w 6 ∧ a 3 = pu_sum w 6 ∧ a 4 = pu_many w 6) (he : qe_ a w C [] = some [x]) (h : ∀ M', (∀ x j, ¬ (8 ≤ x ∧ x ≤ 10) → ¬ (x = 6 ∧ j = 3) → M' x j = M x j) → f x M') : am_cal pg (d + 4) 58 [(2, 5), (2, 88), (0, (t : Int))] sh_T M (am_c0 sh_T f) := by
  have er : ∀ k : Int, 0 ≤ k → k < 6 → M 89 ((t : Int) * 6 + k) = w k := fun k k0 k1 => by rw [show (t : Int) * 6 + k = 6 * (t : Int) + k by omega]; exact hr k k0 k1
  have e6 : we_eq (fun k => M 89 ((t : Int) * 6 + k)) w := er
  have nn : ∀ k : Nat, k < 6 → (fun k => M 89 ((t : Int) * 6 + k)) (k : Int) = w (k : Int) := fun k hk => er k (by omega) (by omega)
  have nm : ∀ k : Nat, (k : Int) < 6 → (fun k => M 89 ((t : Int) * 6 + k)) (k : Int) = w (k : Int) := fun k hk => er k (by omega) hk
  refine en_X5_valueIn (bk_X5_valueIn_0 ⟨ob_88, ⟨by omega, by omega⟩, st_see (n := 1206) rk_6 rfl (fun i h1 h2 => ia_89 h1 h2) (by omega) (by omega) (by decide) (by decide) (we_ok_eq (we_eq_sy e6) hw) ?_⟩)
  rw [show (88 : Int) + 1 = 89 by decide, pu_max_eq 6 nn, pu_many_eq 6 nn, pu_sum_eq 6 (fun j hj => nn j hj)]
  generalize hM1 : am_up (am_up (am_up (am_rs M (6 + 4) 0 (fun k => M 89 ((t : Int) * 6 + k)) 6) (6 + 3) 1 (pu_max w 6)) (6 + 3) 2 (pu_sum w 6)) (6 + 3) 3 (pu_many w 6) = M1
  have f1 : ∀ x j, ¬ x = 9 → ¬ x = 10 → M1 x j = M x j := fun x j x1 x2 => by rw [← hM1, am_up_el (by omega), am_up_el (by omega), am_up_el (by omega), am_rs_el (by omega)]
  have m1 : M1 9 1 = pu_max w 6 := by rw [← hM1, am_up_el (by omega), am_up_el (by omega), show (6 : Int) + 3 = 9 by decide, am_up_at]
  have m2 : M1 9 2 = pu_sum w 6 := by rw [← hM1, am_up_el (by omega), show (6 : Int) + 3 = 9 by decide, am_up_at]
  have m3 : M1 9 3 = pu_many w 6 := by rw [← hM1, show (6 : Int) + 3 = 9 by decide, am_up_at]
  have w1 : ∀ k : Int, 0 ≤ k → k < 6 → M1 10 k = w k := fun k k0 k1 => by
    rw [← hM1, am_up_el (by omega), am_up_el (by omega), am_up_el (by omega), show (6 : Int) + 4 = 10 by decide, am_rs_at k0 (by omega), show k - 0 = k by omega]
    exact er k k0 k1
  refine st_know rk_6 (by decide) (by decide) (st_dreadIn ?_)
  rw [am_up_el (by omega), am_up_el (by omega), f1 88 2 (by decide) (by decide), f1 90 _ (by decide) (by decide), hT.1, if_pos ⟨by omega, by omega, by omega⟩, hd]
  refine st_know rk_6 (by decide) (by decide) ?_
  generalize hM2 : am_up (am_up M1 (6 + 3) 6 (t : Int)) (6 + 3) 4 dr = M2
  have f2 : ∀ x j, ¬ (x = 9 ∧ (j = 4 ∨ j = 6)) → M2 x j = M1 x j := fun x j y => by rw [← hM2, am_up_el (by omega), am_up_el (by omega)]
  have n6 : M2 9 6 = (t : Int) := by rw [← hM2, am_up_el (by omega), show (6 : Int) + 3 = 9 by decide, am_up_at]
  have n4 : M2 9 4 = dr := by rw [← hM2, show (6 : Int) + 3 = 9 by decide, am_up_at]
  have n1 : M2 9 1 = pu_max w 6 := (f2 9 1 (by omega)).trans m1
  have n2 : M2 9 2 = pu_sum w 6 := (f2 9 2 (by omega)).trans m2
  have n3 : M2 9 3 = pu_many w 6 := (f2 9 3 (by omega)).trans m3
  have hw' : ∀ k : Nat, k < 6 → 0 ≤ w k ∧ w k ≤ 999 := fun k hk => hw k (by omega) (by omega)
  have hb : mi_ok (pu_max w 6) ∧ mi_ok (pu_sum w 6) ∧ mi_ok (pu_many w 6) := by
    have q : ∀ i : Int, mi_ok (pu_ask w 6 0 0 i) := fun i => pu_ask_le (Nat.le_refl _) hw (by decide) (by decide) i
    exact ⟨q 1, q 2, q 3⟩
  have hec := qe_ec (a := a) (wt := w) (kn := M2 9) ⟨n6.trans ha.1.symm, n4.trans ha.2.1.symm, n1.trans ha.2.2.1.symm, n2.trans ha.2.2.2.1.symm, n3.trans ha.2.2.2.2.symm⟩ C [] [x] he
  have e61 : M2 6 1 = C.length := by rw [f2 6 1 (by omega), f1 6 1 (by decide) (by decide)]; exact hC.1
  have ecw : ∀ (S st : List Int), ec 7 (M2 9) (M2 10) S st = ec 7 (M2 9) w S st := by
    intro S
    induction S with
    | nil => exact fun st => rfl
    | cons s S ih =>
      intro st
      unfold ec
      by_cases c0 : 0 ≤ s
      · rw [if_pos c0, if_pos c0, ih]
      · rw [if_neg c0, if_neg c0]
        by_cases c1 : s ≤ -20
        · rw [if_pos c1, if_pos c1, ih]
        · rw [if_neg c1, if_neg c1]
          by_cases c2 : s = -12
          · rw [if_pos c2, if_pos c2]
            cases st with
            | nil => rfl
            | cons y t => exact ih _
          · rw [if_neg c2, if_neg c2]
            by_cases c3 : s = -13
            · rw [if_pos c3, if_pos c3]
              cases st with
              | nil => rfl
              | cons y t =>
                have ey : (if 0 ≤ y ∧ y < 6 then M2 10 y else 0) = (if 0 ≤ y ∧ y < 6 then w y else 0) := by
                  by_cases c : 0 ≤ y ∧ y < 6
                  · rw [if_pos c, if_pos c, f2 10 y (by omega)]; exact w1 y c.1 c.2
                  · rw [if_neg c, if_neg c]
                show ec 7 (M2 9) (M2 10) S ((if 0 ≤ y ∧ y < 6 then M2 10 y else 0) :: t) = ec 7 (M2 9) w S ((if 0 ≤ y ∧ y < 6 then w y else 0) :: t)
                rw [ey]; exact ih _
            · rw [if_neg c3, if_neg c3]
              by_cases c4 : -11 ≤ s
              · rw [if_pos c4, if_pos c4]
                match st with
                | [] => rfl
                | [_] => rfl
                | y :: z :: t =>
                  show (if -9 ≤ s ∨ ((z = 0 ∨ z = 1) ∧ (y = 0 ∨ y = 1)) then ec 7 (M2 9) (M2 10) S (ec_j s z y :: t) else none) = (if -9 ≤ s ∨ ((z = 0 ∨ z = 1) ∧ (y = 0 ∨ y = 1)) then ec 7 (M2 9) w S (ec_j s z y :: t) else none)
                  rw [ih]
              · rw [if_neg c4, if_neg c4]
  refine st_value7 (v := 6) (m := 7) (ss := C.map qv) (by decide) rk_6 (fun k hk => ?_) (fun k k0 k1 => ?_) ⟨Int.le_refl _, by rw [e61]; omega⟩ (by decide) (by rw [List.length_map, e61]; omega) (fun i hi => ?_) (fun z hz => ?_) ((ecw _ _).trans hec.1) (fun M3 f3 => am_c0_i (h M3 (fun x j x1 x2 => ?_)))
  · show mi_ok (M2 9 k)
    rcases hk with hk | hk
    · rcases (show k = 1 ∨ k = 2 ∨ k = 3 ∨ k = 4 by omega) with z | z | z | z
      · rw [z, n1]; exact hb.1
      · rw [z, n2]; exact hb.2.1
      · rw [z, n3]; exact hb.2.2
      · rw [z, n4]; exact hdr
    · rw [hk, n6]; exact ⟨by omega, by omega⟩
  · show mi_ok (M2 10 k)
    rw [f2 10 k (by omega), w1 k k0 k1]
    have := hw k k0 k1
    exact ⟨by omega, by omega⟩
  · rw [List.length_map] at hi
    show M2 7 (0 + (i : Int)) = _
    rw [Int.zero_add, f2 7 _ (by omega), f1 7 _ (by decide) (by decide), hC.2.2 i hi]
    rw [List.getD_eq_getElem?_getD, List.getD_eq_getElem?_getD, List.getElem?_map, List.getElem?_eq_getElem hi]
    rfl
  · obtain ⟨c, hc, rfl⟩ := List.mem_map.mp hz
    have q := hec.2 c hc
    unfold qk_ at q
    unfold qv
    split
    · omega
    · split
      · omega
      · split
        · omega
        · split
          · omega
          · split
            · omega
            · split
              · omega
              · split
                · omega
                · split
                  · omega
                  · omega
  · rw [f3 x j (by omega) (by omega), f2 x j (by omega), f1 x j (by omega) (by omega)]
