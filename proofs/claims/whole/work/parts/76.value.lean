/-! WHAT STEPS GIVE: the class's reckoner run over a stretch of them -/
def ec (m : Int) (kn wt : Int → Int) : List Int → List Int → Option (List Int)
  | [], st => some st
  | s :: ss, st =>
    if 0 ≤ s then (if s ≤ 9999 ∧ st.length < 64 then ec m kn wt ss (s :: st) else none)
    else if s ≤ -20 then (if -20 - s < m ∧ st.length < 64 then ec m kn wt ss (kn (-20 - s) :: st) else none)
    else if s = -12 then (match st with
      | x :: t => ec m kn wt ss ((if x = 0 then 1 else 0) :: t)
      | [] => none)
    else if s = -13 then (match st with
      | x :: t => ec m kn wt ss ((if 0 ≤ x ∧ x < 6 then wt x else 0) :: t)
      | [] => none)
    else if -11 ≤ s then (match st with
      | y :: x :: t => if -9 ≤ s ∨ ((x = 0 ∨ x = 1) ∧ (y = 0 ∨ y = 1)) then ec m kn wt ss (ec_j s x y :: t) else none
      | _ => none)
    else none
theorem ec_j_le {s x y : Int} (hn : s < 0) (hx : mi_ok x) (hy : mi_ok y) (h : -9 ≤ s ∨ ((x = 0 ∨ x = 1) ∧ (y = 0 ∨ y = 1))) : mi_ok (ec_j s x y) := by
  have hb : ∀ (p : Prop) [Decidable p], mi_ok (am_b p) := fun p _ => by
    rcases am_b_01 (p := p) with q | q <;> rw [q] <;> exact ⟨by decide, by decide⟩
  have two : ((x = 0 ∨ x = 1) ∧ (y = 0 ∨ y = 1)) → mi_ok (am_band x y) ∧ mi_ok (am_bor x y) := by
    rintro ⟨rfl | rfl, rfl | rfl⟩ <;> exact ⟨⟨by decide +kernel, by decide +kernel⟩, ⟨by decide +kernel, by decide +kernel⟩⟩
  unfold ec_j
  split
  · exact pu_cl_le _
  split
  · exact pu_cl_le _
  split
  · exact pu_cl_le _
  split
  · exact pu_fl_le hx
  split
  · split
    · exact hy
    · exact hx
  split
  · split
    · exact hy
    · exact hx
  split
  · exact hb _
  split
  · exact hb _
  split
  · exact hb _
  split
  · rename_i hs
    rcases h with h | h
    · omega
    · exact (two h).1
  · rename_i hs
    rcases h with h | h
    · omega
    · exact (two h).2
theorem st_value_g {d : Nat} {M0 : am_M} {f : Int → am_M → Prop} {m v to x : Int} (hm7 : m ≤ 7) (hv : rk_is v) (hk : ∀ k, 0 ≤ k → k < m → mi_ok (M0 (v + 3) k)) (hw : ∀ k, 0 ≤ k → k < 6 → mi_ok (M0 (v + 4) k)) (hto : to ≤ M0 v 1 ∧ M0 v 1 ≤ 1600) (h : ∀ M', rk_fr v M0 M' → f x M') : ∀ (ss : List Int) (k : Int) (M : am_M) (st : List Int), rk_fr v M0 M → rk_st v M st → (∀ z ∈ st, mi_ok z) → 0 ≤ k → k + ss.length = to → (∀ i : Nat, i < ss.length → M0 (v + 1) (k + i) = ss.getD i 0) → ec m (M0 (v + 3)) (M0 (v + 4)) ss st = some [x] → am_g 6 0 co_X6_value (d + 2) (am_c0 sh_T f) 11 [(2, v), (3, 0), (0, to), (0, k), (3, 0), (3, 0)] [] sh_T M := by
  have hv0 := hv
  obtain ⟨a1, ⟨a2, a3⟩, -⟩ := hv0
  intro ss
  induction ss with
  | nil =>
    intro k M st hf hs hm k0 hk1 hst he
    unfold ec at he
    cases he
    simp at hk1
    exact bk_X6_value_11 ⟨fun _ => bk_X6_value_153 ⟨a1, st_pop hv hs (fun M' q1 q2 => am_c0_i (h M' (rk_fr_tr hf q1)))⟩, fun c => by omega⟩
  | cons s ss ih =>
    intro k M st hf hs hm k0 hk1 hst he
    simp only [List.length_cons] at hk1 hst
    have e1 : M (v + 1) k = s := by
      rw [hf (v + 1) k (by omega) (by omega)]
      have := hst 0 (by omega)
      simpa using this
    have e2 : M v 1 = M0 v 1 := hf v 1 (by omega) (by omega)
    have next : ∀ (M' : am_M) (st' : List Int), rk_fr v M M' → rk_st v M' st' → (∀ z ∈ st', mi_ok z) → ec m (M0 (v + 3)) (M0 (v + 4)) ss st' = some [x] → am_g 6 0 co_X6_value (d + 2) (am_c0 sh_T f) 147 [(2, v), (3, 0), (0, to), (0, k), (3, 0), (3, 0)] [] sh_T M' := by
      intro M' st' q1 q2 q3 q4
      refine bk_X6_value_147 ⟨⟨by omega, by omega⟩, ih (k + 1) M' st' (rk_fr_tr hf q1) q2 q3 (by omega) (by omega) (fun i hi => ?_) q4⟩
      have := hst (i + 1) (by omega)
      simp only [List.getD_cons_succ] at this
      rw [← this]
      congr 1
      omega
    have hcons : ∀ (y : Int) (t : List Int), mi_ok y → (∀ z ∈ t, mi_ok z) → ∀ z ∈ y :: t, mi_ok z := fun y t hy ht z hz => by
      rcases List.mem_cons.mp hz with rfl | hz
      · exact hy
      · exact ht z hz
    unfold ec at he
    refine bk_X6_value_11 ⟨fun c => by omega, fun _ => ⟨a1, fun c => by omega, fun _ => ⟨_, a2, fun c => by omega, fun c => ⟨(a3 k k0 (by omega)).1, ?_⟩⟩⟩⟩
    rw [e1]
    by_cases c0 : 0 ≤ s
    · rw [if_pos c0] at he
      by_cases c1 : s ≤ 9999 ∧ st.length < 64
      · rw [if_pos c1] at he
        exact ⟨fun q => by omega, fun _ => st_push hv hs c1.2 (fun M' q1 q2 => next M' _ q1 q2 (hcons _ _ ⟨by omega, by omega⟩ hm) he)⟩
      · rw [if_neg c1] at he; cases he
    · rw [if_neg c0] at he
      refine ⟨fun _ => ?_, fun q => by omega⟩
      by_cases c1 : s ≤ -20
      · rw [if_pos c1] at he
        by_cases c2 : -20 - s < m ∧ st.length < 64
        · rw [if_pos c2] at he
          refine ⟨fun q => by omega, fun _ => ⟨⟨by omega, by omega⟩, st_fact hv (by omega) (by omega) ?_⟩⟩
          rw [hf (v + 3) _ (by omega) (by omega)]
          exact st_push hv hs c2.2 (fun M' q1 q2 => next M' _ q1 q2 (hcons _ _ (hk _ (by omega) (by omega)) hm) he)
        · rw [if_neg c2] at he; cases he
      · rw [if_neg c1] at he
        refine ⟨fun _ => ?_, fun q => by omega⟩
        by_cases c2 : s = -12
        · rw [if_pos c2] at he
          refine ⟨fun q => absurd c2 q, fun _ => ?_⟩
          cases st with
          | nil => cases he
          | cons y t =>
            have hm' : ∀ z ∈ t, mi_ok z := fun z hz => hm z (List.mem_cons_of_mem _ hz)
            have hl : t.length < 64 := by have := hs.2.1; simp at this; omega
            refine st_pop hv hs (fun M' q1 q2 => ⟨fun q => st_push hv q2 hl (fun M2 q3 q4 => next M2 _ (rk_fr_tr q1 q3) q4 (hcons _ _ ⟨by decide, by decide⟩ hm') ?_), fun q => st_push hv q2 hl (fun M2 q3 q4 => next M2 _ (rk_fr_tr q1 q3) q4 (hcons _ _ ⟨by decide, by decide⟩ hm') ?_)⟩)
            · have he : ec m (M0 (v + 3)) (M0 (v + 4)) ss ((if y = 0 then 1 else 0) :: t) = some [x] := he
              rw [if_neg q] at he; exact he
            · have he : ec m (M0 (v + 3)) (M0 (v + 4)) ss ((if y = 0 then 1 else 0) :: t) = some [x] := he
              rw [if_pos q] at he; exact he
        · rw [if_neg c2] at he
          refine ⟨fun _ => ?_, fun q => absurd q c2⟩
          by_cases c3 : s = -13
          · rw [if_pos c3] at he
            refine ⟨fun q => absurd c3 q, fun _ => ?_⟩
            cases st with
            | nil => cases he
            | cons y t =>
              have hm' : ∀ z ∈ t, mi_ok z := fun z hz => hm z (List.mem_cons_of_mem _ hz)
              have hl : t.length < 64 := by have := hs.2.1; simp at this; omega
              have he : ec m (M0 (v + 3)) (M0 (v + 4)) ss ((if 0 ≤ y ∧ y < 6 then M0 (v + 4) y else 0) :: t) = some [x] := he
              refine st_pop hv hs (fun M' q1 q2 => st_weightOf hv ?_)
              rw [q1 (v + 4) y (by omega) (by omega), hf (v + 4) y (by omega) (by omega)]
              refine st_push hv q2 hl (fun M2 q3 q4 => next M2 _ (rk_fr_tr q1 q3) q4 (hcons _ _ ?_ hm') he)
              split
              · rename_i hy; exact hw y hy.1 hy.2
              · exact ⟨by decide, by decide⟩
          · rw [if_neg c3] at he
            refine ⟨fun _ => ?_, fun q => absurd q c3⟩
            by_cases c4 : -11 ≤ s
            · rw [if_pos c4] at he
              match st, hs, hm, he with
              | [], _, _, he => cases he
              | [_], _, _, he => cases he
              | y :: z :: t, hs, hm, he =>
                have he : (if -9 ≤ s ∨ ((z = 0 ∨ z = 1) ∧ (y = 0 ∨ y = 1)) then ec m (M0 (v + 3)) (M0 (v + 4)) ss (ec_j s z y :: t) else none) = some [x] := he
                by_cases c5 : -9 ≤ s ∨ ((z = 0 ∨ z = 1) ∧ (y = 0 ∨ y = 1))
                · rw [if_pos c5] at he
                  have hy : mi_ok y := hm y List.mem_cons_self
                  have hz : mi_ok z := hm z (List.mem_cons_of_mem _ List.mem_cons_self)
                  have ht : ∀ w ∈ t, mi_ok w := fun w hw' => hm w (List.mem_cons_of_mem _ (List.mem_cons_of_mem _ hw'))
                  have hl : t.length < 64 := by have := hs.2.1; simp at this; omega
                  exact st_pop hv hs (fun M1 q1 q2 => st_pop hv q2 (fun M2 q3 q4 => st_join (by omega) hz hy (st_push hv q4 hl (fun M3 q5 q6 => next M3 _ (rk_fr_tr q1 (rk_fr_tr q3 q5)) q6 (hcons _ _ (ec_j_le (by omega) hz hy c5) ht) he))))
                · rw [if_neg c5] at he; cases he
            · rw [if_neg c4] at he; cases he
theorem st_value {d : Nat} {M : am_M} {f : Int → am_M → Prop} {m v fr to x : Int} {ss : List Int} (hm7 : m ≤ 7) (hv : rk_is v) (hk : ∀ k, 0 ≤ k → k < m → mi_ok (M (v + 3) k)) (hw : ∀ k, 0 ≤ k → k < 6 → mi_ok (M (v + 4) k)) (hto : to ≤ M v 1 ∧ M v 1 ≤ 1600) (h0 : 0 ≤ fr) (hl : fr + ss.length = to) (hs : ∀ i : Nat, i < ss.length → M (v + 1) (fr + i) = ss.getD i 0) (he : ec m (M (v + 3)) (M (v + 4)) ss [] = some [x]) (h : ∀ M', rk_fr v M M' → f x M') : am_cal pg (d + 3) 64 [(2, v), (0, fr), (0, to)] sh_T M (am_c0 sh_T f) := by
  have hfr : rk_fr v M (am_up M v 3 0) := fun a j q1 q2 => am_up_el q2
  refine en_X6_value (bk_X6_value_0 ⟨hv.1, st_max ?_⟩)
  rw [if_neg (by omega)]
  refine st_value_g hm7 hv hk hw hto h ss fr _ [] hfr ⟨am_up_at, by simp, fun i hi => by simp at hi⟩ (fun z hz => by simp at hz) h0 hl hs he
