/-! THE CLASS'S RECKONER: steps, one behind what it is done to; what they give -/
/-- an object is a reckoner: its steps, its stack, what is known, the weights lie in the four cells behind it -/
def rk_is (v : Int) : Prop := am_ob sh_T 6 v ∧ (am_alen pg sh_T (v + 1) = some 1600 ∧ ∀ i, 0 ≤ i → i < 1600 → am_in pg sh_T 1 (v + 1) i ∧ am_own sh_T 1 (v + 1) i) ∧ (am_alen pg sh_T (v + 2) = some 64 ∧ ∀ i, 0 ≤ i → i < 64 → am_in pg sh_T 1 (v + 2) i ∧ am_own sh_T 1 (v + 2) i) ∧ (am_alen pg sh_T (v + 3) = some 7 ∧ ∀ i, 0 ≤ i → i < 7 → am_in pg sh_T 1 (v + 3) i ∧ am_own sh_T 1 (v + 3) i) ∧ (am_alen pg sh_T (v + 4) = some 6 ∧ ∀ i, 0 ≤ i → i < 6 → am_in pg sh_T 1 (v + 4) i ∧ am_own sh_T 1 (v + 4) i)
theorem rk_6 : rk_is 6 := ⟨ob_6, ⟨rfl, fun i h1 h2 => ⟨ia_7 h1 h2, ow_7 h1 h2⟩⟩, ⟨rfl, fun i h1 h2 => ⟨ia_8 h1 h2, ow_8 h1 h2⟩⟩, ⟨rfl, fun i h1 h2 => ⟨ia_9 h1 h2, ow_9 h1 h2⟩⟩, ⟨rfl, fun i h1 h2 => ⟨ia_10 h1 h2, ow_10 h1 h2⟩⟩⟩
theorem rk_17 : rk_is 17 := ⟨ob_17, ⟨rfl, fun i h1 h2 => ⟨ia_18 h1 h2, ow_18 h1 h2⟩⟩, ⟨rfl, fun i h1 h2 => ⟨ia_19 h1 h2, ow_19 h1 h2⟩⟩, ⟨rfl, fun i h1 h2 => ⟨ia_20 h1 h2, ow_20 h1 h2⟩⟩, ⟨rfl, fun i h1 h2 => ⟨ia_21 h1 h2, ow_21 h1 h2⟩⟩⟩
theorem rk_30 : rk_is 30 := ⟨ob_30, ⟨rfl, fun i h1 h2 => ⟨ia_31 h1 h2, ow_31 h1 h2⟩⟩, ⟨rfl, fun i h1 h2 => ⟨ia_32 h1 h2, ow_32 h1 h2⟩⟩, ⟨rfl, fun i h1 h2 => ⟨ia_33 h1 h2, ow_33 h1 h2⟩⟩, ⟨rfl, fun i h1 h2 => ⟨ia_34 h1 h2, ow_34 h1 h2⟩⟩⟩
theorem dr_rk {c : Int} (hc : dr_is c) : rk_is (c + 6) := by
  rcases hc with rfl | rfl
  · exact rk_17
  · exact rk_30
theorem st_min {d : Nat} {M : am_M} {f : Int → am_M → Prop} {x y : Int} (h : f (if y < x then y else x) M) : am_cal pg (d + 1) 318 [(0, x), (0, y)] sh_T M (am_c0 sh_T f) := by
  refine en_J9_min_7cf53 (bk_J9_min_7cf53_0 ⟨fun c => am_c0_i ?_, fun c => am_c0_i ?_⟩)
  · rw [if_pos c] at h; exact h
  · rw [if_neg (by omega)] at h; exact h
theorem st_minL {d : Nat} {M : am_M} {f : Int → am_M → Prop} {x y : Int} (h : f (if y < x then y else x) M) : am_cal pg (d + 1) 319 [(1, x), (1, y)] sh_T M (am_c1 sh_T f) := by
  refine en_J9_min_f86c9 (bk_J9_min_f86c9_0 ⟨fun c => am_c1_i ?_, fun c => am_c1_i ?_⟩)
  · rw [if_pos c] at h; exact h
  · rw [if_neg (by omega)] at h; exact h
theorem st_maxL {d : Nat} {M : am_M} {f : Int → am_M → Prop} {x y : Int} (h : f (if x < y then y else x) M) : am_cal pg (d + 1) 317 [(1, x), (1, y)] sh_T M (am_c1 sh_T f) := by
  refine en_J9_max_f86c9 (bk_J9_max_f86c9_0 ⟨fun c => am_c1_i ?_, fun c => am_c1_i ?_⟩)
  · rw [if_pos c] at h; exact h
  · rw [if_neg (by omega)] at h; exact h
/-- held within a million -/
def pu_cl (x : Int) : Int := if 1000000 < x then 1000000 else if x < -1000000 then -1000000 else x
theorem pu_cl_le (x : Int) : -1000000 ≤ pu_cl x ∧ pu_cl x ≤ 1000000 := by
  unfold pu_cl
  split
  · omega
  · split <;> omega
theorem pu_cl_eq (x : Int) : (if (-1000000 : Int) < (if x < 1000000 then x else 1000000) then (if x < 1000000 then x else 1000000) else -1000000) = pu_cl x := by
  unfold pu_cl
  by_cases h1 : x < 1000000
  · simp only [h1, if_true]
    by_cases h2 : x < -1000000
    · rw [if_neg (by omega), if_neg (by omega), if_pos h2]
    · by_cases h3 : -1000000 < x
      · rw [if_pos h3, if_neg (by omega), if_neg h2]
      · rw [if_neg h3, if_neg (by omega), if_neg h2]; omega
  · simp only [h1, if_false]
    rw [if_pos (by decide)]
    by_cases h2 : 1000000 < x
    · rw [if_pos h2]
    · rw [if_neg h2, if_neg (by omega)]; omega
/-- divided, towards the lower -/
def pu_fl (x y : Int) : Int := if y = 0 then 0 else if ¬ x.tmod y = 0 ∧ ¬ (x < 0 ↔ y < 0) then x.tdiv y - 1 else x.tdiv y
theorem am_bxor_neg {x y : Int} (hx : am_r x) (hy : am_r y) : am_bxor x y < 0 ↔ ¬ (x < 0 ↔ y < 0) := by
  have ex : (Int32.ofInt x).toInt = x := by rw [Int32.toInt_ofInt]; exact am_w_id hx
  have ey : (Int32.ofInt y).toInt = y := by rw [Int32.toInt_ofInt]; exact am_w_id hy
  unfold am_bxor
  have h : ∀ z : Int32, z.toInt < 0 ↔ z.toBitVec.msb = true := fun z => by
    rw [← Int32.toInt_toBitVec, BitVec.msb_eq_toInt]
    simp
  rw [h, Int32.toBitVec_xor, BitVec.msb_xor]
  have hx' := h (Int32.ofInt x)
  have hy' := h (Int32.ofInt y)
  rw [ex] at hx'
  rw [ey] at hy'
  rw [hx', hy']
  cases (Int32.ofInt x).toBitVec.msb <;> cases (Int32.ofInt y).toBitVec.msb <;> simp
theorem tdiv_le {x y : Int} (hx : -1000000 ≤ x ∧ x ≤ 1000000) : -1000000 ≤ x.tdiv y ∧ x.tdiv y ≤ 1000000 := by
  have h := Int.natAbs_tdiv_le_natAbs x y
  omega
theorem pu_fl_le {x y : Int} (hx : -1000000 ≤ x ∧ x ≤ 1000000) : -1000000 ≤ pu_fl x y ∧ pu_fl x y ≤ 1000000 := by
  unfold pu_fl
  have h := tdiv_le (y := y) hx
  split
  · omega
  · split
    · rename_i hy hq
      obtain ⟨q1, q2⟩ := hq
      refine ⟨?_, by omega⟩
      by_cases he : x.tdiv y = -1000000
      · exfalso
        have e := Int.mul_tdiv_add_tmod x y
        rw [he] at e
        have hb : y = 1 ∨ y = -1 ∨ 2 ≤ y ∨ y ≤ -2 := by omega
        rcases hb with rfl | rfl | hb | hb
        · exact q1 (Int.tmod_one x)
        · exact q1 (by rw [Int.tmod_neg]; exact Int.tmod_one x)
        · have hl := Int.natAbs_tdiv_le_natAbs x y
          have : (x.tdiv y).natAbs = x.natAbs / y.natAbs := Int.natAbs_tdiv x y
          have h2 : x.natAbs / y.natAbs ≤ x.natAbs / 2 := Nat.div_le_div_left (by omega) (by decide)
          omega
        · have : (x.tdiv y).natAbs = x.natAbs / y.natAbs := Int.natAbs_tdiv x y
          have h2 : x.natAbs / y.natAbs ≤ x.natAbs / 2 := Nat.div_le_div_left (by omega) (by decide)
          omega
      · omega
    · exact h
theorem st_floorDiv {d : Nat} {M : am_M} {f : Int → am_M → Prop} {x y : Int} (hx : -1000000 ≤ x ∧ x ≤ 1000000) (hy : -1000000 ≤ y ∧ y ≤ 1000000) (hy0 : ¬ y = 0) (h : f (pu_fl x y) M) : am_cal pg (d + 1) 315 [(0, x), (0, y)] sh_T M (am_c0 sh_T f) := by
  have hb := am_bxor_neg (x := x) (y := y) ⟨by omega, by omega⟩ ⟨by omega, by omega⟩
  have ht := tdiv_le (y := y) hx
  have he := Int.mul_tdiv_add_tmod x y
  have hm : (x.tdiv y * y = x) ↔ x.tmod y = 0 := by
    rw [Int.mul_comm]
    constructor
    · intro q; omega
    · intro q; omega
  have hab : (x.tdiv y * y).natAbs ≤ 1000000 := by
    rw [Int.natAbs_mul]
    have : (x.tdiv y).natAbs = x.natAbs / y.natAbs := Int.natAbs_tdiv x y
    rw [this]
    have := Nat.div_mul_le_self x.natAbs y.natAbs
    omega
  unfold pu_fl at h
  rw [if_neg hy0] at h
  refine en_J9_floorDiv_7cf53 (bk_J9_floorDiv_7cf53_0 ⟨hy0, ⟨by omega, by omega⟩, fun c => am_c0_i ?_, fun c => ⟨⟨by omega, by omega⟩, fun c2 => am_c0_i ?_, fun c2 => ⟨⟨by omega, by omega⟩, am_c0_i ?_⟩⟩⟩)
  · rw [if_neg (fun q => by have := hb.mpr q.2; omega)] at h; exact h
  · rw [if_neg (fun q => q.1 (hm.mp c2))] at h; exact h
  · rw [if_pos ⟨fun z => c2 (hm.mpr z), hb.mp c⟩] at h; exact h
/-- two numbers, joined by a step -/
def ec_j (s x y : Int) : Int := if s = -1 then pu_cl (x + y) else if s = -2 then pu_cl (x - y) else if s = -3 then pu_cl (x * y) else if s = -4 then pu_fl x y else if s = -5 then (if y < x then y else x) else if s = -6 then (if x < y then y else x) else if s = -7 then am_b (x < y) else if s = -8 then am_b (y < x) else if s = -9 then am_b (x = y) else if s = -10 then am_band x y else am_bor x y
def mi_ok (x : Int) : Prop := -1000000 ≤ x ∧ x ≤ 1000000
theorem mi_mul {x y : Int} (hx : mi_ok x) (hy : mi_ok y) : am_rl (x * y) := by
  obtain ⟨x0, x1⟩ := hx
  obtain ⟨y0, y1⟩ := hy
  have hab : (x * y).natAbs ≤ 1000000000000 := by
    rw [Int.natAbs_mul]
    exact Nat.le_trans (Nat.mul_le_mul (show x.natAbs ≤ 1000000 by omega) (show y.natAbs ≤ 1000000 by omega)) (Nat.le_of_ble_eq_true rfl)
  generalize x * y = z at *
  exact ⟨by omega, by omega⟩
theorem ej_9 {x y : Int} : ec_j (-9) x y = am_b (x = y) := rfl
theorem ej_8 {x y : Int} : ec_j (-8) x y = am_b (y < x) := rfl
theorem ej_7 {x y : Int} : ec_j (-7) x y = am_b (x < y) := rfl
theorem ej_4 {x y : Int} : ec_j (-4) x y = pu_fl x y := rfl
theorem ej_3 {x y : Int} : ec_j (-3) x y = pu_cl (x * y) := by
  unfold ec_j
  rw [if_neg (by decide), if_neg (by decide), if_pos rfl]
theorem ej_2 {x y : Int} : ec_j (-2) x y = pu_cl (x - y) := by
  unfold ec_j
  rw [if_neg (by decide), if_pos rfl]
theorem ej_1 {x y : Int} : ec_j (-1) x y = pu_cl (x + y) := by
  unfold ec_j
  rw [if_pos rfl]
theorem st_join {d : Nat} {M : am_M} {f : Int → am_M → Prop} {s x y : Int} (hs : -11 ≤ s ∧ s ≤ -1) (hx : mi_ok x) (hy : mi_ok y) (h : f (ec_j s x y) M) : am_cal pg (d + 2) 69 [(0, s), (0, x), (0, y)] sh_T M (am_c0 sh_T f) := by
  have hm := mi_mul hx hy
  obtain ⟨x0, x1⟩ := hx
  obtain ⟨y0, y1⟩ := hy
  have key : ∀ (q : Int), s = q → f (ec_j q x y) M := fun q e => by rw [← e]; exact h
  refine en_X6_join (bk_X6_join_0 ⟨fun c => by omega, fun c => am_c0_i (key _ c), fun c => am_c0_i (key _ c), fun c => ⟨fun q => am_c0_i ?_, fun q => am_c0_i ?_⟩, fun c => ⟨fun q => am_c0_i ?_, fun q => am_c0_i ?_⟩, fun c => ⟨fun q => am_c0_i ?_, fun q => am_c0_i ?_⟩, fun c => st_max (am_c0_i (key _ c)), fun c => st_min (am_c0_i (key _ c)), fun c => ⟨fun q => st_floorDiv ⟨x0, x1⟩ ⟨y0, y1⟩ q (am_c0_i (key _ c)), fun q => am_c0_i ?_⟩, fun c => ⟨hm, st_minL (st_maxL ?_)⟩, fun c => ⟨⟨by omega, by omega⟩, st_min (st_max (am_c0_i ?_))⟩, fun c => ⟨⟨by omega, by omega⟩, st_min (st_max (am_c0_i ?_))⟩⟩)
  · have := key _ c; rw [ej_9, am_b_0 q] at this; exact this
  · have := key _ c; rw [ej_9, am_b_1 q] at this; exact this
  · have := key _ c; rw [ej_8, am_b_0 (by omega)] at this; exact this
  · have := key _ c; rw [ej_8, am_b_1 q] at this; exact this
  · have := key _ c; rw [ej_7, am_b_0 (by omega)] at this; exact this
  · have := key _ c; rw [ej_7, am_b_1 q] at this; exact this
  · have := key _ c
    rw [ej_4] at this
    unfold pu_fl at this
    rw [if_pos q] at this
    exact this
  · have := key _ c
    rw [ej_3] at this
    rw [pu_cl_eq]
    have hc := pu_cl_le (x * y)
    exact ⟨⟨by omega, by omega⟩, am_c0_i this⟩
  · have := key _ c
    rw [ej_2] at this
    rw [pu_cl_eq]
    exact this
  · have := key _ c
    rw [ej_1] at this
    rw [pu_cl_eq]
    exact this
/-- a run of the reckoner's changes only its stack -/
def rk_fr (v : Int) (M M' : am_M) : Prop := ∀ a j, ¬ a = v + 2 → ¬ (a = v ∧ j = 3) → M' a j = M a j
theorem rk_fr_rf {v : Int} {M : am_M} : rk_fr v M M := fun _ _ _ _ => rfl
theorem rk_fr_tr {v : Int} {M M1 M2 : am_M} (h : rk_fr v M M1) (h2 : rk_fr v M1 M2) : rk_fr v M M2 := fun a j h3 h4 => (h2 a j h3 h4).trans (h a j h3 h4)
/-- what lies on the stack, the newest first -/
def rk_st (v : Int) (M : am_M) (st : List Int) : Prop := M v 3 = st.length ∧ st.length ≤ 64 ∧ ∀ i : Nat, i < st.length → M (v + 2) ((st.length : Int) - 1 - i) = st.getD i 0
theorem st_push {d : Nat} {M : am_M} {f : am_M → Prop} {v x : Int} {st : List Int} (hv : rk_is v) (hs : rk_st v M st) (hl : st.length < 64) (h : ∀ M', rk_fr v M M' → rk_st v M' (x :: st) → f M') : am_cal pg (d + 1) 65 [(2, v), (0, x)] sh_T M (am_cv sh_T f) := by
  obtain ⟨h1, h2, ⟨h3, h4⟩, h5, h6⟩ := hv
  obtain ⟨s1, s2, s3⟩ := hs
  have e0 : (am_up M (v + 2) (M v 3) x) v 3 = M v 3 := am_up_el (by omega)
  refine en_X6_push (bk_X6_push_0 ⟨h1, fun c => by omega, fun c => ⟨_, h3, fun c2 => by omega, fun c2 => ⟨(h4 _ c (by omega)).2, ?_, am_cv_i (h _ ?_ ?_)⟩⟩⟩)
  · rw [e0]; exact ⟨by omega, by omega⟩
  · intro a j q1 q2
    rw [am_up_el q2, am_up_el (fun q => q1 q.1)]
  · rw [e0]
    refine ⟨?_, by simp; omega, fun i hi => ?_⟩
    · rw [am_up_at, s1]; simp
    · rw [am_up_el (by omega)]
      cases i with
      | zero =>
        rw [s1]
        simp
        exact am_up_at
      | succ i =>
        simp only [List.length_cons] at hi ⊢
        rw [am_up_el (by omega)]
        have := s3 i (by omega)
        simp only [List.getD_cons_succ]
        rw [← this]
        congr 1
        omega
theorem st_pop {d : Nat} {M : am_M} {f : Int → am_M → Prop} {v x : Int} {st : List Int} (hv : rk_is v) (hs : rk_st v M (x :: st)) (h : ∀ M', rk_fr v M M' → rk_st v M' st → f x M') : am_cal pg (d + 1) 66 [(2, v)] sh_T M (am_c0 sh_T f) := by
  obtain ⟨h1, h2, ⟨h3, h4⟩, h5, h6⟩ := hv
  obtain ⟨s1, s2, s3⟩ := hs
  simp only [List.length_cons] at s1 s2 s3
  have e0 : (am_up M v 3 (M v 3 - 1)) (v + 2) (M v 3 - 1) = x := by
    rw [am_up_el (by omega)]
    have := s3 0 (by omega)
    simp only [List.getD_cons_zero] at this
    rw [← this]
    congr 1
    omega
  refine en_X6_pop (bk_X6_pop_0 ⟨h1, fun c => by omega, fun c => ⟨_, h3, fun c2 => ⟨⟨by omega, by omega⟩, (h4 _ (by omega) (by omega)).1, am_c0_i ?_⟩, fun c2 => by omega⟩⟩)
  rw [e0]
  refine h _ ?_ ?_
  · intro a j q1 q2
    rw [am_up_el q2]
  · refine ⟨?_, by omega, fun i hi => ?_⟩
    · rw [am_up_at]; omega
    · rw [am_up_el (by omega)]
      have := s3 (i + 1) (by omega)
      simp only [List.getD_cons_succ] at this
      rw [← this]
      congr 1
      omega
theorem st_fact {d : Nat} {M : am_M} {f : Int → am_M → Prop} {v k : Int} (hv : rk_is v) (h0 : 0 ≤ k) (h1 : k < 7) (h : f (M (v + 3) k) M) : am_cal pg (d + 1) 67 [(2, v), (0, k)] sh_T M (am_c0 sh_T f) := by
  obtain ⟨a1, a2, a3, ⟨a4, a5⟩, a6⟩ := hv
  exact en_X6_fact (bk_X6_fact_0 ⟨fun c => by omega, fun c => ⟨a1, _, a4, fun c2 => by omega, fun c2 => ⟨(a5 k h0 h1).1, am_c0_i h⟩⟩⟩)
theorem st_know {d : Nat} {M : am_M} {f : am_M → Prop} {v k x : Int} (hv : rk_is v) (h0 : 0 ≤ k) (h1 : k < 7) (h : f (am_up M (v + 3) k x)) : am_cal pg (d + 1) 63 [(2, v), (0, k), (0, x)] sh_T M (am_cv sh_T f) := by
  obtain ⟨a1, a2, a3, ⟨a4, a5⟩, a6⟩ := hv
  exact en_X6_know (bk_X6_know_0 ⟨fun c => by omega, fun c => ⟨a1, _, a4, fun c2 => by omega, fun c2 => ⟨(a5 k h0 h1).2, am_cv_i h⟩⟩⟩)
theorem st_weightOf {d : Nat} {M : am_M} {f : Int → am_M → Prop} {v k : Int} (hv : rk_is v) (h : f (if 0 ≤ k ∧ k < 6 then M (v + 4) k else 0) M) : am_cal pg (d + 1) 68 [(2, v), (0, k)] sh_T M (am_c0 sh_T f) := by
  obtain ⟨a1, a2, a3, a4, ⟨a5, a6⟩⟩ := hv
  refine en_X6_weightOf (bk_X6_weightOf_0 ⟨fun c => am_c0_i ?_, fun c => ⟨a1, _, a5, fun c2 => am_c0_i ?_, fun c2 => ⟨(a6 k c (by omega)).1, am_c0_i ?_⟩⟩⟩)
  · rw [if_neg (by omega)] at h; exact h
  · rw [if_neg (by omega)] at h; exact h
  · rw [if_pos ⟨c, by omega⟩] at h; exact h
