/-! WHAT A SUM MAKES OF A WEIGHT in the class; a room -/
theorem st_see {d : Nat} {M : am_M} {f : am_M → Prop} {v a fr : Int} {n : Nat} (hv : rk_is v) (ha : am_alen pg sh_T a = some n) (hin : ∀ i : Int, 0 ≤ i → i < (n : Int) → am_in pg sh_T 1 a i) (h0 : 0 ≤ fr) (h1 : fr + 6 ≤ n) (hn : n ≤ 2000) (hne : ¬ a = v + 4) (hw : we_ok fun k => M a (fr + k)) (h : f (am_up (am_up (am_up (am_rs M (v + 4) 0 (fun k => M a (fr + k)) 6) (v + 3) 1 (pu_max (fun k => M a (fr + k)) 6)) (v + 3) 2 (pu_sum (fun k => M a (fr + k)) 6)) (v + 3) 3 (pu_many (fun k => M a (fr + k)) 6))) : am_cal pg (d + 2) 62 [(2, v), (2, a), (0, fr)] sh_T M (am_cv sh_T f) := by
  have hv0 := hv
  obtain ⟨a1, -, -, -, -, a6⟩ := hv0
  have go : ∀ (m k : Nat) (x y z : Int), k + m = 6 → x = pu_max (fun k => M a (fr + k)) k → y = pu_sum (fun k => M a (fr + k)) k → 0 ≤ y → y ≤ k * 999 → z = pu_many (fun k => M a (fr + k)) k → am_g 6 9 co_X6_see (d + 1) (am_cv sh_T f) 11 [(2, v), (2, a), (0, fr), (0, x), (0, y), (0, z), (0, (k : Int)), (3, 0)] [] sh_T (am_rs M (v + 4) 0 (fun k => M a (fr + k)) k) := by
    intro m
    induction m with
    | zero =>
      intro k x y z hk hx hy y0 y1 hz
      have : k = 6 := by omega
      subst this
      subst hx; subst hy; subst hz
      exact bk_X6_see_11 ⟨fun _ => ⟨a1, st_know hv (by decide) (by decide) (st_know hv (by decide) (by decide) (st_know hv (by decide) (by decide) (am_cv_i h)))⟩, fun c => by omega⟩
    | succ m ih =>
      intro k x y z hk hx hy y0 y1 hz
      obtain ⟨w0, w1⟩ := hw k (by omega) (by omega)
      have w0 : 0 ≤ M a (fr + k) := w0
      have w1 : M a (fr + k) ≤ 999 := w1
      have hb := pu_many_le (w := fun k => M a (fr + k)) k
      refine bk_X6_see_11 ⟨fun c => by omega, fun c => ⟨fun c2 => by omega, fun _ => ⟨⟨by omega, by omega⟩, _, ha, fun c2 => by omega, fun c2 => ⟨⟨by omega, by omega⟩, hin _ (by omega) c2, a1, (a6 k (by omega) c).2, ?_⟩⟩⟩⟩
      rw [am_rs_el hne, am_rs_s (x := (k : Int)) (by omega) rfl]
      refine st_max ⟨⟨by omega, by omega⟩, fun c3 => ⟨⟨by omega, by omega⟩, ⟨by omega, by omega⟩, ih (k + 1) _ _ _ (by omega) (by rw [hx]; rfl) (by rw [hy]; rfl) (by omega) (by omega) ?_⟩, fun c3 => ⟨⟨by omega, by omega⟩, ⟨by omega, by omega⟩, ih (k + 1) _ _ _ (by omega) (by rw [hx]; rfl) (by rw [hy]; rfl) (by omega) (by omega) ?_⟩⟩
      · show _ = pu_many (fun k => M a (fr + k)) k + (if 0 < M a (fr + (k : Int)) then 1 else 0)
        rw [if_neg (by omega), hz]
      · show _ = pu_many (fun k => M a (fr + k)) k + (if 0 < M a (fr + (k : Int)) then 1 else 0)
        rw [if_pos c3, hz]
  have := go 6 0 0 0 0 rfl rfl rfl (Int.le_refl _) (by decide) rfl
  rw [am_rs_0] at this
  exact en_X6_see (bk_X6_see_0 this)
/-- the sum of a sort as a dream has it: its steps, if there is one -/
def dr_sum (M : am_M) (c which : Int) (o : Option (List Int)) : Prop := match o with
  | none => M (c + 12) which ≤ M (c + 11) which
  | some cs => M (c + 11) which < M (c + 12) which ∧ 0 ≤ M (c + 11) which ∧ (M (c + 12) which ≤ M (c + 6) 1 ∧ M (c + 6) 1 ≤ 1600) ∧ M (c + 11) which + cs.length = M (c + 12) which ∧ (∀ i : Nat, i < cs.length → M (c + 7) (M (c + 11) which + i) = cv (cs.getD i 0)) ∧ er_ok cs
/-- what becoming writes: the dream's reckoner's scratch alone -/
def dr_bf (c : Int) (M M' : am_M) : Prop := ∀ a j, ¬ a = c + 8 → ¬ a = c + 9 → ¬ a = c + 10 → ¬ (a = c + 6 ∧ j = 3) → M' a j = M a j
theorem dr_bf_rf {c : Int} {M : am_M} : dr_bf c M M := fun _ _ _ _ _ _ => rfl
theorem dr_bf_tr {c : Int} {M M1 M2 : am_M} (h : dr_bf c M M1) (h2 : dr_bf c M1 M2) : dr_bf c M M2 := fun a j p q r s => (h2 a j p q r s).trans (h a j p q r s)
theorem dr_in {c : Int} (hc : dr_is c) {k : Int} (h0 : 0 ≤ k) (h1 : k < 3) : am_in pg sh_T 1 (c + 11) k ∧ am_in pg sh_T 1 (c + 12) k := by
  rcases hc with rfl | rfl
  · exact ⟨ia_22 h0 h1, ia_23 h0 h1⟩
  · exact ⟨ia_35 h0 h1, ia_36 h0 h1⟩
theorem st_hasSum {d : Nat} {M : am_M} {f : Int → am_M → Prop} {c w : Int} (hc : dr_is c) (h0 : 0 ≤ w ∧ w < 3) (h : f (am_b (M (c + 11) w < M (c + 12) w)) M) : am_cal pg (d + 1) 24 [(2, c), (0, w)] sh_T M (am_c0 sh_T f) := by
  obtain ⟨i1, i2⟩ := dr_in hc h0.1 h0.2
  refine en_X2_hasSum (bk_X2_hasSum_0 ⟨fun q => by omega, fun _ => ⟨fun q => by omega, fun _ => ⟨dr_ob hc, i2, i1, fun q => am_c0_i ?_, fun q => am_c0_i ?_⟩⟩⟩)
  · rw [am_b_0 (by omega)] at h; exact h
  · rw [am_b_1 q] at h; exact h
theorem st_braveryOf {d : Nat} {M : am_M} {f : Int → am_M → Prop} {c a : Int} (hc : dr_is c) (h0 : 0 ≤ a) (h1 : a < 4) (h : f (M (c + 3) a) M) : am_cal pg (d + 1) 26 [(2, c), (0, a)] sh_T M (am_c0 sh_T f) := by
  rcases hc with rfl | rfl
  · exact en_X2_braveryOf (bk_X2_braveryOf_0 ⟨fun q => by omega, fun _ => ⟨ob_11, 4, rfl, fun q => by omega, fun q => ⟨ia_14 h0 h1, am_c0_i h⟩⟩⟩)
  · exact en_X2_braveryOf (bk_X2_braveryOf_0 ⟨fun q => by omega, fun _ => ⟨ob_24, 4, rfl, fun q => by omega, fun q => ⟨ia_27 h0 h1, am_c0_i h⟩⟩⟩)
theorem pu_mk_99 {cs : List Int} {a : Int → Int} {x : Int} (h : er a cs [] = some [x]) : (if 0 < (if x < 999 then x else 999) then (if x < 999 then x else 999) else 0) = pu_mk cs a := by
  unfold pu_mk
  rw [h]
  show _ = pu_99 x
  unfold pu_99
  by_cases c : x < 999
  · simp only [c, if_true]
    by_cases c2 : x < 0
    · rw [if_neg (by omega), if_pos c2]
    · rw [if_neg c2]
      have e : (if 999 < x then 999 else x) = x := if_neg (by omega)
      rw [e]
      split <;> omega
  · simp only [c, if_false]
    rw [if_pos (by decide), if_neg (by omega)]
    split <;> omega
theorem pu_ask_eq {w v : Int → Int} {n : Nat} {k b : Int} (hn : n ≤ 6) (h : ∀ j : Int, 0 ≤ j → j < 6 → w j = v j) (hk : 0 ≤ k ∧ k < 6) : pu_ask w n k b = pu_ask v n k b := by
  funext i
  unfold pu_ask
  rw [h k hk.1 hk.2, pu_max_eq n (fun j hj => h j (by omega) (by omega)), pu_sum_eq n (fun j hj => h j (by omega) (by omega)), pu_many_eq n (fun j hj => h j (by omega) (by omega))]
theorem st_becomes {d : Nat} {M : am_M} {f : Int → am_M → Prop} {c v k w : Int} {o : Option (List Int)} (hc : dr_is c) (hv : sl_is v) (hw : we_ok (M (v + 1))) (hk : 0 ≤ k ∧ k < 6) (hwh : 0 ≤ w ∧ w < 3) (hn : 0 ≤ M v 1 ∧ M v 1 < 4) (hb : 0 ≤ M (c + 3) (M v 1) ∧ M (c + 3) (M v 1) ≤ 9) (ho : dr_sum M c w o) (h : ∀ M', dr_bf c M M' → f (pu_made o (M (v + 1)) 6 k (M (c + 3) (M v 1))) M') : am_cal pg (d + 4) 32 [(2, c), (2, v), (0, k), (0, w)] sh_T M (am_c0 sh_T f) := by
  have hcr : 11 ≤ c ∧ c ≤ 24 := by rcases hc with rfl | rfl <;> exact ⟨by decide, by decide⟩
  have hvr := hv.2.2.2.2
  cases o with
  | none =>
    have ho : M (c + 12) w ≤ M (c + 11) w := ho
    refine en_X2_becomes (bk_X2_becomes_0 ⟨dr_ob hc, st_hasSum hc hwh ?_⟩)
    rw [am_b_0 (by omega)]
    refine ⟨fun q => absurd rfl q, fun _ => ⟨hv.1, st_at hv (am_c0_i ?_)⟩⟩
    rw [if_pos hk]
    exact h M dr_bf_rf
  | some cs =>
    obtain ⟨o1, o2, o3, o4, o5, o6⟩ := ho
    have hal := fun i => pu_ask_le (n := 6) (b := M (c + 3) (M v 1)) (by decide) hw hk hb i
    obtain ⟨x, hx⟩ := er_all o6 (pu_ask (M (v + 1)) 6 k (M (c + 3) (M v 1)))
    have hrk := dr_rk hc
    obtain ⟨i1, i2⟩ := dr_in hc hwh.1 hwh.2
    refine en_X2_becomes (bk_X2_becomes_0 ⟨dr_ob hc, st_hasSum hc hwh ?_⟩)
    rw [am_b_1 o1]
    refine ⟨fun _ => ⟨hv.1, hrk.1, st_see hrk hv.2.1 hv.2.2.1 (Int.le_refl _) (by decide) (by decide) (by omega) (fun j j0 j1 => by show 0 ≤ M (v + 1) (0 + j) ∧ M (v + 1) (0 + j) ≤ 999; rw [Int.zero_add]; exact hw j j0 j1) ?_⟩, fun q => by cases q⟩
    have ez : (fun k => M (v + 1) (0 + k)) = M (v + 1) := by funext j; rw [Int.zero_add]
    rw [ez]
    generalize hM : am_up (am_up (am_up (am_rs M (c + 6 + 4) 0 (M (v + 1)) 6) (c + 6 + 3) 1 (pu_max (M (v + 1)) 6)) (c + 6 + 3) 2 (pu_sum (M (v + 1)) 6)) (c + 6 + 3) 3 (pu_many (M (v + 1)) 6) = M1
    have hb1 : ∀ a, ¬ a = c + 9 → ¬ a = c + 10 → M1 a = M a := fun a q1 q2 => by
      funext j
      rw [← hM, am_up_el (by omega), am_up_el (by omega), am_up_el (by omega), am_rs_el (by omega)]
    refine st_at hv ?_
    rw [if_pos hk, hb1 (v + 1) (by omega) (by omega)]
    refine st_know hrk (by decide) (by decide) (st_know hrk (by decide) (by decide) ?_)
    generalize hM2 : am_up (am_up M1 (c + 6 + 3) 0 (M (v + 1) k)) (c + 6 + 3) 4 k = M2
    have hb2 : ∀ a, ¬ a = c + 9 → ¬ a = c + 10 → M2 a = M a := fun a q1 q2 => by
      rw [← hb1 a q1 q2]
      funext j
      rw [← hM2, am_up_el (by omega), am_up_el (by omega)]
    rw [hb2 v (by omega) (by omega)]
    refine st_braveryOf hc hn.1 hn.2 ?_
    rw [hb2 (c + 3) (by omega) (by omega)]
    refine st_know hrk (by decide) (by decide) ?_
    generalize hM3 : am_up M2 (c + 6 + 3) 5 (M (c + 3) (M v 1)) = M3
    have hb3 : ∀ a, ¬ a = c + 9 → ¬ a = c + 10 → M3 a = M a := fun a q1 q2 => by
      rw [← hb2 a q1 q2]
      funext j
      rw [← hM3, am_up_el (by omega)]
    have hkn : ∀ j, 0 ≤ j → j < 6 → M3 (c + 6 + 3) j = pu_ask (M (v + 1)) 6 k (M (c + 3) (M v 1)) j := by
      intro j j0 j1
      rw [← hM3, ← hM2, ← hM]
      unfold pu_ask am_up
      rcases (show j = 0 ∨ j = 1 ∨ j = 2 ∨ j = 3 ∨ j = 4 ∨ j = 5 by omega) with rfl | rfl | rfl | rfl | rfl | rfl <;> simp
    have h7 : M3 (c + 6 + 1) = M (c + 7) := by
      rw [show c + 6 + 1 = c + 7 by omega]
      exact hb3 (c + 7) (by omega) (by omega)
    have hwt : ∀ j, 0 ≤ j → j < 6 → M3 (c + 6 + 4) j = M (v + 1) j := by
      intro j j0 j1
      rw [← hM3, ← hM2, ← hM]
      rw [am_up_el (by omega), am_up_el (by omega), am_up_el (by omega), am_up_el (by omega), am_up_el (by omega), am_up_el (by omega), am_rs_at j0 (by omega)]
      rw [Int.sub_zero]
    have hf3 : dr_bf c M M3 := fun a j q1 q2 q3 q4 => by rw [hb3 a q2 q3]
    refine ⟨i1, i2, ?_⟩
    rw [hb3 (c + 11) (by omega) (by omega), hb3 (c + 12) (by omega) (by omega)]
    have hec := er_ec (kn := M3 (c + 6 + 3)) (wt := M3 (c + 6 + 4)) hkn cs [] [x] hx
    refine st_value (m := 6) (ss := cs.map cv) (by decide) hrk (fun j j0 j1 => by rw [hkn j j0 j1]; exact hal j) (fun j j0 j1 => by
      rw [hwt j j0 j1]
      obtain ⟨w0, w1⟩ := hw j j0 j1
      exact ⟨by omega, by omega⟩) (by rw [hb3 (c + 6) (by omega) (by omega)]; exact o3) o2 (by rw [List.length_map]; exact o4) (fun i hi => by
      rw [List.length_map] at hi
      rw [h7, o5 i hi, List.getD_eq_getElem?_getD, List.getD_eq_getElem?_getD, List.getElem?_map]
      rw [List.getElem?_eq_getElem hi]
      rfl) hec (fun M' q => ?_)
    refine st_min (st_max (am_c0_i ?_))
    have := h M' (dr_bf_tr hf3 (fun a j q1 q2 q3 q4 => q a j (by omega) (by omega)))
    have e : pu_made (some cs) (M (v + 1)) 6 k (M (c + 3) (M v 1)) = pu_mk cs (pu_ask (M (v + 1)) 6 k (M (c + 3) (M v 1))) := rfl
    rw [e, ← pu_mk_99 hx] at this
    exact this
