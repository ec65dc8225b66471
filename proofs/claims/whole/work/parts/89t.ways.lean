/-! SOONEST, LEAST: the same on both sides -/
theorem wy_bits : ∀ (l : List Bool) (k : Nat), k < l.length → (wy_n l / 2 ^ (l.length - 1 - k) % 2 = 1 ↔ l.getD k false = true)
  | [], k, h => absurd h (Nat.not_lt_zero k)
  | b :: l, 0, _ => by
    show ((if b = true then 2 ^ l.length else 0) + wy_n l) / 2 ^ (l.length + 1 - 1 - 0) % 2 = 1 ↔ b = true
    have hl := wy_n_lt l
    have hp : 0 < 2 ^ l.length := Nat.two_pow_pos _
    rw [show l.length + 1 - 1 - 0 = l.length by omega]
    cases b with
    | false =>
      rw [if_neg (by decide), Nat.zero_add, Nat.div_eq_of_lt hl]
      exact ⟨fun z => absurd z (by decide), fun z => (by cases z)⟩
    | true =>
      rw [if_pos rfl, Nat.add_div_left _ hp, Nat.div_eq_of_lt hl]
      exact ⟨fun _ => rfl, fun _ => rfl⟩
  | b :: l, k + 1, h => by
    have h' : k < l.length := by rw [List.length_cons] at h; omega
    have ih := wy_bits l k h'
    have e1 : (b :: l).length - 1 - (k + 1) = l.length - 1 - k := by rw [List.length_cons]; omega
    have e2 : (b :: l).getD (k + 1) false = l.getD k false := rfl
    rw [e1, e2, ← ih]
    show ((if b = true then 2 ^ l.length else 0) + wy_n l) / 2 ^ (l.length - 1 - k) % 2 = 1 ↔ _
    have hp : 0 < 2 ^ (l.length - 1 - k) := Nat.two_pow_pos _
    have e3 : 2 ^ l.length = 2 ^ (l.length - 1 - k) * (2 * 2 ^ k) := by
      rw [← Nat.mul_assoc, ← Nat.pow_succ, ← Nat.pow_add]
      congr 1
      omega
    cases b with
    | false => rw [if_neg (by decide), Nat.zero_add]
    | true =>
      rw [if_pos rfl, e3, Nat.mul_add_div hp, Nat.add_comm, Nat.add_mul_mod_self_left]
theorem wy_first {D : dm_D} {a g : Int} {y : Bool} {w : Int → Int} {c0 r0 : Int} (hD : dg_ok D) (hw : dw_ok D w) : (wy_go D a g y 10 0 0 w [] (c0, r0, []) = (c0, r0, []) ∧ ∀ l : List Bool, l.length ≤ 10 → wy_is D a g l w → ¬ wy_lt (wy_c D a g y l w) (l.length : Int) c0 r0) ∨ ∃ l : List Bool, wy_opt D a g y w l ∧ wy_go D a g y 10 0 0 w [] (c0, r0, []) = (wy_c D a g y l w, (l.length : Int), l) ∧ wy_lt (wy_c D a g y l w) (l.length : Int) c0 r0 := by
  obtain ⟨A, B⟩ := wy_go_sp (a := a) (g := g) (y := y) hD 10 0 0 w [] (c0, r0, []) hw
  rcases A with q | ⟨l, q1, q2, q3, q4, q5⟩
  · refine Or.inl ⟨q, fun l h1 h2 => ?_⟩
    have := B l h1 h2
    rw [q, Int.zero_add, Int.zero_add] at this
    exact this
  · rw [Int.zero_add, Int.zero_add, List.nil_append] at q3
    rw [Int.zero_add, Int.zero_add] at q4
    refine Or.inr ⟨l, ⟨q1, q2, fun l' h1 h2 => ⟨?_, fun e1 e2 => q5 l' e1 h2 e2⟩⟩, q3, q4⟩
    have := B l' h1 h2
    rw [q3, Int.zero_add, Int.zero_add] at this
    exact this
/-- what the search writes in the class -/
def fs_fr (M M' : am_M) : Prop := ∀ x j, ¬ ds_ x j → ¬ (x = 95 ∧ 3 ≤ j ∧ j ≤ 5) → ¬ (97 ≤ x ∧ x ≤ 120) → M' x j = M x j
theorem fs_sc {M M1 : am_M} (h : fs_fr M M1) : sc_fr M M1 := fun x j y => by
  unfold sc_ at y
  exact h x j (by unfold ds_; omega) (by omega) (by omega)
theorem fs_go {D : dm_D} {c a g : Int} {y : Bool} {d : Nat} {M : am_M} {f : am_M → Prop} {v r0 c0 : Int} {w : Int → Int} (hd : dm_ok M c D) (hs : sm_ok M D v a g w) (hv : v < 96 ∨ 121 ≤ v) (h : ∀ M', fs_fr M M' → ws_ok M' (wy_go D a g y 10 0 0 w [] (c0, r0, [])) → f M') : am_cal pg (d + 30) 71 [(2, 97), (2, v)] sh_T M (am_cv sh_T fun M1 => am_cal pg (d + 30) 117 [(2, 95), (2, c), (0, 0), (0, 0)] sh_T (am_up (am_up (am_up M1 95 5 (am_b (y = true))) 95 4 c0) 95 3 r0) (am_cv sh_T f)) := by
  have hcc := hd.1
  have hcr := dm_range hd
  refine st_copy sl_97 hs.1 (by omega) (by omega) (by omega) ?_
  have c1 := cp_ok sl_97 hs
  have cf : ∀ x j, ¬ x = 97 → ¬ x = 98 → sl_cp M 97 v x j = M x j := fun x j x1 x2 => cp_fr x1 x2
  generalize sl_cp M 97 v = M1 at c1 cf ⊢
  obtain ⟨M2, eM⟩ : ∃ X, X = am_up (am_up (am_up M1 95 5 (am_b (y = true))) 95 4 c0) 95 3 r0 := ⟨_, rfl⟩
  have u : ∀ x j, ¬ (x = 95 ∧ 3 ≤ j ∧ j ≤ 5) → M2 x j = M1 x j := fun x j h => by rw [eM, am_up_el (by omega), am_up_el (by omega), am_up_el (by omega)]
  have u5 : M2 95 5 = am_b (y = true) := by rw [eM, am_up_el (by omega), am_up_el (by omega), am_up_at]
  have u4 : M2 95 4 = c0 := by rw [eM, am_up_el (by omega), am_up_at]
  have u3 : M2 95 3 = r0 := by rw [eM, am_up_at]
  rw [← eM]
  have f2 : fs_fr M M2 := fun x j y y2 y3 => (u x j y2).trans (cf x j (by omega) (by omega))
  refine st_seek (D := D) (c := c) (a := a) (g := g) (y := y) 10 0 M2 w [] (c0, r0, []) (d + 30) 0 _ rfl rfl ?_ ?_ u5 ⟨u4, u3, fun i hi => absurd hi (Nat.not_lt_zero i)⟩ (fun i hi => absurd hi (Nat.not_lt_zero i)) (fun _ => rfl) ⟨by decide, by decide⟩ (by omega) (fun M3 q1 q2 => h M3 (fun x j y y2 y3 => (q1 x j y (by omega) (by omega) (by omega) (by omega)).trans (f2 x j y y2 y3)) q2)
  · refine dm_ok_fr (fun x j x1 x2 x3 x4 x5 x6 => (u x j ?_).trans (cf x j ?_ ?_)) hd <;> (rcases hcc with rfl | rfl <;> omega)
  · exact sm_ok_fr (u _ _ (by omega)) (u _ _ (by omega)) (fun j => u _ _ (by omega)) c1
theorem st_findSoonest {D : dm_D} {c a g : Int} {d : Nat} {M : am_M} {f : Int → am_M → Prop} {v r0 : Int} {w : Int → Int} (hd : dm_ok M c D) (hs : sm_ok M D v a g w) (hv : v < 96 ∨ 121 ≤ v)
    (h0 : ∀ M', fs_fr M M' → (∀ l : List Bool, l.length ≤ 10 → wy_is D a g l w → r0 ≤ (l.length : Int)) → f (-1) M') (h1 : ∀ (M' : am_M) (l : List Bool), fs_fr M M' → wy_opt D a g false w l → (l.length : Int) < r0 → wy_row M' 120 l → f l.length M') : am_cal pg (d + 31) 113 [(2, 95), (2, c), (2, v), (0, r0)] sh_T M (am_c0 sh_T f) := by
  refine en_X10_findSoonest (bk_X10_findSoonest_0 ?_)
  have q := fs_go (D := D) (c := c) (a := a) (g := g) (y := false) (d := d) (c0 := 0) (r0 := r0) (f := fun M2 => ((r0 ≤ M2 95 3 → (am_c0 sh_T f) (some (0, (-1)), sh_T, M2)) ∧ (M2 95 3 < r0 → (am_c0 sh_T f) (some (0, M2 95 3), sh_T, M2)))) hd hs hv (fun M1 k1 k2 => ?_)
  · rw [am_b_0 (show ¬ (false = true) by decide)] at q
    exact q
  · rcases wy_first (a := a) (g := g) (y := false) (c0 := 0) (r0 := r0) hd.2.1 hs.2.2.2.2 with ⟨e1, e2⟩ | ⟨l, e1, e2, e3⟩
    · rw [e1] at k2
      rw [k2.2.1]
      refine ⟨fun _ => am_c0_i (h0 M1 k1 (fun l x1 x2 => ?_)), fun z => ?_⟩
      · have := e2 l x1 x2
        rw [wy_c0] at this
        unfold wy_lt at this
        omega
      · exact absurd z (by show ¬ r0 < r0; omega)
    · rw [wy_c0] at e3
      have e3' : (l.length : Int) < r0 := by unfold wy_lt at e3; omega
      rw [e2] at k2
      rw [show M1 95 3 = (l.length : Int) from k2.2.1]
      exact ⟨fun z => by omega, fun _ => am_c0_i (h1 M1 l k1 e1 e3' k2.2.2)⟩
theorem st_findLeast {D : dm_D} {c a g : Int} {d : Nat} {M : am_M} {f : Int → am_M → Prop} {v : Int} {w : Int → Int} (hd : dm_ok M c D) (hs : sm_ok M D v a g w) (hv : v < 96 ∨ 121 ≤ v)
    (h0 : ∀ M', fs_fr M M' → wy_no D a g w → f (-1) M') (h1 : ∀ (M' : am_M) (l : List Bool), fs_fr M M' → wy_opt D a g true w l → wy_row M' 120 l → M' 95 4 = wy_c D a g true l w → f l.length M') : am_cal pg (d + 31) 114 [(2, 95), (2, c), (2, v)] sh_T M (am_c0 sh_T f) := by
  refine en_X10_findLeast (bk_X10_findLeast_0 ?_)
  have q := fs_go (D := D) (c := c) (a := a) (g := g) (y := true) (d := d) (c0 := 1000000) (r0 := 11) (f := fun M2 => ((10 < M2 95 3 → (am_c0 sh_T f) (some (0, (-1)), sh_T, M2)) ∧ (M2 95 3 ≤ 10 → (am_c0 sh_T f) (some (0, M2 95 3), sh_T, M2)))) hd hs hv (fun M1 k1 k2 => ?_)
  · rw [am_b_1 (show (true = true) by decide)] at q
    exact q
  · rcases wy_first (a := a) (g := g) (y := true) (c0 := 1000000) (r0 := 11) hd.2.1 hs.2.2.2.2 with ⟨e1, e2⟩ | ⟨l, e1, e2, e3⟩
    · rw [e1] at k2
      rw [k2.2.1]
      refine ⟨fun _ => am_c0_i (h0 M1 k1 (fun l x1 x2 => ?_)), fun z => absurd z (by decide)⟩
      have b := wy_c_in (y := true) hd.2.1 l w hs.2.2.2.2 x2
      have := e2 l x1 x2
      unfold wy_lt at this
      omega
    · have hl := e1.1
      rw [e2] at k2
      rw [show M1 95 3 = (l.length : Int) from k2.2.1]
      exact ⟨fun z => by omega, fun _ => am_c0_i (h1 M1 l k1 e1 k2.2.2 k2.1)⟩
theorem st_turn {d : Nat} {M : am_M} {f : Int → am_M → Prop} {k r : Int} (hr : r ≤ 10) (h : f (if 0 ≤ k ∧ k < r then M 120 k else -1) M) : am_cal pg (d + 1) 115 [(2, 95), (0, k), (0, r)] sh_T M (am_c0 sh_T f) := by
  refine en_X10_turn (bk_X10_turn_0 ⟨fun z => ?_, fun z => ⟨fun z2 => ?_, fun z2 => ⟨fun z3 => by omega, fun z3 => ⟨⟨z, z3⟩, ?_⟩⟩⟩⟩)
  · rw [if_neg (by omega)] at h; exact am_c0_i h
  · rw [if_neg (by omega)] at h; exact am_c0_i h
  · rw [if_pos ⟨z, z2⟩] at h; exact am_c0_i h
/-- what the reference's search writes -/
def ss_fr (M M' : am_M) : Prop := ∀ a j, ¬ a = 184 → ¬ a = 185 → ¬ (a = 152 ∧ (j = 46 ∨ (52 ≤ j ∧ j ≤ 54))) → ¬ (a = 187 ∧ 0 ≤ j ∧ j < 6) → M' a j = M a j
theorem ss_iw {M M1 M2 : am_M} (h : ss_fr M M1) (q : iw_fr M1 M2) : ss_fr M M2 := fun x j y y2 y3 y4 => (q x j y y2 (by omega) y4).trans (h x j y y2 y3 y4)
theorem ss_rg {M M' : am_M} {D : dm_D} (h : ss_fr M M') (hd : rg_is M D) : rg_is M' D := rg_is_fr (fun x j x1 x2 => h x j (by omega) (by omega) (by omega) (by omega)) hd
theorem ss_sc {M M1 : am_M} (h : ss_fr M M1) : sc_fr M M1 := fun x j y => by
  unfold sc_ at y
  exact h x j (by omega) (by omega) (by omega) (by omega)
theorem sp_seeks {d : Nat} {M : am_M} {f : am_M → Prop} {a g : Int} {D : dm_D} {w : Int → Int} (hd : rg_is M D) (hw : rw_ok M D 7 w) (ha : 0 ≤ a ∧ a < 4 ∧ a < dA D) (hg : -1 ≤ g ∧ g < 4 ∧ g < dG D)
    (h0 : ∀ M', ss_fr M M' → wy_no D a g w → M' 152 54 = -1 → f M') (h1 : ∀ (M' : am_M) (l : List Bool), ss_fr M M' → wy_opt D a g false w l → M' 152 54 = (l.length : Int) → M' 152 53 = (wy_n l : Int) → f M') : am_cal pg (d + 6) 245 [(2, 152), (0, a), (0, g)] sh_T M (am_cv sh_T f) := by
  have found : ∀ (n : Nat) (M1 : am_M) (l : List Bool) (L : List am_V), L = [(2, 152), (0, a), (0, g), (0, (n : Int)), (3, 0)] → ss_fr M M1 → wy_opt D a g false w l → M1 152 54 = (l.length : Int) → M1 152 53 = (wy_n l : Int) → am_g 12 9 co_X12_seeksSoonest (d + 5) (am_cv sh_T f) 7 L [] sh_T M1 := fun n M1 l L eL k1 k2 k3 k4 => by
    subst eL
    exact bk_X12_seeksSoonest_7 ⟨fun _ => am_cv_i (h1 M1 l k1 k2 k3 k4), fun _ => ⟨fun _ => am_cv_i (h1 M1 l k1 k2 k3 k4), fun z => by omega⟩⟩
  have outer : ∀ (N n : Nat), n + N = 11 → ∀ M1, ss_fr M M1 → M1 152 54 = -1 → (∀ l : List Bool, l.length < n → ¬ wy_is D a g l w) → am_g 12 9 co_X12_seeksSoonest (d + 5) (am_cv sh_T f) 7 [(2, 152), (0, a), (0, g), (0, (n : Int)), (3, 0)] [] sh_T M1 := by
    intro N
    induction N with
    | zero =>
      intro n hn M1 k1 k2 k3
      exact bk_X12_seeksSoonest_7 ⟨fun _ => am_cv_i (h0 M1 k1 (fun l hl => k3 l (by omega)) k2), fun z => by omega⟩
    | succ N ih =>
      intro n hn M1 k1 k2 k3
      obtain ⟨es, e1024⟩ := shl_10 (n := n) (by omega)
      have inner : ∀ (m v : Nat), v + m = 2 ^ n → ∀ M2, ss_fr M M2 → M2 152 54 = -1 → (∀ v' : Nat, v' < v → ¬ wy_is D a g (wy_b n v') w) → am_g 12 9 co_X12_seeksSoonest (d + 5) (am_cv sh_T f) 24 [(2, 152), (0, a), (0, g), (0, (n : Int)), (0, (v : Int))] [] sh_T M2 := by
        intro m
        induction m with
        | zero =>
          intro v hv M2 q1 q2 q3
          refine bk_X12_seeksSoonest_24 ?_
          rw [es]
          refine ⟨fun _ => ⟨⟨by omega, by omega⟩, ih (n + 1) (by omega) M2 q1 q2 (fun l hl hi => ?_)⟩, fun z => by omega⟩
          by_cases e : l.length = n
          · refine q3 (wy_n l) (by have := wy_n_lt l; rw [e] at this; omega) ?_
            rw [← e, wy_b_all]
            exact hi
          · exact k3 l (by omega) hi
        | succ m ihm =>
          intro v hv M2 q1 q2 q3
          refine bk_X12_seeksSoonest_24 ?_
          rw [es]
          refine ⟨fun z => by omega, fun _ => ⟨fun z => absurd q2 z, fun _ => sp_isWay (ss_rg q1 hd) (rw_fr (fun k k0 k1 => q1 187 _ (by omega) (by omega) (by omega) (by omega)) hw) ha hg (by omega) (by omega) (fun M3 x1 x2 x3 => ⟨fun _ => ⟨⟨by omega, by omega⟩, ?_⟩, fun z => absurd z (by decide)⟩) (fun M3 x1 x2 => ⟨fun z => absurd rfl z, fun _ => ⟨⟨by omega, by omega⟩, ihm (v + 1) (by omega) M3 (ss_iw q1 x1) ((x1 152 54 (by omega) (by omega) (by omega) (by omega)).trans q2) (fun v' hv' => ?_)⟩⟩)⟩⟩
          · have vn : wy_n (wy_b n v) = v := by rw [wy_b_n, Nat.mod_eq_of_lt (by omega)]
            have op : wy_opt D a g false w (wy_b n v) := by
              refine ⟨by rw [wy_b_len]; omega, x2, fun l' y1 y2 => ⟨?_, fun y3 _ => ?_⟩⟩
              · rw [wy_c0, wy_c0, wy_b_len]
                have : ¬ l'.length < n := fun z => k3 l' z y2
                unfold wy_lt
                omega
              · rw [wy_b_len] at y3
                rw [vn]
                refine Nat.le_of_not_lt (fun z => q3 _ z ?_)
                rw [← y3, wy_b_all]
                exact y2
            obtain ⟨M4, eM⟩ : ∃ X, X = am_up (am_up M3 152 54 (n : Int)) 152 53 (v : Int) := ⟨_, rfl⟩
            have e54 : M4 152 54 = ((wy_b n v).length : Int) := by rw [eM, am_up_el (by omega), am_up_at, wy_b_len]
            have e53 : M4 152 53 = (wy_n (wy_b n v) : Int) := by rw [eM, am_up_at, vn]
            have f4 : ss_fr M M4 := fun x j y y2 y3 y4 => by
              rw [eM, am_up_el (by omega), am_up_el (by omega)]
              exact ss_iw q1 x1 x j y y2 y3 y4
            rw [← eM]
            refine bk_X12_seeksSoonest_24 ⟨fun _ => ⟨⟨by omega, by omega⟩, found (n + 1) M4 _ _ rfl f4 op e54 e53⟩, fun _ => ⟨fun _ => ⟨⟨by omega, by omega⟩, found (n + 1) M4 _ _ rfl f4 op e54 e53⟩, fun z => by rw [e54, wy_b_len] at z; omega⟩⟩
          · by_cases e : v' = v
            · rw [e]; exact x2
            · exact q3 v' (by omega)
      exact bk_X12_seeksSoonest_7 ⟨fun z => by omega, fun _ => ⟨fun z => absurd k2 z, fun _ => inner (2 ^ n) 0 (Nat.zero_add _) M1 k1 k2 (fun v' hv' => absurd hv' (Nat.not_lt_zero v'))⟩⟩
  exact en_X12_seeksSoonest (bk_X12_seeksSoonest_0 (outer 11 0 rfl _ (fun x j y y2 y3 y4 => am_up_el (by omega)) am_up_at (fun l hl => absurd hl (Nat.not_lt_zero _))))
theorem sp_wayTold {d : Nat} {M : am_M} {f : Int → am_M → Prop} {l : List Bool} {k : Int} (hl : l.length ≤ 10) (e1 : M 152 54 = (l.length : Int)) (e2 : M 152 53 = (wy_n l : Int)) (h : f (if 0 ≤ k ∧ k < (l.length : Int) then am_b (l.getD k.toNat false = true) else -1) M) : am_cal pg (d + 2) 246 [(2, 152), (0, k)] sh_T M (am_c0 sh_T f) := by
  have hn := wy_n_lt l
  have h1024 : 2 ^ l.length ≤ 1024 := (shl_10 hl).2
  refine en_X12_wayTold (bk_X12_wayTold_0 ?_)
  rw [e1]
  refine ⟨⟨by omega, by omega⟩, sp_isIn ⟨fun z => am_c0_i ?_, fun z => ?_⟩⟩
  · have := am_b_z.mp z
    rw [if_neg (by omega)] at h
    exact h
  · have hk := am_b_nz z
    rw [if_pos ⟨hk.1, by omega⟩] at h
    rw [e1, e2]
    refine ⟨⟨by omega, by omega⟩, ⟨by omega, by omega⟩, am_c0_i ?_⟩
    have es : (l.length : Int) - 1 - k = ((l.length - 1 - k.toNat : Nat) : Int) := by omega
    rw [es, shr_10 (by omega) (by omega), ← Int.natCast_ediv, band_1 (Nat.lt_of_le_of_lt (Nat.div_le_self _ _) (by omega))]
    have eb := wy_bits l k.toNat (by omega)
    by_cases q : l.getD k.toNat false = true
    · rw [am_b_1 q] at h
      rw [eb.mpr q]
      exact h
    · rw [am_b_0 q] at h
      have : ¬ wy_n l / 2 ^ (l.length - 1 - k.toNat) % 2 = 1 := fun z => q (eb.mp z)
      rw [show wy_n l / 2 ^ (l.length - 1 - k.toNat) % 2 = 0 by omega]
      exact h
theorem sp_lays7 {d : Nat} {M : am_M} {f : am_M → Prop} {a g : Int} {D : dm_D} {w : Int → Int} (hd : rg_is M D) (hs : rs_ok M D a g w) (h : ∀ M', sc_fr M M' → rg_is M' D → rs_ok M' D a g w → rw_ok M' D 7 w → f M') : am_cal pg (d + 2) 218 [(2, 152), (0, a), (0, 7)] sh_T M (am_cv sh_T f) := by
  have ha := hs.1
  refine sp_laysNow (v4 ha) (by decide) ?_
  have e : ∀ x, ¬ x = 187 → am_rs M 187 7 (fun k => M 186 (7 * a + 1 + k)) 6 x = M x := fun x hx => am_rs_el hx
  refine h _ (fun x j y => ?_) (rg_is_fr (fun x j x1 x2 => by rw [e x (by omega)]) hd) (rs_ok_fr (fun j => by rw [e 186 (by decide)]) hs) ⟨by decide, fun k k0 k1 => ?_, hs.2.2.2⟩
  · unfold sc_ at y
    rw [e x (by omega)]
  · show am_rs M 187 7 (fun k => M 186 (7 * a + 1 + k)) 6 187 (7 + k) = w k
    rw [am_rs_at (by omega) (by omega)]
    show M 186 (7 * a + 1 + (7 + k - 7)) = w k
    rw [show (7 : Int) + k - 7 = k by omega]
    exact hs.2.2.1 k k0 k1
theorem qu_soonest {d : Nat} {M : am_M} {D : dm_D} {G : Int → Int} {W : Int → Int → Int} {a k : Int} (hb : bt_ok M D G W) : qu_two (d + 32) 139 247 [(0, a), (0, k)] M := by
  have h3 := hb.2.2.1
  refine en_X11_soonest (bk_X11_soonest_0 (st_isDreamer hb ⟨fun q => ?_, fun q => ?_⟩))
  · have ha := am_b_nz q
    have ha4 : 0 ≤ a ∧ a < 4 ∧ a < dA D := by omega
    have h5 := hb.2.2.2.2 a ha.1 ha4.2
    -- the reference behind the class
    have ref : ∀ (M1 : am_M) (z : Int), sc_fr M M1 → ((z = -1 ∧ wy_no D a (G a) (W a)) ∨ (∃ l : List Bool, wy_opt D a (G a) false (W a) l ∧ z = (if k = -1 then (l.length : Int) else if 0 ≤ k ∧ k < (l.length : Int) then am_b (l.getD k.toNat false = true) else -1))) → am_cal pg (d + 32) 247 [(2, 152), (0, a), (0, k)] sh_T M1 (am_c0 sh_T fun y M2 => z = y ∧ sc_fr M M2) := fun M1 z hf1 hz => by
      have hb1 := bt_ok_fr hf1 hb
      have e4 : M1 174 4 = M 174 4 := hf1 174 4 (by unfold sc_; omega)
      refine en_X12_soonest (bk_X12_soonest_0 (sp_isDreamer (by rw [e4]; exact h3.2) ⟨fun _ => sp_lays7 hb1.2.1 (hb1.2.2.2.2 a ha.1 ha4.2).2 (fun M2 k1 k2 k3 k4 => sp_guideOf (v4 ha4) ?_), fun y => ?_⟩))
      · rw [k3.2.1.1]
        have hf2 := sc_tr hf1 k1
        refine sp_seeks k2 k4 ha4 k3.2.1.2 (fun M3 x1 x2 x3 => ?_) (fun M3 l x1 x2 x3 x4 => ?_)
        · have hf3 := sc_tr hf2 (ss_sc x1)
          have z1 : z = -1 := by
            rcases hz with y | ⟨l, y1, y2⟩
            · exact y.1
            · exact absurd y1.2.1 (x2 l y1.1)
          refine ⟨fun y => ?_, fun y => am_c0_i ⟨z1.trans x3.symm, hf3⟩⟩
          refine en_X12_wayTold (bk_X12_wayTold_0 ?_)
          rw [x3]
          refine ⟨⟨by decide, by decide⟩, sp_isIn ⟨fun _ => am_c0_i (am_c0_i ⟨z1, hf3⟩), fun y2 => ?_⟩⟩
          have := am_b_nz y2
          omega
        · have hf3 := sc_tr hf2 (ss_sc x1)
          have z1 : z = (if k = -1 then (l.length : Int) else if 0 ≤ k ∧ k < (l.length : Int) then am_b (l.getD k.toNat false = true) else -1) := by
            rcases hz with y | ⟨l', y1, y2⟩
            · exact absurd x2.2.1 (y.2 l x2.1)
            · rw [wy_opt_eq x2 y1]; exact y2
          refine ⟨fun y => sp_wayTold x2.1 x3 x4 (am_c0_i ⟨?_, hf3⟩), fun y => am_c0_i ⟨?_, hf3⟩⟩
          · rw [z1, if_neg y]
          · rw [z1, if_pos y]; exact x3.symm
      · rw [e4] at y
        exact absurd ha (am_b_z.mp y)
    refine ⟨v4 ha4, st_findSoonest hb.1 h5.1 (by omega) (fun M1 k1 k2 => ?_) (fun M1 l k1 k2 k3 k4 => ?_)⟩
    · have r := ref M1 (-1) (fs_sc k1) (Or.inl ⟨rfl, fun l hl hi => by have := k2 l hl hi; omega⟩)
      refine ⟨fun y => st_turn (by decide) ?_, fun y => am_c0_i ⟨fs_sc k1, r⟩⟩
      rw [if_neg (by omega)]
      exact am_c0_i ⟨fs_sc k1, r⟩
    · have hl := k2.1
      refine ⟨fun y => st_turn (by omega) (am_c0_i ⟨fs_sc k1, ref M1 _ (fs_sc k1) (Or.inr ⟨l, k2, ?_⟩)⟩), fun y => am_c0_i ⟨fs_sc k1, ref M1 _ (fs_sc k1) (Or.inr ⟨l, k2, ?_⟩)⟩⟩
      · rw [if_neg y]
        by_cases e : 0 ≤ k ∧ k < (l.length : Int)
        · rw [if_pos e, if_pos e]
          have := k4 k.toNat (by omega)
          rw [show ((k.toNat : Nat) : Int) = k by omega] at this
          exact this
        · rw [if_neg e, if_neg e]
      · rw [if_pos y]
  · refine am_c0_i ⟨sc_rf, en_X12_soonest (bk_X12_soonest_0 (sp_isDreamer h3.2 ⟨fun y => absurd q y, fun y => am_c0_i ⟨rfl, sc_rf⟩⟩))⟩
