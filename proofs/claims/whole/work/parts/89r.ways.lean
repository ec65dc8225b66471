/-! WAYS HOME, in the class: the search -/
def ds_ (x j : Int) : Prop := (19 ≤ x ∧ x ≤ 21) ∨ (32 ≤ x ∧ x ≤ 34) ∨ ((x = 17 ∨ x = 30) ∧ j = 3)
def wy_row (M : am_M) (x : Int) (p : List Bool) : Prop := ∀ i : Nat, i < p.length → M x i = am_b (p.getD i false = true)
def ws_ok (M : am_M) (s : wy_S) : Prop := M 95 4 = s.1 ∧ M 95 3 = s.2.1 ∧ wy_row M 120 s.2.2
/-- what the search at a depth writes -/
def wf_fr (k : Nat) (M M' : am_M) : Prop := ∀ x j, ¬ ds_ x j → ¬ (x = 95 ∧ 3 ≤ j ∧ j ≤ 4) → ¬ (x = 119 ∧ (k : Int) ≤ j) → ¬ x = 120 → ¬ (98 + 2 * (k : Int) < x ∧ x ≤ 118) → M' x j = M x j
theorem wf_rf {k : Nat} {M : am_M} : wf_fr k M M := fun _ _ _ _ _ _ _ => rfl
theorem wf_tr {k : Nat} {M M1 M2 : am_M} (h : wf_fr k M M1) (q : wf_fr k M1 M2) : wf_fr k M M2 := fun x j y y2 y3 y4 y5 => (q x j y y2 y3 y4 y5).trans (h x j y y2 y3 y4 y5)
theorem wf_up {k : Nat} {M M1 : am_M} (h : wf_fr (k + 1) M M1) : wf_fr k M M1 := fun x j y y2 y3 y4 y5 => h x j y y2 (by omega) y4 (by omega)
theorem wf_dm {k : Nat} {M M1 : am_M} {c : Int} {D : dm_D} (h : wf_fr k M M1) (hd : dm_ok M c D) : dm_ok M1 c D := by
  have hcc := hd.1
  refine dm_ok_fr (fun x j x1 x2 x3 x4 x5 x6 => h x j ?_ ?_ ?_ ?_ ?_) hd
  · unfold ds_
    rcases hcc with rfl | rfl <;> omega
  all_goals (rcases hcc with rfl | rfl <;> omega)
theorem wf_sm {k : Nat} {M M1 : am_M} {v a g : Int} {D : dm_D} {w : Int → Int} (h : wf_fr k M M1) (hv : 97 ≤ v ∧ v + 1 ≤ 98 + 2 * (k : Int) ∧ v + 1 ≤ 118) (hs : sm_ok M D v a g w) : sm_ok M1 D v a g w :=
  sm_ok_fr (h _ _ (by unfold ds_; omega) (by omega) (by omega) (by omega) (by omega)) (h _ _ (by unfold ds_; omega) (by omega) (by omega) (by omega) (by omega)) (fun j => h _ _ (by unfold ds_; omega) (by omega) (by omega) (by omega) (by omega)) hs
theorem wf_sc {k : Nat} {M M1 : am_M} (h : wf_fr k M M1) : sc_fr M M1 := fun x j y => by
  unfold sc_ at y
  exact h x j (by unfold ds_; omega) (by omega) (by omega) (by omega) (by omega)
theorem wy_row_fr {M M1 : am_M} {x : Int} {p : List Bool} (h : ∀ i : Nat, i < p.length → M1 x i = M x i) (q : wy_row M x p) : wy_row M1 x p := fun i hi => (h i hi).trans (q i hi)
theorem wy_row_s {M : am_M} {x v : Int} {p : List Bool} {b : Bool} {k : Nat} (hk : p.length = k) (hv : v = am_b (b = true)) (q : wy_row M x p) : wy_row (am_up M x k v) x (p ++ [b]) := fun i hi => by
  rw [List.length_append, List.length_singleton] at hi
  by_cases e : i = k
  · subst e
    rw [am_up_at, hv]
    have e2 : (p ++ [b]).getD i false = b := by
      rw [List.getD_eq_getElem?_getD, List.getElem?_append_right (by omega), hk, Nat.sub_self]
      rfl
    rw [e2]
  · rw [am_up_el (by omega), q i (by omega)]
    have e2 : (p ++ [b]).getD i false = p.getD i false := by
      rw [List.getD_eq_getElem?_getD, List.getD_eq_getElem?_getD, List.getElem?_append_left (by omega)]
    rw [e2]
theorem st_isBetter {d : Nat} {M : am_M} {f : Int → am_M → Prop} {s : wy_S} {k c : Int} (hs : ws_ok M s) (h1 : wy_lt c k s.1 s.2.1 → f 1 M) (h0 : ¬ wy_lt c k s.1 s.2.1 → f 0 M) : am_cal pg (d + 1) 116 [(2, 95), (0, k), (0, c)] sh_T M (am_c0 sh_T f) := by
  unfold wy_lt at h1 h0
  obtain ⟨e1, e2, -⟩ := hs
  refine en_X10_isBetter (bk_X10_isBetter_0 ?_)
  rw [e1, e2]
  exact ⟨fun z => am_c0_i (h1 (Or.inl z)), fun z => ⟨fun z2 => am_c0_i (h0 (by omega)), fun z2 => ⟨fun z3 => am_c0_i (h0 (by omega)), fun z3 => am_c0_i (h1 (Or.inr ⟨z2, z3⟩))⟩⟩⟩
def P_sk (D : dm_D) (c a g : Int) (y : Bool) (r : Nat) : Prop := ∀ (k : Nat) (M : am_M) (w : Int → Int) (p : List Bool) (s : wy_S) (e : Nat) (dr : Int) (f : am_M → Prop), k + r = 10 → p.length = k → dm_ok M c D → sm_ok M D (96 + 1 + 2 * (k : Int)) a g w → M 95 5 = am_b (y = true) → ws_ok M s → wy_row M 119 p → (y = false → dr = 0) → (0 ≤ dr ∧ dr ≤ 999 * (k : Int)) → 8 + 2 * r ≤ e → (∀ M', wf_fr k M M' → ws_ok M' (wy_go D a g y r k dr w p s) → f M') → am_cal pg e 117 [(2, 95), (2, c), (0, (k : Int)), (0, dr)] sh_T M (am_cv sh_T f)
theorem st_goOn {D : dm_D} {c a g : Int} {y : Bool} {r : Nat} (ih : P_sk D c a g y r) (k : Nat) (M : am_M) (w : Int → Int) (p : List Bool) (s : wy_S) (e : Nat) (dr : Int) (f : am_M → Prop) (b : Bool) (hk : k + (r + 1) = 10) (hp : p.length = k) (hd : dm_ok M c D) (hs : sm_ok M D (96 + 1 + 2 * (k : Int)) a g w) (hy : M 95 5 = am_b (y = true)) (hw : ws_ok M s) (hr : wy_row M 119 p) (hz : y = false → dr = 0) (hdr : 0 ≤ dr ∧ dr ≤ 999 * (k : Int)) (hh : ¬ pu_home D w) (he : 9 + 2 * r ≤ e)
    (h1 : (b = true → 1 < dN D) → ∀ M', wf_fr k M M' → ws_ok M' (wy_go D a g y r ((k : Int) + 1) (dr + wy_s D g y b w) (pu_step D a g b w) (p ++ [b]) s) → f M') (h0 : ¬ (b = true → 1 < dN D) → ∀ M', wf_fr k M M' → ws_ok M' s → f M') : am_cal pg e 118 [(2, 95), (2, c), (0, (k : Int)), (0, dr), (0, am_b (b = true))] sh_T M (am_cv sh_T f) := by
  obtain ⟨e', rfl⟩ : ∃ e', e = (e' + 5) + 1 := ⟨e - 6, by omega⟩
  have hcc := hd.1
  have hcr := dm_range hd
  have sA : sl_is (96 + 1 + 2 * ((k : Int) + 1)) := sl_row_96 (by omega) (by omega)
  have hn0 := pu_away hd.2.1 hs.2.2.2.2 hh
  refine en_X10_goOn (bk_X10_goOn_0 ⟨fun z => by omega, fun _ => ⟨fun _ => ⟨⟨by omega, by omega⟩, ⟨by omega, by omega⟩, ⟨by omega, by omega⟩, sA.1, st_copy sA hs.1 (by omega) (by omega) (by omega) ⟨⟨by omega, by omega⟩, dr_ob hd.1, ?_⟩⟩, fun z => by omega⟩⟩)
  have c1 : sm_ok (sl_cp M (96 + 1 + 2 * ((k : Int) + 1)) (96 + 1 + 2 * (k : Int))) D (96 + 1 + 2 * ((k : Int) + 1)) a g w := cp_ok sA hs
  have cf : ∀ x j, ¬ x = 96 + 1 + 2 * ((k : Int) + 1) → ¬ x = 96 + 1 + 2 * ((k : Int) + 1) + 1 → sl_cp M (96 + 1 + 2 * ((k : Int) + 1)) (96 + 1 + 2 * (k : Int)) x j = M x j := fun x j x1 x2 => cp_fr x1 x2
  generalize sl_cp M (96 + 1 + 2 * ((k : Int) + 1)) (96 + 1 + 2 * (k : Int)) = M1 at c1 cf ⊢
  have f1 : wf_fr k M M1 := fun x j y y2 y3 y4 y5 => cf x j (by omega) (by omega)
  have d1 := wf_dm f1 hd
  have w1 : ws_ok M1 s := ⟨by rw [cf _ _ (by omega) (by omega)]; exact hw.1, by rw [cf _ _ (by omega) (by omega)]; exact hw.2.1, wy_row_fr (fun i hi => cf _ _ (by omega) (by omega)) hw.2.2⟩
  by_cases hb : b = true → 1 < dN D
  · refine st_room d1 c1 hh hb (fun M2 f2 d2 s2 => ?_)
    have dr1 := pu_dread_in (g := g) (w := w) hd.2.1 hn0 hb
    have sc1 := wy_s_in (g := g) (y := y) hd.2.1 hs.2.2.2.2 hn0 hb
    have e2 : ∀ x j, ¬ ds_ x j → ¬ x = 96 + 1 + 2 * ((k : Int) + 1) + 1 → M2 x j = M1 x j := fun x j x1 x2 => f2 x j (by unfold ds_ at x1; rcases hcc with rfl | rfl <;> omega) (by unfold ds_ at x1; rcases hcc with rfl | rfl <;> omega) (by unfold ds_ at x1; rcases hcc with rfl | rfl <;> omega) (by unfold ds_ at x1; rcases hcc with rfl | rfl <;> omega) x2
    have f12 : wf_fr k M M2 := wf_tr f1 (fun x j y y2 y3 y4 y5 => e2 x j y (by omega))
    have y2 : M2 95 5 = am_b (y = true) := (f12 95 5 (by unfold ds_; omega) (by omega) (by omega) (by omega) (by omega)).trans hy
    have w2 : ws_ok M2 s := ⟨by rw [e2 _ _ (by unfold ds_; omega) (by omega)]; exact w1.1, by rw [e2 _ _ (by unfold ds_; omega) (by omega)]; exact w1.2.1, wy_row_fr (fun i hi => e2 _ _ (by unfold ds_; omega) (by omega)) w1.2.2⟩
    have r2 : wy_row M2 119 p := wy_row_fr (fun i hi => f12 _ _ (by unfold ds_; omega) (by omega) (by omega) (by omega) (by omega)) hr
    have sk : sm_ok M2 D (96 + 1 + 2 * (k : Int)) a g w := wf_sm f12 ⟨by omega, by omega, by omega⟩ hs
    refine ⟨fun z => by omega, fun _ => ?_⟩
    -- the way is written, then on
    have on : ∀ x : Int, x = am_b (b = true) → ((am_up M2 119 k x) 95 5 = am_b (y = true) ∧ dm_ok (am_up M2 119 k x) c D ∧ sm_ok (am_up M2 119 k x) D (96 + 1 + 2 * ((k + 1 : Nat) : Int)) a g (pu_step D a g b w) ∧ ws_ok (am_up M2 119 k x) s ∧ wy_row (am_up M2 119 k x) 119 (p ++ [b]) ∧ wf_fr k M (am_up M2 119 k x) ∧ sm_ok (am_up M2 119 k x) D (96 + 1 + 2 * (k : Int)) a g w) := fun x hx => by
      have u : ∀ z j, ¬ z = 119 → am_up M2 119 k x z j = M2 z j := fun z j h => am_up_el (by omega)
      refine ⟨(u _ _ (by omega)).trans y2, dm_ok_fr (fun x j x1 x2 _ _ _ _ => u _ _ (by rcases hcc with rfl | rfl <;> omega)) d2, sm_ok_fr (u _ _ (by omega)) (u _ _ (by omega)) (fun j => u _ _ (by omega)) s2, ⟨(u _ _ (by omega)).trans w2.1, (u _ _ (by omega)).trans w2.2.1, wy_row_fr (fun i hi => u _ _ (by omega)) w2.2.2⟩, wy_row_s hp hx r2, wf_tr f12 (fun x j y y2 y3 y4 y5 => am_up_el (by omega)), sm_ok_fr (u _ _ (by omega)) (u _ _ (by omega)) (fun j => u _ _ (by omega)) sk⟩
    have step : ∀ x dr' : Int, x = am_b (b = true) → dr' = dr + wy_s D g y b w → am_cal pg (e' + 5) 117 [(2, 95), (2, c), (0, (k : Int) + 1), (0, dr')] sh_T (am_up M2 119 k x) (am_cv sh_T fun M3 => (am_cv sh_T f) (none, sh_T, M3)) := fun x dr' hx hdr' => by
      obtain ⟨o1, o2, o3, o4, o5, o6, -⟩ := on x hx
      refine ih (k + 1) _ _ (p ++ [b]) s _ dr' _ (by omega) (by rw [List.length_append, List.length_singleton]; omega) o2 o3 o1 o4 o5 (fun z => ?_) ⟨by omega, by omega⟩ (by omega) (fun M3 q1 q2 => am_cv_i (h1 hb M3 (wf_tr o6 (wf_up q1)) ?_))
      · rw [hdr', hz z, show wy_s D g y b w = 0 from if_neg (by rw [z]; decide)]; rfl
      · rw [hdr'] at q2
        exact q2
    have y0 : am_b (y = true) = 0 → wy_s D g y b w = 0 := fun z => if_neg (am_b_z.mp z)
    have y1 : ¬ am_b (y = true) = 0 → wy_s D g y b w = w (pu_dread D g b w) := fun z => if_pos (am_b_nz z)
    have fin : ∀ x : Int, x = am_b (b = true) → (((am_up M2 119 k x) 95 5 = 0 → am_cal pg (e' + 5) 117 [(2, 95), (2, c), (0, (k : Int) + 1), (0, 0)] sh_T (am_up M2 119 k x) (am_cv sh_T fun M3 => (am_cv sh_T f) (none, sh_T, M3))) ∧ (¬ (am_up M2 119 k x) 95 5 = 0 → am_ob sh_T 7 (96 + 1 + 2 * (k : Int)) ∧ am_cal pg (e' + 5) 72 [(2, 96 + 1 + 2 * (k : Int)), (0, pu_dread D g b w)] sh_T (am_up M2 119 k x) (am_c0 sh_T fun x18 M18 => am_r (dr + x18) ∧ am_cal pg (e' + 5) 117 [(2, 95), (2, c), (0, (k : Int) + 1), (0, dr + x18)] sh_T M18 (am_cv sh_T fun M20 => (am_cv sh_T f) (none, sh_T, M20))))) := fun x hx => by
      obtain ⟨o1, o2, o3, o4, o5, o6, o7⟩ := on x hx
      rw [o1]
      refine ⟨fun z => ?_, fun z => ⟨hs.1.1, st_at hs.1 ?_⟩⟩
      · have yf : y = false := by
          cases y with
          | false => rfl
          | true => exact absurd z (by rw [am_b_1 rfl]; decide)
        exact step x 0 hx (by rw [y0 z, hz yf]; rfl)
      · rw [if_pos dr1, o7.2.2.2.1 _ dr1.1 dr1.2, ← y1 z]
        exact ⟨⟨by omega, by omega⟩, step x _ hx rfl⟩
    have u0 : ∀ x : Int, M2 95 5 = (am_up M2 119 k x) 95 5 := fun x => (am_up_el (by omega)).symm
    refine ⟨fun z => ⟨⟨by omega, by omega⟩, ⟨by omega, by omega⟩, ?_⟩, fun z => ⟨⟨by omega, by omega⟩, ⟨by omega, by omega⟩, ?_⟩⟩
    · rw [u0 0]
      exact fin 0 z.symm
    · rw [u0 1]
      exact fin 1 (am_b_1 (am_b_nz z)).symm
  · have bt : b = true := by
      cases b with
      | true => rfl
      | false => exact absurd (fun z => by cases z) hb
    have hno : ¬ 1 < dN D := fun z => hb (fun _ => z)
    subst bt
    exact st_room_no d1 c1 hno ⟨fun _ => am_cv_i (h0 hb M1 f1 w1), fun z => absurd rfl z⟩
theorem st_seek {D : dm_D} {c a g : Int} {y : Bool} : ∀ r : Nat, P_sk D c a g y r
  | 0 => by
    intro k M w p s e dr f hk hp hd hs hy hw hr hz hdr he h
    obtain ⟨e', rfl⟩ : ∃ e', e = (e' + 2) + 1 := ⟨e - 3, by omega⟩
    unfold wy_go at h
    refine en_X10_seek (bk_X10_seek_0 ⟨fun z => by omega, fun _ => ⟨fun z => by omega, fun _ => st_isBetter hw (fun q => ⟨fun _ => ⟨⟨by omega, by omega⟩, dr_ob hd.1, st_home hd hs ⟨fun z => ⟨fun _ => ?_, fun z2 => by omega⟩, fun z => ⟨⟨⟨by decide, by decide, by decide⟩, ⟨by decide, by decide, by decide, by decide⟩, by decide, 0, 10, 0, 10, rfl, rfl, by decide, by decide⟩, ?_⟩⟩⟩, fun z => absurd z (by decide)⟩) (fun q => ⟨fun z => absurd rfl z, fun _ => am_cv_i (h M wf_rf ?_)⟩)⟩⟩)
    · rw [if_pos q, if_neg (am_b_z.mp z)] at h
      exact am_cv_i (h M wf_rf hw)
    · rw [if_pos q, if_pos (am_b_nz z)] at h
      refine am_cv_i (h _ (fun x j y y2 y3 y4 y5 => ?_) ⟨?_, ?_, fun i hi => ?_⟩)
      · unfold am_cpy
        rw [if_neg (by omega), am_up_el (by omega), am_up_el (by omega)]
      · unfold am_cpy
        rw [if_neg (by omega), am_up_at]
      · unfold am_cpy
        rw [if_neg (by omega), am_up_el (by omega), am_up_at]
      · have hi : i < p.length := hi
        unfold am_cpy
        rw [if_pos ⟨rfl, by omega, by omega⟩, am_up_el (by omega), am_up_el (by omega), show (0 : Int) + ((i : Int) - 0) = i by omega]
        exact hr i hi
    · rw [if_neg q]; exact hw
  | r + 1 => by
    intro k M w p s e dr f hk hp hd hs hy hw hr hz hdr he h
    have ih := st_seek (D := D) (c := c) (a := a) (g := g) (y := y) r
    obtain ⟨e', rfl⟩ : ∃ e', e = (e' + 2) + 1 := ⟨e - 3, by omega⟩
    unfold wy_go at h
    refine en_X10_seek (bk_X10_seek_0 ⟨fun z => by omega, fun _ => ⟨fun z => by omega, fun _ => st_isBetter hw (fun q => ⟨fun _ => ⟨⟨by omega, by omega⟩, dr_ob hd.1, st_home hd hs ⟨fun z => ⟨fun z2 => by omega, fun _ => ?_⟩, fun z => ⟨⟨⟨by decide, by decide, by decide⟩, ⟨by decide, by decide, by decide, by decide⟩, by decide, 0, 10, 0, 10, rfl, rfl, by decide, by decide⟩, ?_⟩⟩⟩, fun z => absurd z (by decide)⟩) (fun q => ⟨fun z => absurd rfl z, fun _ => am_cv_i (h M wf_rf ?_)⟩)⟩⟩)
    · have hh := am_b_z.mp z
      rw [if_pos q, if_neg hh] at h
      have b0 := st_goOn ih k M w p s (e' + 2) dr (fun M1 => am_cal pg (e' + 2) 118 [(2, 95), (2, c), (0, (k : Int)), (0, dr), (0, 1)] sh_T M1 (am_cv sh_T fun M2 => (am_cv sh_T f) (none, sh_T, M2))) false hk hp hd hs hy hw hr hz hdr hh (by omega) (fun _ M1 q1 q2 => ?_) (fun z2 => absurd (fun z3 => by cases z3) z2)
      · rw [am_b_0 (show ¬ (false = true) by decide)] at b0
        exact b0
      · have b1 := st_goOn ih k M1 w p _ (e' + 2) dr (fun M2 => (am_cv sh_T f) (none, sh_T, M2)) true hk hp (wf_dm q1 hd) (wf_sm q1 ⟨by omega, by omega, by omega⟩ hs) ((q1 95 5 (by unfold ds_; omega) (by omega) (by omega) (by omega) (by omega)).trans hy) q2 (wy_row_fr (fun i hi => q1 _ _ (by unfold ds_; omega) (by omega) (by omega) (by omega) (by omega)) hr) hz hdr hh (by omega) (fun hb M2 q3 q4 => am_cv_i (h M2 (wf_tr q1 q3) ?_)) (fun hb M2 q3 q4 => am_cv_i (h M2 (wf_tr q1 q3) ?_))
        · rw [am_b_1 (show (true = true) by decide)] at b1
          exact b1
        · rw [if_pos (hb rfl)]; exact q4
        · rw [if_neg (fun z2 => hb (fun _ => z2))]; exact q4
    · rw [if_pos q, if_pos (am_b_nz z)] at h
      refine am_cv_i (h _ (fun x j y y2 y3 y4 y5 => ?_) ⟨?_, ?_, fun i hi => ?_⟩)
      · unfold am_cpy
        rw [if_neg (by omega), am_up_el (by omega), am_up_el (by omega)]
      · unfold am_cpy
        rw [if_neg (by omega), am_up_at]
      · unfold am_cpy
        rw [if_neg (by omega), am_up_el (by omega), am_up_at]
      · have hi : i < p.length := hi
        unfold am_cpy
        rw [if_pos ⟨rfl, by omega, by omega⟩, am_up_el (by omega), am_up_el (by omega), show (0 : Int) + ((i : Int) - 0) = i by omega]
        exact hr i hi
    · rw [if_neg q]; exact hw
