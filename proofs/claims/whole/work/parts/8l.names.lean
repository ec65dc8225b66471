/-! THE CLASS AND THE NAMES THAT A DREAM'S TEXT TELLS -/
def dr_ar (x : Int) (n : Nat) : Prop := am_alen pg sh_T x = some n ∧ ∀ i : Int, 0 ≤ i → i < (n : Int) → am_in pg sh_T 1 x i ∧ am_own sh_T 1 x i
def dr_sh (c : Int) : Prop := (am_ob sh_T 2 c ∧ am_ob sh_T 6 (c + 6)) ∧ dr_ar (c + 1) 84 ∧ dr_ar (c + 2) 3 ∧ dr_ar (c + 3) 4 ∧ dr_ar (c + 4) 24 ∧ dr_ar (c + 5) 4 ∧ dr_ar (c + 11) 3 ∧ dr_ar (c + 12) 3
theorem dr_sh_of {c : Int} (hc : dr_is c) : dr_sh c := by
  rcases hc with rfl | rfl
  · exact ⟨⟨ob_11, ob_17⟩, ⟨rfl, fun i h1 h2 => ⟨ia_12 h1 h2, ow_12 h1 h2⟩⟩, ⟨rfl, fun i h1 h2 => ⟨ia_13 h1 h2, ow_13 h1 h2⟩⟩, ⟨rfl, fun i h1 h2 => ⟨ia_14 h1 h2, ow_14 h1 h2⟩⟩, ⟨rfl, fun i h1 h2 => ⟨ia_15 h1 h2, ow_15 h1 h2⟩⟩, ⟨rfl, fun i h1 h2 => ⟨ia_16 h1 h2, ow_16 h1 h2⟩⟩, ⟨rfl, fun i h1 h2 => ⟨ia_22 h1 h2, ow_22 h1 h2⟩⟩, ⟨rfl, fun i h1 h2 => ⟨ia_23 h1 h2, ow_23 h1 h2⟩⟩⟩
  · exact ⟨⟨ob_24, ob_30⟩, ⟨rfl, fun i h1 h2 => ⟨ia_25 h1 h2, ow_25 h1 h2⟩⟩, ⟨rfl, fun i h1 h2 => ⟨ia_26 h1 h2, ow_26 h1 h2⟩⟩, ⟨rfl, fun i h1 h2 => ⟨ia_27 h1 h2, ow_27 h1 h2⟩⟩, ⟨rfl, fun i h1 h2 => ⟨ia_28 h1 h2, ow_28 h1 h2⟩⟩, ⟨rfl, fun i h1 h2 => ⟨ia_29 h1 h2, ow_29 h1 h2⟩⟩, ⟨rfl, fun i h1 h2 => ⟨ia_35 h1 h2, ow_35 h1 h2⟩⟩, ⟨rfl, fun i h1 h2 => ⟨ia_36 h1 h2, ow_36 h1 h2⟩⟩⟩
theorem gn_r {l : List (List Int)} {n : List Int} : (l ++ [n]).getD l.length [] = n := by
  rw [List.getD_eq_getElem?_getD, List.getElem?_append_right (Nat.le_refl _), Nat.sub_self]; rfl
theorem gn_l {l : List (List Int)} {n : List Int} {i : Nat} (h : i < l.length) : (l ++ [n]).getD i [] = l.getD i [] := by
  rw [List.getD_eq_getElem?_getD, List.getElem?_append_left h, ← List.getD_eq_getElem?_getD]
/-- the first name of a sort -/
def fst_ (k : Int) : Int := if k = 0 then 0 else if k = 1 then 6 else if k = 2 then 10 else 14
def ro_ (M : am_M) : Prop := ∀ k : Int, 0 ≤ k → k < 4 → M 2000000 k = fst_ k
/-- a dream's names, as the class has them -/
def tn_ (M : am_M) (c : Int) (T : tt_) : Prop := (∀ k : Int, 0 ≤ k → k < 3 → M (c + 2) k = ((tN T k).length : Int)) ∧ (∀ k : Int, 0 ≤ k → k < 3 → ∀ i j : Nat, i < (tN T k).length → j < 6 → M (c + 1) (6 * (fst_ k + i) + j) = ((tN T k).getD i []).getD j 0)
/-- the name just read -/
def nn_ (M : am_M) (n : List Int) : Prop := nk_ n ∧ M 1 7 = n.length ∧ 0 ≤ M 1 6 ∧ M 1 6 ≤ 1600 ∧ M 1 1 ≤ 1600 ∧ ∀ j : Nat, j < n.length → rd_by (M 2) (M 1 1) (M 1 6 + j) = n.getD j 0 + 96
theorem nk_at {n : List Int} (h : nk_ n) {j : Nat} (hj : j < n.length) : 1 ≤ n.getD j 0 ∧ n.getD j 0 ≤ 26 := by
  rw [List.getD_eq_getElem?_getD, List.getElem?_eq_getElem hj]
  exact h.2.2 _ (List.getElem_mem hj)
theorem nk_0 {n : List Int} {j : Nat} (hj : n.length ≤ j) : n.getD j 0 = 0 := by
  rw [List.getD_eq_getElem?_getD, List.getElem?_eq_none hj]; rfl
theorem nk_eq {n m : List Int} (h1 : nk_ n) (h2 : nk_ m) (h : ∀ j : Nat, j < 6 → n.getD j 0 = m.getD j 0) : n = m := by
  have hl : n.length = m.length := by
    rcases Nat.lt_trichotomy n.length m.length with q | q | q
    · have a := h n.length (by have := h2.2.1; omega)
      rw [nk_0 (Nat.le_refl _)] at a
      have := nk_at h2 q; omega
    · exact q
    · have a := h m.length (by have := h1.2.1; omega)
      rw [nk_0 (n := m) (Nat.le_refl _)] at a
      have := nk_at h1 q; omega
  refine List.ext_getElem hl (fun i i1 i2 => ?_)
  have a := h i (by have := h1.2.1; omega)
  rw [List.getD_eq_getElem?_getD, List.getElem?_eq_getElem i1, List.getD_eq_getElem?_getD, List.getElem?_eq_getElem i2] at a
  exact a
theorem dr_fst {k : Int} (hk : 0 ≤ k ∧ k < 3) : 0 ≤ fst_ k ∧ fst_ k ≤ 10 := by
  rcases (show k = 0 ∨ k = 1 ∨ k = 2 by omega) with rfl | rfl | rfl <;> decide
theorem st_placeOf {d : Nat} {M : am_M} {f : Int → am_M → Prop} {c k i : Int} (hk : 0 ≤ k ∧ k < 3) (hi : 0 ≤ i ∧ i < 6) (hr : ro_ M) (h : f (fst_ k + i) M) : am_cal pg (d + 1) 17 [(2, c), (0, k), (0, i)] sh_T M (am_c0 sh_T f) := by
  have hf := dr_fst hk
  have e := hr k hk.1 (by omega)
  refine en_X2_placeOf (bk_X2_placeOf_0 ⟨fun z => by omega, fun _ => ⟨fun z => by omega, fun _ => ⟨⟨hk.1, by omega⟩, ?_, am_c0_i ?_⟩⟩⟩)
  · rw [e]; exact ⟨by omega, by omega⟩
  · rw [e]; exact h
theorem st_letterAt {d : Nat} {M : am_M} {f : Int → am_M → Prop} {c x j : Int} (hc : dr_is c) (hx : 0 ≤ x ∧ x < 14) (hj : 0 ≤ j ∧ j < 6) (h : f (M (c + 1) (6 * x + j)) M) : am_cal pg (d + 1) 18 [(2, c), (0, x), (0, j)] sh_T M (am_c0 sh_T f) := by
  obtain ⟨⟨ob, -⟩, ⟨a1, a2⟩, -⟩ := dr_sh_of hc
  refine en_X2_letterAt (bk_X2_letterAt_0 ⟨⟨by omega, by omega⟩, ⟨by omega, by omega⟩, fun z => by omega, fun _ => ⟨ob, 84, a1, fun z => by omega, fun _ => ⟨(a2 _ (by omega) (by omega)).1, am_c0_i ?_⟩⟩⟩)
  rw [show x * 6 = 6 * x by omega]
  exact h
theorem st_isFull {d : Nat} {M : am_M} {f : Int → am_M → Prop} {c k : Int} {T : tt_} (hc : dr_is c) (hk : 0 ≤ k ∧ k < 3) (hr : ro_ M) (ht : tn_ M c T) (h : f (am_b (fst_ (k + 1) - fst_ k ≤ ((tN T k).length : Int))) M) : am_cal pg (d + 2) 16 [(2, c), (0, k)] sh_T M (am_c0 sh_T f) := by
  have e0 := hr k hk.1 (by omega)
  have e1 := hr (k + 1) (by omega) (by omega)
  have hb : 0 ≤ fst_ k ∧ fst_ k ≤ 14 ∧ 0 ≤ fst_ (k + 1) ∧ fst_ (k + 1) ≤ 14 := by
    rcases (show k = 0 ∨ k = 1 ∨ k = 2 by omega) with rfl | rfl | rfl <;> decide
  refine en_X2_isFull (bk_X2_isFull_0 ⟨fun z => by omega, fun _ => ⟨fun z => by omega, fun _ => ⟨(dr_sh_of hc).1.1, st_count hc ?_⟩⟩⟩)
  rw [if_pos hk, ht.1 k hk.1 hk.2, e0, e1]
  refine ⟨⟨by omega, by omega⟩, ⟨by omega, by omega⟩, ⟨by omega, by omega⟩, ⟨by omega, by omega⟩, fun z => am_c0_i ?_, fun z => am_c0_i ?_⟩
  · rw [am_b_0 (by omega)] at h; exact h
  · rw [am_b_1 z] at h; exact h
/-- the letter of the name just read, 0 behind it -/
theorem nn_let {M : am_M} {n : List Int} (h : nn_ M n) {j : Nat} (hj : (j : Int) < M 1 7) : am_r (M 1 6 + (j : Int)) ∧ rd_by (M 2) (M 1 1) (M 1 6 + (j : Int)) - 97 + 1 = n.getD j 0 ∧ am_r (rd_by (M 2) (M 1 1) (M 1 6 + (j : Int)) - 97) ∧ am_r (rd_by (M 2) (M 1 1) (M 1 6 + (j : Int)) - 97 + 1) := by
  obtain ⟨h1, h2, h3, h4, h5, h6⟩ := h
  have h7 := h6 j (by omega)
  have h8 := nk_at h1 (j := j) (by omega)
  have := h1.2.1
  exact ⟨⟨by omega, by omega⟩, by omega, ⟨by omega, by omega⟩, ⟨by omega, by omega⟩⟩
/-- the names told are right -/
def tkn_ (T : tt_) : Prop := (∀ k : Int, 0 ≤ k → k < 3 → ∀ n ∈ tN T k, nk_ n) ∧ (tN T 0).length ≤ 6 ∧ (tN T 1).length ≤ 4 ∧ (tN T 2).length ≤ 4
theorem tk_n {T : tt_} (h : tk_ T) : tkn_ T := ⟨h.1, h.2.1⟩
theorem tn_len {T : tt_} (h : tkn_ T) {k : Int} (hk : 0 ≤ k ∧ k < 3) : (tN T k).length ≤ 6 ∧ fst_ k + ((tN T k).length : Int) ≤ 14 := by
  obtain ⟨-, h1, h2, h3⟩ := h
  rcases (show k = 0 ∨ k = 1 ∨ k = 2 by omega) with rfl | rfl | rfl
  · exact ⟨h1, by rw [show fst_ 0 = 0 from rfl]; omega⟩
  · exact ⟨by omega, by rw [show fst_ 1 = 6 from rfl]; omega⟩
  · exact ⟨by omega, by rw [show fst_ 2 = 10 from rfl]; omega⟩
theorem st_findName {d : Nat} {M : am_M} {f : Int → am_M → Prop} {c k : Int} {T : tt_} {n : List Int} (hc : dr_is c) (hk : 0 ≤ k ∧ k < 3) (hr : ro_ M) (ht : tn_ M c T) (hT : tkn_ T) (hn : nn_ M n) (h : f (fn_ (tN T k) n 0) M) : am_cal pg (d + 2) 20 [(2, c), (0, k), (2, 1)] sh_T M (am_c0 sh_T f) := by
  have hl := tn_len hT hk
  have hf := dr_fst hk
  have hob := (dr_sh_of hc).1.1
  -- the letters of one name
  have inner : ∀ (m : Nat) (i : Nat) (x : List Int), i < (tN T k).length → x = (tN T k).getD i [] → (x = n → f (i : Int) M) → (¬ x = n → am_g 2 0 co_X2_findName (d + 1) (am_c0 sh_T f) 2 [(2, c), (0, k), (2, 1), (0, (i : Int) + 1), (3, 0), (3, 0), (3, 0)] [] sh_T M) → ∀ (j : Nat) (v4 : Int), j + m = 6 → ((v4 = 1 ∧ ∀ j' : Nat, j' < j → n.getD j' 0 = x.getD j' 0) ∨ (v4 = 0 ∧ ¬ x = n)) → am_g 2 0 co_X2_findName (d + 1) (am_c0 sh_T f) 17 [(2, c), (0, k), (2, 1), (0, (i : Int)), (0, v4), (0, (j : Int)), (3, 0)] [] sh_T M := by
    intro m
    induction m with
    | zero =>
      intro i x hi hx h1 h2 j v4 hj hv
      have hxk : nk_ x := by
        rw [hx, List.getD_eq_getElem?_getD, List.getElem?_eq_getElem hi]
        exact hT.1 k hk.1 hk.2 _ (List.getElem_mem hi)
      refine bk_X2_findName_17 ⟨fun _ => ⟨fun z => ⟨⟨by omega, by omega⟩, h2 ?_⟩, fun z => am_c0_i (h1 ?_)⟩, fun z => by omega⟩
      · rcases hv with ⟨v, -⟩ | ⟨-, v⟩
        · omega
        · exact v
      · rcases hv with ⟨-, v⟩ | ⟨v, -⟩
        · exact (nk_eq hn.1 hxk (fun j' hj' => v j' (by omega))).symm
        · omega
    | succ m ih =>
      intro i x hi hx h1 h2 j v4 hj hv
      have go : ∀ v4', ((v4' = 1 ∧ ∀ j' : Nat, j' < j + 1 → n.getD j' 0 = x.getD j' 0) ∨ (v4' = 0 ∧ ¬ x = n)) → am_r ((j : Int) + 1) ∧ am_g 2 0 co_X2_findName (d + 1) (am_c0 sh_T f) 17 [(2, c), (0, k), (2, 1), (0, (i : Int)), (0, v4'), (0, (j : Int) + 1), (3, 0)] [] sh_T M := fun v4' hv' => ⟨⟨by omega, by omega⟩, ih i x hi hx h1 h2 (j + 1) v4' (by omega) hv'⟩
      have el : M (c + 1) (6 * (fst_ k + i) + j) = x.getD j 0 := by rw [hx]; exact ht.2 k hk.1 hk.2 i j hi (by omega)
      -- alike so far
      have alike : ∀ w : Int, w = n.getD j 0 → ¬ v4 = 0 → am_cal pg (d + 1) 17 [(2, c), (0, k), (0, (i : Int))] sh_T M (am_c0 sh_T fun x21 M21 => am_cal pg (d + 1) 18 [(2, c), (0, x21), (0, (j : Int))] sh_T M21 (am_c0 sh_T fun x22 M22 => ((¬ w = x22 → am_r ((j : Int) + 1) ∧ am_g 2 0 co_X2_findName (d + 1) (am_c0 sh_T f) 17 [(2, c), (0, k), (2, 1), (0, (i : Int)), (0, 0), (0, (j : Int) + 1), (3, 0)] [] sh_T M22) ∧ (w = x22 → am_r ((j : Int) + 1) ∧ am_g 2 0 co_X2_findName (d + 1) (am_c0 sh_T f) 17 [(2, c), (0, k), (2, 1), (0, (i : Int)), (0, 1), (0, (j : Int) + 1), (3, 0)] [] sh_T M22)))) := fun w hw hv0 => by
        refine st_placeOf hk ⟨by omega, by omega⟩ hr (st_letterAt hc ⟨by omega, by omega⟩ ⟨by omega, by omega⟩ ?_)
        rw [el, hw]
        refine ⟨fun z => go 0 (Or.inr ⟨rfl, fun y => z (by rw [y])⟩), fun z => go 1 (Or.inl ⟨rfl, fun j' hj' => ?_⟩)⟩
        rcases hv with ⟨-, v⟩ | ⟨v, -⟩
        · by_cases y : j' = j
          · rw [y]; exact z
          · exact v j' (by omega)
        · omega
      have bad : v4 = 0 → ¬ x = n := fun z => by
        rcases hv with ⟨v, -⟩ | ⟨-, v⟩
        · omega
        · exact v
      refine bk_X2_findName_17 ⟨fun z => by omega, fun _ => ⟨ob_1, fun z => ⟨fun y => go 0 (Or.inr ⟨rfl, bad y⟩), fun y => ⟨hob, alike 0 (nk_0 (by have := hn.2.1; omega)).symm y⟩⟩, fun z => ?_⟩⟩
      obtain ⟨l1, l2, l3, l4⟩ := nn_let hn z
      refine ⟨l1, st_byteAt hn.2.2.2.2.1 ⟨l3, l4, fun y => go 0 (Or.inr ⟨rfl, bad y⟩), fun y => ⟨hob, alike _ l2 y⟩⟩⟩
  have outer : ∀ (m i : Nat), i + m = (tN T k).length → f (fn_ ((tN T k).drop i) n i) M → am_g 2 0 co_X2_findName (d + 1) (am_c0 sh_T f) 2 [(2, c), (0, k), (2, 1), (0, (i : Int)), (3, 0), (3, 0), (3, 0)] [] sh_T M := by
    intro m
    induction m with
    | zero =>
      intro i hi h
      refine bk_X2_findName_2 ⟨hob, st_count hc ?_⟩
      rw [if_pos hk, ht.1 k hk.1 hk.2]
      refine ⟨fun _ => am_c0_i ?_, fun z => by omega⟩
      rw [List.drop_of_length_le (by omega)] at h
      exact h
    | succ m ih =>
      intro i hi h
      have hlt : i < (tN T k).length := by omega
      rw [List.drop_eq_getElem_cons hlt] at h
      have ex : (tN T k)[i] = (tN T k).getD i [] := by rw [List.getD_eq_getElem?_getD, List.getElem?_eq_getElem hlt]; rfl
      have h : f (if (tN T k)[i] = n then (i : Int) else fn_ ((tN T k).drop (i + 1)) n ((i : Int) + 1)) M := h
      rw [ex] at h
      refine bk_X2_findName_2 ⟨hob, st_count hc ?_⟩
      rw [if_pos hk, ht.1 k hk.1 hk.2]
      refine ⟨fun z => by omega, fun _ => inner 6 i _ hlt rfl (fun z => ?_) (fun z => ?_) 0 1 rfl (Or.inl ⟨rfl, fun j' hj' => absurd hj' (Nat.not_lt_zero _)⟩)⟩
      · rw [if_pos z] at h; exact h
      · rw [if_neg z] at h
        exact ih (i + 1) (by omega) h
  refine en_X2_findName (bk_X2_findName_0 ?_)
  exact outer (tN T k).length 0 (by omega) h
/-- a new name is laid down -/
theorem st_giveName {d : Nat} {M : am_M} {f : Int → am_M → Prop} {c k : Int} {T : tt_} {n : List Int} (hc : dr_is c) (hk : 0 ≤ k ∧ k < 3) (hr : ro_ M) (ht : tn_ M c T) (hT : tkn_ T) (hn : nn_ M n) (hroom : ((tN T k).length : Int) < fst_ (k + 1) - fst_ k) (h : ∀ M', (∀ x j, ¬ x = c + 1 → ¬ (x = c + 2 ∧ j = k) → M' x j = M x j) → tn_ M' c (aN T k n) → f ((tN T k).length : Int) M') : am_cal pg (d + 3) 19 [(2, c), (0, k), (2, 1)] sh_T M (am_c0 sh_T f) := by
  have hl := tn_len hT hk
  have hf := dr_fst hk
  obtain ⟨⟨ob, -⟩, ⟨a1, a2⟩, ⟨b1, b2⟩, -⟩ := dr_sh_of hc
  have hroom14 : fst_ k + ((tN T k).length : Int) < 14 ∧ ((tN T k).length : Int) < 6 := by
    rcases (show k = 0 ∨ k = 1 ∨ k = 2 by omega) with rfl | rfl | rfl
    · have : fst_ (0 + 1) - fst_ 0 = 6 := by decide
      rw [show fst_ 0 = 0 from rfl] at *; omega
    · have : fst_ (1 + 1) - fst_ 1 = 4 := by decide
      rw [show fst_ 1 = 6 from rfl] at *; omega
    · have : fst_ (2 + 1) - fst_ 2 = 4 := by decide
      rw [show fst_ 2 = 10 from rfl] at *; omega
  have e2 := ht.1 k hk.1 hk.2
  generalize hP : fst_ k + ((tN T k).length : Int) = P at *
  have hP14 : 0 ≤ P ∧ P < 14 := by omega
  have hcc := hc
  unfold dr_is at hcc
  have loop : ∀ (m : Nat) (j : Nat) (M1 : am_M), j + m = 6 → (∀ x y, ¬ (x = c + 1 ∧ 6 * P ≤ y ∧ y < 6 * P + j) → M1 x y = M x y) → (∀ j' : Nat, j' < j → M1 (c + 1) (6 * P + j') = n.getD j' 0) → am_g 2 0 co_X2_giveName (d + 2) (am_c0 sh_T f) 31 [(2, c), (0, k), (2, 1), (0, ((tN T k).length : Int)), (0, P * 6), (0, (j : Int))] [] sh_T M1 := by
    intro m
    induction m with
    | zero =>
      intro j M1 hj hfr hle
      have hj6 : j = 6 := by omega
      subst hj6
      have ec : M1 (c + 2) k = ((tN T k).length : Int) := by rw [hfr (c + 2) k (by omega)]; exact e2
      refine bk_X2_giveName_31 ⟨fun _ => ⟨ob, (b2 k hk.1 (by have := hk.2; omega)).1, ?_, (b2 k hk.1 (by have := hk.2; omega)).2, am_c0_i (h _ (fun x y x1 x2 => ?_) ⟨fun k' k0 k1 => ?_, fun k' k0 k1 i j i1 j1 => ?_⟩)⟩, fun z => by omega⟩
      · rw [ec]; exact ⟨by omega, by omega⟩
      · rw [am_up_el (by omega)]
        exact hfr x y (by omega)
      · rw [tN_aN hk ⟨k0, k1⟩]
        by_cases z : k' = k
        · rw [if_pos z, z, am_up_at, ec, List.length_append, List.length_singleton]; omega
        · rw [if_neg z, am_up_el (by omega), hfr (c + 2) k' (by omega)]
          exact ht.1 k' k0 k1
      · rw [tN_aN hk ⟨k0, k1⟩] at i1 ⊢
        rw [am_up_el (by omega)]
        have hl' := tn_len hT ⟨k0, k1⟩
        by_cases z : k' = k
        · rw [if_pos z] at i1 ⊢
          subst z
          rw [List.length_append, List.length_singleton] at i1
          by_cases y : i = (tN T k').length
          · rw [y, gn_r, hP]
            exact hle j j1
          · have i2 : i < (tN T k').length := by omega
            rw [gn_l i2, hfr _ _ (by omega)]
            exact ht.2 k' k0 k1 i j i2 j1
        · rw [if_neg z] at i1 ⊢
          rw [hfr _ _ ?_]
          · exact ht.2 k' k0 k1 i j i1 j1
          · have hroom' : fst_ k' + ((tN T k').length : Int) ≤ fst_ (k' + 1) := by
              obtain ⟨-, h1, h2, h3⟩ := hT
              rcases (show k' = 0 ∨ k' = 1 ∨ k' = 2 by omega) with rfl | rfl | rfl
              · rw [show fst_ 0 = 0 from rfl, show fst_ (0 + 1) = 6 by decide]; omega
              · rw [show fst_ 1 = 6 from rfl, show fst_ (1 + 1) = 10 by decide]; omega
              · rw [show fst_ 2 = 10 from rfl, show fst_ (2 + 1) = 14 by decide]; omega
            have hapart : fst_ (k' + 1) ≤ fst_ k ∨ fst_ (k + 1) ≤ fst_ k' := by
              rcases (show k' = 0 ∨ k' = 1 ∨ k' = 2 by omega) with rfl | rfl | rfl <;> rcases (show k = 0 ∨ k = 1 ∨ k = 2 by omega) with rfl | rfl | rfl <;> first | exact absurd rfl z | decide
            omega
    | succ m ih =>
      intro j M1 hj hfr hle
      have t2 : M1 2 = M 2 := funext fun y => hfr 2 y (by omega)
      have t1 : ∀ y, M1 1 y = M 1 y := fun y => hfr 1 y (by omega)
      have go : ∀ w : Int, w = n.getD j 0 → am_own sh_T 1 (c + 1) (P * 6 + (j : Int)) ∧ am_r ((j : Int) + 1) ∧ am_g 2 0 co_X2_giveName (d + 2) (am_c0 sh_T f) 31 [(2, c), (0, k), (2, 1), (0, ((tN T k).length : Int)), (0, P * 6), (0, (j : Int) + 1)] [] sh_T (am_up M1 (c + 1) (P * 6 + (j : Int)) w) := fun w hw => by
        refine ⟨(a2 _ (by omega) (by omega)).2, ⟨by omega, by omega⟩, ih (j + 1) _ (by omega) (fun x y hxy => ?_) (fun j' hj' => ?_)⟩
        · rw [am_up_el (by omega)]
          exact hfr x y (by omega)
        · by_cases y : j' = j
          · rw [y, show 6 * P + (j : Int) = P * 6 + (j : Int) by omega, am_up_at]; exact hw
          · rw [am_up_el (by omega)]
            exact hle j' (by omega)
      refine bk_X2_giveName_31 ⟨fun z => by omega, fun _ => ⟨fun z => by omega, fun _ => ⟨⟨by omega, by omega⟩, ob, 84, a1, fun z => by omega, fun _ => ⟨⟨by omega, by omega⟩, ob_1, fun z => ?_, fun z => ?_⟩⟩⟩⟩
      · rw [t1 7] at z
        exact go 0 (nk_0 (by have := hn.2.1; omega)).symm
      · rw [t1 7] at z
        obtain ⟨l1, l2, l3, l4⟩ := nn_let hn z
        rw [t1 6]
        refine ⟨l1, st_byteAt (by rw [t1]; exact hn.2.2.2.2.1) ?_⟩
        rw [t2, t1 1]
        exact ⟨l3, l4, go _ l2⟩
  refine en_X2_giveName (bk_X2_giveName_0 ⟨ob, st_isFull hc hk hr ht ?_⟩)
  rw [am_b_0 (by omega)]
  refine ⟨fun _ => ⟨(b2 k hk.1 (by have := hk.2; omega)).1, ?_⟩, fun z => absurd rfl z⟩
  rw [e2]
  refine st_placeOf hk ⟨by omega, by omega⟩ hr ?_
  rw [hP]
  exact ⟨⟨by omega, by omega⟩, loop 6 0 M rfl (fun x y _ => rfl) (fun j' hj' => absurd hj' (Nat.not_lt_zero _))⟩
