/-! WAYS HOME: the best of all of them, and that the search with its cuts finds it -/
def wy_is (D : dm_D) (a g : Int) : List Bool → (Int → Int) → Prop
  | [], w => pu_home D w
  | b :: l, w => ¬ pu_home D w ∧ (b = true → 1 < dN D) ∧ wy_is D a g l (pu_step D a g b w)
/-- the dread of a step, where it counts -/
def wy_s (D : dm_D) (g : Int) (y : Bool) (b : Bool) (w : Int → Int) : Int := if y = true then w (pu_dread D g b w) else 0
def wy_c (D : dm_D) (a g : Int) (y : Bool) : List Bool → (Int → Int) → Int
  | [], _ => 0
  | b :: l, w => wy_s D g y b w + wy_c D a g y l (pu_step D a g b w)
def wy_n : List Bool → Nat
  | [] => 0
  | b :: l => (if b = true then 2 ^ l.length else 0) + wy_n l
abbrev wy_lt (a b c d : Int) : Prop := a < c ∨ (a = c ∧ b < d)
/-- the best so far: its dread, its rooms, itself -/
abbrev wy_S : Type := Int × Int × List Bool
noncomputable def wy_go (D : dm_D) (a g : Int) (y : Bool) : Nat → Int → Int → (Int → Int) → List Bool → wy_S → wy_S
  | 0, k, c, w, p, s => if wy_lt c k s.1 s.2.1 then (if pu_home D w then (c, k, p) else s) else s
  | r + 1, k, c, w, p, s => if wy_lt c k s.1 s.2.1 then (if pu_home D w then (c, k, p) else (if 1 < dN D then wy_go D a g y r (k + 1) (c + wy_s D g y true w) (pu_step D a g true w) (p ++ [true]) (wy_go D a g y r (k + 1) (c + wy_s D g y false w) (pu_step D a g false w) (p ++ [false]) s) else wy_go D a g y r (k + 1) (c + wy_s D g y false w) (pu_step D a g false w) (p ++ [false]) s)) else s
theorem wy_n_lt : ∀ l : List Bool, wy_n l < 2 ^ l.length
  | [] => by decide
  | b :: l => by
    have ih := wy_n_lt l
    show (if b = true then 2 ^ l.length else 0) + wy_n l < 2 ^ (l.length + 1)
    rw [Nat.pow_succ]
    split <;> omega
theorem wy_n_eq : ∀ (l k : List Bool), l.length = k.length → wy_n l = wy_n k → l = k
  | [], [], _, _ => rfl
  | [], _ :: _, h, _ => absurd h (by rw [List.length_nil, List.length_cons]; omega)
  | _ :: _, [], h, _ => absurd h (by rw [List.length_nil, List.length_cons]; omega)
  | b :: l, c :: k, h, e => by
    have h' : l.length = k.length := by rw [List.length_cons, List.length_cons] at h; omega
    have b1 := wy_n_lt l
    have b2 := wy_n_lt k
    have e' : (if b = true then 2 ^ l.length else 0) + wy_n l = (if c = true then 2 ^ k.length else 0) + wy_n k := e
    rw [h'] at e' b1
    cases b <;> cases c
    · rw [if_neg (by decide)] at e'
      rw [wy_n_eq l k h' (by omega)]
    · rw [if_neg (by decide), if_pos (by decide)] at e'
      omega
    · rw [if_pos (by decide), if_neg (by decide)] at e'
      omega
    · rw [if_pos (by decide)] at e'
      rw [wy_n_eq l k h' (by omega)]
theorem pu_dread_in {D : dm_D} {g : Int} {rd : Bool} {w : Int → Int} (hD : dg_ok D) (h0 : 0 < dN D) (hr : rd = true → 1 < dN D) : 0 ≤ pu_dread D g rd w ∧ pu_dread D g rd w < 6 := by
  have h6 := hD.1
  unfold pu_dread pu_with
  cases rd with
  | false =>
    rw [if_neg (by decide)]
    have := pu_wst_in (g := g) (r := df_ D g) (w := w) h0
    omega
  | true =>
    rw [if_pos rfl]
    have := pu_snd_in (g := g) (r := df_ D g) (w := w) (hr rfl)
    omega
theorem wy_s_in {D : dm_D} {g : Int} {y b : Bool} {w : Int → Int} (hD : dg_ok D) (hw : dw_ok D w) (h0 : 0 < dN D) (hr : b = true → 1 < dN D) : 0 ≤ wy_s D g y b w ∧ wy_s D g y b w ≤ 999 := by
  have q := pu_dread_in (g := g) (w := w) hD h0 hr
  unfold wy_s
  split
  · exact hw.1 _ q.1 q.2
  · omega
theorem wy_c_in {D : dm_D} {a g : Int} {y : Bool} (hD : dg_ok D) : ∀ (l : List Bool) (w : Int → Int), dw_ok D w → wy_is D a g l w → 0 ≤ wy_c D a g y l w ∧ wy_c D a g y l w ≤ 999 * (l.length : Int)
  | [], w, _, _ => ⟨Int.le_refl _, by show (0 : Int) ≤ _; rw [List.length_nil]; decide⟩
  | b :: l, w, hw, h => by
    obtain ⟨h1, h2, h3⟩ := h
    have h0 := pu_away hD hw h1
    have q := wy_s_in (g := g) (y := y) hD hw h0 h2
    have ih := wy_c_in (y := y) hD l _ (pu_step_ok hD h0 h2 hw) h3
    show 0 ≤ wy_s D g y b w + wy_c D a g y l _ ∧ wy_s D g y b w + wy_c D a g y l _ ≤ _
    rw [List.length_cons]
    omega
def wy_A (D : dm_D) (a g : Int) (y : Bool) (r : Nat) (k c : Int) (w : Int → Int) (p : List Bool) (s s' : wy_S) : Prop := s' = s ∨ ∃ l : List Bool, l.length ≤ r ∧ wy_is D a g l w ∧ s' = (c + wy_c D a g y l w, k + (l.length : Int), p ++ l) ∧ wy_lt (c + wy_c D a g y l w) (k + (l.length : Int)) s.1 s.2.1 ∧ ∀ l' : List Bool, l'.length = l.length → wy_is D a g l' w → wy_c D a g y l' w = wy_c D a g y l w → wy_n l ≤ wy_n l'
def wy_B (D : dm_D) (a g : Int) (y : Bool) (r : Nat) (k c : Int) (w : Int → Int) (s' : wy_S) : Prop := ∀ l : List Bool, l.length ≤ r → wy_is D a g l w → ¬ wy_lt (c + wy_c D a g y l w) (k + (l.length : Int)) s'.1 s'.2.1
theorem wy_go_sp {D : dm_D} {a g : Int} {y : Bool} (hD : dg_ok D) : ∀ (r : Nat) (k c : Int) (w : Int → Int) (p : List Bool) (s : wy_S), dw_ok D w → wy_A D a g y r k c w p s (wy_go D a g y r k c w p s) ∧ wy_B D a g y r k c w (wy_go D a g y r k c w p s) := by
  have cut : ∀ (r : Nat) (k c : Int) (w : Int → Int) (s : wy_S), dw_ok D w → ¬ wy_lt c k s.1 s.2.1 → wy_B D a g y r k c w s := fun r k c w s hw h l hl hi => by
    have q := wy_c_in (y := y) hD l w hw hi
    unfold wy_lt at h ⊢
    omega
  have home : ∀ (r : Nat) (k c : Int) (w : Int → Int) (p : List Bool) (s : wy_S), wy_lt c k s.1 s.2.1 → pu_home D w → wy_A D a g y r k c w p s (c, k, p) ∧ wy_B D a g y r k c w (c, k, p) := fun r k c w p s h hh => by
    refine ⟨Or.inr ⟨[], Nat.zero_le _, hh, ?_, ?_, fun l' h1 h2 h3 => ?_⟩, fun l hl hi => ?_⟩
    · show (c, k, p) = (c + 0, k + ((0 : Nat) : Int), p ++ [])
      rw [List.append_nil, Int.add_zero, show k + ((0 : Nat) : Int) = k by omega]
    · show wy_lt (c + 0) (k + ((0 : Nat) : Int)) s.1 s.2.1
      rw [Int.add_zero, show k + ((0 : Nat) : Int) = k by omega]
      exact h
    · exact Nat.zero_le _
    · cases l with
      | nil =>
        show ¬ wy_lt (c + 0) (k + ((0 : Nat) : Int)) c k
        unfold wy_lt
        omega
      | cons b l => exact absurd hh hi.1
  intro r
  induction r with
  | zero =>
    intro k c w p s hw
    unfold wy_go
    by_cases h : wy_lt c k s.1 s.2.1
    · rw [if_pos h]
      by_cases hh : pu_home D w
      · rw [if_pos hh]
        exact home 0 k c w p s h hh
      · rw [if_neg hh]
        refine ⟨Or.inl rfl, fun l hl hi => ?_⟩
        cases l with
        | nil => exact absurd hi hh
        | cons b l => exact absurd hl (by rw [List.length_cons]; omega)
    · rw [if_neg h]
      exact ⟨Or.inl rfl, cut 0 k c w s hw h⟩
  | succ r ih =>
    intro k c w p s hw
    unfold wy_go
    by_cases h : wy_lt c k s.1 s.2.1
    · rw [if_pos h]
      by_cases hh : pu_home D w
      · rw [if_pos hh]
        exact home (r + 1) k c w p s h hh
      · rw [if_neg hh]
        have h0 := pu_away hD hw hh
        have i1 := ih (k + 1) (c + wy_s D g y false w) (pu_step D a g false w) (p ++ [false]) s (pu_step_ok hD h0 (fun z => by cases z) hw)
        generalize wy_go D a g y r (k + 1) (c + wy_s D g y false w) (pu_step D a g false w) (p ++ [false]) s = s1 at i1 ⊢
        obtain ⟨A1, B1⟩ := i1
        -- the ways that begin by facing
        have f1 : ∀ l : List Bool, wy_c D a g y (false :: l) w = wy_s D g y false w + wy_c D a g y l (pu_step D a g false w) := fun _ => rfl
        have f2 : ∀ l : List Bool, wy_c D a g y (true :: l) w = wy_s D g y true w + wy_c D a g y l (pu_step D a g true w) := fun _ => rfl
        have n1 : ∀ l : List Bool, wy_n (false :: l) = wy_n l := fun l => by
          show (if false = true then 2 ^ l.length else 0) + wy_n l = wy_n l
          rw [if_neg (by decide)]; omega
        have n2 : ∀ l : List Bool, wy_n (true :: l) = 2 ^ l.length + wy_n l := fun l => by
          show (if true = true then 2 ^ l.length else 0) + wy_n l = _
          rw [if_pos rfl]
        have A1' : s1 = s ∨ ∃ l : List Bool, l.length ≤ r ∧ wy_is D a g (false :: l) w ∧ s1 = (c + wy_c D a g y (false :: l) w, k + ((false :: l).length : Int), p ++ (false :: l)) ∧ wy_lt (c + wy_c D a g y (false :: l) w) (k + ((false :: l).length : Int)) s.1 s.2.1 ∧ ∀ l' : List Bool, l'.length = l.length → wy_is D a g (false :: l') w → wy_c D a g y (false :: l') w = wy_c D a g y (false :: l) w → wy_n l ≤ wy_n l' := by
          rcases A1 with q | ⟨l, q1, q2, q3, q4, q5⟩
          · exact Or.inl q
          · refine Or.inr ⟨l, q1, ⟨hh, fun z => (by cases z), q2⟩, ?_, ?_, fun l' e1 e2 e3 => q5 l' e1 e2.2.2 (by rw [f1, f1] at e3; omega)⟩
            · rw [q3, f1, List.length_cons, Int.add_assoc, List.append_assoc]
              refine congrArg (fun z => (c + (wy_s D g y false w + wy_c D a g y l (pu_step D a g false w)), z, p ++ false :: l)) ?_
              omega
            · rw [f1, List.length_cons]
              unfold wy_lt at q4 ⊢
              omega
        have B1' : ∀ l : List Bool, l.length ≤ r → wy_is D a g (false :: l) w → ¬ wy_lt (c + wy_c D a g y (false :: l) w) (k + ((false :: l).length : Int)) s1.1 s1.2.1 := fun l hl hi => by
          have q := B1 l hl hi.2.2
          rw [f1, List.length_cons]
          unfold wy_lt at q ⊢
          omega
        have k1 : ¬ wy_lt s.1 s.2.1 s1.1 s1.2.1 := by
          rcases A1' with q | ⟨l, q1, q2, q3, q4, q5⟩
          · rw [q]; unfold wy_lt; omega
          · have z1 : s1.1 = c + wy_c D a g y (false :: l) w := by rw [q3]
            have z2 : s1.2.1 = k + ((false :: l).length : Int) := by rw [q3]
            unfold wy_lt at q4 ⊢
            omega
        by_cases hn : 1 < dN D
        · rw [if_pos hn]
          have i2 := ih (k + 1) (c + wy_s D g y true w) (pu_step D a g true w) (p ++ [true]) s1 (pu_step_ok hD h0 (fun _ => hn) hw)
          generalize wy_go D a g y r (k + 1) (c + wy_s D g y true w) (pu_step D a g true w) (p ++ [true]) s1 = s2 at i2 ⊢
          obtain ⟨A2, B2⟩ := i2
          have k2 : ¬ wy_lt s1.1 s1.2.1 s2.1 s2.2.1 := by
            rcases A2 with q | ⟨l, q1, q2, q3, q4, q5⟩
            · rw [q]; unfold wy_lt; omega
            · have z1 : s2.1 = c + wy_s D g y true w + wy_c D a g y l (pu_step D a g true w) := by rw [q3]
              have z2 : s2.2.1 = k + 1 + (l.length : Int) := by rw [q3]
              unfold wy_lt at q4 ⊢
              omega
          refine ⟨?_, fun l hl hi => ?_⟩
          · rcases A2 with q | ⟨l, q1, q2, q3, q4, q5⟩
            · rcases A1' with x | ⟨l, x1, x2, x3, x4, x5⟩
              · exact Or.inl (q.trans x)
              · refine Or.inr ⟨false :: l, by rw [List.length_cons]; omega, x2, q.trans x3, x4, fun l' e1 e2 e3 => ?_⟩
                rw [List.length_cons] at e1
                cases l' with
                | nil => exact absurd e1 (by rw [List.length_nil]; omega)
                | cons b l' =>
                  rw [List.length_cons] at e1
                  cases b with
                  | false => rw [n1, n1]; exact x5 l' (by omega) e2 e3
                  | true =>
                    rw [n1, n2]
                    have := wy_n_lt l
                    rw [show l'.length = l.length by omega]
                    omega
            · refine Or.inr ⟨true :: l, by rw [List.length_cons]; omega, ⟨hh, fun _ => hn, q2⟩, ?_, ?_, fun l' e1 e2 e3 => ?_⟩
              · rw [q3, f2, List.length_cons, Int.add_assoc, List.append_assoc]
                refine congrArg (fun z => (c + (wy_s D g y true w + wy_c D a g y l (pu_step D a g true w)), z, p ++ true :: l)) ?_
                omega
              · rw [f2, List.length_cons]
                unfold wy_lt at q4 k1 ⊢
                omega
              · rw [List.length_cons] at e1
                cases l' with
                | nil => exact absurd e1 (by rw [List.length_nil]; omega)
                | cons b l' =>
                  rw [List.length_cons] at e1
                  cases b with
                  | false =>
                    have x := B1' l' (by omega) e2
                    rw [e3, f2, List.length_cons] at x
                    exfalso
                    unfold wy_lt at x q4
                    omega
                  | true =>
                    rw [n2, n2]
                    have := q5 l' (by omega) e2.2.2 (by rw [f2, f2] at e3; omega)
                    rw [show l'.length = l.length by omega]
                    omega
          · cases l with
            | nil => exact absurd hi hh
            | cons b l =>
              rw [List.length_cons] at hl
              cases b with
              | false =>
                have x := B1' l (by omega) hi
                unfold wy_lt at x k2 ⊢
                omega
              | true =>
                have x := B2 l (by omega) hi.2.2
                rw [f2, List.length_cons]
                unfold wy_lt at x ⊢
                omega
        · rw [if_neg hn]
          refine ⟨?_, fun l hl hi => ?_⟩
          · rcases A1' with x | ⟨l, x1, x2, x3, x4, x5⟩
            · exact Or.inl x
            · refine Or.inr ⟨false :: l, by rw [List.length_cons]; omega, x2, x3, x4, fun l' e1 e2 e3 => ?_⟩
              rw [List.length_cons] at e1
              cases l' with
              | nil => exact absurd e1 (by rw [List.length_nil]; omega)
              | cons b l' =>
                rw [List.length_cons] at e1
                cases b with
                | false => rw [n1, n1]; exact x5 l' (by omega) e2 e3
                | true => exact absurd (e2.2.1 rfl) hn
          · cases l with
            | nil => exact absurd hi hh
            | cons b l =>
              rw [List.length_cons] at hl
              cases b with
              | false => exact B1' l (by omega) hi
              | true => exact absurd (hi.2.1 rfl) hn
    · rw [if_neg h]
      exact ⟨Or.inl rfl, cut (r + 1) k c w s hw h⟩
/-- the best way of all: least dread, fewest rooms, the first -/
def wy_opt (D : dm_D) (a g : Int) (y : Bool) (w : Int → Int) (l : List Bool) : Prop := l.length ≤ 10 ∧ wy_is D a g l w ∧ ∀ l' : List Bool, l'.length ≤ 10 → wy_is D a g l' w → ¬ wy_lt (wy_c D a g y l' w) (l'.length : Int) (wy_c D a g y l w) (l.length : Int) ∧ (l'.length = l.length → wy_c D a g y l' w = wy_c D a g y l w → wy_n l ≤ wy_n l')
def wy_no (D : dm_D) (a g : Int) (w : Int → Int) : Prop := ∀ l : List Bool, l.length ≤ 10 → ¬ wy_is D a g l w
theorem wy_opt_eq {D : dm_D} {a g : Int} {y : Bool} {w : Int → Int} {l k : List Bool} (h : wy_opt D a g y w l) (q : wy_opt D a g y w k) : l = k := by
  have x1 := h.2.2 k q.1 q.2.1
  have x2 := q.2.2 l h.1 h.2.1
  have e : wy_c D a g y l w = wy_c D a g y k w ∧ l.length = k.length := by
    have y1 := x1.1
    have y2 := x2.1
    unfold wy_lt at y1 y2
    omega
  exact wy_n_eq l k e.2 (Nat.le_antisymm (x1.2 e.2.symm e.1.symm) (x2.2 e.2 e.1))
theorem wy_c0 {D : dm_D} {a g : Int} : ∀ (l : List Bool) (w : Int → Int), wy_c D a g false l w = 0
  | [], _ => rfl
  | b :: l, w => by
    show wy_s D g false b w + wy_c D a g false l _ = 0
    rw [wy_c0 l, show wy_s D g false b w = 0 from if_neg (by decide)]
    rfl
/-- the list of a number's bits, the highest first -/
def wy_b : Nat → Nat → List Bool
  | 0, _ => []
  | n + 1, v => decide (v / 2 ^ n % 2 = 1) :: wy_b n v
theorem wy_b_len : ∀ n v : Nat, (wy_b n v).length = n
  | 0, _ => rfl
  | n + 1, v => by
    show (wy_b n v).length + 1 = n + 1
    rw [wy_b_len n v]
theorem wy_b_n : ∀ n v : Nat, wy_n (wy_b n v) = v % 2 ^ n
  | 0, v => by show 0 = v % 1; omega
  | n + 1, v => by
    show (if decide (v / 2 ^ n % 2 = 1) = true then 2 ^ (wy_b n v).length else 0) + wy_n (wy_b n v) = v % 2 ^ (n + 1)
    rw [wy_b_len, wy_b_n n v, Nat.pow_succ, Nat.mod_mul]
    by_cases h : v / 2 ^ n % 2 = 1
    · rw [if_pos (decide_eq_true h), h]; omega
    · rw [if_neg (by rw [decide_eq_false h]; decide), show v / 2 ^ n % 2 = 0 by omega]; omega
theorem wy_b_all (l : List Bool) : wy_b l.length (wy_n l) = l := wy_n_eq _ _ (wy_b_len _ _) (by rw [wy_b_n, Nat.mod_eq_of_lt (wy_n_lt l)])
