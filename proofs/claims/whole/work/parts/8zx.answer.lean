/-! THE ANSWER OF A QUESTION, from the values of all rooms, on both sides -/
def q1_ (v : Nat → Int) : Nat → Int
  | 0 => -1
  | t + 1 => if v t = 0 then q1_ v t else if q1_ v t = -1 then (t : Int) else q1_ v t
def q2_ (v : Nat → Int) : Nat → Int
  | 0 => -1
  | t + 1 => if v t = 0 then q2_ v t else (t : Int)
def q3_ (v : Nat → Int) : Nat → Int
  | 0 => 0
  | t + 1 => if v t = 0 then q3_ v t else q3_ v t + 1
def q4_ (v : Nat → Int) : Nat → Int
  | 0 => 0
  | t + 1 => q4_ v t + v t
def q5_ (v : Nat → Int) : Nat → Int
  | 0 => 0
  | t + 1 => if t = 0 then v t else if q5_ v t < v t then v t else q5_ v t
def q6_ (v : Nat → Int) : Nat → Int
  | 0 => 0
  | t + 1 => if t = 0 then v t else if v t < q6_ v t then v t else q6_ v t
def qa_ (hd : Int) (v : Nat → Int) (t : Nat) : Int := if hd = 0 then q1_ v t else if hd = 1 then q2_ v t else if hd = 2 then q3_ v t else if hd = 3 then q4_ v t else if hd = 4 then q5_ v t else q6_ v t
theorem q3_in {v : Nat → Int} : ∀ t : Nat, 0 ≤ q3_ v t ∧ q3_ v t ≤ t
  | 0 => ⟨Int.le_refl _, Int.le_refl _⟩
  | t + 1 => by
    have ih := q3_in (v := v) t
    unfold q3_
    split <;> omega
theorem q4_in {v : Nat → Int} {T : Nat} (hv : ∀ t : Nat, t < T → mi_ok (v t)) : ∀ t : Nat, t ≤ T → -1000000 * (t : Int) ≤ q4_ v t ∧ q4_ v t ≤ 1000000 * (t : Int)
  | 0, _ => ⟨Int.le_refl _, Int.le_refl _⟩
  | t + 1, ht => by
    have ih := q4_in hv t (by omega)
    have h := hv t (by omega)
    unfold mi_ok at h
    unfold q4_
    omega
/-- what a room's value writes, in the class -/
def vq_ (M M' : am_M) : Prop := ∀ x j, ¬ (8 ≤ x ∧ x ≤ 10) → ¬ (x = 6 ∧ j = 3) → M' x j = M x j
theorem vq_tr {M M1 M2 : am_M} (h : vq_ M M1) (k : vq_ M1 M2) : vq_ M M2 := fun x j y y2 => (k x j y y2).trans (h x j y y2)
theorem st_answer {d T : Nat} {M : am_M} {f : Int → am_M → Prop} {v : Nat → Int} {hd : Int} (hT : M 88 2 = T ∧ T ≤ 200) (hh : M 5 3 = hd ∧ 0 ≤ hd ∧ hd ≤ 5) (hv : ∀ t : Nat, t < T → mi_ok (v t)) (hval : ∀ t : Nat, t < T → ∀ M1, vq_ M M1 → ∀ g : Int → am_M → Prop, (∀ M2, vq_ M1 M2 → g (v t) M2) → am_cal pg (d + 4) 58 [(2, 5), (2, 88), (0, (t : Int))] sh_T M1 (am_c0 sh_T g)) (h : ∀ M', vq_ M M' → f (qa_ hd v T) M') : am_cal pg (d + 5) 57 [(2, 5), (2, 88)] sh_T M (am_c1 sh_T f) := by
  have loop : ∀ (m t : Nat), t + m = T → ∀ M1, vq_ M M1 → am_g 5 1 co_X5_answer (d + 4) (am_c1 sh_T f) 20 [(2, 5), (2, 88), (1, q4_ v t), (3, 0), (0, q5_ v t), (0, q6_ v t), (0, q1_ v t), (0, q2_ v t), (0, q3_ v t), (0, (t : Int)), (3, 0)] [] sh_T M1 := by
    intro m
    induction m with
    | zero =>
      intro t ht M1 f1
      have et : t = T := by omega
      subst et
      have r := h M1 f1
      unfold qa_ at r
      have e1 : M1 88 2 = (t : Int) := (f1 88 2 (by omega) (by omega)).trans hT.1
      have e5 : M1 5 3 = hd := (f1 5 3 (by omega) (by omega)).trans hh.1
      refine bk_X5_answer_20 ⟨ob_88, fun _ => ⟨fun y => am_c1_i ?_, fun y => am_c1_i ?_, fun y => am_c1_i ?_, fun y => am_c1_i ?_, fun y => am_c1_i ?_, fun y => am_c1_i ?_⟩, fun y => by omega⟩
      · rw [if_neg (by omega), if_neg (by omega), if_neg (by omega), if_neg (by omega), if_neg (by omega)] at r; exact r
      · rw [if_pos (by omega)] at r; exact r
      · rw [if_neg (by omega), if_pos (by omega)] at r; exact r
      · rw [if_neg (by omega), if_neg (by omega), if_pos (by omega)] at r; exact r
      · rw [if_neg (by omega), if_neg (by omega), if_neg (by omega), if_pos (by omega)] at r; exact r
      · rw [if_neg (by omega), if_neg (by omega), if_neg (by omega), if_neg (by omega), if_pos (by omega)] at r; exact r
    | succ m ih =>
      intro t ht M1 f1
      have e1 : M1 88 2 = (T : Int) := (f1 88 2 (by omega) (by omega)).trans hT.1
      have b3 := q3_in (v := v) t
      have b4 := q4_in hv t (by omega)
      have bv := hv t (by omega)
      unfold mi_ok at bv
      refine bk_X5_answer_20 ⟨ob_88, fun y => by omega, fun _ => hval t (by omega) M1 f1 _ (fun M2 f2 => ⟨⟨by omega, by omega⟩, ?_⟩)⟩
      have r := ih (t + 1) (by omega) M2 (vq_tr f1 f2)
      have s1 : q1_ v (t + 1) = if v t = 0 then q1_ v t else if q1_ v t = -1 then (t : Int) else q1_ v t := rfl
      have s2 : q2_ v (t + 1) = if v t = 0 then q2_ v t else (t : Int) := rfl
      have s3 : q3_ v (t + 1) = if v t = 0 then q3_ v t else q3_ v t + 1 := rfl
      have s4 : q4_ v (t + 1) = q4_ v t + v t := rfl
      have s5 : q5_ v (t + 1) = if t = 0 then v t else if q5_ v t < v t then v t else q5_ v t := rfl
      have s6 : q6_ v (t + 1) = if t = 0 then v t else if v t < q6_ v t then v t else q6_ v t := rfl
      rw [s1, s2, s3, s4, s5, s6] at r
      refine ⟨fun y => st_max (st_min ⟨fun y2 => ?_, fun y2 => ⟨fun y3 => ⟨⟨by omega, by omega⟩, ?_⟩, fun y3 => ⟨⟨by omega, by omega⟩, ?_⟩⟩⟩), fun y => ⟨fun y2 => ?_, fun y2 => ⟨fun y3 => ⟨⟨by omega, by omega⟩, ?_⟩, fun y3 => ⟨⟨by omega, by omega⟩, ?_⟩⟩⟩⟩
      · rw [if_pos y2, if_pos y2, if_pos y2, if_neg (show ¬ t = 0 by omega), if_neg (show ¬ t = 0 by omega)] at r
        exact bk_X5_answer_109 ⟨⟨by omega, by omega⟩, r⟩
      · rw [if_neg y2, if_neg y3, if_neg y2, if_neg y2, if_neg (show ¬ t = 0 by omega), if_neg (show ¬ t = 0 by omega)] at r
        exact bk_X5_answer_109 ⟨⟨by omega, by omega⟩, r⟩
      · rw [if_neg y2, if_pos y3, if_neg y2, if_neg y2, if_neg (show ¬ t = 0 by omega), if_neg (show ¬ t = 0 by omega)] at r
        exact bk_X5_answer_109 ⟨⟨by omega, by omega⟩, r⟩
      · rw [if_pos y2, if_pos y2, if_pos y2, if_pos (show t = 0 by omega), if_pos (show t = 0 by omega)] at r
        exact bk_X5_answer_109 ⟨⟨by omega, by omega⟩, r⟩
      · rw [if_neg y2, if_neg y3, if_neg y2, if_neg y2, if_pos (show t = 0 by omega), if_pos (show t = 0 by omega)] at r
        exact bk_X5_answer_109 ⟨⟨by omega, by omega⟩, r⟩
      · rw [if_neg y2, if_pos y3, if_neg y2, if_neg y2, if_pos (show t = 0 by omega), if_pos (show t = 0 by omega)] at r
        exact bk_X5_answer_109 ⟨⟨by omega, by omega⟩, r⟩
  exact en_X5_answer (bk_X5_answer_0 (loop T 0 (Nat.zero_add _) M (fun _ _ _ _ => rfl)))
/-- what one value more makes of the answer, in the reference -/
def qt_ (hd x i A b : Int) : Int := if hd = 0 then (if x = 1 ∧ A = -1 then i else A) else if hd = 1 then (if x = 1 then i else A) else if hd = 2 then (if x = 1 then A + 1 else A) else if hd = 3 then A + x else if hd = 4 then (if ¬ b = 0 ∨ A < x then x else A) else (if ¬ b = 0 ∨ x < A then x else A)
theorem qt_qa {hd : Int} {v : Nat → Int} {t : Nat} (h0 : 0 ≤ hd ∧ hd ≤ 5) (h1 : hd ≤ 2 → v t = 0 ∨ v t = 1) : qt_ hd (v t) t (qa_ hd v t) (if t = 0 then 1 else 0) = qa_ hd v (t + 1) := by
  have s1 : q1_ v (t + 1) = if v t = 0 then q1_ v t else if q1_ v t = -1 then (t : Int) else q1_ v t := rfl
  have s2 : q2_ v (t + 1) = if v t = 0 then q2_ v t else (t : Int) := rfl
  have s3 : q3_ v (t + 1) = if v t = 0 then q3_ v t else q3_ v t + 1 := rfl
  have s4 : q4_ v (t + 1) = q4_ v t + v t := rfl
  have s5 : q5_ v (t + 1) = if t = 0 then v t else if q5_ v t < v t then v t else q5_ v t := rfl
  have s6 : q6_ v (t + 1) = if t = 0 then v t else if v t < q6_ v t then v t else q6_ v t := rfl
  have one : ∀ (h : v t = 0 ∨ v t = 1), v t = 1 ↔ ¬ v t = 0 := fun h => by omega
  have a0 : ∀ t, qa_ 0 v t = q1_ v t := fun _ => rfl
  have a1 : ∀ t, qa_ 1 v t = q2_ v t := fun _ => rfl
  have a2 : ∀ t, qa_ 2 v t = q3_ v t := fun _ => rfl
  have a3 : ∀ t, qa_ 3 v t = q4_ v t := fun _ => rfl
  have a4 : ∀ t, qa_ 4 v t = q5_ v t := fun _ => rfl
  have a5 : ∀ t, qa_ 5 v t = q6_ v t := fun _ => rfl
  rcases (show hd = 0 ∨ hd = 1 ∨ hd = 2 ∨ hd = 3 ∨ hd = 4 ∨ hd = 5 by omega) with rfl | rfl | rfl | rfl | rfl | rfl
  · rw [a0, a0, s1]
    show (if v t = 1 ∧ q1_ v t = -1 then (t : Int) else q1_ v t) = _
    have h := h1 (by decide)
    by_cases c : v t = 0
    · rw [if_pos c, if_neg (fun z => by omega)]
    · rw [if_neg c]
      by_cases c2 : q1_ v t = -1
      · rw [if_pos c2, if_pos ⟨by omega, c2⟩]
      · rw [if_neg c2, if_neg (fun z => c2 z.2)]
  · rw [a1, a1, s2]
    show (if v t = 1 then (t : Int) else q2_ v t) = _
    have h := h1 (by decide)
    by_cases c : v t = 0
    · rw [if_pos c, if_neg (fun z => by omega)]
    · rw [if_neg c, if_pos (by omega)]
  · rw [a2, a2, s3]
    show (if v t = 1 then q3_ v t + 1 else q3_ v t) = _
    have h := h1 (by decide)
    by_cases c : v t = 0
    · rw [if_pos c, if_neg (fun z => by omega)]
    · rw [if_neg c, if_pos (by omega)]
  · rw [a3, a3, s4]
    rfl
  · rw [a4, a4, s5]
    show (if ¬ (if t = 0 then (1 : Int) else 0) = 0 ∨ q5_ v t < v t then v t else q5_ v t) = _
    by_cases c : t = 0
    · rw [if_pos c, if_pos c, if_pos (Or.inl (by decide))]
    · rw [if_neg c, if_neg c]
      by_cases c2 : q5_ v t < v t
      · rw [if_pos c2, if_pos (Or.inr c2)]
      · rw [if_neg c2, if_neg (fun z => z.elim (fun y => y rfl) c2)]
  · rw [a5, a5, s6]
    show (if ¬ (if t = 0 then (1 : Int) else 0) = 0 ∨ v t < q6_ v t then v t else q6_ v t) = _
    by_cases c : t = 0
    · rw [if_pos c, if_pos c, if_pos (Or.inl (by decide))]
    · rw [if_neg c, if_neg c]
      by_cases c2 : v t < q6_ v t
      · rw [if_pos c2, if_pos (Or.inr c2)]
      · rw [if_neg c2, if_neg (fun z => z.elim (fun y => y rfl) c2)]
theorem sp_qTakes {d : Nat} {M : am_M} {f : am_M → Prop} {hd x i : Int} (h0 : 0 ≤ hd ∧ hd ≤ 5) (hx : mi_ok x) (hA : -1000000000 ≤ M 152 90 ∧ M 152 90 ≤ 1000000000) (h : ∀ M', (∀ x j, ¬ (x = 152 ∧ (j = 90 ∨ j = 91)) → M' x j = M x j) → M' 152 90 = qt_ hd x i (M 152 90) (M 152 91) → M' 152 91 = 0 → f M') : am_cal pg (d + 1) 304 [(2, 152), (0, hd), (1, x), (0, i)] sh_T M (am_cv sh_T f) := by
  have fin1 : qt_ hd x i (M 152 90) (M 152 91) = M 152 90 → am_g 12 9 co_X12_qTakes d (am_cv sh_T f) 133 [(2, 152), (3, 0), (3, 0), (3, 0), (3, 0), (3, 0)] [] sh_T M := fun e => bk_X12_qTakes_133 (am_cv_i (h _ (fun x j y => am_up_el (by omega)) (by rw [am_up_el (by omega), e]) am_up_at))
  have fin2 : ∀ A', qt_ hd x i (M 152 90) (M 152 91) = A' → am_g 12 9 co_X12_qTakes d (am_cv sh_T f) 133 [(2, 152), (3, 0), (3, 0), (3, 0), (3, 0), (3, 0)] [] sh_T (am_up M 152 90 A') := fun A' e => bk_X12_qTakes_133 (am_cv_i (h _ (fun x j y => by rw [am_up_el (by omega), am_up_el (by omega)]) (by rw [am_up_el (by omega), am_up_at, e]) am_up_at))
  unfold mi_ok at hx
  unfold qt_ at fin1 fin2
  refine en_X12_qTakes ?_
  rcases (show hd = 0 ∨ hd = 1 ∨ hd = 2 ∨ hd = 3 ∨ hd = 4 ∨ hd = 5 by omega) with rfl | rfl | rfl | rfl | rfl | rfl
  · rw [if_pos rfl] at fin1 fin2
    have g38 : ¬ (x = 1 ∧ M 152 90 = -1) → ∀ v5, am_g 12 9 co_X12_qTakes d (am_cv sh_T f) 38 [(2, 152), (0, 0), (1, x), (3, 0), (0, i), (0, v5)] [] sh_T M := fun z v5 => bk_X12_qTakes_38 ⟨fun _ => bk_X12_qTakes_55 ⟨fun _ => bk_X12_qTakes_75 ⟨fun _ => bk_X12_qTakes_90 ⟨fun _ => fin1 (if_neg z), fun y => absurd y (by decide)⟩, fun y => absurd y (by decide)⟩, fun y => absurd y (by decide)⟩, fun y => absurd y (by decide)⟩
    exact bk_X12_qTakes_0 ⟨fun y => absurd y (by decide), fun _ => ⟨fun y => bk_X12_qTakes_15 ⟨fun _ => g38 (fun z => y z.1) 0, fun _ => g38 (fun z => y z.1) 0⟩, fun y => ⟨fun z => absurd rfl z, fun _ => ⟨fun y2 => bk_X12_qTakes_48 (bk_X12_qTakes_55 ⟨fun _ => bk_X12_qTakes_75 ⟨fun _ => bk_X12_qTakes_90 ⟨fun _ => fin2 i (if_pos ⟨y, y2⟩), fun y => absurd y (by decide)⟩, fun y => absurd y (by decide)⟩, fun y => absurd y (by decide)⟩), fun y2 => g38 (fun z => y2 z.2) 1⟩⟩⟩⟩
  · rw [if_neg (by decide), if_pos rfl] at fin1 fin2
    exact bk_X12_qTakes_0 ⟨fun y => absurd y (by decide), fun _ => ⟨fun y => bk_X12_qTakes_15 ⟨fun _ => bk_X12_qTakes_38 ⟨fun z => absurd rfl z, fun _ => ⟨fun _ => bk_X12_qTakes_55 ⟨fun _ => bk_X12_qTakes_75 ⟨fun _ => bk_X12_qTakes_90 ⟨fun _ => fin1 (if_neg y), fun y => absurd y (by decide)⟩, fun y => absurd y (by decide)⟩, fun y => absurd y (by decide)⟩, fun z => absurd rfl z⟩⟩, fun y => absurd y (by decide)⟩, fun y => ⟨fun _ => bk_X12_qTakes_38 ⟨fun z => absurd rfl z, fun _ => ⟨fun z => absurd z (by decide), fun _ => bk_X12_qTakes_48 (bk_X12_qTakes_55 ⟨fun _ => bk_X12_qTakes_75 ⟨fun _ => bk_X12_qTakes_90 ⟨fun _ => fin2 i (if_pos y), fun y => absurd y (by decide)⟩, fun y => absurd y (by decide)⟩, fun y => absurd y (by decide)⟩)⟩⟩, fun y => absurd y (by decide)⟩⟩⟩
  · rw [if_neg (by decide), if_neg (by decide), if_pos rfl] at fin1 fin2
    exact bk_X12_qTakes_0 ⟨fun y => absurd y (by decide), fun _ => ⟨fun y => bk_X12_qTakes_15 ⟨fun _ => bk_X12_qTakes_38 ⟨fun _ => bk_X12_qTakes_55 ⟨fun z => absurd rfl z, fun _ => ⟨fun _ => bk_X12_qTakes_75 ⟨fun _ => bk_X12_qTakes_90 ⟨fun _ => fin1 (if_neg y), fun y => absurd y (by decide)⟩, fun y => absurd y (by decide)⟩, fun z => absurd rfl z⟩⟩, fun y => absurd y (by decide)⟩, fun y => absurd y (by decide)⟩, fun y => ⟨fun _ => bk_X12_qTakes_38 ⟨fun _ => bk_X12_qTakes_55 ⟨fun z => absurd rfl z, fun _ => ⟨fun z => absurd z (by decide), fun _ => ⟨⟨by omega, by omega⟩, bk_X12_qTakes_75 ⟨fun _ => bk_X12_qTakes_90 ⟨fun _ => fin2 _ (if_pos y), fun y => absurd y (by decide)⟩, fun y => absurd y (by decide)⟩⟩⟩⟩, fun y => absurd y (by decide)⟩, fun y => absurd y (by decide)⟩⟩⟩
  · rw [if_neg (by decide), if_neg (by decide), if_neg (by decide), if_pos rfl] at fin1 fin2
    exact bk_X12_qTakes_0 ⟨fun _ => bk_X12_qTakes_15 ⟨fun _ => bk_X12_qTakes_38 ⟨fun _ => bk_X12_qTakes_55 ⟨fun _ => bk_X12_qTakes_75 ⟨fun z => absurd rfl z, fun _ => ⟨⟨by omega, by omega⟩, bk_X12_qTakes_90 ⟨fun _ => fin2 _ rfl, fun y => absurd y (by decide)⟩⟩⟩, fun y => absurd y (by decide)⟩, fun y => absurd y (by decide)⟩, fun y => absurd y (by decide)⟩, fun y => absurd y (by decide)⟩
  · rw [if_neg (by decide), if_neg (by decide), if_neg (by decide), if_neg (by decide), if_pos rfl] at fin1 fin2
    exact bk_X12_qTakes_0 ⟨fun _ => bk_X12_qTakes_15 ⟨fun _ => bk_X12_qTakes_38 ⟨fun _ => bk_X12_qTakes_55 ⟨fun _ => bk_X12_qTakes_75 ⟨fun _ => bk_X12_qTakes_90 ⟨fun y => absurd y (by decide), fun _ => ⟨fun y => bk_X12_qTakes_128 (fin2 x (if_pos (Or.inl y))), fun y => ⟨fun z => absurd rfl z, fun _ => ⟨fun y2 => fin1 (if_neg (fun z => z.elim (fun w => w y) (fun w => by omega))), fun y2 => bk_X12_qTakes_128 (fin2 x (if_pos (Or.inr y2)))⟩⟩⟩⟩, fun y => absurd y (by decide)⟩, fun y => absurd y (by decide)⟩, fun y => absurd y (by decide)⟩, fun y => absurd y (by decide)⟩, fun y => absurd y (by decide)⟩
  · rw [if_neg (by decide), if_neg (by decide), if_neg (by decide), if_neg (by decide), if_neg (by decide)] at fin1 fin2
    exact bk_X12_qTakes_0 ⟨fun _ => bk_X12_qTakes_15 ⟨fun _ => bk_X12_qTakes_38 ⟨fun _ => bk_X12_qTakes_55 ⟨fun _ => bk_X12_qTakes_75 ⟨fun _ => bk_X12_qTakes_90 ⟨fun y => absurd y (by decide), fun _ => ⟨fun y => bk_X12_qTakes_128 (fin2 x (if_pos (Or.inl y))), fun y => ⟨fun _ => ⟨fun y2 => fin1 (if_neg (fun z => z.elim (fun w => w y) (fun w => by omega))), fun y2 => bk_X12_qTakes_128 (fin2 x (if_pos (Or.inr y2)))⟩, fun z => absurd z (by decide)⟩⟩⟩, fun y => absurd y (by decide)⟩, fun y => absurd y (by decide)⟩, fun y => absurd y (by decide)⟩, fun y => absurd y (by decide)⟩, fun y => absurd y (by decide)⟩
