/-! WHAT IS READ, as numbers: blanks, letters, digits, words (pure) -/
def am_b (p : Prop) [Decidable p] : Int := if p then 1 else 0
theorem am_b_1 {p : Prop} [Decidable p] (h : p) : am_b p = 1 := if_pos h
theorem am_b_0 {p : Prop} [Decidable p] (h : ¬ p) : am_b p = 0 := if_neg h
theorem am_b_z {p : Prop} [Decidable p] : am_b p = 0 ↔ ¬ p := by unfold am_b; split <;> simp_all
theorem am_b_01 {p : Prop} [Decidable p] : am_b p = 0 ∨ am_b p = 1 := by unfold am_b; split <;> simp
theorem am_b_eq {p q : Prop} [Decidable p] [Decidable q] (h : p ↔ q) : am_b p = am_b q := by
  unfold am_b
  by_cases c : p
  · rw [if_pos c, if_pos (h.mp c)]
  · rw [if_neg c, if_neg (fun z => c (h.mpr z))]
theorem am_c0_i {S : am_S} {f : Int → am_M → Prop} {x : Int} {M : am_M} (h : f x M) : am_c0 S f (some (0, x), S, M) := ⟨rfl, h⟩
theorem am_c1_i {S : am_S} {f : Int → am_M → Prop} {x : Int} {M : am_M} (h : f x M) : am_c1 S f (some (1, x), S, M) := ⟨rfl, h⟩
theorem am_c2_i {S : am_S} {f : Int → am_M → Prop} {x : Int} {M : am_M} (h : f x M) : am_c2 S f (some (2, x), S, M) := ⟨rfl, h⟩
theorem am_cv_i {S : am_S} {f : am_M → Prop} {M : am_M} (h : f M) : am_cv S f (none, S, M) := ⟨rfl, h⟩
theorem am_up_up {M : am_M} {a k v w : Int} : am_up (am_up M a k v) a k w = am_up M a k w := by
  funext b j
  unfold am_up
  split <;> rfl
theorem am_up_id {M : am_M} {a k : Int} : am_up M a k (M a k) = M := by
  funext b j
  unfold am_up
  split
  · rename_i q; rw [q.1, q.2]
  · rfl
theorem am_up_at {M : am_M} {a k v : Int} : am_up M a k v a k = v := if_pos ⟨rfl, rfl⟩
theorem am_up_el {M : am_M} {a k v b j : Int} (h : ¬ (b = a ∧ j = k)) : am_up M a k v b j = M b j := if_neg h
theorem am_up_sw {M : am_M} {a k v b j w : Int} (h : ¬ (b = a ∧ j = k)) : am_up (am_up M a k v) b j w = am_up (am_up M b j w) a k v := by
  funext x y
  unfold am_up
  split <;> split <;> first | rfl | (exfalso; rename_i q1 q2; exact h ⟨q1.1.symm.trans q2.1, q1.2.symm.trans q2.2⟩)
/-- what a run may change: the cells from lo to hi alone -/
def am_fr (lo hi : Int) (M M' : am_M) : Prop := ∀ a, (a < lo ∨ hi < a) → M' a = M a
theorem am_fr_rf {lo hi : Int} {M : am_M} : am_fr lo hi M M := fun _ _ => rfl
theorem am_fr_tr {lo hi : Int} {M M1 M2 : am_M} (h : am_fr lo hi M M1) (h2 : am_fr lo hi M1 M2) : am_fr lo hi M M2 := fun a ha => (h2 a ha).trans (h a ha)
theorem am_fr_up {lo hi : Int} {M M1 : am_M} (h : am_fr lo hi M M1) {a k v : Int} (h1 : lo ≤ a) (h2 : a ≤ hi) : am_fr lo hi M (am_up M1 a k v) := fun b hb => by
  rw [← h b hb]
  funext j
  unfold am_up
  rw [if_neg (by omega)]
/-- the first place from i on, below e, where no blank lies -/
def rd_skip (t : Int → Int) (e : Int) : Nat → Int → Int
  | 0, i => i
  | n + 1, i => if i < e ∧ (t i = 10 ∨ t i = 32) then rd_skip t e n (i + 1) else i
abbrev rd_at (t : Int → Int) (e i : Int) : Int := rd_skip t e (e - i).toNat i
abbrev rd_see (t : Int → Int) (e i : Int) : Int := if rd_at t e i < e then t (rd_at t e i) else -1
theorem rd_at_stop {t : Int → Int} {e i : Int} (h : ¬ (i < e ∧ (t i = 10 ∨ t i = 32))) : rd_at t e i = i := by
  unfold rd_at
  cases (e - i).toNat with
  | zero => rfl
  | succ n => exact if_neg h
theorem rd_at_go {t : Int → Int} {e i : Int} (h : i < e ∧ (t i = 10 ∨ t i = 32)) : rd_at t e i = rd_at t e (i + 1) := by
  unfold rd_at
  have e1 : (e - i).toNat = (e - (i + 1)).toNat + 1 := by have := h.1; omega
  rw [e1]
  show (if i < e ∧ (t i = 10 ∨ t i = 32) then _ else i) = _
  rw [if_pos h]
/-- a way to say all of it: by induction over what is left -/
theorem rd_ind {e : Int} {P : Int → Prop} (h : ∀ i, (∀ j, i < j → j ≤ e → P j) → P i) : ∀ i, P i := by
  have go : ∀ (n : Nat) (i : Int), (e - i).toNat ≤ n → P i := by
    intro n
    induction n with
    | zero => intro i hi; exact h i fun j h1 h2 => by omega
    | succ n ih => intro i hi; exact h i fun j h1 h2 => ih j (by omega)
  exact fun i => go _ i (Nat.le_refl _)
theorem rd_at_spec {t : Int → Int} {e : Int} : ∀ i, i ≤ rd_at t e i ∧ (rd_at t e i ≤ e ∨ rd_at t e i = i) ∧ (rd_at t e i < e → ¬ (t (rd_at t e i) = 10 ∨ t (rd_at t e i) = 32)) := by
  refine rd_ind (e := e) fun i ih => ?_
  by_cases h : i < e ∧ (t i = 10 ∨ t i = 32)
  · rw [rd_at_go h]
    obtain ⟨h1, h2, h3⟩ := ih (i + 1) (by omega) (by omega)
    refine ⟨by omega, ?_, h3⟩
    rcases h2 with h2 | h2
    · exact Or.inl h2
    · left; omega
  · rw [rd_at_stop h]
    exact ⟨Int.le_refl _, Or.inr rfl, fun h1 h2 => h ⟨h1, h2⟩⟩
theorem rd_at_at {t : Int → Int} {e i : Int} : rd_at t e (rd_at t e i) = rd_at t e i := rd_at_stop fun q => (rd_at_spec i).2.2 q.1 q.2
theorem rd_see_at {t : Int → Int} {e i : Int} : rd_see t e (rd_at t e i) = rd_see t e i := by
  unfold rd_see
  rw [rd_at_at]
/-- how many letters, digits stand from i on -/
def rd_run (p : Int → Bool) (t : Int → Int) (e : Int) : Nat → Int → Int
  | 0, _ => 0
  | n + 1, i => if i < e ∧ p (t i) = true then 1 + rd_run p t e n (i + 1) else 0
def is_le (c : Int) : Bool := decide (97 ≤ c ∧ c ≤ 122)
def is_di (c : Int) : Bool := decide (48 ≤ c ∧ c ≤ 57)
abbrev rd_les (t : Int → Int) (e i : Int) : Int := rd_run is_le t e (e - i).toNat i
theorem rd_les_stop {t : Int → Int} {e i : Int} (h : ¬ (i < e ∧ is_le (t i) = true)) : rd_les t e i = 0 := by
  unfold rd_les
  cases (e - i).toNat with
  | zero => rfl
  | succ n => exact if_neg h
theorem rd_les_go {t : Int → Int} {e i : Int} (h : i < e ∧ is_le (t i) = true) : rd_les t e i = 1 + rd_les t e (i + 1) := by
  unfold rd_les
  have e1 : (e - i).toNat = (e - (i + 1)).toNat + 1 := by have := h.1; omega
  rw [e1]
  show (if i < e ∧ is_le (t i) = true then _ else _) = _
  rw [if_pos h]
theorem rd_les_spec {t : Int → Int} {e : Int} : ∀ i, 0 ≤ rd_les t e i ∧ (rd_les t e i = 0 ∨ i + rd_les t e i ≤ e) ∧ (∀ j, i ≤ j → j < i + rd_les t e i → is_le (t j) = true) ∧ (i + rd_les t e i < e → is_le (t (i + rd_les t e i)) = false) := by
  refine rd_ind (e := e) fun i ih => ?_
  by_cases h : i < e ∧ is_le (t i) = true
  · rw [rd_les_go h]
    obtain ⟨h1, h2, h3, h4⟩ := ih (i + 1) (by omega) (by omega)
    refine ⟨by omega, Or.inr ?_, fun j j1 j2 => ?_, fun q => ?_⟩
    · rcases h2 with h2 | h2
      · omega
      · omega
    · by_cases hj : j = i
      · subst hj; exact h.2
      · exact h3 j (by omega) (by omega)
    · rw [show i + (1 + rd_les t e (i + 1)) = i + 1 + rd_les t e (i + 1) by omega]
      exact h4 (by omega)
  · rw [rd_les_stop h]
    refine ⟨Int.le_refl _, Or.inl rfl, fun j j1 j2 => by omega, fun q => ?_⟩
    rw [Int.add_zero] at q ⊢
    by_cases c : is_le (t i) = true
    · exact absurd ⟨q, c⟩ h
    · simpa using c
/-- how long the word is that stands at i, where one may begin (en: where the last word or number ended) -/
abbrev rd_wd (t : Int → Int) (e en i : Int) : Int := if i = en then 0 else rd_les t e i
/-- whether a word's signs stand from i on -/
def rd_like (t : Int → Int) : List Int → Int → Bool
  | [], _ => true
  | c :: w, i => decide (t i = c) && rd_like t w (i + 1)
/-- whether just this word is here, at i (behind blanks) -/
def rd_is (t : Int → Int) (e en i : Int) (w : List Int) : Bool := decide (rd_wd t e en i = w.length) && decide (w ≠ []) && rd_like t w i
/-- going through a row of words, one blank between two: the number of the word here -/
def wi_go (L : Int) (ch : Int → Int) : List Int → Int → Int → Bool → Int
  | [], n, k, al => if al = true ∧ k = L then n else -1
  | c :: cs, n, k, al => if c ≠ 32 then wi_go L ch cs n (k + 1) (al && decide (k < L) && decide (ch k = c)) else if al = true ∧ k = L then n else wi_go L ch cs (n + 1) 0 true
def wi_is (L : Int) (ch : Int → Int) (w : List Int) (k : Int) (al : Bool) : Prop := al = true ∧ k + w.length = L ∧ ∀ j : Nat, j < w.length → ch (k + j) = w.getD j 0
theorem wi_word {L : Int} {ch : Int → Int} : ∀ (w : List Int), (∀ c ∈ w, c ≠ 32) → ∀ (rest : List Int) (n k : Int) (al : Bool), (wi_is L ch w k al → wi_go L ch (w ++ 32 :: rest) n k al = n) ∧ (¬ wi_is L ch w k al → wi_go L ch (w ++ 32 :: rest) n k al = wi_go L ch rest (n + 1) 0 true)
  | [], _, rest, n, k, al => by
    refine ⟨fun h => ?_, fun h => ?_⟩
    · show (if (32 : Int) ≠ 32 then _ else _) = _
      rw [if_neg (by decide), if_pos ⟨h.1, by simpa using h.2.1⟩]
    · show (if (32 : Int) ≠ 32 then _ else _) = _
      rw [if_neg (by decide), if_neg]
      intro q
      exact h ⟨q.1, by simpa using q.2, fun j hj => by simp at hj⟩
  | c :: w, hw, rest, n, k, al => by
    have hc : c ≠ 32 := hw c List.mem_cons_self
    have e1 : wi_go L ch ((c :: w) ++ 32 :: rest) n k al = wi_go L ch (w ++ 32 :: rest) n (k + 1) (al && decide (k < L) && decide (ch k = c)) := by
      show (if c ≠ 32 then _ else _) = _
      rw [if_pos hc]
      rfl
    rw [e1]
    have ih := wi_word (L := L) (ch := ch) w (fun c h => hw c (List.mem_cons_of_mem _ h)) rest n (k + 1) (al && decide (k < L) && decide (ch k = c))
    have hiff : wi_is L ch (c :: w) k al ↔ wi_is L ch w (k + 1) (al && decide (k < L) && decide (ch k = c)) := by
      unfold wi_is
      simp only [List.length_cons, Bool.and_eq_true, decide_eq_true_eq]
      constructor
      · rintro ⟨h1, h2, h3⟩
        refine ⟨⟨⟨h1, by omega⟩, by have := h3 0 (by omega); simpa using this⟩, by omega, fun j hj => ?_⟩
        have := h3 (j + 1) (by omega)
        rw [show k + 1 + (j : Int) = k + ((j + 1 : Nat) : Int) by omega, this]
        simp
      · rintro ⟨⟨⟨h1, h2⟩, h3⟩, h4, h5⟩
        refine ⟨h1, by omega, fun j hj => ?_⟩
        cases j with
        | zero => simpa using h3
        | succ j =>
          have := h5 j (by omega)
          rw [show k + ((j + 1 : Nat) : Int) = k + 1 + (j : Int) by omega, this]
          simp
    exact ⟨fun h => ih.1 (hiff.mp h), fun h => ih.2 (fun z => h (hiff.mpr z))⟩
theorem wi_last {L : Int} {ch : Int → Int} : ∀ (w : List Int), (∀ c ∈ w, c ≠ 32) → ∀ (n k : Int) (al : Bool), (wi_is L ch w k al → wi_go L ch w n k al = n) ∧ (¬ wi_is L ch w k al → wi_go L ch w n k al = -1)
  | [], _, n, k, al => by
    refine ⟨fun h => ?_, fun h => ?_⟩
    · exact if_pos ⟨h.1, by simpa using h.2.1⟩
    · refine if_neg fun q => h ⟨q.1, by simpa using q.2, fun j hj => by simp at hj⟩
  | c :: w, hw, n, k, al => by
    have hc : c ≠ 32 := hw c List.mem_cons_self
    have e1 : wi_go L ch (c :: w) n k al = wi_go L ch w n (k + 1) (al && decide (k < L) && decide (ch k = c)) := by
      show (if c ≠ 32 then _ else _) = _
      rw [if_pos hc]
    rw [e1]
    have ih := wi_last (L := L) (ch := ch) w (fun c h => hw c (List.mem_cons_of_mem _ h)) n (k + 1) (al && decide (k < L) && decide (ch k = c))
    have hiff : wi_is L ch (c :: w) k al ↔ wi_is L ch w (k + 1) (al && decide (k < L) && decide (ch k = c)) := by
      unfold wi_is
      simp only [List.length_cons, Bool.and_eq_true, decide_eq_true_eq]
      constructor
      · rintro ⟨h1, h2, h3⟩
        refine ⟨⟨⟨h1, by omega⟩, by have := h3 0 (by omega); simpa using this⟩, by omega, fun j hj => ?_⟩
        have := h3 (j + 1) (by omega)
        rw [show k + 1 + (j : Int) = k + ((j + 1 : Nat) : Int) by omega, this]
        simp
      · rintro ⟨⟨⟨h1, h2⟩, h3⟩, h4, h5⟩
        refine ⟨h1, by omega, fun j hj => ?_⟩
        cases j with
        | zero => simpa using h3
        | succ j =>
          have := h5 j (by omega)
          rw [show k + ((j + 1 : Nat) : Int) = k + 1 + (j : Int) by omega, this]
          simp
    exact ⟨fun h => ih.1 (hiff.mp h), fun h => ih.2 (fun z => h (hiff.mpr z))⟩
