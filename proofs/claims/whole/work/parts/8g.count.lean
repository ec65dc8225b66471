/-! WHAT WAITS: counts of it; the word here, whichever row it stands in -/
/-- how many are open in what waits -/
def on_ : List Int → Nat
  | [] => 0
  | w :: W => (if w = 12 ∨ 20 ≤ w then 1 else 0) + on_ W
theorem on_ap : ∀ U W : List Int, on_ (U ++ W) = on_ U + on_ W
  | [], W => by show on_ W = 0 + on_ W; omega
  | u :: U, W => by
    show (if u = 12 ∨ 20 ≤ u then 1 else 0) + on_ (U ++ W) = (if u = 12 ∨ 20 ≤ u then 1 else 0) + on_ U + on_ W
    rw [on_ap U W]; omega
theorem on_op : ∀ U : List Int, op_ U → on_ U = 0
  | [], _ => rfl
  | u :: U, h => by
    have h1 := h u List.mem_cons_self
    show (if u = 12 ∨ 20 ≤ u then 1 else 0) + on_ U = 0
    rw [if_neg (by omega), on_op U (fun x hx => h x (List.mem_cons_of_mem _ hx))]
/-- what is open last -/
def lm_ : List Int → Int
  | [] => -1
  | w :: W => if 20 ≤ w ∧ w ≤ 24 then w else lm_ W
theorem lm_op : ∀ (U W : List Int), op_ U → lm_ (U ++ W) = lm_ W
  | [], _, _ => rfl
  | u :: U, W, h => by
    have h1 := h u List.mem_cons_self
    show (if 20 ≤ u ∧ u ≤ 24 then u else lm_ (U ++ W)) = lm_ W
    rw [if_neg (by omega), lm_op U W (fun x hx => h x (List.mem_cons_of_mem _ hx))]
theorem lm_m {m : Int} {W : List Int} (h : 20 ≤ m ∧ m ≤ 24) : lm_ (m :: W) = m := if_pos h
theorem pe_id : ∀ (cs W : List Int) (r : Nat), (∀ w ∈ W, w < 60) → pe_ cs W r = (cs, W, r)
  | _, [], _, _ => rfl
  | cs, w :: W, r, h => by
    have h1 := h w List.mem_cons_self
    exact if_neg (by omega)
theorem pe_in : ∀ (cs W : List Int) (r : Nat), (pe_ cs W r).1.length + (pe_ cs W r).2.1.length = cs.length + W.length ∧ (pe_ cs W r).2.2 + on_ (pe_ cs W r).2.1 = r + on_ W
  | _, [], _ => ⟨rfl, rfl⟩
  | cs, w :: W, r => by
    by_cases c : 60 ≤ w
    · have e : pe_ cs (w :: W) r = pe_ (cs ++ [w]) W (r + 1) := if_pos c
      have ih := pe_in (cs ++ [w]) W (r + 1)
      have e2 : on_ (w :: W) = 1 + on_ W := by
        show (if w = 12 ∨ 20 ≤ w then 1 else 0) + on_ W = _
        rw [if_pos (by omega)]
      rw [e, e2, List.length_cons]
      rw [List.length_append, List.length_singleton] at ih
      omega
    · have e : pe_ cs (w :: W) r = (cs, w :: W, r) := if_neg c
      rw [e]
      exact ⟨rfl, rfl⟩
theorem rd_is_le {t : Int → Int} {e en p : Int} {w : List Int} (h : rd_is t e en p w = true) : 97 ≤ rc t e p ∧ rc t e p ≤ 122 := by
  obtain ⟨⟨h1, h2⟩, -⟩ := rd_is_iff.mp h
  have hl := List.length_pos_iff.mpr h2
  unfold rd_wd at h1
  by_cases c : p = en
  · rw [if_pos c] at h1; omega
  · rw [if_neg c] at h1
    obtain ⟨g1, g2, g3, g4⟩ := rd_les_spec (t := t) (e := e) p
    have hlt : p < e := by rcases g2 with g2 | g2 <;> omega
    have := is_le_iff.mp (g3 p (Int.le_refl _) (by omega))
    unfold rc
    rw [if_pos hlt]
    exact this
theorem rd_like_eq {t : Int → Int} : ∀ (w v : List Int) (p : Int), w.length = v.length → rd_like t w p = true → rd_like t v p = true → w = v
  | [], [], _, _, _, _ => rfl
  | [], _ :: _, _, h, _, _ => by cases h
  | _ :: _, [], _, h, _, _ => by cases h
  | c :: w, b :: v, p, h, h1, h2 => by
    have h1 : (decide (t p = c) && rd_like t w (p + 1)) = true := h1
    have h2 : (decide (t p = b) && rd_like t v (p + 1)) = true := h2
    rw [Bool.and_eq_true, decide_eq_true_eq] at h1 h2
    rw [rd_like_eq w v (p + 1) (by simpa using h) h1.2 h2.2, ← h1.1, h2.1]
theorem rd_is_eq {t : Int → Int} {e en p : Int} {w v : List Int} (h1 : rd_is t e en p w = true) (h2 : rd_is t e en p v = true) : w = v := by
  obtain ⟨⟨a1, a2⟩, a3⟩ := rd_is_iff.mp h1
  obtain ⟨⟨b1, b2⟩, b3⟩ := rd_is_iff.mp h2
  exact rd_like_eq w v p (by omega) a3 b3
/-- words with codes, unlike ones -/
def tu_ (l : List (List Int × Int)) : Prop := ∀ x ∈ l, ¬ x.2 = 0 ∧ ∀ y ∈ l, (x.1 = y.1 → x.2 = y.2) ∧ (x.2 = y.2 → x.1 = y.1)
theorem pr_wc_is {t : Int → Int} {e en p : Int} {l : List (List Int × Int)} (hu : tu_ l) {w : List Int} {c : Int} (hx : (w, c) ∈ l) : rd_is t e en p w = true ↔ pr_wc t e en p l = c := by
  have go : ∀ k : List (List Int × Int), (pr_wc t e en p k = 0 ∧ ∀ x ∈ k, ¬ rd_is t e en p x.1 = true) ∨ ∃ x ∈ k, rd_is t e en p x.1 = true ∧ pr_wc t e en p k = x.2 := by
    intro k
    induction k with
    | nil => exact Or.inl ⟨rfl, fun x hx => by cases hx⟩
    | cons x k ih =>
      unfold pr_wc
      by_cases c1 : rd_is t e en p x.1 = true
      · rw [if_pos c1]; exact Or.inr ⟨x, List.mem_cons_self, c1, rfl⟩
      · rw [if_neg c1]
        rcases ih with ⟨h1, h2⟩ | ⟨y, h1, h2, h3⟩
        · refine Or.inl ⟨h1, fun y hy => ?_⟩
          rcases List.mem_cons.mp hy with rfl | hy
          · exact c1
          · exact h2 y hy
        · exact Or.inr ⟨y, List.mem_cons_of_mem _ h1, h2, h3⟩
  have hc := hu (w, c) hx
  rcases go l with ⟨h1, h2⟩ | ⟨y, h1, h2, h3⟩
  · exact ⟨fun z => absurd z (h2 (w, c) hx), fun z => absurd (z.symm.trans h1) hc.1⟩
  · rw [h3]
    refine ⟨fun z => ?_, fun z => ?_⟩
    · have e1 := rd_is_eq z h2
      exact ((hc.2 y h1).1 e1).symm
    · have e1 := (hc.2 y h1).2 z.symm
      show rd_is t e en p w = true
      rw [show w = y.1 from e1]
      exact h2
theorem ts_u (q : Bool) : tu_ (ts_ q) := by
  unfold tu_
  cases q <;> decide +kernel
theorem gd_r {C : List Int} {c : Int} {i : Nat} (h : i = C.length) : (C ++ [c]).getD i 0 = c := by
  rw [List.getD_eq_getElem?_getD, List.getElem?_append_right (by omega), h, Nat.sub_self]
  rfl
theorem gd_l {C D : List Int} {i : Nat} (h : i < C.length) : (C ++ D).getD i 0 = C.getD i 0 := by
  rw [List.getD_eq_getElem?_getD, List.getD_eq_getElem?_getD, List.getElem?_append_left h]
theorem gd_m {A B : List Int} {w : Int} : (A ++ w :: B).getD A.length 0 = w := by
  rw [List.getD_eq_getElem?_getD, List.getElem?_append_right (Nat.le_refl _), Nat.sub_self]
  rfl
theorem on_tl {w : Int} {W : List Int} {r : Nat} (h : r + on_ (w :: W) ≤ 6) : r + on_ W ≤ 6 := by
  have e : on_ (w :: W) = (if w = 12 ∨ 20 ≤ w then 1 else 0) + on_ W := rfl
  omega
