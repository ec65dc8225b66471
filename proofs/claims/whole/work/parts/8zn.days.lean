/-! DAYS IN THE REFERENCE -/
/-- the weights behind a row of meetings by day -/
def dy_ (D : dm_D) (a : Int) : List Int → (Int → Int) → (Int → Int)
  | [], w => w
  | k :: ds, w => dy_ D a ds (pu_up w k (pu_made (dO D 2) w 6 k (dB D a)))
/-- no way that is not longer -/
def wl_ (D : dm_D) (a g : Int) (w : Int → Int) (b : Int) : Prop := ∀ l : List Bool, l.length ≤ 10 → wy_is D a g l w → b ≤ (l.length : Int)
/-- the best so far, over the orders P: its rooms, the order -/
def dn_ (D : dm_D) (a g : Int) (w : Int → Int) (P : List (List Int)) (b : Int) (o : List Int) : Prop := (b = -1 ∧ ∀ ds ∈ P, wy_no D a g (dy_ D a ds w)) ∨ (∃ P1 P2 : List (List Int), P = P1 ++ o :: P2 ∧ (∃ l : List Bool, wy_opt D a g false (dy_ D a o w) l ∧ (l.length : Int) = b) ∧ (∀ ds ∈ P1, wl_ D a g (dy_ D a ds w) (b + 1)) ∧ ∀ ds ∈ P2, wl_ D a g (dy_ D a ds w) b)
theorem dn_0 {D : dm_D} {a g : Int} {w : Int → Int} {o : List Int} : dn_ D a g w [] (-1) o := Or.inl ⟨rfl, fun ds h => by cases h⟩
/-- an order more, that has no way -/
theorem dn_no {D : dm_D} {a g b : Int} {w : Int → Int} {P : List (List Int)} {o ds : List Int} (h : dn_ D a g w P b o) (hn : wl_ D a g (dy_ D a ds w) b ∧ (b = -1 → wy_no D a g (dy_ D a ds w))) : dn_ D a g w (P ++ [ds]) b o := by
  rcases h with ⟨h1, h2⟩ | ⟨P1, P2, h1, h2, h3, h4⟩
  · refine Or.inl ⟨h1, fun x hx => ?_⟩
    rcases List.mem_append.mp hx with q | q
    · exact h2 x q
    · rw [List.mem_singleton] at q; rw [q]; exact hn.2 h1
  · refine Or.inr ⟨P1, P2 ++ [ds], by rw [h1, List.append_assoc]; rfl, h2, h3, fun x hx => ?_⟩
    rcases List.mem_append.mp hx with q | q
    · exact h4 x q
    · rw [List.mem_singleton] at q; rw [q]; exact hn.1
/-- an order more, that is better -/
theorem dn_new {D : dm_D} {a g b : Int} {w : Int → Int} {P : List (List Int)} {o ds : List Int} {l : List Bool} (h : dn_ D a g w P b o) (hl : wy_opt D a g false (dy_ D a ds w) l) (hb : b = -1 ∨ (l.length : Int) < b) : dn_ D a g w (P ++ [ds]) l.length ds := by
  refine Or.inr ⟨P, [], rfl, ⟨l, hl, rfl⟩, fun x hx => ?_, fun x hx => by cases hx⟩
  rcases h with ⟨h1, h2⟩ | ⟨P1, P2, h1, ⟨l2, h2, h5⟩, h3, h4⟩
  · exact fun l' h6 h7 => absurd h7 (h2 x hx l' h6)
  · have hb : (l.length : Int) < b := by
      rcases hb with q | q
      · omega
      · exact q
    have opt : wl_ D a g (dy_ D a o w) b := fun l' h6 h7 => by
      have h8 := (h2.2.2 l' h6 h7).1
      rw [wy_c0, wy_c0] at h8
      rcases Int.lt_or_le (l'.length : Int) b with z | z
      · exact absurd (Or.inr ⟨rfl, by omega⟩) h8
      · exact z
    rw [h1] at hx
    intro l' h6 h7
    rcases List.mem_append.mp hx with q | q
    · have := h3 x q l' h6 h7; omega
    · rcases List.mem_cons.mp q with q | q
      · rw [q] at h7; have := opt l' h6 h7; omega
      · have := h4 x q l' h6 h7; omega
theorem wl_no {D : dm_D} {a g b : Int} {w : Int → Int} (h : wy_no D a g w) : wl_ D a g w b := fun l h1 h2 => absurd h2 (h l h1)
theorem wl_opt {D : dm_D} {a g b : Int} {w : Int → Int} {l : List Bool} (h : wy_opt D a g false w l) (hb : b ≤ (l.length : Int)) : wl_ D a g w b := fun l' h1 h2 => by
  have h8 := (h.2.2 l' h1 h2).1
  rw [wy_c0, wy_c0] at h8
  rcases Int.lt_or_le (l'.length : Int) b with z | z
  · exact absurd (Or.inr ⟨rfl, by omega⟩) h8
  · exact z
/-- over the same orders, both find the same -/
theorem dn_eq {D : dm_D} {a g : Int} {w : Int → Int} {P : List (List Int)} {b b' : Int} {o o' : List Int} (h : dn_ D a g w P b o) (h' : dn_ D a g w P b' o') : b = b' ∧ (¬ b = -1 → o = o') := by
  have one : ∀ {b b' : Int} {o o' : List Int}, (b = -1 ∧ ∀ ds ∈ P, wy_no D a g (dy_ D a ds w)) → dn_ D a g w P b' o' → b' = -1 := fun {b b' o o'} q r => by
    rcases r with ⟨r1, -⟩ | ⟨P1, P2, r1, ⟨l, r2, r3⟩, -⟩
    · exact r1
    · exact absurd r2.2.1 (q.2 o' (by rw [r1]; exact List.mem_append_right _ List.mem_cons_self) l r2.1)
  rcases h with q | ⟨P1, P2, q1, ⟨l, q2, q3⟩, q4, q5⟩
  · have e := one (o := o) q h'
    exact ⟨by rw [q.1, e], fun z => absurd q.1 z⟩
  · rcases h' with r | ⟨P3, P4, r1, ⟨l', r2, r3⟩, r4, r5⟩
    · have e := one (o := o') (o' := o) r (Or.inr ⟨P1, P2, q1, ⟨l, q2, q3⟩, q4, q5⟩)
      omega
    · -- where each stands in the row
      have key : ∀ {P1 P2 P3 P4 : List (List Int)} {o o' : List Int}, P1 ++ o :: P2 = P3 ++ o' :: P4 → (P1 = P3 ∧ o = o') ∨ (o ∈ P3) ∨ (o' ∈ P1) := by
        intro P1
        induction P1 with
        | nil =>
          intro P2 P3 P4 o o' e
          cases P3 with
          | nil => exact Or.inl ⟨rfl, (List.cons.inj e).1⟩
          | cons x P3 => exact Or.inr (Or.inl (by rw [(List.cons.inj e).1]; exact List.mem_cons_self))
        | cons x P1 ih =>
          intro P2 P3 P4 o o' e
          cases P3 with
          | nil => exact Or.inr (Or.inr (by rw [← (List.cons.inj e).1]; exact List.mem_cons_self))
          | cons y P3 =>
            obtain ⟨e1, e2⟩ := List.cons.inj e
            rcases ih e2 with ⟨z1, z2⟩ | z | z
            · exact Or.inl ⟨by rw [e1, z1], z2⟩
            · exact Or.inr (Or.inl (List.mem_cons_of_mem _ z))
            · exact Or.inr (Or.inr (List.mem_cons_of_mem _ z))
      have all : ∀ {Q1 Q2 : List (List Int)} {x y : List Int} {c : Int}, P = Q1 ++ x :: Q2 → (∃ l : List Bool, wy_opt D a g false (dy_ D a x w) l ∧ (l.length : Int) = c) → (∀ ds ∈ Q1, wl_ D a g (dy_ D a ds w) (c + 1)) → (∀ ds ∈ Q2, wl_ D a g (dy_ D a ds w) c) → y ∈ P → wl_ D a g (dy_ D a y w) c := fun {Q1 Q2 x y c} e1 e2 e3 e4 hy => by
        obtain ⟨l, l1, l2⟩ := e2
        rw [e1] at hy
        rcases List.mem_append.mp hy with z | z
        · exact fun l' m1 m2 => by have := e3 y z l' m1 m2; omega
        · rcases List.mem_cons.mp z with z | z
          · rw [z]; exact wl_opt l1 (by omega)
          · exact e4 y z
      have mo : o ∈ P := by rw [q1]; exact List.mem_append_right _ List.mem_cons_self
      have mo' : o' ∈ P := by rw [r1]; exact List.mem_append_right _ List.mem_cons_self
      have b1 := all r1 ⟨l', r2, r3⟩ r4 r5 mo l q2.1 q2.2.1
      have b2 := all q1 ⟨l, q2, q3⟩ q4 q5 mo' l' r2.1 r2.2.1
      have hb : b = b' := by omega
      refine ⟨hb, fun _ => ?_⟩
      rcases key (q1.symm.trans r1) with ⟨-, z⟩ | z | z
      · exact z
      · have := r4 o z l q2.1 q2.2.1; omega
      · have := q4 o' z l' r2.1 r2.2.1; omega
