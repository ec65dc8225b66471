/-! THE SMALL MACHINE'S WORLD, laid over the great one's heap: cell i of the shapes lies at the address ad[i] -/
def am_ad (ad : List Nat) (sa : Int → Nat) (a : Int) : Nat := if a < 1000000 then ad.getD a.toNat 0 else sa a
def am_rf (ad : List Nat) (sa : Int → Nat) (a : Int) : Value := if a < 0 then .null else .ref (am_ad ad sa a)
def am_rok (ad : List Nat) (a : Int) : Prop := a < 1000000 → a < (ad.length : Int)
def am_val (ad : List Nat) (sa : Int → Nat) (v : am_V) (w : Value) : Prop := match v.1 with
  | 0 => ∃ z : Int32, w = .int z ∧ z.toInt = v.2
  | 1 => ∃ z : Int64, w = .long z ∧ z.toInt = v.2
  | 2 => am_rok ad v.2 ∧ w = am_rf ad sa v.2
  | _ => False
def am_vals (ad : List Nat) (sa : Int → Nat) : List am_V → List Value → Prop
  | [], [] => True
  | v :: l, w :: m => am_val ad sa v w ∧ am_vals ad sa l m
  | _, _ => False
def am_cell (P : am_P) (cl : List vw_C) (tys : List (ClassId × FieldType)) (ad : List Nat) (sa : Int → Nat) (sh : Nat × Nat × Nat) (f : Int → Int) (e : va_E) : Prop := match sh with
  | (0, ci, n) => ∃ (fs : List Value) (C : String) (T : u_T), e = .inr (ci, fs) ∧ cl[ci]? = some (C, T, n) ∧ fs.length = n ∧ ∀ k : Nat, k < n → ∃ w, fs[k]? = some w ∧ am_val ad sa (am_tag (P.2.2.1 ci k), f k) w
  | (1, _, n) => ∃ (cA : ClassId) (g : Nat → Int32) (t0 : Nat), e = .inl (cA, n, .inl g) ∧ tys[t0]? = some (cA, .int) ∧ n ≤ 65536 ∧ ∀ j : Nat, j < n → (g j).toInt = f j
  | (2, _, n) => ∃ (cA : ClassId) (g : Nat → Int32) (t0 : Nat), e = .inl (cA, n, .inl g) ∧ tys[t0]? = some (cA, .char) ∧ n ≤ 65536 ∧ ∀ j : Nat, j < n → (g j).toInt = f j
  | (3, _, n) => ∃ (cA : ClassId) (g : Nat → Int64) (t0 : Nat), e = .inl (cA, n, .inr (.inl g)) ∧ tys[t0]? = some (cA, .long) ∧ n ≤ 65536 ∧ ∀ j : Nat, j < n → (g j).toInt = f j
  | (4, ci, n) => ∃ (cA : ClassId) (g : Nat → Option Nat) (t0 : Nat) (C : String) (T : u_T) (N : Nat), e = .inl (cA, n, .inr (.inr (.inr (.inr g)))) ∧ cl[ci]? = some (C, T, N) ∧ tys[t0]? = some (cA, .object C) ∧ n ≤ 65536 ∧ ∀ j : Nat, j < n → am_rok ad (f j) ∧ va_rf (g j) = am_rf ad sa (f j)
  | _ => False
def am_sz : am_S → Nat
  | [] => 0
  | x :: l => x.2.2 + am_sz l
def am_lo (ad : List Nat) (sa : Int → Nat) (nL : Nat) (L : List am_V) (ls : Array Slot) : Prop := ∃ lv : List (Nat × Value), lv_has ls nL lv ∧ L.length = nL ∧ ∀ (k : Nat) (v : am_V), L[k]? = some v → v.1 < 3 → ∃ w, (k, w) ∈ lv ∧ am_val ad sa v w
/-- the parts of objects that lie where they were laid -/
def am_Fx (P : am_P) (S : am_S) (M : am_M) : Prop := (∀ (i ci n : Nat), S[i]? = some (0, ci, n) → ∀ f o : Int, P.2.2.2.2.2.2.1 ci f = some o → M i f = (i : Int) + o) ∧ (P.2.2.2.2.2.2.2 = true → ∀ (i c n : Nat), S[i]? = some (4, c, n) → ∀ j : Int, 0 ≤ j → j < (n : Int) → M i j = (i : Int) + 1 + 2 * j)
theorem am_Fx_of {P : am_P} (h : P.2.2.2.2.2.2.2 = false) (ho : P.2.2.2.2.2.2.2 = false → ∀ ci f, P.2.2.2.2.2.2.1 ci f = none) (S : am_S) (M : am_M) : am_Fx P S M := ⟨fun i ci n _ f o q => (by rw [ho h ci f] at q; cases q), fun q => (by rw [h] at q; cases q)⟩
theorem am_Fx_up {P : am_P} {S : am_S} {M : am_M} (h : am_Fx P S M) {i kd c n : Nat} (hs : S[i]? = some (kd, c, n)) (h4 : kd = 4 → P.2.2.2.2.2.2.2 = false) {k v : Int} (h0 : kd = 0 → P.2.2.2.2.2.2.1 c k = none) {a : Int} (ha : a = (i : Int)) : am_Fx P S (am_up M a k v) := by
  subst ha
  refine ⟨fun j ci n' hj f o ho => ?_, fun hf j c' n' hj q h1 h2 => ?_⟩
  · unfold am_up
    by_cases q : (j : Int) = i ∧ f = k
    · obtain ⟨q1, q2⟩ := q
      have : j = i := by omega
      subst this
      cases hs.symm.trans hj
      rw [q2, h0 rfl] at ho
      cases ho
    · rw [if_neg q]
      exact h.1 j ci n' hj f o ho
  · unfold am_up
    by_cases q' : (j : Int) = i ∧ q = k
    · have : j = i := by omega
      subst this
      cases hs.symm.trans hj
      rw [h4 rfl] at hf
      cases hf
    · rw [if_neg q']
      exact h.2 hf j c' n' hj q h1 h2
/-- what lies in the heap -/
def am_Wd (P : am_P) (D : va_G) (cl : List vw_C) (A : Nat → Prop) (sa : Int → Nat) (sc : Int → Int → Int) (a0 : List Nat) (s : State) (ad : List Nat) (tys : List (ClassId × FieldType)) (ws : va_W) (S : am_S) (M : am_M) (H : Heap) (locs : List Loc) : Prop :=
  va_K D cl tys s ∧ va_P D cl ws H ∧ va_D A ws ∧ va_S A s.heap H locs ∧ ws.map Prod.fst = ad ∧ ws.length = S.length ∧ (∀ (i : Nat) (sh : Nat × Nat × Nat), S[i]? = some sh → ∃ q, ws[i]? = some q ∧ am_cell P cl tys ad sa sh (M i) q.2) ∧ (∀ a j : Int, 1000000 ≤ a → M a j = sc a j) ∧ a0 <+: ad ∧ am_Fx P S M
theorem am_rf_app {ad : List Nat} {sa : Int → Nat} {a : Int} (h : am_rok ad a) (x : List Nat) : am_rok (ad ++ x) a ∧ am_rf (ad ++ x) sa a = am_rf ad sa a := by
  refine ⟨fun q => ?_, ?_⟩
  · have := h q
    rw [List.length_append]; omega
  · unfold am_rf am_ad
    by_cases h0 : a < 0
    · rw [if_pos h0, if_pos h0]
    · by_cases h1 : a < 1000000
      · have := h h1
        rw [if_neg h0, if_neg h0, if_pos h1, if_pos h1, List.getD_eq_getElem?_getD, List.getD_eq_getElem?_getD, List.getElem?_append_left (by omega)]
      · rw [if_neg h0, if_neg h0, if_neg h1, if_neg h1]
theorem am_val_app {ad : List Nat} {sa : Int → Nat} {v : am_V} {w : Value} (h : am_val ad sa v w) (x : List Nat) : am_val (ad ++ x) sa v w := by
  unfold am_val at h ⊢
  split at h
  · exact h
  · exact h
  · obtain ⟨h1, h2⟩ := h
    obtain ⟨h3, h4⟩ := am_rf_app (sa := sa) h1 x
    exact ⟨h3, h2.trans h4.symm⟩
  · exact h.elim
theorem am_vals_app {ad : List Nat} {sa : Int → Nat} (x : List Nat) : ∀ (l : List am_V) (m : List Value), am_vals ad sa l m → am_vals (ad ++ x) sa l m
  | [], [], _ => trivial
  | _ :: l, _ :: m, h => ⟨am_val_app h.1 x, am_vals_app x l m h.2⟩
  | [], _ :: _, h => h.elim
  | _ :: _, [], h => h.elim
theorem am_lo_app {ad : List Nat} {sa : Int → Nat} {nL : Nat} {L : List am_V} {ls : Array Slot} (h : am_lo ad sa nL L ls) (x : List Nat) : am_lo (ad ++ x) sa nL L ls := by
  obtain ⟨lv, h1, h2, h3⟩ := h
  refine ⟨lv, h1, h2, fun k v hk hv => ?_⟩
  obtain ⟨w, h4, h5⟩ := h3 k v hk hv
  exact ⟨w, h4, am_val_app h5 x⟩
theorem am_cell_app {P : am_P} {cl : List vw_C} {tys : List (ClassId × FieldType)} {ad : List Nat} {sa : Int → Nat} {sh : Nat × Nat × Nat} {f : Int → Int} {e : va_E} (h : am_cell P cl tys ad sa sh f e) (x : List Nat) (y : List (ClassId × FieldType)) : am_cell P cl (tys ++ y) (ad ++ x) sa sh f e := by
  have hty : ∀ (t0 : Nat) (z : ClassId × FieldType), tys[t0]? = some z → (tys ++ y)[t0]? = some z := fun t0 z hz => by
    rw [List.getElem?_append_left (List.getElem?_eq_some_iff.mp hz).1]; exact hz
  unfold am_cell at h ⊢
  split at h
  · obtain ⟨fs, C, T, h1, h2, h3, h4⟩ := h
    refine ⟨fs, C, T, h1, h2, h3, fun k hk => ?_⟩
    obtain ⟨w, h5, h6⟩ := h4 k hk
    exact ⟨w, h5, am_val_app h6 x⟩
  · obtain ⟨cA, g, t0, h1, h2, h3⟩ := h
    exact ⟨cA, g, t0, h1, hty _ _ h2, h3⟩
  · obtain ⟨cA, g, t0, h1, h2, h3⟩ := h
    exact ⟨cA, g, t0, h1, hty _ _ h2, h3⟩
  · obtain ⟨cA, g, t0, h1, h2, h3⟩ := h
    exact ⟨cA, g, t0, h1, hty _ _ h2, h3⟩
  · obtain ⟨cA, g, t0, C, T, N, h1, h2, h3, h4, h5⟩ := h
    refine ⟨cA, g, t0, C, T, N, h1, h2, hty _ _ h3, h4, fun j hj => ?_⟩
    obtain ⟨h6, h7⟩ := h5 j hj
    obtain ⟨h8, h9⟩ := am_rf_app (sa := sa) h6 x
    exact ⟨h8, h7.trans h9.symm⟩
  · exact h.elim
/-- a cell is changed -/
theorem am_Wd_set {P : am_P} {D : va_G} {cl : List vw_C} {A : Nat → Prop} {sa : Int → Nat} {sc : Int → Int → Int} {a0 : List Nat} {s : State} {ad : List Nat} {tys : List (ClassId × FieldType)} {ws : va_W} {S : am_S} {M M' : am_M} {H H1 : Heap} {locs locs1 : List Loc} {i a : Nat} {sh : Nat × Nat × Nat} {e0 e : va_E}
    (h : am_Wd P D cl A sa sc a0 s ad tys ws S M H locs) (hs : S[i]? = some sh) (hw : ws[i]? = some (a, e0)) (hP1 : va_P D cl (ws.set i (a, e)) H1) (hD1 : va_D A (ws.set i (a, e))) (hS1 : va_S A s.heap H1 locs1) (hc : am_cell P cl tys ad sa sh (M' i) e) (hi : (i : Int) < 1000000) (hM : ∀ b : Int, b ≠ i → M' b = M b) (hF : am_Fx P S M') :
    am_Wd P D cl A sa sc a0 s ad tys (ws.set i (a, e)) S M' H1 locs1 := by
  obtain ⟨hK, hP, hD, hS, had, hlen, hcs, hst, hpre, hfx⟩ := h
  have hl := (List.getElem?_eq_some_iff.mp hw).1
  refine ⟨hK, hP1, hD1, hS1, ?_, by rw [List.length_set]; exact hlen, fun j sh' hj => ?_, fun b j hb => ?_, hpre, hF⟩
  · rw [← had]
    apply List.ext_getElem?
    intro k
    rw [List.getElem?_map, List.getElem?_map, List.getElem?_set]
    by_cases hk : i = k
    · subst hk
      rw [if_pos rfl, if_pos hl, hw]; rfl
    · rw [if_neg hk]
  · by_cases hji : j = i
    · subst hji
      rw [hs] at hj
      cases hj
      exact ⟨(a, e), by rw [List.getElem?_set_self hl], hc⟩
    · obtain ⟨q, h1, h2⟩ := hcs j sh' hj
      refine ⟨q, by rw [List.getElem?_set_ne (fun z => hji z.symm)]; exact h1, ?_⟩
      rw [hM j (by omega)]
      exact h2
  · rw [hM b (by omega)]
    exact hst b j hb
/-- a cell is made -/
theorem am_Wd_push {P : am_P} {D : va_G} {cl : List vw_C} {A : Nat → Prop} {sa : Int → Nat} {sc : Int → Int → Int} {a0 : List Nat} {s : State} {ad : List Nat} {tys tys1 : List (ClassId × FieldType)} {ws : va_W} {S : am_S} {M : am_M} {H H1 : Heap} {locs locs1 : List Loc} {a : Nat} {sh : Nat × Nat × Nat} {f : Int → Int} {e : va_E}
    (h : am_Wd P D cl A sa sc a0 s ad tys ws S M H locs) (hK1 : va_K D cl (tys ++ tys1) s) (hP1 : va_P D cl (ws ++ [(a, e)]) H1) (hD1 : va_D A (ws ++ [(a, e)])) (hS1 : va_S A s.heap H1 locs1) (hc : am_cell P cl (tys ++ tys1) (ad ++ [a]) sa sh f e) (hn : (S.length : Int) < 1000000) (hF : am_Fx P (S ++ [sh]) (am_row M S.length f)) :
    am_Wd P D cl A sa sc a0 s (ad ++ [a]) (tys ++ tys1) (ws ++ [(a, e)]) (S ++ [sh]) (am_row M S.length f) H1 locs1 := by
  obtain ⟨hK, hP, hD, hS, had, hlen, hcs, hst, hpre, hfx⟩ := h
  refine ⟨hK1, hP1, hD1, hS1, by rw [List.map_append, had]; rfl, by rw [List.length_append, List.length_append, hlen]; rfl, fun j sh' hj => ?_, fun b j hb => ?_, hpre.trans (List.prefix_append _ _), hF⟩
  · by_cases hl : j < S.length
    · rw [List.getElem?_append_left hl] at hj
      obtain ⟨q, h1, h2⟩ := hcs j sh' hj
      refine ⟨q, by rw [List.getElem?_append_left (by omega)]; exact h1, ?_⟩
      have e1 : am_row M S.length f (j : Int) = M j := by
        funext k
        unfold am_row
        rw [if_neg (by omega)]
      rw [e1]
      exact am_cell_app h2 _ _
    · rw [List.getElem?_append_right (by omega)] at hj
      have hz : j - S.length < 1 := (List.getElem?_eq_some_iff.mp hj).1
      have hj0 : j = S.length := by omega
      subst hj0
      rw [Nat.sub_self] at hj
      cases hj
      refine ⟨(a, e), by rw [← hlen, List.getElem?_append_right (Nat.le_refl _), Nat.sub_self]; rfl, ?_⟩
      have e1 : am_row M S.length f (S.length : Int) = f := by
        funext k
        unfold am_row
        rw [if_pos rfl]
      rw [e1]
      exact hc
  · unfold am_row
    rw [if_neg (by omega)]
    exact hst b j hb
theorem am_sz_app (S S' : am_S) : am_sz (S ++ S') = am_sz S + am_sz S' := by
  induction S with
  | nil => simp [am_sz]
  | cons x l ih => simp only [List.cons_append, am_sz, ih]; omega
