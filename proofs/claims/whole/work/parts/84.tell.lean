/-! AGAIN, HAS, DREAMER, WEIGH, GUIDE: the same answers on both sides -/
def al_ (D : dm_D) (a g : Int) (w : Int → Int) (j k : Nat) : Prop := ∀ i : Int, 0 ≤ i → i < 6 → wk D a g w j i = wk D a g w k i
/-- what again answers -/
def ag_is (D : dm_D) (a g : Int) (w : Int → Int) (T : Nat) (what x : Int) : Prop :=
  (x = -1 ∧ ∀ k : Nat, 1 ≤ k → k < T → ∀ j : Nat, j < k → ¬ al_ D a g w j k) ∨
  (∃ k j : Nat, (1 ≤ k ∧ k < T) ∧ (j < k ∧ al_ D a g w j k ∧ ∀ i : Nat, i < j → ¬ al_ D a g w i k) ∧ (∀ l : Nat, 1 ≤ l → l < k → ∀ j : Nat, j < l → ¬ al_ D a g w j l) ∧ x = if what = 0 then (k : Int) else (k : Int) - j)
theorem ag_is_eq {D : dm_D} {a g : Int} {w : Int → Int} {T : Nat} {what x y : Int} (h : ag_is D a g w T what x) (q : ag_is D a g w T what y) : x = y := by
  rcases h with ⟨h1, h2⟩ | ⟨k, j, h1, h2, h3, h4⟩
  · rcases q with ⟨q1, q2⟩ | ⟨l, i, q1, q2, q3, q4⟩
    · rw [h1, q1]
    · exact absurd q2.2.1 (h2 l q1.1 q1.2 i q2.1)
  · rcases q with ⟨q1, q2⟩ | ⟨l, i, q1, q2, q3, q4⟩
    · exact absurd h2.2.1 (q2 k h1.1 h1.2 j h2.1)
    · have e : k = l := by
        rcases Nat.lt_trichotomy k l with z | z | z
        · exact absurd h2.2.1 (q3 k h1.1 z j h2.1)
        · exact z
        · exact absurd q2.2.1 (h3 l q1.1 z i q2.1)
      subst e
      have e2 : j = i := by
        rcases Nat.lt_trichotomy j i with z | z | z
        · exact absurd h2.2.1 (q2.2.2 j z)
        · exact z
        · exact absurd q2.2.1 (h2.2.2 i z)
      rw [h4, q4, e2]
/-- the rows of the walk lie in the class's 89 -/
def r89 (M : am_M) (D : dm_D) (a g : Int) (w : Int → Int) (T : Nat) : Prop := ∀ t : Nat, t ≤ T → ∀ k : Int, 0 ≤ k → k < 6 → M 89 (6 * t + k) = wk D a g w t k
theorem st_firstLike {d : Nat} {M : am_M} {f : Int → am_M → Prop} {D : dm_D} {a g : Int} {w : Int → Int} {T k : Nat} (hT : T ≤ 200) (hk : k ≤ T) (hr : r89 M D a g w T) (h : ∀ j : Nat, j ≤ k → (j < k → al_ D a g w j k) → (∀ i : Nat, i < j → ¬ al_ D a g w i k) → f j M) : am_cal pg (d + 2) 8 [(2, 88), (0, (k : Int))] sh_T M (am_c0 sh_T f) := by
  have go : ∀ (n j : Nat), j + n = k → (∀ i : Nat, i < j → ¬ al_ D a g w i k) → am_g 1 0 co_X1_firstLike (d + 1) (am_c0 sh_T f) 2 [(2, 88), (0, (k : Int)), (0, (j : Int)), (3, 0), (3, 0)] [] sh_T M := by
    intro n
    induction n with
    | zero =>
      intro j hj hno
      have e : j = k := by omega
      subst e
      exact bk_X1_firstLike_2 ⟨fun _ => am_c0_i (h j (Nat.le_refl _) (fun z => by omega) hno), fun z => by omega⟩
    | succ n ih =>
      intro j hj hno
      have inner : ∀ (m i : Nat) (al : Int), i + m = 6 → (al = 1 ∧ (∀ x : Int, 0 ≤ x → x < i → wk D a g w j x = wk D a g w k x) ∨ al = 0 ∧ ¬ al_ D a g w j k) → am_g 1 0 co_X1_firstLike (d + 1) (am_c0 sh_T f) 12 [(2, 88), (0, (k : Int)), (0, (j : Int)), (0, al), (0, (i : Int))] [] sh_T M := by
        intro m
        induction m with
        | zero =>
          intro i al hi hal
          refine bk_X1_firstLike_12 ⟨fun _ => ⟨fun z => ⟨⟨by omega, by omega⟩, ?_⟩, fun z => ?_⟩, fun z => by omega⟩
          · rcases hal with y | y
            · omega
            · exact ih (j + 1) (by omega) (fun x hx => by
                by_cases e : x = j
                · rw [e]; exact y.2
                · exact hno x (by omega))
          · rcases hal with y | y
            · exact am_c0_i (h j (by omega) (fun _ x x0 x1 => y.2 x x0 (by omega)) hno)
            · exact absurd y.1 z
        | succ m ihm =>
          intro i al hi hal
          refine bk_X1_firstLike_12 ⟨fun z => by omega, fun _ => ⟨fun z => ⟨⟨by omega, by omega⟩, ?_⟩, fun z => ?_⟩⟩
          · rcases hal with y | y
            · omega
            · exact ih (j + 1) (by omega) (fun x hx => by
                by_cases e : x = j
                · rw [e]; exact y.2
                · exact hno x (by omega))
          · rcases hal with y | y
            · refine st_weightAt (by omega) (by omega) (st_weightAt (by omega) (by omega) ?_)
              rw [hr j (by omega) i (by omega) (by omega), hr k hk i (by omega) (by omega)]
              refine ⟨fun x => ⟨⟨by omega, by omega⟩, ihm (i + 1) 0 (by omega) (Or.inr ⟨rfl, fun q => x (q i (by omega) (by omega))⟩)⟩, fun x => ⟨⟨by omega, by omega⟩, ihm (i + 1) 1 (by omega) (Or.inl ⟨rfl, fun q q0 q1 => ?_⟩)⟩⟩
              by_cases e : q = (i : Int)
              · rw [e]; exact x
              · exact y.2 q q0 (by omega)
            · exact absurd y.1 z
      exact bk_X1_firstLike_2 ⟨fun z => by omega, fun _ => inner 6 0 1 rfl (Or.inl ⟨rfl, fun x x0 x1 => by omega⟩)⟩
  exact en_X1_firstLike (bk_X1_firstLike_0 (go k 0 (Nat.zero_add _) (fun i hi => by omega)))
/-- the rows of the walk lie in the reference's 187 -/
def r187 (M : am_M) (D : dm_D) (a g : Int) (w : Int → Int) (T : Nat) : Prop := ∀ t : Nat, t ≤ T → ∀ k : Int, 0 ≤ k → k < 6 → M 187 (7 * t + k) = wk D a g w t k
theorem sp_areAlike {d : Nat} {M : am_M} {f : Int → am_M → Prop} {D : dm_D} {a g : Int} {w : Int → Int} {T j k : Nat} (hT : T ≤ 200) (hj : j ≤ T) (hk : k ≤ T) (hn : M 174 3 = dN D ∧ dN D ≤ 6) (hz : we_z (dN D) (wk D a g w j) ∧ we_z (dN D) (wk D a g w k)) (hr : r187 M D a g w T) (h1 : al_ D a g w j k → f 1 M) (h0 : ¬ al_ D a g w j k → f 0 M) : am_cal pg (d + 2) 241 [(2, 152), (0, (j : Int)), (0, (k : Int))] sh_T M (am_c0 sh_T f) := by
  have go : ∀ (m i : Nat), i + m = dN D → (∀ x : Int, 0 ≤ x → x < i → wk D a g w j x = wk D a g w k x) → am_g 12 5 co_X12_areAlike (d + 1) (am_c0 sh_T f) 2 [(2, 152), (0, (j : Int)), (0, (k : Int)), (0, (i : Int))] [] sh_T M := by
    intro m
    induction m with
    | zero =>
      intro i hi hs
      refine bk_X12_areAlike_2 (sp_dreadMany ⟨fun _ => am_c0_i (h1 (fun x x0 x1 => ?_)), fun z => by omega⟩)
      by_cases e : x < (i : Int)
      · exact hs x x0 e
      · rw [hz.1 x (by omega) x1, hz.2 x (by omega) x1]
    | succ m ih =>
      intro i hi hs
      refine bk_X12_areAlike_2 (sp_dreadMany ⟨fun z => by omega, fun _ => ⟨⟨by omega, by omega⟩, ⟨by omega, by omega⟩, ⟨by omega, by omega⟩, ⟨by omega, by omega⟩, ⟨by omega, by omega⟩, ⟨by omega, by omega⟩, ?_⟩⟩)
      rw [hr j hj i (by omega) (by omega), hr k hk i (by omega) (by omega)]
      refine ⟨fun x => ⟨⟨by omega, by omega⟩, ih (i + 1) (by omega) (fun q q0 q1 => ?_)⟩, fun x => am_c0_i (h0 (fun q => x (q i (by omega) (by omega))))⟩
      by_cases e : q = (i : Int)
      · rw [e]; exact x
      · exact hs q q0 (by omega)
  exact en_X12_areAlike (bk_X12_areAlike_0 (go (dN D) 0 (Nat.zero_add _) (fun x x0 x1 => by omega)))
theorem sp_comesAgain {d : Nat} {M : am_M} {f : Int → am_M → Prop} {D : dm_D} {a g : Int} {w : Int → Int} {T : Nat} {what : Int} (hT : T ≤ 200) (hc : M 152 50 = T) (hn : M 174 3 = dN D ∧ dN D ≤ 6) (hz : ∀ t : Nat, t ≤ T → we_z (dN D) (wk D a g w t)) (hr : r187 M D a g w T) (h : ∀ x, ag_is D a g w T what x → f x M) : am_cal pg (d + 3) 242 [(2, 152), (0, what)] sh_T M (am_c0 sh_T f) := by
  have go : ∀ (n k : Nat), k + n = T ∨ (n = 0 ∧ T ≤ k) → 1 ≤ k → k ≤ T ∨ (n = 0 ∧ k ≤ 1) → (∀ l : Nat, 1 ≤ l → l < k → ∀ j : Nat, j < l → ¬ al_ D a g w j l) → am_g 12 0 co_X12_comesAgain (d + 2) (am_c0 sh_T f) 2 [(2, 152), (0, what), (0, (k : Int)), (3, 0)] [] sh_T M := by
    intro n
    induction n with
    | zero =>
      intro k hk k1 kT hno
      refine bk_X12_comesAgain_2 ⟨fun _ => am_c0_i (h (-1) (Or.inl ⟨rfl, fun l l1 l2 => hno l l1 (by omega)⟩)), fun z => ?_⟩
      rw [hc] at z
      omega
    | succ n ih =>
      intro k hk k1 kT hno
      have inner : ∀ (m j : Nat), j + m = k → (∀ i : Nat, i < j → ¬ al_ D a g w i k) → am_g 12 0 co_X12_comesAgain (d + 2) (am_c0 sh_T f) 12 [(2, 152), (0, what), (0, (k : Int)), (0, (j : Int))] [] sh_T M := by
        intro m
        induction m with
        | zero =>
          intro j hj hnj
          refine bk_X12_comesAgain_12 ⟨fun _ => ⟨⟨by omega, by omega⟩, ih (k + 1) (by omega) (by omega) (by omega) (fun l l1 l2 => ?_)⟩, fun z => by omega⟩
          by_cases e : l = k
          · intro i hi
            rw [e]
            exact hnj i (by omega)
          · exact hno l l1 (by omega)
        | succ m ihm =>
          intro j hj hnj
          refine bk_X12_comesAgain_12 ⟨fun z => by omega, fun _ => sp_areAlike (T := T) hT (by omega) (by omega) hn ⟨hz j (by omega), hz k (by omega)⟩ hr (fun q => ⟨fun z => absurd z (by decide), fun _ => ⟨fun z => am_c0_i (h k (Or.inr ⟨k, j, ⟨k1, by omega⟩, ⟨by omega, q, hnj⟩, hno, by rw [if_pos z]⟩)), fun z => ⟨⟨by omega, by omega⟩, am_c0_i (h _ (Or.inr ⟨k, j, ⟨k1, by omega⟩, ⟨by omega, q, hnj⟩, hno, by rw [if_neg z]⟩))⟩⟩⟩) (fun q => ⟨fun _ => ⟨⟨by omega, by omega⟩, ihm (j + 1) (by omega) (fun i hi => ?_)⟩, fun z => absurd rfl z⟩)⟩
          by_cases e : i = j
          · rw [e]; exact q
          · exact hnj i (by omega)
      refine bk_X12_comesAgain_2 ⟨fun z => ?_, fun _ => inner k 0 (Nat.zero_add _) (fun i hi => by omega)⟩
      rw [hc] at z
      omega
  exact en_X12_comesAgain (bk_X12_comesAgain_0 (go (T - 1) 1 (by omega) (Nat.le_refl _) (by omega) (fun l l1 l2 => by omega)))
theorem st_again_38 {d : Nat} {M : am_M} {f : Int → am_M → Prop} {D : dm_D} {a g : Int} {w : Int → Int} {T : Nat} {what : Int} (hT : T ≤ 200) (hc : M 88 2 = T) (hr : r89 M D a g w T) (h : ∀ x, ag_is D a g w T what x → f x M) : am_g 11 0 co_X11_again (d + 2) (am_c0 sh_T f) 38 [(2, 0), (3, 0), (0, what), (0, 1), (3, 0)] [] sh_T M := by
  have go : ∀ (n k : Nat), k + n = T ∨ (n = 0 ∧ T ≤ k) → 1 ≤ k → (∀ l : Nat, 1 ≤ l → l < k → ∀ j : Nat, j < l → ¬ al_ D a g w j l) → am_g 11 0 co_X11_again (d + 2) (am_c0 sh_T f) 38 [(2, 0), (3, 0), (0, what), (0, (k : Int)), (3, 0)] [] sh_T M := by
    intro n
    induction n with
    | zero =>
      intro k hk k1 hno
      refine bk_X11_again_38 ⟨fun _ => am_c0_i (h (-1) (Or.inl ⟨rfl, fun l l1 l2 => hno l l1 (by omega)⟩)), fun z => ?_⟩
      rw [hc] at z
      omega
    | succ n ih =>
      intro k hk k1 hno
      refine bk_X11_again_38 ⟨fun z => ?_, fun _ => st_firstLike hT (by omega) hr (fun j j1 j2 j3 => ⟨⟨by omega, by omega⟩, fun z => ⟨⟨by omega, by omega⟩, ih (k + 1) (by omega) (by omega) (fun l l1 l2 => ?_)⟩, fun z => ⟨fun y => am_c0_i (h _ (Or.inr ⟨k, j, ⟨k1, by omega⟩, ⟨by omega, j2 (by omega), j3⟩, hno, by rw [if_neg y]⟩)), fun y => am_c0_i (h _ (Or.inr ⟨k, j, ⟨k1, by omega⟩, ⟨by omega, j2 (by omega), j3⟩, hno, by rw [if_pos y]⟩))⟩⟩)⟩
      · rw [hc] at z
        omega
      · by_cases e : l = k
        · intro i hi
          rw [e]
          exact j3 i (by omega)
        · exact hno l l1 (by omega)
  exact go (T - 1) 1 (by omega) (Nat.le_refl _) (fun l l1 l2 => by omega)
theorem qu_again {d : Nat} {M : am_M} {D : dm_D} {G : Int → Int} {W : Int → Int → Int} {a b : Int} (hb : bt_ok M D G W) : qu_two (d + 7) 138 243 [(0, a), (0, b)] M := by
  have h3 := hb.2.2.1
  refine en_X11_again (bk_X11_again_0 (st_isDreamer hb ⟨fun q => ?_, fun q => ⟨fun q3 => ?_, fun q3 => ⟨fun q4 => ?_, fun q4 => ?_⟩⟩⟩))
  · refine am_c0_i ⟨sc_rf, en_X12_again (bk_X12_again_0 (sp_isDreamer h3.2 ⟨fun y => am_c0_i ⟨rfl, sc_rf⟩, fun y => absurd q y⟩))⟩
  · refine am_c0_i ⟨sc_rf, en_X12_again (bk_X12_again_0 (sp_isDreamer h3.2 ⟨fun y => absurd y q, fun y => sp_isIn ⟨fun z => ?_, fun z => am_c0_i ⟨rfl, sc_rf⟩⟩⟩))⟩
    have := am_b_nz z
    omega
  · have ha := am_b_nz q
    have h5 := hb.2.2.2.2 a ha.1 (by omega)
    refine ⟨⟨by omega, by omega⟩, st_go hb.1 h5.1 (by omega) (fun T M' w1 w2 w3 w4 w5 w6 w7 => ?_)⟩
    have hf1 := sc_go hb.1.1 w7
    have hb1 := bt_ok_fr hf1 hb
    have e4 : M' 174 4 = M 174 4 := hf1 174 4 (by unfold sc_; omega)
    refine st_again_38 w1.1 w3 w5 (fun x hx => ⟨hf1, en_X12_again (bk_X12_again_0 (sp_isDreamer (by rw [e4]; exact h3.2) ⟨fun y => ?_, fun _ => sp_isIn ⟨fun y => ?_, fun y => ?_⟩⟩))⟩)
    · rw [e4] at y
      exact absurd ha (am_b_z.mp y)
    · refine sp_goesAhead hb1.2.1 (hb1.2.2.2.2 a ha.1 (by omega)).2 (fun S M2 x1 x2 x3 x4 x5 x6 => ?_)
      have eT := wk_is_eq x1 w1
      subst eT
      have hf2 := sc_tr hf1 (sc_ga x6)
      have hz : ∀ t : Nat, t ≤ S → we_z (dN D) (wk D a (G a) (W a) t) := fun t ht => (wk_ok hb.1.2.1 h5.1.2.2.2.2 t (fun s hs => x1.2.1 s (by omega))).2
      refine ⟨fun z => ?_, fun z => ?_⟩
      · have e : b = 0 := by omega
        subst e
        exact sp_comesAgain x1.1 x3 ⟨x2.2.1, x2.1.1⟩ hz x4 (fun y hy => am_c0_i ⟨ag_is_eq hx hy, hf2⟩)
      · subst z
        exact sp_comesAgain x1.1 x3 ⟨x2.2.1, x2.1.1⟩ hz x4 (fun y hy => am_c0_i ⟨ag_is_eq hx hy, hf2⟩)
    · have := am_b_z.mp y
      omega
  · refine am_c0_i ⟨sc_rf, en_X12_again (bk_X12_again_0 (sp_isDreamer h3.2 ⟨fun y => absurd y q, fun y => sp_isIn ⟨fun z => ?_, fun z => am_c0_i ⟨rfl, sc_rf⟩⟩⟩))⟩
    have := am_b_nz z
    omega
