/-! HAND IN HAND -/
theorem cp_fr {M : am_M} {v u x j : Int} (h1 : ¬ x = v) (h2 : ¬ x = v + 1) : sl_cp M v u x j = M x j := by
  unfold sl_cp
  rw [am_rs_el h2, am_up_el (fun y => h1 y.1), am_up_el (fun y => h1 y.1)]
theorem cp_ok {M : am_M} {D : dm_D} {v u a g : Int} {w : Int → Int} (hv : sl_is v) (h : sm_ok M D u a g w) : sm_ok (sl_cp M v u) D v a g w := by
  refine ⟨hv, ⟨?_, h.2.1.2⟩, ⟨?_, h.2.2.1.2⟩, fun k k0 k1 => ?_, h.2.2.2.2⟩
  · unfold sl_cp
    rw [am_rs_el (by omega), am_up_el (by omega), am_up_at]; exact h.2.1.1
  · unfold sl_cp
    rw [am_rs_el (by omega), am_up_at]; exact h.2.2.1.1
  · unfold sl_cp
    rw [am_rs_at k0 (by omega), Int.sub_zero]
    exact h.2.2.2.1 k k0 k1
theorem sm_put {M : am_M} {D : dm_D} {v a g k x : Int} {w : Int → Int} (h : sm_ok M D v a g w) (hk : k < dN D) (hx : 0 ≤ x ∧ x ≤ 999) : sm_ok (am_up M (v + 1) k x) D v a g (pu_up w k x) := by
  refine ⟨h.1, ⟨?_, h.2.1.2⟩, ⟨?_, h.2.2.1.2⟩, fun j j0 j1 => ?_, pu_up_ok h.2.2.2.2.1 hx, pu_up_z hk h.2.2.2.2.2⟩
  · rw [am_up_el (by omega)]; exact h.2.1.1
  · rw [am_up_el (by omega)]; exact h.2.2.1.1
  · unfold pu_up
    by_cases e : j = k
    · rw [if_pos e, e]; exact am_up_at
    · rw [if_neg e, am_up_el (fun y => e y.2)]
      exact h.2.2.2.1 j j0 j1
theorem pu_wo_s {v : Int → Int} {n : Nat} : pu_wo v (-1) (n + 1) = if pu_wo v (-1) n = -1 then (n : Int) else if v (pu_wo v (-1) n) < v n then (n : Int) else pu_wo v (-1) n := by
  show (if (n : Int) = -1 then _ else _) = _
  rw [if_neg (by omega)]
def hd_x (D : dm_D) (p : (Int → Int) × (Int → Int)) : Int := pu_wo (fun k => p.1 k + p.2 k) (-1) (dN D)
def hd_step (D : dm_D) (a b : Int) (p : (Int → Int) × (Int → Int)) : (Int → Int) × (Int → Int) := (pu_up p.1 (hd_x D p) (pu_made (dO D 0) p.1 6 (hd_x D p) (dB D a)), pu_up p.2 (hd_x D p) (pu_made (dO D 0) p.2 6 (hd_x D p) (dB D b)))
def hk (D : dm_D) (a b : Int) (p : (Int → Int) × (Int → Int)) : Nat → (Int → Int) × (Int → Int)
  | 0 => p
  | t + 1 => hd_step D a b (hk D a b p t)
abbrev hd_home (D : dm_D) (p : (Int → Int) × (Int → Int)) : Prop := pu_home D p.1 ∧ pu_home D p.2
def hk_is (D : dm_D) (a b : Int) (p : (Int → Int) × (Int → Int)) (T : Nat) : Prop := T ≤ 200 ∧ (∀ t : Nat, t < T → ¬ hd_home D (hk D a b p t)) ∧ (T < 200 → hd_home D (hk D a b p T))
theorem hk_is_eq {D : dm_D} {a b : Int} {p : (Int → Int) × (Int → Int)} {T S : Nat} (h : hk_is D a b p T) (k : hk_is D a b p S) : T = S := by
  rcases Nat.lt_trichotomy T S with q | q | q
  · exact absurd (h.2.2 (by have := k.1; omega)) (k.2.1 T q)
  · exact q
  · exact absurd (k.2.2 (by have := h.1; omega)) (h.2.1 S q)
theorem hd_away {D : dm_D} {p : (Int → Int) × (Int → Int)} (hD : dg_ok D) (h1 : dw_ok D p.1) (h2 : dw_ok D p.2) (h : ¬ hd_home D p) : 0 < dN D := by
  by_cases q : pu_home D p.1
  · exact pu_away hD h2 (fun y => h ⟨q, y⟩)
  · exact pu_away hD h1 q
theorem hd_x_in {D : dm_D} {p : (Int → Int) × (Int → Int)} (h0 : 0 < dN D) : 0 ≤ hd_x D p ∧ hd_x D p < dN D := ⟨pu_wo_ge _ ⟨0, h0, by decide⟩, (pu_wo_le _).2⟩
theorem st_hob {d : Nat} {M : am_M} {f : Int → am_M → Prop} {c a b g k : Int} {D : dm_D} {p : (Int → Int) × (Int → Int)} (hd : dm_ok M c D) (h1 : sm_ok M D 91 a g p.1) (h2 : sm_ok M D 93 b k p.2) (h : f (hd_x D p) M) : am_cal pg (d + 2) 10 [(2, 88), (2, c)] sh_T M (am_c0 sh_T f) := by
  have hn := hd.2.2.1
  have h6 := hd.2.1.1
  have go : ∀ (n i : Nat) (v2 v3 : Int), i + n = dN D → v2 = pu_wo (fun k => p.1 k + p.2 k) (-1) i → v3 = (if v2 = -1 then -1 else p.1 v2 + p.2 v2) → am_g 1 0 co_X1_heaviestOfBoth (d + 1) (am_c0 sh_T f) 7 [(2, 88), (2, c), (0, v2), (0, v3), (0, (i : Int)), (3, 0)] [] sh_T M := by
    intro n
    induction n with
    | zero =>
      intro i v2 v3 hi e2 e3
      refine bk_X1_heaviestOfBoth_7 ⟨dr_ob hd.1, st_count hd.1 ?_⟩
      rw [if_pos (by decide), hn]
      refine ⟨fun _ => am_c0_i ?_, fun z => by omega⟩
      rw [e2, show i = dN D by omega]
      exact h
    | succ n ih =>
      intro i v2 v3 hi e2 e3
      refine bk_X1_heaviestOfBoth_7 ⟨dr_ob hd.1, st_count hd.1 ?_⟩
      rw [if_pos (by decide), hn]
      refine ⟨fun z => by omega, fun _ => st_at h1.1 (st_at h2.1 ?_)⟩
      rw [if_pos ⟨by omega, by omega⟩, if_pos ⟨by omega, by omega⟩, h1.2.2.2.1 i (by omega) (by omega), h2.2.2.2.1 i (by omega) (by omega)]
      have w1 := h1.2.2.2.2.1 i (by omega) (by omega)
      have w2 := h2.2.2.2.2.1 i (by omega) (by omega)
      have es := pu_wo_s (v := fun k => p.1 k + p.2 k) (n := i)
      have el := pu_wo_le (v := fun k => p.1 k + p.2 k) (but := -1) i
      rw [← e2] at es el
      refine ⟨⟨by omega, by omega⟩, fun z => ⟨⟨by omega, by omega⟩, ih (i + 1) v2 v3 (by omega) ?_ e3⟩, fun z => ⟨⟨by omega, by omega⟩, ih (i + 1) (i : Int) _ (by omega) ?_ ?_⟩⟩
      · rw [es]
        by_cases y : v2 = -1
        · rw [if_pos y] at e3
          omega
        · rw [if_neg y] at e3
          rw [if_neg y, if_neg (by show ¬ p.1 v2 + p.2 v2 < p.1 i + p.2 i; omega)]
      · rw [es]
        by_cases y : v2 = -1
        · rw [if_pos y]
        · rw [if_neg y] at e3
          rw [if_neg y, if_pos (by show p.1 v2 + p.2 v2 < p.1 i + p.2 i; omega)]
      · rw [if_neg (by omega)]
  exact en_X1_heaviestOfBoth (bk_X1_heaviestOfBoth_0 (go (dN D) 0 (-1) (-1) (Nat.zero_add _) rfl rfl))
theorem sp_worstOfTwo {d : Nat} {M : am_M} {f : Int → am_M → Prop} {D : dm_D} {p : (Int → Int) × (Int → Int)} (hd : rg_is M D) (h1 : rw_ok M D 0 p.1) (h2 : rw_ok M D 7 p.2) (h : f (hd_x D p) M) : am_cal pg (d + 2) 253 [(2, 152)] sh_T M (am_c0 sh_T f) := by
  have hn := hd.2.1
  have h6 := hd.1.1
  have r1 : ∀ k : Int, 0 ≤ k → k < 6 → M 187 k = p.1 k := fun k k0 k1 => by
    have e := h1.2.1 k k0 k1
    unfold ro at e
    rw [show (0 : Int) + k = k by omega] at e
    exact e
  have r2 : ∀ k : Int, 0 ≤ k → k < 6 → M 187 (7 + k) = p.2 k := fun k k0 k1 => h2.2.1 k k0 k1
  have go : ∀ (n i : Nat) (v1 : Int), i + n = dN D → v1 = pu_wo (fun k => p.1 k + p.2 k) (-1) i → am_g 12 0 co_X12_worstOfTwo (d + 1) (am_c0 sh_T f) 4 [(2, 152), (0, v1), (0, (i : Int))] [] sh_T M := by
    intro n
    induction n with
    | zero =>
      intro i v1 hi e1
      refine bk_X12_worstOfTwo_4 (sp_dreadMany ?_)
      rw [hn]
      refine ⟨fun _ => am_c0_i ?_, fun z => by omega⟩
      rw [e1, show i = dN D by omega]
      exact h
    | succ n ih =>
      intro i v1 hi e1
      refine bk_X12_worstOfTwo_4 (sp_dreadMany ?_)
      rw [hn]
      have es := pu_wo_s (v := fun k => p.1 k + p.2 k) (n := i)
      have el := pu_wo_le (v := fun k => p.1 k + p.2 k) (but := -1) i
      rw [← e1] at es el
      refine ⟨fun z => by omega, fun _ => ⟨fun z => ⟨⟨by omega, by omega⟩, ih (i + 1) i (by omega) ?_⟩, fun z => ?_⟩⟩
      · rw [es, if_pos z]
      · have v0 : 0 ≤ v1 := by omega
        have w1 := h1.2.2.1 i (by omega) (by omega)
        have w2 := h2.2.2.1 i (by omega) (by omega)
        have w3 := h1.2.2.1 v1 (by omega) (by omega)
        have w4 := h2.2.2.1 v1 (by omega) (by omega)
        rw [r1 i (by omega) (by omega), r2 i (by omega) (by omega), r1 v1 (by omega) (by omega), r2 v1 (by omega) (by omega)]
        refine ⟨⟨by omega, by omega⟩, ⟨by omega, by omega⟩, ⟨by omega, by omega⟩, ⟨by omega, by omega⟩, ⟨by omega, by omega⟩, ⟨by omega, by omega⟩, ⟨by omega, by omega⟩, ⟨by omega, by omega⟩, fun y => ⟨⟨by omega, by omega⟩, ih (i + 1) v1 (by omega) ?_⟩, fun y => ⟨⟨by omega, by omega⟩, ih (i + 1) i (by omega) ?_⟩⟩
        · rw [es, if_neg z, if_neg (by show ¬ p.1 v1 + p.2 v1 < p.1 i + p.2 i; omega)]
        · rw [es, if_neg z, if_pos (by show p.1 v1 + p.2 v1 < p.1 i + p.2 i; omega)]
  exact en_X12_worstOfTwo (bk_X12_worstOfTwo_0 (go (dN D) 0 (-1) (Nat.zero_add _) rfl))
theorem st_goTogether {d : Nat} {M : am_M} {f : Int → am_M → Prop} {c u v a b g k : Int} {D : dm_D} {p : (Int → Int) × (Int → Int)} (hd : dm_ok M c D) (h1 : sm_ok M D u a g p.1) (h2 : sm_ok M D v b k p.2) (hu : u < 90) (hv : v < 90)
    (h : ∀ (T : Nat) (M' : am_M), hk_is D a b p T → M' 88 2 = T → (∀ t : Nat, t < T → M' 90 t = hd_x D (hk D a b p t)) → sc_fr M M' → f (if hd_home D (hk D a b p T) then (T : Int) else -1) M') : am_cal pg (d + 5) 9 [(2, 88), (2, c), (2, u), (2, v)] sh_T M (am_c0 sh_T f) := by
  have hcc := hd.1
  have hcr := dm_range hd
  have fin : ∀ (T : Nat) (M' : am_M), hk_is D a b p T → M' 88 2 = T → M' 88 3 = am_b (hd_home D (hk D a b p T)) → (∀ t : Nat, t < T → M' 90 t = hd_x D (hk D a b p t)) → sc_fr M M' → am_g 1 0 co_X1_goTogether (d + 4) (am_c0 sh_T f) 171 [(2, 88), (3, 0), (3, 0), (3, 0), (3, 0), (3, 0)] [] sh_T M' := by
    intro T M' x1 x2 x3 x4 x5
    have q := h T M' x1 x2 x4 x5
    refine bk_X1_goTogether_171 ⟨fun y => am_c0_i ?_, fun y => am_c0_i ?_⟩
    · rw [x3] at y
      rw [if_neg (am_b_z.mp y)] at q
      exact q
    · rw [x3] at y
      rw [if_pos (am_b_nz y)] at q
      rw [x2]
      exact q
  have both : ∀ (M1 : am_M) (q : (Int → Int) × (Int → Int)) (F : Int → am_M → Prop), dm_ok M1 c D → sm_ok M1 D 91 a g q.1 → sm_ok M1 D 93 b k q.2 → F (am_b (hd_home D q)) M1 → am_cal pg (d + 4) 31 [(2, c), (2, 91)] sh_T M1 (am_c0 sh_T fun x M2 => (x = 0 → F 0 M2) ∧ (¬ x = 0 → am_cal pg (d + 4) 31 [(2, c), (2, 93)] sh_T M2 (am_c0 sh_T fun y M3 => (y = 0 → F 0 M3) ∧ (¬ y = 0 → F 1 M3)))) := by
    intro M1 q F x1 x2 x3 x4
    refine st_home x1 x2 ⟨fun y => ?_, fun y => st_home x1 x3 ⟨fun z => ?_, fun z => ?_⟩⟩
    · rw [am_b_0 (fun e => am_b_z.mp y e.1)] at x4; exact x4
    · rw [am_b_0 (fun e => am_b_z.mp z e.2)] at x4; exact x4
    · rw [am_b_1 ⟨am_b_nz y, am_b_nz z⟩] at x4; exact x4
  have go : ∀ (n i : Nat), i + n = 200 → ∀ M1 : am_M, (∀ t : Nat, t < i → ¬ hd_home D (hk D a b p t)) → dm_ok M1 c D → sm_ok M1 D 91 a g (hk D a b p i).1 → sm_ok M1 D 93 b k (hk D a b p i).2 → M1 88 2 = i → M1 88 3 = am_b (hd_home D (hk D a b p i)) → (∀ t : Nat, t < i → M1 90 t = hd_x D (hk D a b p t)) → sc_fr M M1 →
      am_g 1 0 co_X1_goTogether (d + 4) (am_c0 sh_T f) 55 [(2, 88), (2, c), (3, 0), (3, 0), (0, (i : Int)), (3, 0)] [] sh_T M1 := by
    intro n
    induction n with
    | zero =>
      intro i hi M1 p1 p2 p3 p4 p5 p6 p7 p8
      exact bk_X1_goTogether_55 ⟨fun _ => fin i M1 ⟨by omega, p1, fun z => by omega⟩ p5 p6 p7 p8, fun z => by omega⟩
    | succ n ih =>
      intro i hi M1 p1 p2 p3 p4 p5 p6 p7 p8
      refine bk_X1_goTogether_55 ⟨fun z => by omega, fun z => ⟨fun q => ?_, fun q => ?_⟩⟩
      · rw [p6] at q
        exact fin i M1 ⟨by omega, p1, fun _ => am_b_nz q⟩ p5 p6 p7 p8
      · rw [p6] at q
        have hh := am_b_z.mp q
        have hn0 := hd_away p2.2.1 p3.2.2.2.2 p4.2.2.2.2 hh
        have hx := hd_x_in (p := hk D a b p i) hn0
        have h6 := p2.2.1.1
        refine st_hob p2 p3 p4 ⟨⟨by omega, by omega⟩, ⟨by omega, by omega⟩, dr_ob p2.1, ?_⟩
        have e1 : ∀ x j, ¬ x = 90 → ¬ x = 88 → am_up (am_up M1 90 i (hd_x D (hk D a b p i))) 88 2 ((i : Int) + 1) x j = M1 x j := fun x j x1 x2 => by rw [am_up_el (fun y => x2 y.1), am_up_el (fun y => x1 y.1)]
        have e90 : ∀ j, am_up (am_up M1 90 i (hd_x D (hk D a b p i))) 88 2 ((i : Int) + 1) 90 j = if j = (i : Int) then hd_x D (hk D a b p i) else M1 90 j := fun j => by
          rw [am_up_el (by omega)]
          split
          · rename_i y; rw [y]; exact am_up_at
          · rename_i y; exact am_up_el (fun x => y x.2)
        have e882 : am_up (am_up M1 90 i (hd_x D (hk D a b p i))) 88 2 ((i : Int) + 1) 88 2 = (i : Int) + 1 := am_up_at
        have esc : sc_fr M1 (am_up (am_up M1 90 i (hd_x D (hk D a b p i))) 88 2 ((i : Int) + 1)) := fun x j y => by
          unfold sc_ at y
          rw [am_up_el (by omega), am_up_el (by omega)]
        generalize am_up (am_up M1 90 i (hd_x D (hk D a b p i))) 88 2 ((i : Int) + 1) = M2 at e1 e90 e882 esc ⊢
        have d2 : dm_ok M2 c D := dm_ok_fr (fun x j x1 x2 _ _ _ _ => e1 x j (by omega) (by omega)) p2
        have s2 : sm_ok M2 D 91 a g (hk D a b p i).1 := sm_ok_fr (e1 91 1 (by decide) (by decide)) (e1 91 2 (by decide) (by decide)) (fun j => e1 _ j (by decide) (by decide)) p3
        have t2 : sm_ok M2 D 93 b k (hk D a b p i).2 := sm_ok_fr (e1 93 1 (by decide) (by decide)) (e1 93 2 (by decide) (by decide)) (fun j => e1 _ j (by decide) (by decide)) p4
        refine st_mk d2 s2 (by omega) (by decide) (fun M3 f3 => st_put s2.1 (by omega) (by omega) ?_)
        have s3 : sm_ok M3 D 91 a g (hk D a b p i).1 := sm_ok_fr (f3 91 1 (by omega) (by omega) (by omega) (by omega)) (f3 91 2 (by omega) (by omega) (by omega) (by omega)) (fun j => f3 _ j (by omega) (by omega) (by omega) (by omega)) s2
        have t3 : sm_ok M3 D 93 b k (hk D a b p i).2 := sm_ok_fr (f3 93 1 (by omega) (by omega) (by omega) (by omega)) (f3 93 2 (by omega) (by omega) (by omega) (by omega)) (fun j => f3 _ j (by omega) (by omega) (by omega) (by omega)) t2
        have m1 := pu_made_le (o := dO D 0) (n := 6) (k := hd_x D (hk D a b p i)) (b := dB D a) s3.2.2.2.2.1 (by omega)
        have m2 := pu_made_le (o := dO D 0) (n := 6) (k := hd_x D (hk D a b p i)) (b := dB D b) t3.2.2.2.2.1 (by omega)
        have s4 := sm_put s3 hx.2 m1
        have g4 : ∀ x j, ¬ x = 92 → am_up M3 (91 + 1) (hd_x D (hk D a b p i)) (pu_made (dO D 0) (hk D a b p i).1 6 (hd_x D (hk D a b p i)) (dB D a)) x j = M3 x j := fun x j x1 => am_up_el (by omega)
        generalize am_up M3 (91 + 1) (hd_x D (hk D a b p i)) (pu_made (dO D 0) (hk D a b p i).1 6 (hd_x D (hk D a b p i)) (dB D a)) = M4 at s4 g4 ⊢
        have d4 : dm_ok M4 c D := dm_ok_fr (fun x j x1 x2 x3 x4 x5 x6 => by rw [g4 x j (by omega), f3 x j x3 x4 x5 x6]) d2
        have t4 : sm_ok M4 D 93 b k (hk D a b p i).2 := sm_ok_fr (g4 _ _ (by decide)) (g4 _ _ (by decide)) (fun j => g4 _ j (by decide)) t3
        refine st_mk d4 t4 (by omega) (by decide) (fun M5 f5 => st_put t4.1 (by omega) (by omega) ?_)
        have s5 : sm_ok M5 D 91 a g (hk D a b p (i + 1)).1 := sm_ok_fr (f5 91 1 (by omega) (by omega) (by omega) (by omega)) (f5 91 2 (by omega) (by omega) (by omega) (by omega)) (fun j => f5 _ j (by omega) (by omega) (by omega) (by omega)) s4
        have t5 : sm_ok M5 D 93 b k (hk D a b p i).2 := sm_ok_fr (f5 93 1 (by omega) (by omega) (by omega) (by omega)) (f5 93 2 (by omega) (by omega) (by omega) (by omega)) (fun j => f5 _ j (by omega) (by omega) (by omega) (by omega)) t4
        have t6 : sm_ok (am_up M5 (93 + 1) (hd_x D (hk D a b p i)) (pu_made (dO D 0) (hk D a b p i).2 6 (hd_x D (hk D a b p i)) (dB D b))) D 93 b k (hk D a b p (i + 1)).2 := sm_put t5 hx.2 m2
        have g6 : ∀ x j, ¬ x = 94 → am_up M5 (93 + 1) (hd_x D (hk D a b p i)) (pu_made (dO D 0) (hk D a b p i).2 6 (hd_x D (hk D a b p i)) (dB D b)) x j = M5 x j := fun x j x1 => am_up_el (by omega)
        generalize am_up M5 (93 + 1) (hd_x D (hk D a b p i)) (pu_made (dO D 0) (hk D a b p i).2 6 (hd_x D (hk D a b p i)) (dB D b)) = M6 at t6 g6 ⊢
        have s6 : sm_ok M6 D 91 a g (hk D a b p (i + 1)).1 := sm_ok_fr (g6 _ _ (by decide)) (g6 _ _ (by decide)) (fun j => g6 _ j (by decide)) s5
        have d6 : dm_ok M6 c D := dm_ok_fr (fun x j x1 x2 x3 x4 x5 x6 => by rw [g6 x j (by omega), f5 x j x3 x4 x5 x6]) d4
        have all : ∀ x j, ¬ x = c + 8 → ¬ x = c + 9 → ¬ x = c + 10 → ¬ (x = c + 6 ∧ j = 3) → ¬ x = 92 → ¬ x = 94 → M6 x j = M2 x j := fun x j x1 x2 x3 x4 x5 x6 => by rw [g6 x j x6, f5 x j x1 x2 x3 x4, g4 x j x5, f3 x j x1 x2 x3 x4]
        have nxt : ∀ y : Int, y = am_b (hd_home D (hk D a b p (i + 1))) → am_g 1 0 co_X1_goTogether (d + 4) (am_c0 sh_T f) 55 [(2, 88), (2, c), (3, 0), (3, 0), (0, (i : Int) + 1), (3, 0)] [] sh_T (am_up M6 88 3 y) := by
          intro y hy
          refine ih (i + 1) (by omega) _ ?_ ?_ ?_ ?_ ?_ ?_ ?_ ?_
          · intro t ht
            by_cases e : t = i
            · rw [e]; exact hh
            · exact p1 t (by omega)
          · exact dm_ok_fr (fun x j x1 x2 _ _ _ _ => am_up_el (by omega)) d6
          · exact sm_ok_fr (am_up_el (by decide)) (am_up_el (by decide)) (fun j => am_up_el (fun y => absurd y.1 (by decide))) s6
          · exact sm_ok_fr (am_up_el (by decide)) (am_up_el (by decide)) (fun j => am_up_el (fun y => absurd y.1 (by decide))) t6
          · rw [am_up_el (by decide), all 88 2 (by omega) (by omega) (by omega) (by omega) (by decide) (by decide), e882]; omega
          · rw [am_up_at]; exact hy
          · intro t ht
            rw [am_up_el (by omega), all 90 _ (by omega) (by omega) (by omega) (by omega) (by decide) (by decide), e90]
            by_cases e : t = i
            · rw [if_pos (by omega), e]
            · rw [if_neg (by omega)]
              exact p7 t (by omega)
          · intro x j y
            have ey := esc x j y
            have e8 := p8 x j y
            unfold sc_ at y
            rw [am_up_el (by omega), all x j (by rcases hcc with e | e <;> omega) (by rcases hcc with e | e <;> omega) (by rcases hcc with e | e <;> omega) (by rcases hcc with e | e <;> omega) (by omega) (by omega), ey, e8]
        have hb := both M6 (hk D a b p (i + 1)) (fun y Mx => am_r ((i : Int) + 1) ∧ am_g 1 0 co_X1_goTogether (d + 4) (am_c0 sh_T f) 55 [(2, 88), (2, c), (3, 0), (3, 0), (0, (i : Int) + 1), (3, 0)] [] sh_T (am_up Mx 88 3 y)) d6 s6 t6 ⟨⟨by omega, by omega⟩, nxt _ rfl⟩
        exact hb
  refine en_X1_goTogether (bk_X1_goTogether_0 (st_copy sl_91 h1.1 (by omega) (by omega) (by omega) (st_copy sl_93 (by exact h2.1) (by omega) (by omega) (by omega) ?_)))
  have s1 : sm_ok (sl_cp M 91 u) D 91 a g p.1 := cp_ok sl_91 h1
  have t1 : sm_ok (sl_cp M 91 u) D v b k p.2 := sm_ok_fr (cp_fr (by omega) (by omega)) (cp_fr (by omega) (by omega)) (fun j => cp_fr (by omega) (by omega)) h2
  have f1 : ∀ x j, ¬ x = 91 → ¬ x = 92 → sl_cp M 91 u x j = M x j := fun x j x1 x2 => cp_fr x1 x2
  generalize sl_cp M 91 u = M1 at s1 t1 f1 ⊢
  have t2 : sm_ok (sl_cp M1 93 v) D 93 b k p.2 := cp_ok sl_93 t1
  have s2 : sm_ok (sl_cp M1 93 v) D 91 a g p.1 := sm_ok_fr (cp_fr (by decide) (by decide)) (cp_fr (by decide) (by decide)) (fun j => cp_fr (by decide) (by decide)) s1
  have f2 : ∀ x j, ¬ x = 93 → ¬ x = 94 → sl_cp M1 93 v x j = M1 x j := fun x j x1 x2 => cp_fr x1 x2
  generalize sl_cp M1 93 v = M2 at s2 t2 f2 ⊢
  have d3 : dm_ok (am_up M2 88 2 0) c D := dm_ok_fr (fun x j x1 x2 _ _ _ _ => by rw [am_up_el (by omega), f2 x j (by omega) (by omega), f1 x j (by omega) (by omega)]) hd
  have s3 : sm_ok (am_up M2 88 2 0) D 91 a g p.1 := sm_ok_fr (am_up_el (by decide)) (am_up_el (by decide)) (fun j => am_up_el (fun y => absurd y.1 (by decide))) s2
  have t3 : sm_ok (am_up M2 88 2 0) D 93 b k p.2 := sm_ok_fr (am_up_el (by decide)) (am_up_el (by decide)) (fun j => am_up_el (fun y => absurd y.1 (by decide))) t2
  have hb := both (am_up M2 88 2 0) p (fun y Mx => am_g 1 0 co_X1_goTogether (d + 4) (am_c0 sh_T f) 55 [(2, 88), (2, c), (3, 0), (3, 0), (0, 0), (3, 0)] [] sh_T (am_up Mx 88 3 y)) d3 s3 t3 (go 200 0 rfl _ (fun t ht => by omega)
    (dm_ok_fr (fun x j x1 x2 _ _ _ _ => am_up_el (by omega)) d3)
    (sm_ok_fr (am_up_el (by decide)) (am_up_el (by decide)) (fun j => am_up_el (fun y => absurd y.1 (by decide))) s3)
    (sm_ok_fr (am_up_el (by decide)) (am_up_el (by decide)) (fun j => am_up_el (fun y => absurd y.1 (by decide))) t3)
    (by rw [am_up_el (by decide)]; exact am_up_at) am_up_at (fun t ht => by omega)
    (fun x j y => by
      unfold sc_ at y
      rw [am_up_el (by omega), am_up_el (by omega), f2 x j (by omega) (by omega), f1 x j (by omega) (by omega)]))
  exact ⟨dr_ob hd.1, hb⟩
