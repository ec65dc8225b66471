/-! NIGHT: rooms and laughs by lot -/
theorem land_31 {n : Nat} (hn : n < 9223372036854775808) : am_land n 2147483647 = ((n % 2147483648 : Nat) : Int) := by
  unfold am_land
  have e0 : ((Int64.ofInt (n : Int)) &&& Int64.ofInt 2147483647).toBitVec = BitVec.ofNat 64 n &&& BitVec.ofNat 64 2147483647 := by
    rw [Int64.toBitVec_and, Int64.toBitVec_ofInt, BitVec.ofInt_natCast]
    rfl
  have e3 : (BitVec.ofNat 64 n &&& BitVec.ofNat 64 2147483647).toNat = n % 2147483648 := by
    rw [BitVec.toNat_and, BitVec.toNat_ofNat, BitVec.toNat_ofNat]
    rw [Nat.mod_eq_of_lt (by omega : n < 2^64)]
    rw [show 2147483647 % 2 ^ 64 = 2^31 - 1 by decide, Nat.and_two_pow_sub_one_eq_mod]
  rw [← Int64.toInt_toBitVec, e0, BitVec.toInt_eq_toNat_of_lt (by rw [e3]; omega), e3]
theorem shr_6 {x : Int} (h : -2147483648 ≤ x ∧ x ≤ 2147483647) : am_shr x 6 = x / 64 := by
  unfold am_shr
  have e : (Int32.ofInt 6 &&& 31).toBitVec.smod 32 = 6#32 := by decide
  rw [← Int32.toInt_toBitVec, Int32.toBitVec_shiftRight, e]
  show ((Int32.ofInt x).toBitVec.sshiftRight 6).toInt = _
  rw [BitVec.toInt_sshiftRight, Int32.toBitVec_ofInt, Int.shiftRight_eq_div_pow, BitVec.toInt_ofInt, Int.bmod_eq_of_le (by omega) (by omega)]
  rfl
def nx_ (s : Int) : Int := (1103515245 * s + 12345) % 2147483648
theorem nx_in {s : Int} : 0 ≤ nx_ s ∧ nx_ s ≤ 2147483647 := by unfold nx_; omega
theorem st_draw {d : Nat} {M : am_M} {f : Int → am_M → Prop} {m s : Int} (hs : M 0 17 = s) (h0 : 0 ≤ s ∧ s ≤ 2147483647) (hm : 0 < m) (h : f (nx_ s / 64 % m) (am_up M 0 17 (nx_ s))) : am_cal pg (d + 1) 164 [(2, 0), (0, m)] sh_T M (am_c0 sh_T f) := by
  have el : am_land (1103515245 * s + 12345) 2147483647 = nx_ s := by
    obtain ⟨k, hk⟩ : ∃ k : Nat, (1103515245 * s + 12345) = k := ⟨(1103515245 * s + 12345).toNat, by omega⟩
    unfold nx_
    rw [hk, land_31 (by omega)]
    omega
  have b := nx_in (s := s)
  refine en_X11_draw (bk_X11_draw_0 ?_)
  rw [hs, el]
  refine ⟨⟨by omega, by omega⟩, ⟨by omega, by omega⟩, ⟨by omega, by omega⟩, fun y => by omega, fun _ => ⟨by omega, am_c0_i ?_⟩⟩
  rw [shr_6 (by omega), Int.tmod_eq_emod_of_nonneg (by omega)]
  exact h
theorem sp_draw {d : Nat} {M : am_M} {f : Int → am_M → Prop} {m s : Int} (hs : M 152 60 = s) (h0 : 0 ≤ s ∧ s ≤ 2147483647) (hm : 0 < m ∧ m ≤ 1000) (h : f (nx_ s / 64 % m) (am_up M 152 60 (nx_ s))) : am_cal pg (d + 1) 272 [(2, 152), (0, m)] sh_T M (am_c0 sh_T f) := by
  have b := nx_in (s := s)
  have el : (1103515245 * s + 12345).tmod 2147483648 = nx_ s := by
    rw [Int.tmod_eq_emod_of_nonneg (by omega)]
    rfl
  have e2 : (nx_ s).tdiv 64 = nx_ s / 64 := Int.tdiv_eq_ediv_of_nonneg b.1
  have e3 : (nx_ s / 64).tmod m = nx_ s / 64 % m := Int.tmod_eq_emod_of_nonneg (by omega)
  have b2 := Int.emod_nonneg (nx_ s / 64) (show ¬ m = 0 by omega)
  have b3 := Int.emod_lt_of_pos (nx_ s / 64) hm.1
  refine en_X12_drawOf (bk_X12_drawOf_0 ?_)
  rw [hs, el, e2, e3]
  exact ⟨⟨by omega, by omega⟩, ⟨by omega, by omega⟩, ⟨by omega, by omega⟩, by omega, ⟨by omega, by omega⟩, am_c0_i h⟩
/-- whether he goes round at a lot -/
abbrev nr_ (D : dm_D) (s : Int) : Prop := nx_ s / 64 % 2 = 1 ∧ 1 < dN D
def ni_w (D : dm_D) (a g : Int) (p : (Int → Int) × Int) : Int → Int := pu_step D a g (decide (nr_ D p.2)) p.1
def ni_s (D : dm_D) (a g : Int) (p : (Int → Int) × Int) : (Int → Int) × Int := (if nx_ (nx_ p.2) / 64 % 100 < dL D then pu_lg (ni_w D a g p) else ni_w D a g p, nx_ (nx_ p.2))
def ni (D : dm_D) (a g : Int) (p : (Int → Int) × Int) : Nat → (Int → Int) × Int
  | 0 => p
  | t + 1 => ni_s D a g (ni D a g p t)
def ni_is (D : dm_D) (a g : Int) (p : (Int → Int) × Int) (n K : Nat) : Prop := K ≤ n ∧ (∀ t : Nat, t < K → ¬ pu_home D (ni D a g p t).1) ∧ (K < n → pu_home D (ni D a g p K).1)
theorem ni_is_eq {D : dm_D} {a g : Int} {p : (Int → Int) × Int} {n T S : Nat} (h : ni_is D a g p n T) (k : ni_is D a g p n S) : T = S := by
  rcases Nat.lt_trichotomy T S with q | q | q
  · exact absurd (h.2.2 (by have := k.1; omega)) (k.2.1 T q)
  · exact q
  · exact absurd (k.2.2 (by have := h.1; omega)) (h.2.1 S q)
theorem ni_lot {D : dm_D} {a g : Int} {p : (Int → Int) × Int} (hp : 0 ≤ p.2 ∧ p.2 ≤ 2147483647) : ∀ t : Nat, 0 ≤ (ni D a g p t).2 ∧ (ni D a g p t).2 ≤ 2147483647
  | 0 => hp
  | t + 1 => nx_in
theorem nr_t {D : dm_D} {s : Int} : decide (nr_ D s) = true → 1 < dN D := fun y => (of_decide_eq_true y).2
theorem pu_dread_0 {D : dm_D} {g : Int} {rd : Bool} {w : Int → Int} (h0 : 0 < dN D) (hr : rd = true → 1 < dN D) : 0 ≤ pu_dread D g rd w := by
  unfold pu_dread pu_with
  cases rd with
  | false => exact (pu_wst_in h0).1
  | true => exact (pu_snd_in (hr rfl)).1
theorem st_can0 {d : Nat} {M : am_M} {f : Int → am_M → Prop} {c v a g : Int} {D : dm_D} {w : Int → Int} (hd : dm_ok M c D) (hs : sm_ok M D v a g w) (h1 : ¬ pu_home D w → f 1 M) (h0 : pu_home D w → f 0 M) : am_cal pg (d + 3) 33 [(2, c), (2, v), (0, 0)] sh_T M (am_c0 sh_T f) := by
  have q := st_can (d := d) (f := f) (rd := false) hd hs (fun _ y => h1 y) (fun y => h0 (Classical.byContradiction fun z => y ⟨fun x => (by cases x), z⟩))
  rw [am_b_0 (show ¬ (false = true) by decide)] at q
  exact q
/-- what the class's night may write -/
def nc_fr (v : Int) (M M' : am_M) : Prop := ∀ x j, ¬ sc_ x j → ¬ x = v → ¬ x = v + 1 → ¬ (x = 0 ∧ j = 17) → M' x j = M x j
theorem st_night_43 {d : Nat} {M : am_M} {f : Int → am_M → Prop} {c v a g : Int} {D : dm_D} {p : (Int → Int) × Int} {n : Nat} (hn : n ≤ 100) (hp : 0 ≤ p.2 ∧ p.2 ≤ 2147483647) (hd : dm_ok M c D) (hs : sm_ok M D v a g p.1) (hv : 37 ≤ v ∧ v ≤ 45) (hl : M 0 17 = p.2) (h4 : M 0 4 = c) (h : ∀ (K : Nat) (M' : am_M), ni_is D a g p n K → sm_ok M' D v a g (ni D a g p K).1 → M' 0 17 = (ni D a g p K).2 → nc_fr v M M' → f K M') : am_g 11 0 co_X11_night (d + 5) (am_c0 sh_T f) 43 [(2, 0), (3, 0), (0, (n : Int)), (2, v), (0, 0), (3, 0)] [] sh_T M := by
  have hcc := hd.1
  have hcr := dm_range hd
  have go : ∀ (m i : Nat), i + m = n → ∀ M1, dm_ok M1 c D → M1 0 4 = c → sm_ok M1 D v a g (ni D a g p i).1 → M1 0 17 = (ni D a g p i).2 → nc_fr v M M1 → (∀ t : Nat, t < i → ¬ pu_home D (ni D a g p t).1) → am_g 11 0 co_X11_night (d + 5) (am_c0 sh_T f) 43 [(2, 0), (3, 0), (0, (n : Int)), (2, v), (0, (i : Int)), (3, 0)] [] sh_T M1 := by
    intro m
    induction m with
    | zero =>
      intro i hi M1 p1 p2 p3 p4 p5 p6
      exact bk_X11_night_43 ⟨fun _ => bk_X11_night_126 (am_c0_i (h i M1 ⟨by omega, p6, fun z => by omega⟩ p3 p4 p5)), fun z => by omega⟩
    | succ m ih =>
      intro i hi M1 p1 p2 p3 p4 p5 p6
      have hlo := ni_lot (D := D) (a := a) (g := g) hp i
      refine bk_X11_night_43 ⟨fun z => by omega, fun _ => ?_⟩
      rw [p2]
      refine ⟨dr_ob hcc, st_can0 p1 p3 (fun hh => ⟨fun y => absurd y (by decide), fun _ => st_draw p4 hlo (by decide) ?_⟩) (fun hh => ⟨fun _ => bk_X11_night_126 (am_c0_i (h i M1 ⟨by omega, p6, fun _ => hh⟩ p3 p4 p5)), fun y => absurd rfl y⟩)⟩
      have d2 : dm_ok (am_up M1 0 17 (nx_ (ni D a g p i).2)) c D := dm_ok_fr (fun x j x1 x2 x3 x4 x5 x6 => am_up_el (by omega)) p1
      have s2 : sm_ok (am_up M1 0 17 (nx_ (ni D a g p i).2)) D v a g (ni D a g p i).1 := sm_ok_fr (am_up_el (by omega)) (am_up_el (by omega)) (fun j => am_up_el (by omega)) p3
      have l2 : am_up M1 0 17 (nx_ (ni D a g p i).2) 0 17 = nx_ (ni D a g p i).2 := am_up_at
      have f2 : nc_fr v M (am_up M1 0 17 (nx_ (ni D a g p i).2)) := fun x j y y2 y3 y4 => (am_up_el y4).trans (p5 x j y y2 y3 y4)
      generalize am_up M1 0 17 (nx_ (ni D a g p i).2) = M2 at d2 s2 l2 f2 ⊢
      have c2 : M2 0 4 = c := (f2 0 4 (by unfold sc_; omega) (by omega) (by omega) (by omega)).trans h4
      -- behind the room
      have tail : ∀ M3, en_fr c v M2 M3 → dm_ok M3 c D → sm_ok M3 D v a g (ni_w D a g (ni D a g p i)) → am_cal pg (d + 5) 164 [(2, 0), (0, 100)] sh_T M3 (am_c0 sh_T fun x12 M12 => am_ob sh_T 2 (M12 0 4) ∧ ((M12 (M12 0 4) 6 ≤ x12 → am_g 11 0 co_X11_night (d + 5) (am_c0 sh_T f) 120 [(2, 0), (3, 0), (0, (n : Int)), (2, v), (0, (i : Int)), (3, 0)] [] sh_T M12) ∧ (x12 < M12 (M12 0 4) 6 → am_ob sh_T 7 v ∧ am_cal pg (d + 5) 77 [(2, v)] sh_T M12 (am_cv sh_T fun M16 => am_g 11 0 co_X11_night (d + 5) (am_c0 sh_T f) 120 [(2, 0), (3, 0), (0, (n : Int)), (2, v), (0, (i : Int)), (3, 0)] [] sh_T M16)))) := by
        intro M3 f3 d3 s3
        have f3' : nc_fr v M M3 := fun x j y y2 y3 y4 => (f3 x j (by unfold sc_ at y; rcases hcc with rfl | rfl <;> omega) (by unfold sc_ at y; rcases hcc with rfl | rfl <;> omega) (by unfold sc_ at y; rcases hcc with rfl | rfl <;> omega) (by unfold sc_ at y; rcases hcc with rfl | rfl <;> omega) y3).trans (f2 x j y y2 y3 y4)
        have l3 : M3 0 17 = nx_ (ni D a g p i).2 := (f3 0 17 (by omega) (by omega) (by omega) (by omega) (by omega)).trans l2
        refine st_draw l3 nx_in (by decide) ?_
        have d4 : dm_ok (am_up M3 0 17 (nx_ (nx_ (ni D a g p i).2))) c D := dm_ok_fr (fun x j x1 x2 x3 x4 x5 x6 => am_up_el (by omega)) d3
        have s4 : sm_ok (am_up M3 0 17 (nx_ (nx_ (ni D a g p i).2))) D v a g (ni_w D a g (ni D a g p i)) := sm_ok_fr (am_up_el (by omega)) (am_up_el (by omega)) (fun j => am_up_el (by omega)) s3
        have l4 : am_up M3 0 17 (nx_ (nx_ (ni D a g p i).2)) 0 17 = nx_ (nx_ (ni D a g p i).2) := am_up_at
        have f4 : nc_fr v M (am_up M3 0 17 (nx_ (nx_ (ni D a g p i).2))) := fun x j y y2 y3 y4 => (am_up_el y4).trans (f3' x j y y2 y3 y4)
        generalize am_up M3 0 17 (nx_ (nx_ (ni D a g p i).2)) = M4 at d4 s4 l4 f4 ⊢
        have c4 : M4 0 4 = c := (f4 0 4 (by unfold sc_; omega) (by omega) (by omega) (by omega)).trans h4
        have nh : ∀ t : Nat, t < i + 1 → ¬ pu_home D (ni D a g p t).1 := fun t ht => by
          rcases Nat.lt_or_ge t i with y | y
          · exact p6 t y
          · rw [show t = i by omega]; exact hh
        rw [c4, d4.2.2.2.2.1]
        refine ⟨dr_ob hcc, fun y => bk_X11_night_120 ⟨⟨by omega, by omega⟩, ih (i + 1) (by omega) M4 d4 c4 ?_ l4 f4 nh⟩, fun y => ⟨s4.1.1, st_laugh s4 (fun M5 f5 s5 => bk_X11_night_120 ⟨⟨by omega, by omega⟩, ih (i + 1) (by omega) M5 ?_ ?_ ?_ ?_ ?_ nh⟩)⟩⟩
        · show sm_ok M4 D v a g (if nx_ (nx_ (ni D a g p i).2) / 64 % 100 < dL D then _ else _)
          rw [if_neg (by omega)]
          exact s4
        · exact dm_ok_fr (fun x j x1 x2 x3 x4 x5 x6 => f5 x j (by omega)) d4
        · exact (f5 0 4 (by omega)).trans c4
        · show sm_ok M5 D v a g (if nx_ (nx_ (ni D a g p i).2) / 64 % 100 < dL D then _ else _)
          rw [if_pos y]
          exact s5
        · exact (f5 0 17 (by omega)).trans l4
        · exact fun x j y y2 y3 y4 => (f5 x j y3).trans (f4 x j y y2 y3 y4)
      have flat : ¬ nr_ D (ni D a g p i).2 → am_g 11 0 co_X11_night (d + 5) (am_c0 sh_T f) 86 [(2, 0), (3, 0), (0, (n : Int)), (2, v), (0, (i : Int)), (3, 0)] [] sh_T M2 := fun y => by
        refine bk_X11_night_86 ?_
        rw [c2]
        refine ⟨dr_ob hcc, st_room0 d2 s2 hh (fun M3 f3 d3 s3 => tail M3 f3 d3 ?_)⟩
        unfold ni_w
        rw [decide_eq_false y]
        exact s3
      refine ⟨fun y => flat (fun z => y z.1), fun y => ?_⟩
      rw [c2]
      refine ⟨dr_ob hcc, st_count hcc ?_⟩
      rw [if_pos (by decide), d2.2.2.1]
      refine ⟨fun z => flat (fun z2 => by have := z2.2; omega), fun z => ?_⟩
      rw [c2]
      refine ⟨dr_ob hcc, st_room1 d2 s2 hh (by omega) (fun M3 f3 d3 s3 => tail M3 f3 d3 ?_)⟩
      unfold ni_w
      rw [decide_eq_true (show nr_ D (ni D a g p i).2 from ⟨y, by omega⟩)]
      exact s3
  exact go n 0 (Nat.zero_add _) M hd h4 hs hl (fun _ _ _ _ _ _ => rfl) (fun t ht => absurd ht (Nat.not_lt_zero t))
/-- what the reference's night may write -/
def nk_fr (M M' : am_M) : Prop := ∀ x j, ¬ sc_ x j → ¬ (x = 152 ∧ j = 60) → M' x j = M x j
theorem sp_night_37 {d : Nat} {M : am_M} {f : Int → am_M → Prop} {a g : Int} {D : dm_D} {p : (Int → Int) × Int} {n : Nat} (hn : n ≤ 100) (hp : 0 ≤ p.2 ∧ p.2 ≤ 2147483647) (hd : rg_is M D) (hs : rs_ok M D a g p.1) (hw : rw_ok M D 0 p.1) (hl : M 152 60 = p.2) (h : ∀ (K : Nat) (M' : am_M), ni_is D a g p n K → rs_ok M' D a g (ni D a g p K).1 → M' 152 60 = (ni D a g p K).2 → (∀ x j, ¬ sc_ x j → ¬ (x = 186 ∧ 7 * a ≤ j ∧ j < 7 * a + 7) → ¬ (x = 152 ∧ j = 60) → M' x j = M x j) → f K M') : am_g 12 0 co_X12_night (d + 4) (am_c0 sh_T f) 37 [(2, 152), (0, a), (0, (n : Int)), (0, 0), (3, 0), (3, 0)] [] sh_T M := by
  have ha := hs.1
  have fin : ∀ (K : Nat) (M1 : am_M), ni_is D a g p n K → rs_ok M1 D a g p.1 → rw_ok M1 D 0 (ni D a g p K).1 → M1 152 60 = (ni D a g p K).2 → nk_fr M M1 → am_g 12 0 co_X12_night (d + 4) (am_c0 sh_T f) 128 [(2, 152), (0, a), (3, 0), (0, (K : Int)), (3, 0), (3, 0)] [] sh_T M1 := fun K M1 k s1 w1 l1 f1 => bk_X12_night_128 (sp_nows s1 w1 (fun M2 f2 s2 => am_c0_i (h K M2 k s2 ((f2 152 60 (by omega)).trans l1) (fun x j y y2 y3 => (f2 x j y2).trans (f1 x j y y3)))))
  have go : ∀ (m i : Nat), i + m = n → ∀ M1, rg_is M1 D → rs_ok M1 D a g p.1 → rw_ok M1 D 0 (ni D a g p i).1 → M1 152 60 = (ni D a g p i).2 → nk_fr M M1 → (∀ t : Nat, t < i → ¬ pu_home D (ni D a g p t).1) → am_g 12 0 co_X12_night (d + 4) (am_c0 sh_T f) 37 [(2, 152), (0, a), (0, (n : Int)), (0, (i : Int)), (3, 0), (3, 0)] [] sh_T M1 := by
    intro m
    induction m with
    | zero =>
      intro i hi M1 p1 p2 p3 p4 p5 p6
      exact bk_X12_night_37 ⟨fun _ => fin i M1 ⟨by omega, p6, fun z => by omega⟩ p2 p3 p4 p5, fun z => by omega⟩
    | succ m ih =>
      intro i hi M1 p1 p2 p3 p4 p5 p6
      have hlo := ni_lot (D := D) (a := a) (g := g) hp i
      refine bk_X12_night_37 ⟨fun z => by omega, fun _ => sp_home p1 p3 ⟨fun y => fin i M1 ⟨by omega, p6, fun _ => am_b_nz y⟩ p2 p3 p4 p5, fun y => ?_⟩⟩
      have hh := am_b_z.mp y
      have hn0 := pu_away p1.1 p3.2.2 hh
      refine sp_draw p4 hlo (by decide) ?_
      have g2 : rg_is (am_up M1 152 60 (nx_ (ni D a g p i).2)) D := rg_is_fr (fun x j x1 x2 => am_up_el (by omega)) p1
      have s2 : rs_ok (am_up M1 152 60 (nx_ (ni D a g p i).2)) D a g p.1 := rs_ok_fr (fun j => am_up_el (by omega)) p2
      have w2 : rw_ok (am_up M1 152 60 (nx_ (ni D a g p i).2)) D 0 (ni D a g p i).1 := rw_fr (fun k k0 k1 => am_up_el (by omega)) p3
      have l2 : am_up M1 152 60 (nx_ (ni D a g p i).2) 152 60 = nx_ (ni D a g p i).2 := am_up_at
      have f2 : nk_fr M (am_up M1 152 60 (nx_ (ni D a g p i).2)) := fun x j y y2 => (am_up_el y2).trans (p5 x j y y2)
      generalize am_up M1 152 60 (nx_ (ni D a g p i).2) = M2 at g2 s2 w2 l2 f2 ⊢
      have nh : ∀ t : Nat, t < i + 1 → ¬ pu_home D (ni D a g p t).1 := fun t ht => by
        rcases Nat.lt_or_ge t i with y | y
        · exact p6 t y
        · rw [show t = i by omega]; exact hh
      have tail : ∀ (M3 : am_M) (x7 : Int), 0 ≤ x7 → ro_fr 0 M2 M3 → rg_is M3 D → rw_ok M3 D 0 (ni_w D a g (ni D a g p i)) → am_cal pg (d + 4) 272 [(2, 152), (0, 100)] sh_T M3 (am_c0 sh_T fun x8 M8 => am_cal pg (d + 4) 216 [(2, 152), (0, 1)] sh_T M8 (am_c0 sh_T fun x9 M9 => ((x9 ≤ x8 → am_g 12 0 co_X12_night (d + 4) (am_c0 sh_T f) 122 [(2, 152), (0, a), (0, (n : Int)), (0, (i : Int)), (3, 0), (3, 0)] [] sh_T M9) ∧ (x8 < x9 → ((x7 = (-1) → am_g 12 0 co_X12_night (d + 4) (am_c0 sh_T f) 122 [(2, 152), (0, a), (0, (n : Int)), (0, (i : Int)), (3, 0), (3, 0)] [] sh_T M9) ∧ (¬ x7 = (-1) → am_cal pg (d + 4) 229 [(2, 152), (0, 0)] sh_T M9 (am_cv sh_T fun M12 => am_g 12 0 co_X12_night (d + 4) (am_c0 sh_T f) 122 [(2, 152), (0, a), (0, (n : Int)), (0, (i : Int)), (3, 0), (3, 0)] [] sh_T M12))))))) := by
        intro M3 x7 h7 f3 g3 w3
        have l3 : M3 152 60 = nx_ (ni D a g p i).2 := (f3 152 60 (by omega) (by omega) (by omega) (by omega)).trans l2
        have s3 : rs_ok M3 D a g p.1 := rs_ok_fr (fun j => f3 186 j (by omega) (by omega) (by omega) (by omega)) s2
        have f3' : nk_fr M M3 := fun x j y y2 => (f3 x j (by unfold sc_ at y; omega) (by unfold sc_ at y; omega) (by unfold sc_ at y; omega) (by unfold sc_ at y; omega)).trans (f2 x j y y2)
        refine sp_draw l3 nx_in (by decide) ?_
        have g4 : rg_is (am_up M3 152 60 (nx_ (nx_ (ni D a g p i).2))) D := rg_is_fr (fun x j x1 x2 => am_up_el (by omega)) g3
        have s4 : rs_ok (am_up M3 152 60 (nx_ (nx_ (ni D a g p i).2))) D a g p.1 := rs_ok_fr (fun j => am_up_el (by omega)) s3
        have w4 : rw_ok (am_up M3 152 60 (nx_ (nx_ (ni D a g p i).2))) D 0 (ni_w D a g (ni D a g p i)) := rw_fr (fun k k0 k1 => am_up_el (by omega)) w3
        have l4 : am_up M3 152 60 (nx_ (nx_ (ni D a g p i).2)) 152 60 = nx_ (nx_ (ni D a g p i).2) := am_up_at
        have f4 : nk_fr M (am_up M3 152 60 (nx_ (nx_ (ni D a g p i).2))) := fun x j y y2 => (am_up_el y2).trans (f3' x j y y2)
        generalize am_up M3 152 60 (nx_ (nx_ (ni D a g p i).2)) = M4 at g4 s4 w4 l4 f4 ⊢
        refine sp_settingOf (by decide) (by decide) ?_
        have eS : M4 179 (3 + 1) = dL D := g4.2.2.2.1
        rw [eS]
        refine ⟨fun y => bk_X12_night_122 ⟨⟨by omega, by omega⟩, ih (i + 1) (by omega) M4 g4 s4 ?_ l4 f4 nh⟩, fun y => ⟨fun z => by omega, fun _ => sp_laughs g4 w4 (fun M5 f5 w5 => bk_X12_night_122 ⟨⟨by omega, by omega⟩, ih (i + 1) (by omega) M5 ?_ ?_ ?_ ?_ ?_ nh⟩)⟩⟩
        · show rw_ok M4 D 0 (if nx_ (nx_ (ni D a g p i).2) / 64 % 100 < dL D then _ else _)
          rw [if_neg (by omega)]
          exact w4
        · exact rg_is_fr (fun x j x1 x2 => f5 x j (by omega)) g4
        · exact rs_ok_fr (fun j => f5 186 j (by omega)) s4
        · show rw_ok M5 D 0 (if nx_ (nx_ (ni D a g p i).2) / 64 % 100 < dL D then _ else _)
          rw [if_pos y]
          exact w5
        · exact (f5 152 60 (by omega)).trans l4
        · exact fun x j y y2 => (f5 x j (by unfold sc_ at y; omega)).trans (f4 x j y y2)
      refine ⟨fun y1 => sp_guideOf (v4 ha) ?_, fun y1 => sp_guideOf (v4 ha) (sp_dreadMany ?_)⟩
      · rw [s2.2.1.1]
        refine sp_room0 g2 w2 ha hs.2.1.2 hh (fun M3 f3 g3 w3 => tail M3 _ (pu_dread_0 hn0 (fun z => by cases z)) f3 g3 ?_)
        unfold ni_w
        rw [decide_eq_false (fun z : nr_ D (ni D a g p i).2 => y1 z.1)]
        exact w3
      · rw [s2.2.1.1, g2.2.1]
        refine ⟨fun y2 => sp_room0 g2 w2 ha hs.2.1.2 hh (fun M3 f3 g3 w3 => tail M3 _ (pu_dread_0 hn0 (fun z => by cases z)) f3 g3 ?_), fun y2 => sp_room1 g2 w2 ha hs.2.1.2 hh (by omega) (fun M3 f3 g3 w3 => tail M3 _ (pu_dread_0 hn0 (fun _ => by omega)) f3 g3 ?_)⟩
        · unfold ni_w
          rw [decide_eq_false (fun z : nr_ D (ni D a g p i).2 => by have := z.2; omega)]
          exact w3
        · unfold ni_w
          rw [decide_eq_true (show nr_ D (ni D a g p i).2 from ⟨y1, by omega⟩)]
          exact w3
  exact go n 0 (Nat.zero_add _) M hd hs hw hl (fun _ _ _ _ => rfl) (fun t ht => absurd ht (Nat.not_lt_zero t))
theorem ac_night {d n : Nat} {M : am_M} {D : dm_D} {G : Int → Int} {W : Int → Int → Int} {a b : Int} (hn : n < 600) (h : at_ok n M D G W) : tr_two (d + 7) 150 273 [(0, a), (0, b)] M (at_P n M D) := by
  have h3 := h.1.2.2.1
  obtain ⟨m, hh, c1, c2, c3, c4, c5⟩ := h.2.1
  obtain ⟨r1, r2, r3, r4, r5, r6, r7, r8⟩ := re_bt (k := 2) hn h (by decide)
  have no : ∀ M1, sc_fr (am_up M 151 2 (M 151 2 + 1)) M1 → am_g 12 0 co_X12_night (d + 6) (am_c0 sh_T (fun y M2 => (-1 : Int) = y ∧ at_P n M D M2)) 20 [(2, 152), (3, 0), (3, 0), (3, 0), (3, 0), (3, 0)] [] sh_T M1 := fun M1 k => by
    refine bk_X12_night_20 (sp_refuses ?_ (am_c0_i ⟨rfl, at_re h (by decide) k⟩))
    rw [k 154 2 (by unfold sc_; omega), r4]; exact r5 2 (by decide) (by decide)
  have noo : ¬ ((0 ≤ a ∧ a < M 174 4) ∧ 1 ≤ b ∧ b ≤ 100) → am_g 11 0 co_X11_night (d + 6) (am_c0 sh_T (fun x1 M1 => (∀ j, M1 2000003 j = M 2000003 j) ∧ am_cal pg (d + 7) 273 [(2, 152), (0, a), (0, b)] sh_T M1 (am_c0 sh_T fun y M2 => x1 = y ∧ at_P n M D M2))) 19 [(2, 0), (3, 0), (3, 0), (3, 0), (3, 0), (3, 0)] [] sh_T M := fun z => by
    refine bk_X11_night_19 (cl_re (mr := 0) (As := []) hn h (by decide) (am_c0_i ⟨r7, en_X12_night (bk_X12_night_0 (sp_isDreamer r2 ⟨fun _ => no _ sc_rf, fun y => sp_isIn ⟨fun y2 => ?_, fun _ => no _ sc_rf⟩⟩))⟩))
    have y' := am_b_nz y
    rw [r3] at y'
    exact absurd ⟨y', am_b_nz y2⟩ z
  refine en_X11_night (bk_X11_night_0 (st_isDreamer h.1 ⟨fun q => noo (fun z => am_b_z.mp q z.1), fun q => ⟨fun q3 => noo (by omega), fun q3 => ⟨fun q4 => ?_, fun q4 => noo (by omega)⟩⟩⟩))
  have ha := am_b_nz q
  have ha4 : 0 ≤ a ∧ a < 4 ∧ a < dA D := by omega
  have h5 := h.1.2.2.2.2 a ha.1 (by omega)
  have hcc := h.1.1.1
  have hcr := dm_range h.1.1
  have lo := h.2.2.2
  obtain ⟨k, rfl⟩ : ∃ k : Nat, b = k := ⟨b.toNat, by omega⟩
  refine ⟨v4 ha4, st_keeps c3 (by omega) h5.1 (fun M1 k1 e1 e88 => ?_)⟩
  have d1 : dm_ok M1 (M 0 4) D := dm_ok_fr (fun x j x1 x2 x3 x4 x5 x6 => e1 x j (by omega)) h.1.1
  have fs : ∀ x j, 37 ≤ x → x ≤ 45 → M1 x j = M x j := fun x j y z => e1 x j (by omega)
  have s1 : sm_ok M1 D (37 + 1 + 2 * a) a (G a) (W a) := sm_ok_fr (fs _ _ (by omega) (by omega)) (fs _ _ (by omega) (by omega)) (fun j => fs _ _ (by omega) (by omega)) h5.1
  refine st_night_43 (p := (W a, M 0 17)) (c := M 0 4) (by omega) lo.2 d1 s1 (by omega) (e1 0 17 (by omega)) (e1 0 4 (by omega)) (fun K M2 hK s2 l2 f2 => ?_)
  have k2 : kc_ D a (G a) (W a) M M2 := kc_go c3 ha4 k1 (fun x j y y2 y3 y4 => f2 x j y y2 y3 y4)
  obtain ⟨t1, t2, t3, t4, t5, t6, t7, t8, t9, t10⟩ := kc_bt h k2 ha4
  refine ⟨t10, en_X12_night (bk_X12_night_0 (sp_isDreamer t3 ⟨fun y => ?_, fun _ => sp_isIn ⟨fun _ => ?_, fun y => absurd ⟨q3, q4⟩ (am_b_z.mp y)⟩⟩))⟩
  · rw [t4] at y
    exact absurd ha (am_b_z.mp y)
  · refine sp_keepss (a := a) t7 t8 (fun M3 k3 f3 => ?_)
    have g3 : rg_is M3 D := rg_is_fr (fun x j x1 x2 => f3 x j (by omega) (by omega)) t1
    have s3 : rs_ok M3 D a (G a) (W a) := rs_ok_fr (fun j => f3 186 j (by omega) (by omega)) t2
    refine sp_lays g3 s3 (fun M4 f4 g4 s4 w4 => ?_)
    have l4 : M4 152 60 = M 0 17 := by rw [f4 152 60 (by unfold sc_; omega), f3 152 60 (by omega) (by omega), t9]; exact lo.1.symm
    refine sp_night_37 (p := (W a, M 0 17)) (by omega) lo.2 g4 s4 w4 l4 (fun K2 M5 hK2 s5 l5 f5 => ?_)
    have eK := ni_is_eq hK hK2
    subst eK
    refine ⟨rfl, ?_⟩
    have k6 : kr_ a M2 M5 := kr_go k3 (fun x j y y2 y3 => (f5 x j y y2 y3).trans (f4 x j y))
    have nl := ni_lot (D := D) (a := a) (g := G a) (p := (W a, M 0 17)) lo.2 K
    have e17 : M5 0 17 = (ni D a (G a) (W a, M 0 17) K).2 := by rw [f5 0 17 (by unfold sc_; omega) (by omega) (by omega), f4 0 17 (by unfold sc_; omega), f3 0 17 (by omega) (by omega)]; exact l2
    refine at_done h ha4 k2 s2 k6 s5 ⟨by rw [e17, l5], by rw [e17]; exact nl⟩
