/-! CHANCE: a row of laughs and its share -/
theorem pu_lg_sum {w : Int → Int} (hw : we_ok w) : ∀ n : Nat, n ≤ 6 → pu_sum (pu_lg w) n ≤ pu_sum w n
  | 0, _ => Int.le_refl _
  | n + 1, h => by
    have ih := pu_lg_sum hw n (by omega)
    have b := hw n (by omega) (by omega)
    have e : pu_lg w n = w n / 2 := Int.tdiv_eq_ediv_of_nonneg b.1
    show pu_sum (pu_lg w) n + pu_lg w n ≤ pu_sum w n + w n
    rw [e]
    omega
theorem pu_lg_home {D : dm_D} {w : Int → Int} (hw : we_ok w) (h : pu_home D w) : pu_home D (pu_lg w) := Int.le_trans (pu_lg_sum hw 6 (Nat.le_refl _)) h
/-- whether there is a laugh behind the i-th room -/
abbrev bt_ (L i : Int) : Prop := am_band (am_shr L i) 1 = 1
def lgk (D : dm_D) (a g L : Int) (w : Int → Int) : Nat → Int → Int
  | 0 => w
  | t + 1 => if pu_home D (lgk D a g L w t) then lgk D a g L w t else if bt_ L t then pu_lg (pu_step D a g false (lgk D a g L w t)) else pu_step D a g false (lgk D a g L w t)
def lsh (D : dm_D) (L : Int) : Nat → Int
  | 0 => 1
  | t + 1 => lsh D L t * (if bt_ L t then dL D else 100 - dL D)
theorem lsh_le {D : dm_D} {L : Int} (hL : 0 ≤ dL D ∧ dL D ≤ 100) : ∀ t : Nat, 0 ≤ lsh D L t ∧ lsh D L t ≤ 100 ^ t
  | 0 => ⟨by show (0 : Int) ≤ 1; decide, by show (1 : Int) ≤ 1; decide⟩
  | t + 1 => by
    obtain ⟨i1, i2⟩ := lsh_le (L := L) hL t
    have b : 0 ≤ (if bt_ L t then dL D else 100 - dL D) ∧ (if bt_ L t then dL D else 100 - dL D) ≤ 100 := by split <;> omega
    refine ⟨Int.mul_nonneg i1 b.1, ?_⟩
    show lsh D L t * _ ≤ 100 ^ t * 100
    exact Int.mul_le_mul i2 b.2 b.1 (Int.le_trans i1 i2)
theorem lgk_ok {D : dm_D} {a g L : Int} {w : Int → Int} (hD : dg_ok D) (hw : dw_ok D w) : ∀ t : Nat, dw_ok D (lgk D a g L w t)
  | 0 => hw
  | t + 1 => by
    have ih := lgk_ok (a := a) (g := g) (L := L) hD hw t
    unfold lgk
    split
    · exact ih
    · rename_i hh
      have s := pu_step_ok (a := a) (g := g) (round := false) hD (pu_away hD ih hh) (fun z => by cases z) ih
      split
      · exact pu_lg_dw s
      · exact s
theorem lsh_4 {D : dm_D} {L : Int} (hL : 0 ≤ dL D ∧ dL D ≤ 100) {t : Nat} (ht : t ≤ 4) : 0 ≤ lsh D L t ∧ lsh D L t ≤ 100000000 := by
  have h := lsh_le (L := L) hL t
  have e : (100 : Int) ^ t ≤ 100000000 := by
    rcases (show t = 0 ∨ t = 1 ∨ t = 2 ∨ t = 3 ∨ t = 4 by omega) with rfl | rfl | rfl | rfl | rfl <;> decide
  exact ⟨h.1, Int.le_trans h.2 e⟩
theorem st_shareHome {d : Nat} {M : am_M} {f : Int → am_M → Prop} {c u a g L : Int} {D : dm_D} {w : Int → Int} {n : Nat} (hn : n ≤ 4) (hL : 0 ≤ dL D ∧ dL D ≤ 100) (hd : dm_ok M c D) (hs : sm_ok M D u a g w) (hu : u < 90) (h : ∀ M', sc_fr M M' → f (if pu_home D (lgk D a g L w n) then lsh D L n else 0) M') : am_cal pg (d + 6) 51 [(2, 128), (2, c), (2, u), (0, (n : Int)), (0, L)] sh_T M (am_c1 sh_T f) := by
  have hcc := hd.1
  have hcr := dm_range hd
  have go : ∀ (m i : Nat), i + m = n → ∀ (M1 : am_M) (cv : Int → Int), sc_fr M M1 → dm_ok M1 c D → sm_ok M1 D 147 a g cv → ((pu_home D (lgk D a g L w i) ∧ pu_home D cv) ∨ cv = lgk D a g L w i) → am_g 4 1 co_X4_shareHome (d + 5) (am_c1 sh_T f) 14 [(2, 128), (2, c), (3, 0), (0, (n : Int)), (0, L), (1, lsh D L i), (3, 0), (0, (i : Int))] [] sh_T M1 := by
    intro m
    induction m with
    | zero =>
      intro i hi M1 cv p1 p2 p3 p4
      have e : i = n := by omega
      subst e
      have q := h M1 p1
      have eh : pu_home D cv ↔ pu_home D (lgk D a g L w i) := by
        rcases p4 with y | y
        · exact ⟨fun _ => y.1, fun _ => y.2⟩
        · rw [y]
      refine bk_X4_shareHome_14 ⟨fun _ => ⟨dr_ob hcc, st_home p2 p3 ⟨fun z => am_c1_i ?_, fun z => am_c1_i ?_⟩⟩, fun z => by omega⟩
      · rw [if_neg (fun y => am_b_z.mp z (eh.mpr y))] at q; exact q
      · rw [if_pos (eh.mp (am_b_nz z))] at q; exact q
    | succ m ih =>
      intro i hi M1 cv p1 p2 p3 p4
      have b1 := lsh_4 (L := L) hL (t := i + 1) (by omega)
      have wof : ¬ bt_ L i → lsh D L (i + 1) = lsh D L i * (100 - dL D) := fun y => by show lsh D L i * _ = _; rw [if_neg y]
      have won : bt_ L i → lsh D L (i + 1) = lsh D L i * dL D := fun y => by show lsh D L i * _ = _; rw [if_pos y]
      have big : am_rl (lsh D L (i + 1)) := ⟨by omega, by omega⟩
      have nxt : ∀ (M2 : am_M) (v2 : Int → Int), sc_fr M M2 → dm_ok M2 c D → sm_ok M2 D 147 a g v2 → (¬ bt_ L i → ((pu_home D (lgk D a g L w (i + 1)) ∧ pu_home D v2) ∨ v2 = lgk D a g L w (i + 1))) → (bt_ L i → ((pu_home D (lgk D a g L w (i + 1)) ∧ pu_home D (pu_lg v2)) ∨ pu_lg v2 = lgk D a g L w (i + 1))) →
          ((¬ am_band (am_shr L i) 1 = 1 → am_r (100 - (M2 c 6)) ∧ am_rl (lsh D L i * (100 - (M2 c 6))) ∧ am_r ((i : Int) + 1) ∧ am_g 4 1 co_X4_shareHome (d + 5) (am_c1 sh_T f) 14 [(2, 128), (2, c), (3, 0), (0, (n : Int)), (0, L), (1, lsh D L i * (100 - (M2 c 6))), (3, 0), (0, (i : Int) + 1)] [] sh_T M2) ∧ (am_band (am_shr L i) 1 = 1 → am_cal pg (d + 5) 77 [(2, 147)] sh_T M2 (am_cv sh_T fun M11 => am_rl (lsh D L i * (M11 c 6)) ∧ am_r ((i : Int) + 1) ∧ am_g 4 1 co_X4_shareHome (d + 5) (am_c1 sh_T f) 14 [(2, 128), (2, c), (3, 0), (0, (n : Int)), (0, L), (1, lsh D L i * (M11 c 6)), (3, 0), (0, (i : Int) + 1)] [] sh_T M11))) := by
        intro M2 v2 q1 q2 q3 q4 q5
        refine ⟨fun y => ?_, fun y => st_laugh q3 (fun M3 f3 s3 => ?_)⟩
        · rw [q2.2.2.2.2.1, ← wof y]
          exact ⟨⟨by omega, by omega⟩, big, ⟨by omega, by omega⟩, ih (i + 1) (by omega) M2 v2 q1 q2 q3 (q4 y)⟩
        · have d3 : dm_ok M3 c D := dm_ok_fr (fun x j x1 x2 _ _ _ _ => f3 x j (by omega)) q2
          rw [d3.2.2.2.2.1, ← won y]
          exact ⟨big, ⟨by omega, by omega⟩, ih (i + 1) (by omega) M3 (pu_lg v2) (sc_tr q1 (fun x j z => by unfold sc_ at z; exact f3 x j (by omega))) d3 s3 (q5 y)⟩
      refine bk_X4_shareHome_14 ⟨fun z => by omega, fun _ => ⟨dr_ob hcc, ?_⟩⟩
      by_cases hh : pu_home D cv
      · have hl : pu_home D (lgk D a g L w i) := by
          rcases p4 with y | y
          · exact y.1
          · rw [← y]; exact hh
        have el : lgk D a g L w (i + 1) = lgk D a g L w i := if_pos hl
        refine st_room_home p2 p3 hh (nxt M1 cv p1 p2 p3 (fun _ => Or.inl ⟨by rw [el]; exact hl, hh⟩) (fun _ => Or.inl ⟨by rw [el]; exact hl, pu_lg_home p3.2.2.2.2.1 hh⟩))
      · have ec : cv = lgk D a g L w i := by
          rcases p4 with y | y
          · exact absurd y.2 hh
          · exact y
        refine st_room0 p2 p3 hh (fun M2 f2 d2 s2 => nxt M2 _ (sc_tr p1 (fun x j z => ?_)) d2 s2 (fun y => Or.inr ?_) (fun y => Or.inr ?_))
        · unfold sc_ at z
          exact f2 x j (by rcases hcc with e | e <;> omega) (by rcases hcc with e | e <;> omega) (by rcases hcc with e | e <;> omega) (by rcases hcc with e | e <;> omega) (by omega)
        · show _ = if pu_home D (lgk D a g L w i) then _ else _
          rw [← ec, if_neg hh, if_neg y]
        · show _ = if pu_home D (lgk D a g L w i) then _ else _
          rw [← ec, if_neg hh, if_pos y]
  refine en_X4_shareHome (bk_X4_shareHome_0 (st_copy sl_147 hs.1 (by omega) (by omega) (by omega) (go n 0 (Nat.zero_add _) _ w (fun x j y => ?_) ?_ (cp_ok sl_147 hs) (Or.inr rfl))))
  · unfold sc_ at y
    exact cp_fr (by omega) (by omega)
  · exact dm_ok_fr (fun x j x1 x2 _ _ _ _ => cp_fr (by omega) (by omega)) hd
