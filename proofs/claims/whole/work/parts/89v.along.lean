/-! ALONG: the same on both sides -/
/-- how many rooms the soonest way has; 11 without one -/
noncomputable def sn (D : dm_D) (a g : Int) (w : Int → Int) : Int := @dite Int (∃ l : List Bool, wy_opt D a g false w l) (Classical.propDecidable _) (fun h => ((Classical.choose h).length : Int)) (fun _ => 11)
theorem sn_opt {D : dm_D} {a g : Int} {w : Int → Int} {l : List Bool} (h : wy_opt D a g false w l) : sn D a g w = (l.length : Int) := by
  unfold sn
  have e : ∃ l : List Bool, wy_opt D a g false w l := ⟨l, h⟩
  rw [dif_pos e, wy_opt_eq (Classical.choose_spec e) h]
theorem sn_no {D : dm_D} {a g : Int} {w : Int → Int} (h : wy_no D a g w) : sn D a g w = 11 := by
  unfold sn
  rw [dif_neg (fun e => by obtain ⟨l, q⟩ := e; exact h l q.1 q.2.1)]
theorem sn_in {D : dm_D} {a g : Int} {w : Int → Int} : 0 ≤ sn D a g w ∧ sn D a g w ≤ 11 := by
  by_cases e : ∃ l : List Bool, wy_opt D a g false w l
  · obtain ⟨l, q⟩ := e
    rw [sn_opt q]
    have := q.1
    omega
  · unfold sn
    rw [dif_neg e]
    decide
theorem sn_ge {D : dm_D} {a g r : Int} {w : Int → Int} (hr : r ≤ 11) (h : ∀ l : List Bool, l.length ≤ 10 → wy_is D a g l w → r ≤ (l.length : Int)) : r ≤ sn D a g w := by
  by_cases e : ∃ l : List Bool, wy_opt D a g false w l
  · obtain ⟨l, q⟩ := e
    rw [sn_opt q]
    exact h l q.1 q.2.1
  · unfold sn
    rw [dif_neg e]
    exact hr
/-- the fewest rooms, and the guide, behind so many of them (none is the first) -/
noncomputable def al (D : dm_D) (a : Int) (w : Int → Int) : Nat → Int × Int
  | 0 => (11, -1)
  | t + 1 => if sn D a ((t : Int) - 1) w < (al D a w t).1 then (sn D a ((t : Int) - 1) w, (t : Int) - 1) else al D a w t
theorem al_in {D : dm_D} {a : Int} {w : Int → Int} : ∀ t : Nat, 0 ≤ (al D a w t).1 ∧ (al D a w t).1 ≤ 11 ∧ -1 ≤ (al D a w t).2 ∧ (al D a w t).2 ≤ t
  | 0 => ⟨by show (0 : Int) ≤ 11; decide, by show (11 : Int) ≤ 11; decide, by show (-1 : Int) ≤ -1; decide, by show (-1 : Int) ≤ ((0 : Nat) : Int); decide⟩
  | t + 1 => by
    have ih := al_in (D := D) (a := a) (w := w) t
    have s := sn_in (D := D) (a := a) (g := (t : Int) - 1) (w := w)
    unfold al
    split
    · refine ⟨s.1, s.2, ?_, ?_⟩
      · show -1 ≤ (t : Int) - 1; omega
      · show (t : Int) - 1 ≤ ((t + 1 : Nat) : Int); omega
    · omega
theorem st_findGuide {D : dm_D} {c a g : Int} {d m : Nat} {M : am_M} {f : Int → am_M → Prop} {v : Int} {w : Int → Int} (hd : dm_ok M c D) (hs : sm_ok M D v a g w) (hv : v < 96) (hm : M (c + 2) 2 = (m : Int) ∧ m ≤ 4 ∧ (m : Int) = dG D)
    (h : ∀ M', sc_fr M M' → ((al D a w (m + 1)).1 ≤ 10 → M' 95 7 = (al D a w (m + 1)).2) → f (if (al D a w (m + 1)).1 ≤ 10 then (al D a w (m + 1)).1 else -1) M') : am_cal pg (d + 32) 119 [(2, 95), (2, c), (2, v)] sh_T M (am_c0 sh_T f) := by
  have hcc := hd.1
  have hcr := dm_range hd
  have go : ∀ (n t : Nat), t + n = m + 1 → ∀ (M1 : am_M) (g1 : Int), sc_fr M M1 → dm_ok M1 c D → sm_ok M1 D 121 a g1 w → ((al D a w t).1 ≤ 10 → M1 95 7 = (al D a w t).2) → am_g 10 0 co_X10_findGuide (d + 31) (am_c0 sh_T f) 14 [(2, 95), (2, c), (3, 0), (0, (al D a w t).1), (0, (t : Int) - 1), (3, 0)] [] sh_T M1 := by
    intro n
    induction n with
    | zero =>
      intro t ht M1 g1 p1 p2 p3 p4
      have e : t = m + 1 := by omega
      subst e
      refine bk_X10_findGuide_14 ⟨dr_ob hcc, st_count hcc ?_⟩
      rw [if_pos (by decide), p1 (c + 2) 2 (by unfold sc_; rcases hcc with rfl | rfl <;> omega), hm.1]
      have q := h M1 p1 p4
      refine ⟨fun _ => ⟨fun z => am_c0_i ?_, fun z => am_c0_i ?_⟩, fun z => by omega⟩
      · rw [if_neg (by omega)] at q; exact q
      · rw [if_pos z] at q; exact q
    | succ n ih =>
      intro t ht M1 g1 p1 p2 p3 p4
      have b := al_in (D := D) (a := a) (w := w) t
      refine bk_X10_findGuide_14 ⟨dr_ob hcc, st_count hcc ?_⟩
      rw [if_pos (by decide), p1 (c + 2) 2 (by unfold sc_; rcases hcc with rfl | rfl <;> omega), hm.1]
      refine ⟨fun z => by omega, fun _ => ?_⟩
      obtain ⟨M2, eM⟩ : ∃ X, X = am_up M1 121 2 ((t : Int) - 1) := ⟨_, rfl⟩
      rw [← eM]
      have u : ∀ x j, ¬ (x = 121 ∧ j = 2) → M2 x j = M1 x j := fun x j y => by rw [eM]; exact am_up_el y
      have s2 : sm_ok M2 D 121 a ((t : Int) - 1) w := ⟨p3.1, ⟨(u _ _ (by omega)).trans p3.2.1.1, p3.2.1.2⟩, ⟨by rw [eM, am_up_at], by omega, by omega⟩, fun k k0 k1 => (u _ _ (by omega)).trans (p3.2.2.2.1 k k0 k1), p3.2.2.2.2⟩
      have d2 : dm_ok M2 c D := dm_ok_fr (fun x j x1 x2 x3 x4 x5 x6 => u _ _ (by rcases hcc with rfl | rfl <;> omega)) p2
      have f2 : sc_fr M M2 := fun x j y => (u x j (by unfold sc_ at y; omega)).trans (p1 x j y)
      have es : (t : Int) - 1 + 1 = ((t + 1 : Nat) : Int) - 1 := by omega
      have a1 : al D a w (t + 1) = if sn D a ((t : Int) - 1) w < (al D a w t).1 then (sn D a ((t : Int) - 1) w, (t : Int) - 1) else al D a w t := rfl
      refine st_findSoonest d2 s2 (by omega) (fun M3 k1 k2 => ⟨fun _ => ⟨⟨by omega, by omega⟩, ?_⟩, fun z => absurd rfl z⟩) (fun M3 l k1 k2 k3 k4 => ⟨fun z => by omega, fun _ => ⟨⟨by omega, by omega⟩, ?_⟩⟩)
      · have q := sn_ge b.2.1 k2
        rw [if_neg (by omega)] at a1
        rw [es, ← a1]
        have k121 : ∀ x j, 121 ≤ x → x ≤ 122 → M3 x j = M2 x j := fun x j y y2 => k1 x j (by unfold ds_; omega) (by omega) (by omega)
        refine ih (t + 1) (by omega) M3 ((t : Int) - 1) (sc_tr f2 (fs_sc k1)) (dm_ok_sc (fs_sc k1) d2) (sm_ok_fr (k121 _ _ (by omega) (by omega)) (k121 _ _ (by omega) (by omega)) (fun j => k121 _ _ (by omega) (by omega)) s2) (fun z => ?_)
        rw [a1] at z ⊢
        rw [k1 95 7 (by unfold ds_; omega) (by omega) (by omega), u _ _ (by omega)]
        exact p4 z
      · have q := sn_opt k2
        rw [if_pos (by omega)] at a1
        obtain ⟨M4, eM4⟩ : ∃ X, X = am_up M3 95 7 ((t : Int) - 1) := ⟨_, rfl⟩
        rw [← eM4, es]
        have u4 : ∀ x j, ¬ (x = 95 ∧ j = 7) → M4 x j = M3 x j := fun x j y => by rw [eM4]; exact am_up_el y
        have k121 : ∀ x j, 121 ≤ x → x ≤ 122 → M4 x j = M2 x j := fun x j y y2 => (u4 x j (by omega)).trans (k1 x j (by unfold ds_; omega) (by omega) (by omega))
        have f4 : sc_fr M2 M4 := sc_tr (fs_sc k1) (fun x j y => u4 x j (by unfold sc_ at y; omega))
        have r := ih (t + 1) (by omega) M4 ((t : Int) - 1) (sc_tr f2 f4) (dm_ok_sc f4 d2) (sm_ok_fr (k121 _ _ (by omega) (by omega)) (k121 _ _ (by omega) (by omega)) (fun j => k121 _ _ (by omega) (by omega)) s2) (fun z => by rw [a1, eM4, am_up_at])
        rw [a1] at r
        rw [← q]
        exact r
  refine en_X10_findGuide (bk_X10_findGuide_0 (st_copy sl_121 hs.1 (by omega) (by omega) (by omega) ?_))
  have f1 : sc_fr M (sl_cp M 121 v) := fun x j y => cp_fr (by unfold sc_ at y; omega) (by unfold sc_ at y; omega)
  have r := go (m + 1) 0 (Nat.zero_add _) (sl_cp M 121 v) g f1 (dm_ok_sc f1 hd) (cp_ok sl_121 hs) (fun z => absurd z (by show ¬ (11 : Int) ≤ 10; decide))
  rw [show ((0 : Nat) : Int) - 1 = -1 by decide] at r
  exact r
theorem qu_along {d : Nat} {M : am_M} {D : dm_D} {G : Int → Int} {W : Int → Int → Int} {a k : Int} (hb : bt_ok M D G W) : qu_two (d + 33) 141 249 [(0, a), (0, k)] M := by
  have h3 := hb.2.2.1
  have h4 := hb.2.2.2.1
  have hcc := hb.1.1
  obtain ⟨m, hm⟩ : ∃ m : Nat, M 174 5 = (m : Int) := ⟨(M 174 5).toNat, by omega⟩
  -- the reference refuses alike
  have no : ¬ ((0 ≤ a ∧ a < M 174 4) ∧ 0 ≤ k ∧ k ≤ 1) → am_cal pg (d + 33) 249 [(2, 152), (0, a), (0, k)] sh_T M (am_c0 sh_T fun y M2 => -1 = y ∧ sc_fr M M2) := fun z => by
    refine en_X12_along (bk_X12_along_0 (sp_isDreamer h3.2 ⟨fun _ => am_c0_i ⟨rfl, sc_rf⟩, fun y => sp_isIn ⟨fun y2 => absurd ⟨am_b_nz y, am_b_nz y2⟩ z, fun _ => am_c0_i ⟨rfl, sc_rf⟩⟩⟩))
  refine en_X11_along (bk_X11_along_0 (st_isDreamer hb ⟨fun q => am_c0_i ⟨sc_rf, no (fun z => am_b_z.mp q z.1)⟩, fun q => ⟨fun q2 => am_c0_i ⟨sc_rf, no (fun z => by omega)⟩, fun q2 => ⟨fun q3 => ?_, fun q3 => am_c0_i ⟨sc_rf, no (fun z => by omega)⟩⟩⟩⟩))
  have ha := am_b_nz q
  have ha4 : 0 ≤ a ∧ a < 4 ∧ a < dA D := by omega
  have h5 := hb.2.2.2.2 a ha.1 ha4.2
  have b := al_in (D := D) (a := a) (w := W a) (m + 1)
  have ref : ∀ (M1 : am_M) (z : Int), sc_fr M M1 → z = (if (al D a (W a) (m + 1)).1 ≤ 10 then (if k = 0 then (al D a (W a) (m + 1)).2 + 1 else (al D a (W a) (m + 1)).1) else -1) → am_cal pg (d + 33) 249 [(2, 152), (0, a), (0, k)] sh_T M1 (am_c0 sh_T fun y M2 => z = y ∧ sc_fr M M2) := fun M1 z hf1 hz => by
    have hb1 := bt_ok_fr hf1 hb
    have e4 : M1 174 4 = M 174 4 := hf1 174 4 (by unfold sc_; omega)
    have go : ∀ (n t : Nat), t + n = m + 1 → ∀ M2, sc_fr M M2 → rg_is M2 D → rw_ok M2 D 7 (W a) → am_g 12 0 co_X12_along (d + 32) (am_c0 sh_T fun y M2 => z = y ∧ sc_fr M M2) 35 [(2, 152), (0, a), (0, k), (0, if (al D a (W a) t).1 ≤ 10 then (al D a (W a) t).2 + 1 else -1), (0, if (al D a (W a) t).1 ≤ 10 then (al D a (W a) t).1 else -1), (0, (t : Int) - 1)] [] sh_T M2 := by
      intro n
      induction n with
      | zero =>
        intro t ht M2 p1 p2 p3
        have e : t = m + 1 := by omega
        subst e
        refine bk_X12_along_35 (sp_guideMany ?_)
        rw [p1 174 5 (by unfold sc_; omega), hm]
        refine ⟨fun _ => ⟨fun y => am_c0_i ⟨?_, p1⟩, fun y => am_c0_i ⟨?_, p1⟩⟩, fun y => by omega⟩
        · rw [hz, if_neg y]
        · rw [hz, if_pos y]
      | succ n ih =>
        intro t ht M2 p1 p2 p3
        have bt := al_in (D := D) (a := a) (w := W a) t
        refine bk_X12_along_35 (sp_guideMany ?_)
        rw [p1 174 5 (by unfold sc_; omega), hm]
        refine ⟨fun y => by omega, fun _ => ?_⟩
        have es : (t : Int) - 1 + 1 = ((t + 1 : Nat) : Int) - 1 := by omega
        have a1 : al D a (W a) (t + 1) = if sn D a ((t : Int) - 1) (W a) < (al D a (W a) t).1 then (sn D a ((t : Int) - 1) (W a), (t : Int) - 1) else al D a (W a) t := rfl
        refine sp_seeks p2 p3 ha4 ⟨by omega, by omega⟩ (fun M3 x1 x2 x3 => ?_) (fun M3 l x1 x2 x3 x4 => ?_)
        · have q := sn_no x2
          rw [if_neg (by omega)] at a1
          have r := ih (t + 1) (by omega) M3 (sc_tr p1 (ss_sc x1)) (ss_rg x1 p2) (rw_fr (fun k k0 k1 => x1 187 _ (by omega) (by omega) (by omega) (by omega)) p3)
          rw [a1, ← es] at r
          exact ⟨fun _ => ⟨⟨by omega, by omega⟩, r⟩, fun y => absurd x3 y⟩
        · have q := sn_opt x2
          have hl := x2.1
          have r := ih (t + 1) (by omega) M3 (sc_tr p1 (ss_sc x1)) (ss_rg x1 p2) (rw_fr (fun k k0 k1 => x1 187 _ (by omega) (by omega) (by omega) (by omega)) p3)
          rw [x3]
          refine ⟨fun y => by omega, fun _ => ⟨fun y => ?_, fun y => ⟨fun y2 => ?_, fun y2 => ?_⟩⟩⟩
          · have hf : (al D a (W a) t).1 = 11 := by
              by_cases e : (al D a (W a) t).1 ≤ 10
              · rw [if_pos e] at y; omega
              · omega
            rw [if_pos (by omega)] at a1
            rw [a1, ← es] at r
            refine ⟨⟨by omega, by omega⟩, ⟨by omega, by omega⟩, ?_⟩
            rw [show ((sn D a ((t : Int) - 1) (W a), (t : Int) - 1) : Int × Int).1 = (l.length : Int) from q, if_pos (by omega), if_pos (by omega)] at r
            exact r
          · have hf : (al D a (W a) t).1 ≤ 10 := by
              by_cases e : (al D a (W a) t).1 ≤ 10
              · exact e
              · rw [if_neg e] at y; exact absurd rfl y
            rw [if_pos hf] at y2
            rw [if_pos (by omega)] at a1
            rw [a1, ← es] at r
            refine ⟨⟨by omega, by omega⟩, ⟨by omega, by omega⟩, ?_⟩
            rw [show ((sn D a ((t : Int) - 1) (W a), (t : Int) - 1) : Int × Int).1 = (l.length : Int) from q, if_pos (by omega), if_pos (by omega)] at r
            exact r
          · have hf : (al D a (W a) t).1 ≤ 10 := by
              by_cases e : (al D a (W a) t).1 ≤ 10
              · exact e
              · rw [if_neg e] at y; exact absurd rfl y
            have y3 := y2
            rw [if_pos hf] at y3
            rw [if_neg (by omega)] at a1
            rw [a1, ← es] at r
            exact ⟨⟨by omega, by omega⟩, r⟩
    refine en_X12_along (bk_X12_along_0 (sp_isDreamer (by rw [e4]; exact h3.2) ⟨fun y => ?_, fun _ => sp_isIn ⟨fun _ => sp_lays7 hb1.2.1 (hb1.2.2.2.2 a ha.1 ha4.2).2 (fun M2 k1 k2 k3 k4 => ?_), fun y => absurd ⟨q2, q3⟩ (am_b_z.mp y)⟩⟩))
    · rw [e4] at y
      exact absurd ha (am_b_z.mp y)
    · exact go (m + 1) 0 (Nat.zero_add _) M2 (sc_tr hf1 k1) k2 k4
  refine ⟨v4 ha4, st_findGuide (m := m) hb.1 h5.1 (by omega) ⟨by omega, by omega, by omega⟩ (fun M1 k1 k2 => ⟨fun y => am_c0_i ⟨k1, ref M1 _ k1 ?_⟩, fun y => ⟨fun y2 => ?_, fun y2 => am_c0_i ⟨k1, ref M1 _ k1 ?_⟩⟩⟩)⟩
  · rw [if_neg (show ¬ k = 0 by omega)]
  · have hf : (al D a (W a) (m + 1)).1 ≤ 10 := by
      by_cases e : (al D a (W a) (m + 1)).1 ≤ 10
      · exact e
      · rw [if_neg e] at y2; exact absurd rfl y2
    rw [k2 hf]
    refine ⟨⟨by omega, by omega⟩, am_c0_i ⟨k1, ref M1 _ k1 ?_⟩⟩
    rw [if_pos hf, if_pos (by omega)]
  · by_cases e : (al D a (W a) (m + 1)).1 ≤ 10
    · rw [if_pos e] at y2; omega
    · rw [if_neg e, if_neg e]
