/-! CHANCE: a share in the reference -/
theorem sp_likely {d : Nat} {M : am_M} {f : Int → am_M → Prop} {a g L : Int} {D : dm_D} {w : Int → Int} {n : Nat} (hn : n ≤ 4) (hL : 0 ≤ dL D ∧ dL D ≤ 100) (hd : rg_is M D) (hs : rs_ok M D a g w) (h : ∀ M', sc_fr M M' → f (if pu_home D (lgk D a g L w n) then lsh D L n else 0) M') : am_cal pg (d + 5) 262 [(2, 152), (0, L), (0, (n : Int)), (0, a)] sh_T M (am_c1 sh_T f) := by
  have ha := hs.1
  have go : ∀ (m i : Nat), i + m = n → ∀ M1 : am_M, sc_fr M M1 → rg_is M1 D → rs_ok M1 D a g w → rw_ok M1 D 0 (lgk D a g L w i) → am_g 12 1 co_X12_likely (d + 4) (am_c1 sh_T f) 12 [(2, 152), (0, L), (0, (n : Int)), (0, a), (1, lsh D L i), (3, 0), (0, (i : Int)), (3, 0), (3, 0)] [] sh_T M1 := by
    intro m
    induction m with
    | zero =>
      intro i hi M1 p1 p2 p3 p4
      have e : i = n := by omega
      subst e
      have q := h M1 p1
      refine bk_X12_likely_12 ⟨fun _ => sp_home p2 p4 ⟨fun z => am_c1_i ?_, fun z => am_c1_i ?_⟩, fun z => by omega⟩
      · rw [if_neg (am_b_z.mp z)] at q; exact q
      · rw [if_pos (am_b_nz z)] at q; exact q
    | succ m ih =>
      intro i hi M1 p1 p2 p3 p4
      have b1 := lsh_4 (L := L) hL (t := i + 1) (by omega)
      have wof : ¬ bt_ L i → lsh D L (i + 1) = lsh D L i * (100 - dL D) := fun y => by show lsh D L i * _ = _; rw [if_neg y]
      have won : bt_ L i → lsh D L (i + 1) = lsh D L i * dL D := fun y => by show lsh D L i * _ = _; rw [if_pos y]
      have big : am_rl (lsh D L (i + 1)) := ⟨by omega, by omega⟩
      have nxt : ∀ M2, sc_fr M M2 → rg_is M2 D → rs_ok M2 D a g w → rw_ok M2 D 0 (lgk D a g L w (i + 1)) → am_g 12 1 co_X12_likely (d + 4) (am_c1 sh_T f) 104 [(2, 152), (0, L), (0, (n : Int)), (0, a), (1, lsh D L (i + 1)), (3, 0), (0, (i : Int)), (3, 0), (3, 0)] [] sh_T M2 := fun M2 q1 q2 q3 q4 => bk_X12_likely_104 ⟨⟨by omega, by omega⟩, ih (i + 1) (by omega) M2 q1 q2 q3 q4⟩
      have eS : M1 179 (3 + 1) = dL D := p2.2.2.2.1
      have stay : pu_home D (lgk D a g L w i) → rw_ok M1 D 0 (lgk D a g L w (i + 1)) := fun y => by
        have e : lgk D a g L w (i + 1) = lgk D a g L w i := if_pos y
        rw [e]; exact p4
      have fr : ∀ M2, ro_fr 0 M1 M2 → sc_fr M M2 ∧ rs_ok M2 D a g w := fun M2 k => ⟨sc_tr p1 (fun x j z => by unfold sc_ at z; exact k x j (by omega) (by omega) (by omega) (by omega)), rs_ok_fr (fun j => k 186 j (by decide) (by decide) (by omega) (by omega)) p3⟩
      refine bk_X12_likely_12 ⟨fun z => by omega, fun _ => ⟨fun y => sp_settingOf (by decide) (by decide) ?_, fun y => sp_settingOf (by decide) (by decide) ?_⟩⟩
      · rw [eS, ← wof y]
        refine ⟨⟨by omega, by omega⟩, big, sp_home p2 p4 ⟨fun z => sp_guideOf (v4 ha) ?_, fun z => nxt M1 p1 p2 p3 (stay (am_b_nz z))⟩⟩
        have hh := am_b_z.mp z
        rw [p3.2.1.1]
        refine sp_room0 p2 p4 ha hs.2.1.2 hh (fun M2 f2 d2 w2 => ?_)
        have k := fr M2 f2
        have e : lgk D a g L w (i + 1) = pu_step D a g false (lgk D a g L w i) := by
          show (if pu_home D (lgk D a g L w i) then _ else _) = _
          rw [if_neg hh, if_neg y]
        exact nxt M2 k.1 d2 k.2 (by rw [e]; exact w2)
      · rw [eS, ← won y]
        refine ⟨big, sp_home p2 p4 ⟨fun z => sp_guideOf (v4 ha) ?_, fun z => nxt M1 p1 p2 p3 (stay (am_b_nz z))⟩⟩
        have hh := am_b_z.mp z
        rw [p3.2.1.1]
        have hn0 := pu_away p2.1 p4.2.2 hh
        refine sp_room0 p2 p4 ha hs.2.1.2 hh (fun M2 f2 d2 w2 => ⟨fun x => ?_, fun _ => sp_laughs d2 w2 (fun M3 f3 w3 => ?_)⟩)
        · unfold pu_dread pu_with at x
          rw [if_neg (by decide)] at x
          have := (pu_wst_in (g := g) (r := df_ D g) (w := lgk D a g L w i) hn0).1
          omega
        · have k := fr M2 f2
          have e : lgk D a g L w (i + 1) = pu_lg (pu_step D a g false (lgk D a g L w i)) := by
            show (if pu_home D (lgk D a g L w i) then _ else _) = _
            rw [if_neg hh, if_pos y]
          exact nxt M3 (sc_tr k.1 (fun x j z => by unfold sc_ at z; exact f3 x j (by omega))) (rg_is_fr (fun x j x1 x2 => f3 x j (by omega)) d2) (rs_ok_fr (fun j => f3 186 j (by omega)) k.2) (by rw [e]; exact w3)
  exact en_X12_likely (bk_X12_likely_0 (sp_lays hd hs (fun M1 q1 q2 q3 q4 => go n 0 (Nat.zero_add _) M1 q1 q2 q3 q4)))
