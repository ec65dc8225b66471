/-! on ON BOTH SIDES -/
theorem st_on {d : Nat} {M : am_M} {f : Int → am_M → Prop} {N : Nat} {A g : Int} (hu : dr_is (M 0 4)) (hN : M (M 0 4 + 2) 0 = N) (hA : M (M 0 4 + 2) 1 = A) (hg : M (M 0 4 + 2) 2 = g) (hN6 : N ≤ 6) (hA4 : 0 ≤ A ∧ A ≤ 4) (ht : 0 ≤ M 1 1 ∧ M 1 1 ≤ 1600) (hb : ∀ j : Int, 0 ≤ j → j < M 1 1 → 0 ≤ M 2 j ∧ M 2 j ≤ 255) (hr : 0 ≤ M 151 5 ∧ M 151 5 ≤ 1000000)
    (h1 : po_ (M 2) (M 1 1) N A g → ∀ M', (∀ x j, ¬ (38 ≤ x ∧ x ≤ 45) → ¬ (x = 46 ∧ j = 2) → ¬ (x = 1 ∧ j = 1) → M' x j = M x j) → M' 1 1 = 0 → M' 46 2 = 0 → (∀ b : Int, 0 ≤ b → b < 4 → (∀ y, ¬ y = 2 → M' (37 + 1 + 2 * b) y = M (37 + 1 + 2 * b) y) ∧ ∀ y, ¬ (0 ≤ y ∧ y < (N : Int)) → M' (37 + 1 + 2 * b + 1) y = M (37 + 1 + 2 * b + 1) y) → (∀ b : Int, 0 ≤ b → b < A → M' (37 + 1 + 2 * b) 2 = M 2 (ps_ N b) - 1 ∧ ∀ j : Int, 0 ≤ j → j < (N : Int) → M' (37 + 1 + 2 * b + 1) j = pk_ (M 2) N b j) → f 1 M')
    (h0 : ¬ po_ (M 2) (M 1 1) N A g → f 0 (am_up (am_up M 151 5 (M 151 5 + 1)) 1 1 0)) : am_cal pg (d + 4) 158 [(2, 0)] sh_T M (am_c0 sh_T f) := by
  have hcc := hu
  unfold dr_is at hcc
  have hp4 := ps_le (N := N) hA4.2
  have hp40 : ps_ N A ≤ 52 := by unfold ps_ at hp4 ⊢; omega
  have good : po_ (M 2) (M 1 1) N A g → ∀ (m a : Nat) (M1 : am_M), (a : Int) + m = A → (∀ x j, ¬ (38 ≤ x ∧ x ≤ 45) → M1 x j = M x j) → (∀ b : Int, 0 ≤ b → b < 4 → (∀ y, ¬ y = 2 → M1 (37 + 1 + 2 * b) y = M (37 + 1 + 2 * b) y) ∧ ∀ y, ¬ (0 ≤ y ∧ y < (N : Int)) → M1 (37 + 1 + 2 * b + 1) y = M (37 + 1 + 2 * b + 1) y) → (∀ b : Int, 0 ≤ b → b < a → M1 (37 + 1 + 2 * b) 2 = M 2 (ps_ N b) - 1 ∧ ∀ j : Int, 0 ≤ j → j < (N : Int) → M1 (37 + 1 + 2 * b + 1) j = pk_ (M 2) N b j) → am_g 11 5 co_X11_on (d + 3) (am_c0 sh_T f) 13 [(2, 0), (0, 1), (0, ps_ N a), (0, (a : Int)), (3, 0)] [] sh_T M1 := by
    intro hpo m
    induction m with
    | zero =>
      intro a M1 ha fr same done
      have e4 : M1 0 4 = M 0 4 := fr 0 4 (by omega)
      refine bk_X11_on_13 ⟨by rw [e4]; exact dr_ob hu, ?_⟩
      rw [e4]
      refine st_count hu ?_
      rw [if_pos (by decide), fr (M 0 4 + 2) 1 (by omega), hA]
      refine ⟨fun _ => en_X0_forget (bk_X0_forget_0 (am_cv_i (en_X9_wipe (bk_X9_wipe_0 (am_cv_i ⟨Or.inr rfl, am_c0_i (h1 hpo _ (fun x j y1 y2 y3 => ?_) am_up_at ?_ (fun b b0 b1 => ⟨fun y hy => ?_, fun y hy => ?_⟩) (fun b b0 b1 => ⟨?_, fun j j0 j1 => ?_⟩))⟩))))), fun y => by omega⟩
      · rw [am_up_el (by omega), am_up_el (by omega)]; exact fr x j y1
      · rw [am_up_el (by omega), am_up_at]
      · rw [am_up_el (by omega), am_up_el (by omega)]; exact (same b b0 b1).1 y hy
      · rw [am_up_el (by omega), am_up_el (by omega)]; exact (same b b0 b1).2 y hy
      · rw [am_up_el (by omega), am_up_el (by omega)]; exact (done b b0 (by omega)).1
      · rw [am_up_el (by omega), am_up_el (by omega)]; exact (done b b0 (by omega)).2 j j0 j1
    | succ m ih =>
      intro a M1 ha fr same done
      have hp := ps_bd (a := (a : Int)) hN6 hA4 (by omega) (by omega)
      have hR := hpo.1
      have e4 : M1 0 4 = M 0 4 := fr 0 4 (by omega)
      have hsl := sl_row_37 (i := (a : Int)) (by omega) (by omega)
      have inner : ∀ (m2 j : Nat), j + m2 = N → ∀ M2 : am_M, (∀ x y, ¬ (38 ≤ x ∧ x ≤ 45) → M2 x y = M x y) → (∀ b : Int, 0 ≤ b → b < 4 → (∀ y, ¬ y = 2 → M2 (37 + 1 + 2 * b) y = M (37 + 1 + 2 * b) y) ∧ ∀ y, ¬ (0 ≤ y ∧ y < (N : Int)) → M2 (37 + 1 + 2 * b + 1) y = M (37 + 1 + 2 * b + 1) y) → (∀ b : Int, 0 ≤ b → b < a → M2 (37 + 1 + 2 * b) 2 = M 2 (ps_ N b) - 1 ∧ ∀ j : Int, 0 ≤ j → j < (N : Int) → M2 (37 + 1 + 2 * b + 1) j = pk_ (M 2) N b j) → M2 (37 + 1 + 2 * (a : Int)) 2 = M 2 (ps_ N a) - 1 → (∀ i : Int, 0 ≤ i → i < j → M2 (37 + 1 + 2 * (a : Int) + 1) i = pk_ (M 2) N a i) → am_g 11 5 co_X11_on (d + 3) (am_c0 sh_T f) 59 [(2, 0), (0, 1), (0, ps_ N a + 1 + 2 * (j : Int)), (0, (a : Int)), (0, (j : Int))] [] sh_T M2 := by
        intro m2
        induction m2 with
        | zero =>
          intro j hj M2 f2 s2 d2 g2 w2
          have e42 : M2 0 4 = M 0 4 := f2 0 4 (by omega)
          refine bk_X11_on_59 ⟨by rw [e42]; exact dr_ob hu, ?_⟩
          rw [e42]
          refine st_count hu ?_
          rw [if_pos (by decide), f2 (M 0 4 + 2) 0 (by omega), hN]
          refine ⟨fun _ => ⟨⟨by omega, by omega⟩, ?_⟩, fun y => by omega⟩
          rw [show ps_ N (a : Int) + 1 + 2 * (j : Int) = ps_ N ((a + 1 : Nat) : Int) by rw [show ((a + 1 : Nat) : Int) = (a : Int) + 1 by omega, ps_s]; omega]
          refine ih (a + 1) M2 (by omega) f2 s2 (fun b b0 b1 => ?_)
          by_cases z : b = (a : Int)
          · rw [z]; exact ⟨g2, fun i i0 i1 => w2 i i0 (by omega)⟩
          · exact d2 b b0 (by omega)
        | succ m2 ih2 =>
          intro j hj M2 f2 s2 d2 g2 w2
          have e42 : M2 0 4 = M 0 4 := f2 0 4 (by omega)
          have e11 : M2 1 1 = M 1 1 := f2 1 1 (by omega)
          have e2 : M2 2 = M 2 := funext fun y => f2 2 y (by omega)
          refine bk_X11_on_59 ⟨by rw [e42]; exact dr_ob hu, ?_⟩
          rw [e42]
          refine st_count hu ?_
          rw [if_pos (by decide), f2 (M 0 4 + 2) 0 (by omega), hN]
          refine ⟨fun y => by omega, fun _ => ⟨⟨by omega, by omega⟩, st_pairAt (by rw [e11]; exact ht) (by rw [e11, e2]; exact hb) (by rw [e11]; exact ⟨by omega, by omega⟩) ⟨hsl.1, st_put hsl (by omega) (by omega) ⟨⟨by omega, by omega⟩, ⟨by omega, by omega⟩, ?_⟩⟩⟩⟩
          have ep : 256 * M2 2 (ps_ N (a : Int) + 1 + 2 * (j : Int)) + M2 2 (ps_ N (a : Int) + 1 + 2 * (j : Int) + 1) = pk_ (M 2) N a j := by
            unfold pk_
            rw [e2, show ps_ N (a : Int) + 1 + 2 * (j : Int) + 1 = ps_ N (a : Int) + 2 + 2 * (j : Int) by omega]
          rw [ep, show ps_ N (a : Int) + 1 + 2 * (j : Int) + 2 = ps_ N a + 1 + 2 * ((j + 1 : Nat) : Int) by omega]
          refine ih2 (j + 1) (by omega) _ (fun x y hx => ?_) (fun b b0 b1 => ⟨fun y hy => ?_, fun y hy => ?_⟩) (fun b b0 b1 => ⟨?_, fun i i0 i1 => ?_⟩) ?_ (fun i i0 i1 => ?_)
          · rw [am_up_el (by omega)]; exact f2 x y hx
          · rw [am_up_el (by omega)]; exact (s2 b b0 b1).1 y hy
          · rw [am_up_el (by omega)]; exact (s2 b b0 b1).2 y hy
          · rw [am_up_el (by omega)]; exact (d2 b b0 b1).1
          · rw [am_up_el (by omega)]; exact (d2 b b0 b1).2 i i0 i1
          · rw [am_up_el (by omega)]; exact g2
          · by_cases z : i = (j : Int)
            · rw [z, am_up_at]
            · rw [am_up_el (by omega)]; exact w2 i i0 (by omega)
      have hbb := hb (ps_ N a) hp.1 (by omega)
      refine bk_X11_on_13 ⟨by rw [e4]; exact dr_ob hu, ?_⟩
      rw [e4]
      refine st_count hu ?_
      rw [if_pos (by decide), fr (M 0 4 + 2) 1 (by omega), hA]
      refine ⟨fun y => by omega, fun _ => ⟨fun y => by omega, fun _ => ⟨⟨by omega, by omega⟩, st_byteAt (by rw [fr 1 1 (by omega)]; exact ht.2) ?_⟩⟩⟩
      rw [show rd_by (M1 2) (M1 1 1) (ps_ N a) = M 2 (ps_ N a) by
        unfold rd_by
        rw [fr 1 1 (by omega), if_pos ⟨hp.1, by omega⟩, fr 2 _ (by omega)]]
      refine ⟨⟨by omega, by omega⟩, hsl.1, ⟨by omega, by omega⟩, ?_⟩
      have r := inner N 0 (Nat.zero_add _) (am_up M1 (37 + 1 + 2 * (a : Int)) 2 (M 2 (ps_ N a) - 1)) (fun x y hx => by rw [am_up_el (by omega)]; exact fr x y hx) (fun b b0 b1 => ⟨fun y hy => by rw [am_up_el (by omega)]; exact (same b b0 b1).1 y hy, fun y hy => by rw [am_up_el (by omega)]; exact (same b b0 b1).2 y hy⟩) (fun b b0 b1 => ⟨by rw [am_up_el (by omega)]; exact (done b b0 b1).1, fun i i0 i1 => by rw [am_up_el (by omega)]; exact (done b b0 b1).2 i i0 i1⟩) am_up_at (fun i i0 i1 => by omega)
      rw [show ps_ N (a : Int) + 1 + 2 * ((0 : Nat) : Int) = ps_ N a + 1 by omega] at r
      exact r
  refine en_X11_on (bk_X11_on_0 (st_isPicture (d := d) hu hN hA hg hN6 hA4 ht hb (fun hpo => ⟨fun y => absurd y (by decide), fun _ => ?_⟩) (fun hno => ⟨fun _ => st_refuse (by decide) hr (en_X9_wipe (bk_X9_wipe_0 (am_cv_i ⟨Or.inl rfl, am_c0_i (h0 hno)⟩))), fun y => absurd rfl y⟩)))
  have r := good hpo A.toNat 0 M (by omega) (fun x j _ => rfl) (fun b _ _ => ⟨fun _ _ => rfl, fun _ _ => rfl⟩) (fun b b0 b1 => by omega)
  rw [show ps_ N ((0 : Nat) : Int) = 0 from ps_0] at r
  exact r
/-- the reference: is it a picture -/
theorem sp_isTold {d : Nat} {M : am_M} {f : Int → am_M → Prop} {N : Nat} {A g R : Int} {t : Int → Int} (hN : M 174 3 = N) (hA : M 174 4 = A) (hg : M 174 5 = g) (hN6 : N ≤ 6) (hA4 : 0 ≤ A ∧ A ≤ 4) (ht : 0 ≤ R ∧ R ≤ 1600) (htt : ∀ j, M 153 j = t j) (hb : ∀ j : Int, 0 ≤ j → j < R → 0 ≤ t j ∧ t j ≤ 255) (h1 : po_ t R N A g → f 1 M) (h0 : ¬ po_ t R N A g → f 0 M) : am_cal pg (d + 2) 311 [(2, 152), (0, R)] sh_T M (am_c0 sh_T f) := by
  have hp4 := ps_le (N := N) hA4.2
  have hp40 : ps_ N A ≤ 52 := by unfold ps_ at hp4 ⊢; omega
  have e153 : M 153 = t := funext htt
  have rows : R = ps_ N A + 1 → t (R - 1) = ickf (tls t (R - 1).toNat 0) 181 → ∀ (m a : Nat), (a : Int) + m = A → (∀ b : Int, 0 ≤ b → b < a → t (ps_ N b) ≤ g ∧ ∀ j : Int, 0 ≤ j → j < (N : Int) → pk_ t N b j ≤ 999) → am_g 12 5 co_X12_isTold (d + 1) (am_c0 sh_T f) 46 [(2, 152), (3, 0), (0, 1 + 2 * (N : Int)), (0, (a : Int)), (3, 0)] [] sh_T M := by
    intro hR hck m
    induction m with
    | zero =>
      intro a ha hall
      refine bk_X12_isTold_46 (sp_dreamerMany ?_)
      rw [hA]
      exact ⟨fun _ => am_c0_i (h1 ⟨hR, hck, fun b b0 b1 => hall b b0 (by omega)⟩), fun y => by omega⟩
    | succ m ih =>
      intro a ha hall
      have hp := ps_bd (a := (a : Int)) hN6 hA4 (by omega) (by omega)
      have epa : (1 + 2 * (N : Int)) * (a : Int) = ps_ N a := rfl
      have inner : t (ps_ N a) ≤ g → ∀ (m2 j : Nat), j + m2 = N → (∀ i : Int, 0 ≤ i → i < j → pk_ t N a i ≤ 999) → am_g 12 5 co_X12_isTold (d + 1) (am_c0 sh_T f) 74 [(2, 152), (3, 0), (0, 1 + 2 * (N : Int)), (0, (a : Int)), (0, (j : Int))] [] sh_T M := by
        intro hga m2
        induction m2 with
        | zero =>
          intro j hj hi
          refine bk_X12_isTold_74 (sp_dreadMany ?_)
          rw [hN]
          refine ⟨fun _ => ⟨⟨by omega, by omega⟩, ih (a + 1) (by omega) (fun b b0 b1 => ?_)⟩, fun y => by omega⟩
          by_cases z : b = (a : Int)
          · rw [z]; exact ⟨hga, fun i i0 i1 => hi i i0 (by omega)⟩
          · exact hall b b0 (by omega)
        | succ m2 ih2 =>
          intro j hj hi
          have b1 := hb (ps_ N a + 1 + 2 * j) (by omega) (by omega)
          have b2 := hb (ps_ N a + 2 + 2 * j) (by omega) (by omega)
          refine bk_X12_isTold_74 (sp_dreadMany ?_)
          rw [hN, epa, e153]
          refine ⟨fun y => by omega, fun _ => ⟨⟨by omega, by omega⟩, ⟨by omega, by omega⟩, ⟨by omega, by omega⟩, ⟨by omega, by omega⟩, ⟨by omega, by omega⟩, ⟨by omega, by omega⟩, ⟨by omega, by omega⟩, ⟨by omega, by omega⟩, ⟨by omega, by omega⟩, ⟨by omega, by omega⟩, ⟨by omega, by omega⟩, ⟨by omega, by omega⟩, fun y => ⟨⟨by omega, by omega⟩, ih2 (j + 1) (by omega) (fun i i0 i1 => ?_)⟩, fun y => am_c0_i (h0 (fun w => ?_))⟩⟩
          · by_cases z : i = (j : Int)
            · rw [z]; exact y
            · exact hi i i0 (by omega)
          · have q := (w.2.2 a (by omega) (by omega)).2 j (by omega) (by omega)
            unfold pk_ at q
            omega
      refine bk_X12_isTold_46 (sp_dreamerMany ?_)
      rw [hA, epa]
      refine ⟨fun y => by omega, fun _ => ⟨⟨by omega, by omega⟩, ⟨by omega, by omega⟩, sp_guideMany ?_⟩⟩
      rw [hg, e153]
      exact ⟨fun y => inner y N 0 (Nat.zero_add _) (fun i i0 i1 => by omega), fun y => am_c0_i (h0 (fun w => by have := (w.2.2 a (by omega) (by omega)).1; omega))⟩
  have hp0 := ps_le (N := N) hA4.1
  rw [ps_0] at hp0
  refine en_X12_isTold (bk_X12_isTold_0 (sp_dreadMany ?_))
  rw [hN]
  refine ⟨⟨by omega, by omega⟩, ⟨by omega, by omega⟩, sp_dreamerMany ?_⟩
  rw [hA, show (1 + 2 * (N : Int)) * A = ps_ N A from rfl]
  refine ⟨⟨by omega, by omega⟩, ⟨by omega, by omega⟩, fun y => am_c0_i (h0 (fun w => y w.1)), fun y => ⟨⟨by omega, by omega⟩, ⟨by omega, by omega⟩, ⟨by omega, by omega⟩, ?_⟩⟩
  have hl : (tls t (R - 1).toNat 0).length = (R - 1).toNat := tls_len _ _
  have el : ((tls t (R - 1).toNat 0).length : Int) = R - 1 := by rw [hl]; omega
  rw [← el]
  refine sp_checked (fun i hi => ia_153 (by omega) (by omega)) (fun i hi => ?_) (fun x hx => ?_) (by omega) ?_
  · rw [tls_at _ _ _ (by omega), Int.zero_add]; exact htt i
  · obtain ⟨j, j1, rfl⟩ := tls_mem _ _ _ hx
    exact hb _ (by omega) (by omega)
  · rw [el, e153]
    exact ⟨fun z => rows y z A.toNat 0 (by omega) (fun b b0 b1 => by omega), fun z => am_c0_i (h0 (fun w => z w.2.1))⟩
theorem sp_on {d : Nat} {M : am_M} {f : Int → am_M → Prop} {N : Nat} {A g R : Int} {t : Int → Int} (hN : M 174 3 = N) (hA : M 174 4 = A) (hg : M 174 5 = g) (hN6 : N ≤ 6) (hA4 : 0 ≤ A ∧ A ≤ 4) (hR : M 152 1 = R) (ht : 0 ≤ R ∧ R ≤ 1600) (htt : ∀ j, M 153 j = t j) (hb : ∀ j : Int, 0 ≤ j → j < R → 0 ≤ t j ∧ t j ≤ 255) (hr : am_r (M 154 5 + 1))
    (h1 : po_ t R N A g → ∀ M', (∀ x j, ¬ x = 186 → ¬ (x = 152 ∧ (j = 1 ∨ j = 58)) → M' x j = M x j) → M' 152 1 = 0 → M' 152 58 = 0 → (∀ b : Int, 0 ≤ b → b < 4 → ∀ j : Int, (N : Int) ≤ j → j < 6 → M' 186 (7 * b + 1 + j) = M 186 (7 * b + 1 + j)) → (∀ b : Int, 0 ≤ b → b < A → M' 186 (7 * b) = t (ps_ N b) - 1 ∧ ∀ j : Int, 0 ≤ j → j < (N : Int) → M' 186 (7 * b + 1 + j) = pk_ t N b j) → f 1 M')
    (h0 : ¬ po_ t R N A g → f 0 (am_up (am_up M 152 1 0) 154 5 (M 154 5 + 1))) : am_cal pg (d + 3) 312 [(2, 152)] sh_T M (am_c0 sh_T f) := by
  have e0 : ∀ x j, ¬ (x = 152 ∧ j = 1) → am_up M 152 1 0 x j = M x j := fun x j y => am_up_el y
  have rows : po_ t R N A g → ∀ (m a : Nat) (M1 : am_M), (a : Int) + m = A → (∀ x j, ¬ x = 186 → ¬ (x = 152 ∧ j = 1) → M1 x j = M x j) → M1 152 1 = 0 → (∀ b : Int, 0 ≤ b → b < 4 → ∀ j : Int, (N : Int) ≤ j → j < 6 → M1 186 (7 * b + 1 + j) = M 186 (7 * b + 1 + j)) → (∀ b : Int, 0 ≤ b → b < a → M1 186 (7 * b) = t (ps_ N b) - 1 ∧ ∀ j : Int, 0 ≤ j → j < (N : Int) → M1 186 (7 * b + 1 + j) = pk_ t N b j) → am_g 12 5 co_X12_on (d + 2) (am_c0 sh_T f) 41 [(2, 152), (3, 0), (0, 1 + 2 * (N : Int)), (0, (a : Int)), (3, 0)] [] sh_T M1 := by
    intro hpo m
    have hRp := hpo.1
    induction m with
    | zero =>
      intro a M1 ha fr f1 same done
      refine bk_X12_on_41 (sp_dreamerMany ?_)
      rw [fr 174 4 (by omega) (by omega), hA]
      refine ⟨fun _ => am_c0_i (h1 hpo _ (fun x j y1 y2 => ?_) ?_ am_up_at (fun b b0 b1 j j0 j1 => ?_) (fun b b0 b1 => ⟨?_, fun j j0 j1 => ?_⟩)), fun y => by omega⟩
      · rw [am_up_el (by omega)]; exact fr x j y1 (by omega)
      · rw [am_up_el (by omega)]; exact f1
      · rw [am_up_el (by omega)]; exact same b b0 b1 j j0 j1
      · rw [am_up_el (by omega)]; exact (done b b0 (by omega)).1
      · rw [am_up_el (by omega)]; exact (done b b0 (by omega)).2 j j0 j1
    | succ m ih =>
      intro a M1 ha fr f1 same done
      have hp := ps_bd (a := (a : Int)) hN6 hA4 (by omega) (by omega)
      have epa : (1 + 2 * (N : Int)) * (a : Int) = ps_ N a := rfl
      have hbb := hb (ps_ N a) hp.1 (by omega)
      have inner : ∀ (m2 j : Nat) (M2 : am_M), j + m2 = N → (∀ x j, ¬ x = 186 → ¬ (x = 152 ∧ j = 1) → M2 x j = M x j) → M2 152 1 = 0 → (∀ b : Int, 0 ≤ b → b < 4 → ∀ j : Int, (N : Int) ≤ j → j < 6 → M2 186 (7 * b + 1 + j) = M 186 (7 * b + 1 + j)) → (∀ b : Int, 0 ≤ b → b < a → M2 186 (7 * b) = t (ps_ N b) - 1 ∧ ∀ j : Int, 0 ≤ j → j < (N : Int) → M2 186 (7 * b + 1 + j) = pk_ t N b j) → M2 186 (7 * (a : Int)) = t (ps_ N a) - 1 → (∀ i : Int, 0 ≤ i → i < j → M2 186 (7 * (a : Int) + 1 + i) = pk_ t N a i) → am_g 12 5 co_X12_on (d + 2) (am_c0 sh_T f) 71 [(2, 152), (3, 0), (0, 1 + 2 * (N : Int)), (0, (a : Int)), (0, (j : Int))] [] sh_T M2 := by
        intro m2
        induction m2 with
        | zero =>
          intro j M2 hj g1 g2 g3 g4 g5 g6
          refine bk_X12_on_71 (sp_dreadMany ?_)
          rw [g1 174 3 (by omega) (by omega), hN]
          refine ⟨fun _ => ⟨⟨by omega, by omega⟩, ih (a + 1) M2 (by omega) g1 g2 g3 (fun b b0 b1 => ?_)⟩, fun y => by omega⟩
          by_cases z : b = (a : Int)
          · rw [z]; exact ⟨g5, fun i i0 i1 => g6 i i0 (by omega)⟩
          · exact g4 b b0 (by omega)
        | succ m2 ih2 =>
          intro j M2 hj g1 g2 g3 g4 g5 g6
          have b1 := hb (ps_ N a + 1 + 2 * j) (by omega) (by omega)
          have b2 := hb (ps_ N a + 2 + 2 * j) (by omega) (by omega)
          have e153 : M2 153 = t := funext fun y => (g1 153 y (by omega) (by omega)).trans (htt y)
          refine bk_X12_on_71 (sp_dreadMany ?_)
          rw [g1 174 3 (by omega) (by omega), hN, epa, e153]
          refine ⟨fun y => by omega, fun _ => ⟨⟨by omega, by omega⟩, ⟨by omega, by omega⟩, ⟨by omega, by omega⟩, ⟨by omega, by omega⟩, ⟨by omega, by omega⟩, ⟨by omega, by omega⟩, ⟨by omega, by omega⟩, ⟨by omega, by omega⟩, ⟨by omega, by omega⟩, ⟨by omega, by omega⟩, ⟨by omega, by omega⟩, ⟨by omega, by omega⟩, ⟨by omega, by omega⟩, ⟨by omega, by omega⟩, ⟨by omega, by omega⟩, ⟨by omega, by omega⟩, ⟨by omega, by omega⟩, ih2 (j + 1) _ (by omega) (fun x y y1 y2 => ?_) ?_ (fun b b0 b1 i i0 i1 => ?_) (fun b b0 b1 => ⟨?_, fun i i0 i1 => ?_⟩) ?_ (fun i i0 i1 => ?_)⟩⟩
          · rw [am_up_el (by omega)]; exact g1 x y y1 y2
          · rw [am_up_el (by omega)]; exact g2
          · rw [am_up_el (by omega)]; exact g3 b b0 b1 i i0 i1
          · rw [am_up_el (by omega)]; exact (g4 b b0 b1).1
          · rw [am_up_el (by omega)]; exact (g4 b b0 b1).2 i i0 i1
          · rw [am_up_el (by omega)]; exact g5
          · by_cases z : i = (j : Int)
            · rw [z, am_up_at]; rfl
            · rw [am_up_el (by omega)]; exact g6 i i0 (by omega)
      refine bk_X12_on_41 (sp_dreamerMany ?_)
      rw [fr 174 4 (by omega) (by omega), hA, epa, fr 153 _ (by omega) (by omega), htt]
      refine ⟨fun y => by omega, fun _ => ⟨⟨by omega, by omega⟩, ⟨by omega, by omega⟩, ⟨by omega, by omega⟩, ⟨by omega, by omega⟩, ⟨by omega, by omega⟩, inner N 0 _ (Nat.zero_add _) (fun x y y1 y2 => ?_) ?_ (fun b b0 b1 i i0 i1 => ?_) (fun b b0 b1 => ⟨?_, fun i i0 i1 => ?_⟩) am_up_at (fun i i0 i1 => by omega)⟩⟩
      · rw [am_up_el (by omega)]; exact fr x y y1 y2
      · rw [am_up_el (by omega)]; exact f1
      · rw [am_up_el (by omega)]; exact same b b0 b1 i i0 i1
      · rw [am_up_el (by omega)]; exact (done b b0 b1).1
      · rw [am_up_el (by omega)]; exact (done b b0 b1).2 i i0 i1
  refine en_X12_on (bk_X12_on_0 ?_)
  rw [hR]
  refine sp_isTold (d := d) (N := N) (A := A) (g := g) (t := t) ((e0 174 3 (by omega)).trans hN) ((e0 174 4 (by omega)).trans hA) ((e0 174 5 (by omega)).trans hg) hN6 hA4 ht (fun j => (e0 153 j (by omega)).trans (htt j)) hb (fun hpo => ⟨fun _ => sp_dreadMany ?_, fun y => absurd y (by decide)⟩) (fun hno => ⟨fun y => absurd rfl y, fun _ => ?_⟩)
  · rw [e0 174 3 (by omega), hN]
    exact ⟨⟨by omega, by omega⟩, ⟨by omega, by omega⟩, rows hpo A.toNat 0 _ (by omega) (fun x j y1 y2 => e0 x j y2) am_up_at (fun b b0 b1 j j0 j1 => e0 _ _ (by omega)) (fun b b0 b1 => by omega)⟩
  · rw [e0 154 5 (by omega)]
    exact ⟨hr, am_c0_i (h0 hno)⟩
