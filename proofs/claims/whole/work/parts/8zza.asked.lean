/-! ask: the reference, the class, both -/
theorem sp_asked {d : Nat} {K : am_M} {f : Int → am_M → Prop} {D : dm_D} {G : Int → Int} {W : Int → Int → Int} {a : Int} (hb : bt_ok K D G W) (hw : rw_all K) (h0 : 0 ≤ K 152 1 ∧ K 152 1 ≤ 1600)
    (hN : ¬ (0 ≤ a ∧ a < K 174 4) → f (-1000000000000000) (am_up K 152 1 0)) (hF : (0 ≤ a ∧ a < K 174 4) → ∀ k z, pq_ (K 153) (K 152 1) = .error (k, z) → ∀ M', rq2_ K M' → (∀ x j, x < 150 → M' x j = K x j) → M' 152 1 = 0 → M' 152 7 = k → M' 152 8 = z → f (-1000000000000000) M')
    (hO : (0 ≤ a ∧ a < K 174 4) → ∀ p en hd C, pq_ (K 153) (K 152 1) = .ok (p, en, (hd, C)) → ∀ (T : Nat) (M' : am_M), wk_is D a (G a) (W a) T → rq2_ K M' → (∀ x j, x < 150 → M' x j = K x j) → M' 152 1 = 0 → M' 152 7 = 0 → M' 152 8 = -1 → f (qa_ hd (qv2_ D a (G a) (W a) C) T) M') : am_cal pg (d + 47) 305 [(2, 152), (0, a)] sh_T K (am_c1 sh_T f) := by
  have h4 := hb.2.2.1
  refine en_X12_ask (bk_X12_ask_0 (sp_isDreamer h4.2 ⟨fun q => ?_, fun q => am_c1_i (hN (am_b_z.mp q))⟩))
  have ha := am_b_nz q
  have ha4 : 0 ≤ a ∧ a < 4 ∧ a < dA D := by omega
  generalize hB : am_up (am_up (am_up (am_up (am_up (am_up (am_up (am_up (am_up (am_up K 152 3 (K 152 1)) 152 1 0) 152 2 0) 152 4 (-1)) 152 5 0) 152 6 (-1)) 152 83 0) 152 85 0) 152 86 0) 152 87 0 = B
  have fB : ∀ x j, ¬ (x = 152 ∧ ((1 ≤ j ∧ j ≤ 6) ∨ j = 83 ∨ (85 ≤ j ∧ j ≤ 87))) → B x j = K x j := fun x j y => by
    rw [← hB, am_up_el (by omega), am_up_el (by omega), am_up_el (by omega), am_up_el (by omega), am_up_el (by omega), am_up_el (by omega), am_up_el (by omega), am_up_el (by omega), am_up_el (by omega), am_up_el (by omega)]
  have c87 : B 152 87 = 0 := by rw [← hB, am_up_at]
  have c86 : B 152 86 = 0 := by rw [← hB, am_up_el (by omega), am_up_at]
  have c85 : B 152 85 = 0 := by rw [← hB, am_up_el (by omega), am_up_el (by omega), am_up_at]
  have c83 : B 152 83 = 0 := by rw [← hB, am_up_el (by omega), am_up_el (by omega), am_up_el (by omega), am_up_at]
  have c6 : B 152 6 = -1 := by rw [← hB, am_up_el (by omega), am_up_el (by omega), am_up_el (by omega), am_up_el (by omega), am_up_at]
  have c5 : B 152 5 = 0 := by rw [← hB, am_up_el (by omega), am_up_el (by omega), am_up_el (by omega), am_up_el (by omega), am_up_el (by omega), am_up_at]
  have c4 : B 152 4 = -1 := by rw [← hB, am_up_el (by omega), am_up_el (by omega), am_up_el (by omega), am_up_el (by omega), am_up_el (by omega), am_up_el (by omega), am_up_at]
  have c2 : B 152 2 = 0 := by rw [← hB, am_up_el (by omega), am_up_el (by omega), am_up_el (by omega), am_up_el (by omega), am_up_el (by omega), am_up_el (by omega), am_up_el (by omega), am_up_at]
  have c1 : B 152 1 = 0 := by rw [← hB, am_up_el (by omega), am_up_el (by omega), am_up_el (by omega), am_up_el (by omega), am_up_el (by omega), am_up_el (by omega), am_up_el (by omega), am_up_el (by omega), am_up_at]
  have c3 : B 152 3 = K 152 1 := by rw [← hB, am_up_el (by omega), am_up_el (by omega), am_up_el (by omega), am_up_el (by omega), am_up_el (by omega), am_up_el (by omega), am_up_el (by omega), am_up_el (by omega), am_up_el (by omega), am_up_at]
  have c153 : B 153 = K 153 := funext fun j => fB 153 j (by omega)
  have qB : rq2_ K B := fun x j y y2 => by
    unfold sc_ at y
    unfold ra2_ at y2
    exact fB x j (by omega)
  have wB : rw_all B := fun x hx => by
    obtain ⟨w1, w2, w3, w4⟩ := hw x hx
    have hi := rws_in x hx
    exact ⟨w1, w2, fun i hl => (fB x.1 i (by omega)).trans (w3 i hl), w4⟩
  have sB : rx_ B B (rd_at (B 153) (B 152 3) 0) (-1) := by
    refine ⟨rp_rf, ⟨by rw [c3]; exact h0.2, by rw [c2]; exact Int.le_refl _, by rw [c2, c3]; exact h0.1⟩, ?_, c4, c5, c6⟩
    show rd_at (B 153) (B 152 3) (B 152 2) = _
    rw [c2]
  have kB : qsk B [] [] 6 0 := ⟨⟨c83, fun i hi => absurd hi (Nat.not_lt_zero i)⟩, ⟨c85, fun i hi => absurd hi (Nat.not_lt_zero i)⟩, ⟨by rw [c86]; decide, by decide⟩, c87, by decide⟩
  have rp : ∀ M', rp_fr B M' → rq2_ K M' ∧ (∀ x j, x < 150 → M' x j = K x j) ∧ M' 152 1 = 0 := fun M' h => by
    refine ⟨rq2_tr qB (fun x j y y2 => ?_), fun x j y => ?_, ?_⟩
    · unfold sc_ at y
      unfold ra2_ at y2
      exact h x j (by omega) (by omega) (by omega) (by omega) (by omega)
    · rw [h x j (by omega) (by omega) (by omega) (by omega) (by omega), fB x j (by omega)]
    · rw [h 152 1 (by omega) (by omega) (by omega) (by omega) (by omega)]; exact c1
  refine rt_question wB sB kB (fun k z hp hd M' h => ?_) (fun p en hd C hp M' h hs => ?_)
  · rw [c153, c3] at hp
    obtain ⟨r1, r2, r3⟩ := rp M' h.1
    refine bk_X12_ask_129 ⟨fun w => absurd w (ru_b h), fun _ => am_c1_i (hF ha k z hp _ (fun x j y y2 => ?_) (fun x j y => ?_) ?_ ?_ ?_)⟩
    · unfold ra2_ at y2
      rw [am_up_el (by omega), am_up_el (by omega)]
      exact r1 x j y y2
    · rw [am_up_el (by omega), am_up_el (by omega)]; exact r2 x j y
    · rw [am_up_el (by omega), am_up_el (by omega)]; exact r3
    · rw [am_up_el (by omega), am_up_at]; exact h.2.2.1
    · rw [am_up_at]; exact h.2.2.2.1
  · rw [c153, c3] at hp
    obtain ⟨r1, r2, r3⟩ := rp M' h.1
    obtain ⟨⟨hd0, hd5⟩, hC⟩ := pq_ok hp
    obtain ⟨⟨k83, k211⟩, -, -, -, k1600⟩ := hs
    have h5 := h.2.2.2.2
    -- the walk, and all its rooms
    have go : ∀ (A0 : Int) (S : am_M), A0 = (if hd < 2 then -1 else 0) → S = am_up (am_up (am_up (am_up M' 152 7 (M' 152 5)) 152 8 (M' 152 6)) 152 90 A0) 152 91 1 → am_cal pg (d + 46) 237 [(2, 152), (0, a)] sh_T S (am_cv sh_T fun M3 => am_g 12 1 co_X12_ask (d + 46) (am_c1 sh_T f) 184 [(2, 152), (3, 0), (0, hd), (0, 0)] [] sh_T M3) := fun A0 S hA hS => by
      have fS : ∀ x j, ¬ (x = 152 ∧ ((7 ≤ j ∧ j ≤ 8) ∨ (90 ≤ j ∧ j ≤ 91))) → S x j = M' x j := fun x j y => by rw [hS, am_up_el (by omega), am_up_el (by omega), am_up_el (by omega), am_up_el (by omega)]
      have s91 : S 152 91 = 1 := by rw [hS, am_up_at]
      have s90 : S 152 90 = A0 := by rw [hS, am_up_el (by omega), am_up_at]
      have s8 : S 152 8 = -1 := by rw [hS, am_up_el (by omega), am_up_el (by omega), am_up_at]; exact h5.2
      have s7 : S 152 7 = 0 := by rw [hS, am_up_el (by omega), am_up_el (by omega), am_up_el (by omega), am_up_at]; exact h5.1
      have qS : rq2_ K S := rq2_tr r1 (fun x j y y2 => by
        unfold sc_ at y
        unfold ra2_ at y2
        exact fS x j (by omega))
      have bS := bt_q qS hb
      have hwa := (bS.2.2.2.2 a ha.1 ha4.2).1.2.2.2.2
      refine sp_goesAhead bS.2.1 (bS.2.2.2.2 a ha.1 ha4.2).2 (fun T M3 x1 x2 x3 x4 x5 x6 => ?_)
      have hT := x1.1
      have room : ∀ t : Nat, t < T → _ := fun t ht => qv2_ok (C := C) (hd := hd) bS.2.1.1 hwa x1 ht hC
      have hv : ∀ t : Nat, t < T → mi_ok (qv2_ D a (G a) (W a) C t) := fun t ht => (room t ht).2.2.1
      have f3 : ∀ x j, ¬ x = 184 → ¬ x = 185 → ¬ (x = 152 ∧ (j = 46 ∨ j = 50)) → ¬ x = 187 → ¬ x = 188 → M3 x j = S x j := x6
      have loop : ∀ (m t : Nat), t + m = T → ∀ M1 : am_M, (∀ x j, ¬ x = 213 → ¬ (x = 152 ∧ (89 ≤ j ∧ j ≤ 91)) → M1 x j = M3 x j) → M1 152 90 = qa_ hd (qv2_ D a (G a) (W a) C) t → M1 152 91 = (if t = 0 then 1 else 0) → am_g 12 1 co_X12_ask (d + 46) (am_c1 sh_T f) 184 [(2, 152), (3, 0), (0, hd), (0, (t : Int))] [] sh_T M1 := by
        intro m
        induction m with
        | zero =>
          intro t ht M1 f1 e90 e91
          have et : t = T := by omega
          subst et
          have e50 : M1 152 50 = (t : Int) := (f1 152 50 (by omega) (by omega)).trans x3
          refine bk_X12_ask_184 ⟨fun _ => am_c1_i ?_, fun y => by omega⟩
          rw [e90]
          refine hO ha p en hd C hp t M1 x1 (rq2_tr qS (fun x j y y2 => ?_)) (fun x j y => ?_) ?_ ?_ ?_
          · unfold sc_ at y
            unfold ra2_ at y2
            rw [f1 x j (by omega) (by omega), f3 x j (by omega) (by omega) (by omega) (by omega) (by omega)]
          · rw [f1 x j (by omega) (by omega), f3 x j (by omega) (by omega) (by omega) (by omega) (by omega), fS x j (by omega)]
            exact r2 x j y
          · rw [f1 152 1 (by omega) (by omega), f3 152 1 (by omega) (by omega) (by omega) (by omega) (by omega), fS 152 1 (by omega)]; exact r3
          · rw [f1 152 7 (by omega) (by omega), f3 152 7 (by omega) (by omega) (by omega) (by omega) (by omega)]; exact s7
          · rw [f1 152 8 (by omega) (by omega), f3 152 8 (by omega) (by omega) (by omega) (by omega) (by omega)]; exact s8
        | succ m ih =>
          intro t ht M1 f1 e90 e91
          have htT : t < T := by omega
          obtain ⟨o1, o2, o3, o4, o5⟩ := room t htT
          have e50 : M1 152 50 = (T : Int) := (f1 152 50 (by omega) (by omega)).trans x3
          have hrg : rg_is M1 D := rg_is_fr (fun x j z1 z2 => f1 x j (by omega) (by omega)) x2
          have hrw : rw_ok M1 D (7 * (t : Int)) (wk D a (G a) (W a) t) := ⟨⟨by omega, by omega⟩, fun k k0 k1 => (f1 187 _ (by omega) (by omega)).trans (x4 t (by omega) k k0 k1), o5⟩
          have hdr : M1 188 (t : Int) = pu_dread D (G a) false (wk D a (G a) (W a) t) := (f1 188 _ (by omega) (by omega)).trans (x5 t htT)
          have up : ∀ x j, x = 211 ∨ (x = 152 ∧ j = 83) → M1 x j = M' x j := fun x j z => by rw [f1 x j (by omega) (by omega), f3 x j (by omega) (by omega) (by omega) (by omega) (by omega), fS x j (by omega)]
          have hcod : M1 152 83 = C.length ∧ C.length ≤ 1600 ∧ ∀ i : Nat, i < C.length → M1 211 i = C.getD i 0 := ⟨(up 152 83 (by omega)).trans k83, by omega, fun i hi => (up 211 i (by omega)).trans (k211 i hi)⟩
          refine bk_X12_ask_184 ⟨fun y => by omega, fun _ => sq_told (by omega) hrg hrw hdr o4 qw_a hcod o1 (fun M2 g2 => ?_)⟩
          have e2 : ∀ x j, ¬ x = 213 → ¬ (x = 152 ∧ j = 89) → M2 x j = M1 x j := g2
          have a90 : M2 152 90 = qa_ hd (qv2_ D a (G a) (W a) C) t := (e2 152 90 (by omega) (by omega)).trans e90
          have a91 : M2 152 91 = (if t = 0 then 1 else 0) := (e2 152 91 (by omega) (by omega)).trans e91
          refine sp_qTakes ⟨hd0, hd5⟩ o3 (by rw [a90]; exact qa_in hv (by omega) hT) (fun M4 g4 b90 b91 => ⟨⟨by omega, by omega⟩, ih (t + 1) (by omega) M4 (fun x j y y2 => ?_) ?_ ?_⟩)
          · rw [g4 x j (by omega), e2 x j y (by omega)]; exact f1 x j y y2
          · rw [b90, a90, a91]; exact qt_qa ⟨hd0, hd5⟩ o2
          · rw [b91, if_neg (by omega)]
      refine loop T 0 (Nat.zero_add _) M3 (fun _ _ _ _ => rfl) ?_ ?_
      · rw [f3 152 90 (by omega) (by omega) (by omega) (by omega) (by omega), s90, hA]
        unfold qa_
        by_cases z : hd < 2
        · rw [if_pos z]
          rcases (show hd = 0 ∨ hd = 1 by omega) with rfl | rfl <;> rfl
        · rw [if_neg z]
          rcases (show hd = 2 ∨ hd = 3 ∨ hd = 4 ∨ hd = 5 by omega) with rfl | rfl | rfl | rfl <;> rfl
      · rw [f3 152 91 (by omega) (by omega) (by omega) (by omega) (by omega), s91]
        rfl
    exact bk_X12_ask_129 ⟨fun _ => ⟨fun w => go 0 _ (by rw [if_neg (by omega)]) rfl, fun w => go (-1) _ (by rw [if_pos w]) rfl⟩, fun w => absurd h5.1 w⟩
theorem iv_asks {d n : Nat} {M : am_M} {a : Int} (h : iv_ n M) : am_cal pg (d + 47) 155 [(2, 0), (0, a)] sh_T M (am_c1 sh_T fun x M1 => (∀ j, M1 2000003 j = M 2000003 j) ∧ am_cal pg (d + 47) 305 [(2, 152), (0, a)] sh_T M1 (am_c1 sh_T fun y M2 => x = y ∧ iv_ (n + 1) M2)) := by
  have hI := h
  obtain ⟨⟨D, ⟨G, W, a1, a2, a3, a4⟩, h2, h3⟩, ⟨T0, h5⟩, ⟨t1, t2, t3, t4⟩, hl, h6, h7, h8, h9⟩ := h
  have e153 : M 153 = M 2 := funext fun j => (t1 j).symm
  -- what the class leaves to the reference
  have base : ∀ K : am_M, rq2_ M K → (∀ x j, 150 ≤ x → K x j = M x j) → bt_ok K D G W ∧ rw_all K ∧ (0 ≤ K 152 1 ∧ K 152 1 ≤ 1600) ∧ K 174 4 = M 174 4 ∧ pq_ (K 153) (K 152 1) = pq_ (M 2) (M 1 1) := fun K q u => by
    refine ⟨bt_q q a1, fun x hx => ?_, ?_, u 174 4 (by omega), ?_⟩
    · obtain ⟨w1, w2, w3, w4⟩ := h9 x hx
      have hi := rws_in x hx
      exact ⟨w1, w2, fun i hl => (u x.1 i (by omega)).trans (w3 i hl), w4⟩
    · rw [u 152 1 (by omega), ← t2]; exact t3
    · rw [show K 153 = M 153 from funext fun j => u 153 j (by omega), u 152 1 (by omega), e153, ← t2]
  refine en_X11_ask (bk_X11_ask_0 (st_isDreamer a1 ⟨fun q => ?_, fun q => ?_⟩))
  · have ha := am_b_nz q
    have hA := a1.2.2.1
    have ha4 : 0 ≤ a ∧ a < 4 ∧ a < dA D := by omega
    refine ct_question t3 h8 (fun k z hp M3 f3 b13 b14 => en_X9_wipe (bk_X9_wipe_0 (am_cv_i ⟨fun y => absurd rfl y, fun _ => am_c1_i ?_⟩))) (fun p en hd C hp M3 f3 b13 b14 b53 hC => en_X9_wipe (bk_X9_wipe_0 (am_cv_i ⟨fun _ => ⟨v4 ha4, ?_⟩, fun y => absurd y (by decide)⟩)))
    · -- a fault
      have u : ∀ x j, ¬ (x = 1 ∧ 1 ≤ j ∧ j ≤ 7) → ¬ (x = 3 ∧ (j = 1 ∨ j = 2)) → ¬ (x = 5 ∧ j = 3) → ¬ (x = 6 ∧ j = 1) → ¬ x = 7 → am_up M3 1 1 0 x j = M x j := fun x j x1 x2 x3 x4 x5 => by rw [am_up_el (by omega)]; exact f3 x j (by omega) x2 x3 x4 x5
      have u11 : am_up M3 1 1 0 1 1 = 0 := am_up_at
      have u13 : am_up M3 1 1 0 1 3 = k := (am_up_el (by omega)).trans b13
      have u14 : am_up M3 1 1 0 1 4 = z := (am_up_el (by omega)).trans b14
      generalize am_up M3 1 1 0 = K at u u11 u13 u14 ⊢
      have qK : rq2_ M K := fun x j y y2 => by
        unfold sc_ at y
        unfold ra2_ at y2
        exact u x j (by omega) (by omega) (by omega) (by omega) (by omega)
      obtain ⟨g1, g2, g3, g4, g5⟩ := base K qK (fun x j y => u x j (by omega) (by omega) (by omega) (by omega) (by omega))
      refine ⟨fun j => u 2000003 j (by omega) (by omega) (by omega) (by omega) (by omega), sp_asked g1 g2 g3 (fun y => absurd (by rw [g4]; exact ha) y) (fun _ k2 z2 hp2 M' q1 q2 q3 q4 q5 => ⟨rfl, ?_⟩) (fun _ p2 en2 hd2 C2 hp2 => ?_)⟩
      · rw [g5, hp] at hp2
        simp only [Except.error.injEq, Prod.mk.injEq] at hp2
        refine iv_q hI (rq2_tr qK q1) ((q2 1 1 (by omega)).trans u11) q3 ⟨?_, ?_⟩
        · rw [q2 1 3 (by omega), u13, q4]; exact hp2.1
        · rw [q2 1 4 (by omega), u14, q5]; exact hp2.2
      · rw [g5, hp] at hp2
        cases hp2
    · -- the question, over the rooms ahead
      have u : ∀ x j, ¬ (x = 1 ∧ 1 ≤ j ∧ j ≤ 7) → ¬ (x = 3 ∧ (j = 1 ∨ j = 2)) → ¬ (x = 5 ∧ j = 3) → ¬ (x = 6 ∧ j = 1) → ¬ x = 7 → am_up M3 1 1 0 x j = M x j := fun x j x1 x2 x3 x4 x5 => by rw [am_up_el (by omega)]; exact f3 x j (by omega) x2 x3 x4 x5
      have w : ∀ x j, ¬ (x = 1 ∧ j = 1) → am_up M3 1 1 0 x j = M3 x j := fun x j y => am_up_el y
      have u11 : am_up M3 1 1 0 1 1 = 0 := am_up_at
      generalize am_up M3 1 1 0 = K at u w u11 ⊢
      have qK : rq2_ M K := fun x j y y2 => by
        unfold sc_ at y
        unfold ra2_ at y2
        exact u x j (by omega) (by omega) (by omega) (by omega) (by omega)
      have bK := bt_q qK a1
      obtain ⟨⟨hd0, hd5⟩, hok⟩ := pq_ok hp
      have hwa := (bK.2.2.2.2 a ha.1 ha4.2).1.2.2.2.2
      refine st_go bK.1 (bK.2.2.2.2 a ha.1 ha4.2).1 (by omega) (fun T M7 w1 w2 w3 w4 w5 w6 w7 => ?_)
      have hcc := bK.1.1
      have hsc := sc_go hcc w7
      have hT := w1.1
      have hD := bK.1.2.1
      have g7 : ∀ x j, (x = 5 ∨ x = 6 ∨ x = 7 ∨ x = 1 ∨ 150 ≤ x) → M7 x j = K x j := fun x j y => by
        rcases hcc with z | z <;> rw [z] at w7 <;> exact w7 x j (by omega) (by omega) (by omega) (by omega) (by omega) (by omega)
      have room : ∀ t : Nat, t < T → _ := fun t ht => qv2_ok (C := C) (hd := hd) hD hwa w1 ht hok
      refine st_answer (v := qv2_ D a (G a) (W a) C) (hd := hd) ⟨w3, hT⟩ ⟨?_, hd0, hd5⟩ (fun t ht => (room t ht).2.2.1) (fun t ht M8 f8 g hg => ?_) (fun M8 f8 => am_c1_i ?_)
      · rw [g7 5 3 (by omega), w 5 3 (by omega)]; exact b53
      · obtain ⟨o1, o2, o3, o4, o5⟩ := room t ht
        have e8 : ∀ x j, ¬ (8 ≤ x ∧ x ≤ 10) → ¬ (x = 6 ∧ j = 3) → M8 x j = M7 x j := f8
        refine st_valueIn (T := T) (a := qw_ D a (G a) (W a) t) ⟨(e8 88 2 (by omega) (by omega)).trans w3, hT⟩ ht (fun k k0 k1 => (e8 89 _ (by omega) (by omega)).trans (w5 t (by omega) k k0 k1)) o5.1 ((e8 90 _ (by omega) (by omega)).trans (w6 t ht)) o4 ⟨?_, hC.2.1, fun i hi => ?_⟩ qw_a o1 (fun M9 f9 => hg M9 f9)
        · rw [e8 6 1 (by omega) (by omega), g7 6 1 (by omega), w 6 1 (by omega)]; exact hC.1
        · rw [e8 7 i (by omega) (by omega), g7 7 i (by omega), w 7 i (by omega)]; exact hC.2.2 i hi
      · have e8 : ∀ x j, ¬ (8 ≤ x ∧ x ≤ 10) → ¬ (x = 6 ∧ j = 3) → M8 x j = M7 x j := f8
        have q8 : rq2_ M M8 := rq2_tr (rq2_tr qK (rq2_s hsc)) (fun x j y y2 => by
          unfold sc_ at y
          exact e8 x j (by omega) (by omega))
        have hi8 : ∀ x j, 150 ≤ x → M8 x j = M x j := fun x j y => by rw [e8 x j (by omega) (by omega), g7 x j (by omega), u x j (by omega) (by omega) (by omega) (by omega) (by omega)]
        have l8 : ∀ j, M8 1 j = K 1 j := fun j => by rw [e8 1 j (by omega) (by omega), g7 1 j (by omega)]
        obtain ⟨g1, g2, g3, g4, g5⟩ := base M8 q8 hi8
        refine ⟨fun j => hi8 2000003 j (by omega), sp_asked g1 g2 g3 (fun y => absurd (by rw [g4]; exact ha) y) (fun _ k2 z2 hp2 => ?_) (fun _ p2 en2 hd2 C2 hp2 T2 M' q0 q1 q2 q3 q4 q5 => ?_)⟩
        · rw [g5, hp] at hp2
          cases hp2
        · rw [g5, hp] at hp2
          simp only [Except.ok.injEq, Prod.mk.injEq] at hp2
          obtain ⟨-, -, e1, e2⟩ := hp2
          have eT := wk_is_eq w1 q0
          rw [← e1, ← e2, ← eT]
          refine ⟨rfl, iv_q hI (rq2_tr q8 q1) ?_ q3 ⟨?_, ?_⟩⟩
          · rw [q2 1 1 (by omega), l8]; exact u11
          · rw [q2 1 3 (by omega), l8, w 1 3 (by omega), b13, q4]
          · rw [q2 1 4 (by omega), l8, w 1 4 (by omega), b14, q5]
  · -- nobody such
    have hno := am_b_z.mp q
    refine en_X9_wipe (bk_X9_wipe_0 (am_cv_i (am_c1_i ?_)))
    have u : ∀ x j, ¬ (x = 1 ∧ j = 1) → am_up M 1 1 0 x j = M x j := fun x j y => am_up_el y
    have u11 : am_up M 1 1 0 1 1 = 0 := am_up_at
    generalize am_up M 1 1 0 = K at u u11 ⊢
    have qK : rq2_ M K := fun x j y y2 => by
      unfold ra2_ at y2
      exact u x j (by omega)
    obtain ⟨g1, g2, g3, g4, g5⟩ := base K qK (fun x j y => u x j (by omega))
    refine ⟨fun j => u 2000003 j (by omega), sp_asked g1 g2 g3 (fun _ => ⟨rfl, ?_⟩) (fun y => absurd (by rw [g4] at y; exact y) hno) (fun y => absurd (by rw [g4] at y; exact y) hno)⟩
    refine iv_q hI (rq2_tr qK (fun x j y y2 => ?_)) ?_ am_up_at ⟨?_, ?_⟩
    · unfold ra2_ at y2
      exact am_up_el (by omega)
    · rw [am_up_el (by omega)]; exact u11
    · rw [am_up_el (by omega), am_up_el (by omega), u 1 3 (by omega), u 152 7 (by omega)]; exact hl.1
    · rw [am_up_el (by omega), am_up_el (by omega), u 1 4 (by omega), u 152 8 (by omega)]; exact hl.2
