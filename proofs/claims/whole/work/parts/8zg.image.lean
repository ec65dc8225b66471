/-! image IN THE REFERENCE; both -/
theorem sp_checked {d : Nat} {M : am_M} {f : Int → am_M → Prop} {v : Int} {L : List Int} (hin : ∀ i : Nat, i < L.length → am_in pg sh_T 1 v i) (hv : ∀ i : Nat, i < L.length → M v i = L.getD i 0) (hL : ∀ x ∈ L, 0 ≤ x ∧ x ≤ 255) (hl : L.length ≤ 1600) (h : f (ickf L 181) M) : am_cal pg (d + 1) 307 [(2, v), (0, (L.length : Int))] sh_T M (am_c0 sh_T f) := by
  have loop : ∀ (m i : Nat) (c : Int), i + m = L.length → 0 ≤ c ∧ c ≤ 250 → ickf L 181 = ickf (L.drop i) c → am_g 12 0 co_X12_checked d (am_c0 sh_T f) 6 [(2, v), (0, (L.length : Int)), (0, c), (0, (i : Int))] [] sh_T M := by
    intro m
    induction m with
    | zero =>
      intro i c hi hc hk
      rw [List.drop_of_length_le (by omega)] at hk
      have hk : ickf L 181 = c := hk
      exact bk_X12_checked_6 ⟨fun _ => am_c0_i (by rw [← hk]; exact h), fun y => by omega⟩
    | succ m ih =>
      intro i c hi hc hk
      obtain ⟨q1, q2, q3, q4, q5⟩ := ickf_step hL (i := i) (by omega) hc
      refine bk_X12_checked_6 ⟨fun y => by omega, fun _ => ?_⟩
      rw [hv i (by omega), q3]
      exact ⟨⟨by omega, by omega⟩, hin i (by omega), ⟨by omega, by omega⟩, ⟨by omega, by omega⟩, ih (i + 1) _ (by omega) ⟨q4, q5⟩ (by rw [hk, q1])⟩
  exact en_X12_checked (bk_X12_checked_0 (loop L.length 0 181 (Nat.zero_add _) (by decide) rfl))
theorem ipic_bd {M : am_M} {D : dm_D} {G : Int → Int} {W : Int → Int → Int} (hb : bt_ok M D G W) : (∀ x ∈ iall (dN D) G W (M 174 4).toNat 0, 0 ≤ x ∧ x ≤ 255) ∧ (iall (dN D) G W (M 174 4).toNat 0).length = (M 174 4).toNat * (1 + 2 * dN D) ∧ (M 174 4).toNat * (1 + 2 * dN D) ≤ 52 := by
  have hN6 : dN D ≤ 6 := hb.1.2.1.1
  have hA := hb.2.2.1
  have h := iall_bd (N := dN D) (G := G) (W := W) (M 174 4).toNat 0 (fun b b0 b1 => by
    obtain ⟨s1, s2⟩ := hb.2.2.2.2 b b0 ⟨by omega, by omega⟩
    exact ⟨⟨s1.2.2.1.2.1, s1.2.2.1.2.2.1⟩, fun k k0 k1 => s1.2.2.2.2.1 k k0 (by omega)⟩)
  refine ⟨h.1, h.2, ?_⟩
  have h1 : (M 174 4).toNat ≤ 4 := by omega
  have h2 : 1 + 2 * dN D ≤ 13 := by omega
  exact Nat.le_trans (Nat.mul_le_mul h1 h2) (by decide)
theorem sp_image {d : Nat} {M : am_M} {f : Int → am_M → Prop} {D : dm_D} {G : Int → Int} {W : Int → Int → Int} (hb : bt_ok M D G W) (h : ∀ M', (∀ x j, ¬ x = 214 → ¬ (x = 152 ∧ j = 93) → M' x j = M x j) → pl_r M' (ipic D G W (M 174 4).toNat) → f ((ipic D G W (M 174 4).toNat).length : Int) M') : am_cal pg (d + 2) 309 [(2, 152)] sh_T M (am_c0 sh_T f) := by
  have hN : M 174 3 = (dN D : Int) := hb.2.1.2.1
  have hN6 : dN D ≤ 6 := hb.1.2.1.1
  have hA := hb.2.2.1
  obtain ⟨iB, iL, h52⟩ := ipic_bd hb
  have row : ∀ (a : Int), (0 ≤ a ∧ (a < 4 ∧ a < dA D)) → ∀ (m : Nat) (j : Nat) (L : List Int) (M1 : am_M), j + m = dN D → L.length + 2 * m ≤ 52 → (∀ x j, ¬ x = 214 → ¬ (x = 152 ∧ j = 93) → M1 x j = M x j) → pl_r M1 L → (∀ M2, (∀ x j, ¬ x = 214 → ¬ (x = 152 ∧ j = 93) → M2 x j = M x j) → pl_r M2 (L ++ irow (W a) m j) → am_g 12 0 co_X12_image (d + 1) (am_c0 sh_T f) 7 [(2, 152), (0, a + 1), (3, 0)] [] sh_T M2) → am_g 12 0 co_X12_image (d + 1) (am_c0 sh_T f) 28 [(2, 152), (0, a), (0, (j : Int))] [] sh_T M1 := by
    intro a aok m
    obtain ⟨s1, s2⟩ := hb.2.2.2.2 a aok.1 aok.2
    induction m with
    | zero =>
      intro j L M1 hj hl fr pl k
      refine bk_X12_image_28 (sp_dreadMany ?_)
      rw [fr 174 3 (by omega) (by omega), hN]
      refine ⟨fun _ => ⟨⟨by omega, by omega⟩, k M1 fr ?_⟩, fun y => by omega⟩
      rw [show irow (W a) 0 (j : Int) = [] from rfl, List.append_nil]
      exact pl
    | succ m ih =>
      intro j L M1 hj hl fr pl k
      have hw := s1.2.2.2.2.1 j (by omega) (by omega)
      have ew : ∀ M2 : am_M, (∀ x j, ¬ x = 214 → ¬ (x = 152 ∧ j = 93) → M2 x j = M x j) → M2 186 (7 * a + 1 + (j : Int)) = W a j := fun M2 f2 => by rw [f2 _ _ (by omega) (by omega)]; exact s2.2.2.1 j (by omega) (by omega)
      refine bk_X12_image_28 (sp_dreadMany ?_)
      rw [fr 174 3 (by omega) (by omega), hN]
      refine ⟨fun y => by omega, fun _ => sp_weightOf ⟨by omega, by omega⟩ ⟨by omega, by omega⟩ ?_⟩
      rw [ew M1 fr]
      have ed : (W a j).tdiv 256 = W a j / 256 := Int.tdiv_eq_ediv_of_nonneg hw.1
      have em : (W a j).tmod 256 = W a j % 256 := Int.tmod_eq_emod_of_nonneg hw.1
      rw [ed]
      refine ⟨⟨by omega, by omega⟩, sp_writes pl (by omega) (fun M2 f2 p2 => sp_weightOf ⟨by omega, by omega⟩ ⟨by omega, by omega⟩ ?_)⟩
      have g2 : ∀ x j, ¬ x = 214 → ¬ (x = 152 ∧ j = 93) → M2 x j = M x j := fun x j y1 y2 => by rw [f2 x j y1 y2]; exact fr x j y1 y2
      rw [ew M2 g2, em]
      refine sp_writes p2 (by rw [List.length_append, List.length_singleton]; omega) (fun M3 f3 p3 => ⟨⟨by omega, by omega⟩, ?_⟩)
      have el : (L ++ [W a j / 256] ++ [W a j % 256]).length = L.length + 2 := by rw [List.length_append, List.length_append, List.length_singleton, List.length_singleton]
      refine ih (j + 1) (L ++ [W a j / 256] ++ [W a j % 256]) M3 (by omega) (by omega) (fun x j y1 y2 => by rw [f3 x j y1 y2]; exact g2 x j y1 y2) p3 (fun M4 f4 p4 => k M4 f4 ?_)
      have e : L ++ [W a j / 256] ++ [W a j % 256] ++ irow (W a) m ((j + 1 : Nat) : Int) = L ++ irow (W a) (m + 1) (j : Int) := by
        show _ = L ++ ([W a j / 256, W a j % 256] ++ irow (W a) m ((j : Int) + 1))
        rw [List.append_assoc, List.append_assoc, show ((j + 1 : Nat) : Int) = (j : Int) + 1 by omega]
        rfl
      rw [e] at p4
      exact p4
  have all : ∀ (m a : Nat) (L : List Int) (M1 : am_M), a + m = (M 174 4).toNat → L.length + m * (1 + 2 * dN D) ≤ 52 → (∀ x j, ¬ x = 214 → ¬ (x = 152 ∧ j = 93) → M1 x j = M x j) → pl_r M1 L → L ++ iall (dN D) G W m a = iall (dN D) G W (M 174 4).toNat 0 → am_g 12 0 co_X12_image (d + 1) (am_c0 sh_T f) 7 [(2, 152), (0, (a : Int)), (3, 0)] [] sh_T M1 := by
    intro m
    induction m with
    | zero =>
      intro a L M1 ha hl fr pl hL
      rw [show iall (dN D) G W 0 (a : Int) = [] from rfl, List.append_nil] at hL
      subst hL
      refine bk_X12_image_7 (sp_dreamerMany ?_)
      rw [fr 174 4 (by omega) (by omega), pl.1]
      refine ⟨fun _ => sp_checked (fun i hi => ia_214 (by omega) (by omega)) pl.2 iB (by omega) (sp_writes pl (by omega) (fun M2 f2 p2 => am_c0_i ?_)), fun y => by omega⟩
      have e93 : M2 152 93 = ((ipic D G W (M 174 4).toNat).length : Int) := p2.1
      rw [e93]
      exact h M2 (fun x j y1 y2 => by rw [f2 x j y1 y2]; exact fr x j y1 y2) p2
    | succ m ih =>
      intro a L M1 ha hl fr pl hL
      obtain ⟨s1, s2⟩ := hb.2.2.2.2 a (by omega) ⟨by omega, by omega⟩
      rw [Nat.succ_mul m (1 + 2 * dN D)] at hl
      have g4 := s2.2.1.2
      have eg : M1 186 (7 * (a : Int)) = G a := by rw [fr _ _ (by omega) (by omega)]; exact s2.2.1.1
      refine bk_X12_image_7 (sp_dreamerMany ?_)
      rw [fr 174 4 (by omega) (by omega)]
      refine ⟨fun y => by omega, fun _ => sp_guideOf ⟨by omega, by omega⟩ ?_⟩
      rw [eg]
      refine ⟨⟨by omega, by omega⟩, sp_writes pl (by omega) (fun M2 f2 p2 => row a ⟨by omega, by omega, by omega⟩ (dN D) 0 (L ++ [G a + 1]) M2 (by omega) (by rw [List.length_append, List.length_singleton]; omega) (fun x j y1 y2 => by rw [f2 x j y1 y2]; exact fr x j y1 y2) p2 (fun M3 f3 p3 => ?_))⟩
      refine ih (a + 1) _ M3 (by omega) ?_ f3 p3 ?_
      · rw [List.length_append, List.length_append, List.length_singleton, irow_len]; omega
      · rw [← hL, List.append_assoc, List.append_assoc]
        show L ++ ([G a + 1] ++ (irow (W a) (dN D) 0 ++ iall (dN D) G W m ((a + 1 : Nat) : Int))) = L ++ ([G a + 1] ++ irow (W a) (dN D) 0 ++ iall (dN D) G W m ((a : Int) + 1))
        rw [List.append_assoc, show ((a + 1 : Nat) : Int) = (a : Int) + 1 by omega]
  exact en_X12_image (bk_X12_image_0 (all (M 174 4).toNat 0 [] _ (Nat.zero_add _) (by rw [List.length_nil]; omega) (fun x j y1 y2 => am_up_el (by omega)) ⟨am_up_at, fun i hi => absurd hi (Nat.not_lt_zero i)⟩ rfl))
theorem iv_image {d n : Nat} {M : am_M} (h : iv_ n M) : tr_two (d + 2) 156 309 [] M (iv_ (n + 1)) := by
  have hI := h
  have hq := rq_of h
  obtain ⟨⟨D, ⟨G, W, a1, a2, a3, a4⟩, h2, h3⟩, ⟨T, h5⟩, ⟨t1, t2, t3, t4⟩, ⟨l1, l2⟩, h6, ⟨p1, p2, p3⟩, h8, h9⟩ := h
  refine st_image (d := d) a1 (fun M1 f1 q1 => ⟨fun j => f1 _ _ (by omega) (by omega), ?_⟩)
  have ka1 : ka_ M M1 := fun x j y => f1 x j (by omega) (by omega)
  have kb1 : kb_ M M1 := fun x j y => f1 x j (by omega) (by omega)
  obtain ⟨v1, v2, v3⟩ := kb_ok ka1 kb1 a1 a2 a4
  have e4 : M1 174 4 = M 174 4 := f1 174 4 (by omega) (by omega)
  obtain ⟨iB, iL, h52⟩ := ipic_bd a1
  rw [← e4] at q1 iL h52 ⊢
  refine sp_image (d := d) v1 (fun M2 f2 q2 => ⟨rfl, ?_⟩)
  have ka : ka_ M1 M2 := fun x j y => f2 x j (by omega) (by omega)
  have kb : kb_ M1 M2 := fun x j y => f2 x j (by omega) (by omega)
  obtain ⟨w1, w2, w3⟩ := kb_ok ka kb v1 v2 v3
  obtain ⟨x1, x2, x3, x4⟩ := ka_ok ka1 h5 h6 h8 h9
  obtain ⟨y1, y2, y3, y4⟩ := ka_ok ka x1 x2 x3 x4
  have g : ∀ x j, ¬ x = 150 → ¬ x = 214 → ¬ (x = 0 ∧ j = 15) → ¬ (x = 152 ∧ j = 93) → M2 x j = M x j := fun x j z1 z2 z3 z4 => by rw [f2 x j z2 z4, f1 x j z1 z3]
  have el : (ipic D G W (M1 174 4).toNat).length ≤ 53 := by
    show (iall (dN D) G W (M1 174 4).toNat 0 ++ [_]).length ≤ 53
    rw [List.length_append, List.length_singleton, iL]; omega
  have lo : ∀ x j, x < 152 → M2 x j = M1 x j := fun x j y => f2 x j (by omega) (by omega)
  refine ⟨⟨D, ⟨G, W, w1, w2, rq_ok_s (fun k k0 k1 => ?_), w3⟩, ?_, h3⟩, ⟨T, y1⟩, ⟨fun j => ?_, ?_, ?_, fun j j0 j1 => ?_⟩, ⟨?_, ?_⟩, y2, ⟨?_, ?_, fun j j0 j1 => ?_⟩, y3, y4⟩
  · rw [g 151 k (by omega) (by omega) (by omega) (by omega), g 154 k (by omega) (by omega) (by omega) (by omega)]; exact hq k k0 k1
  · have e1 : M2 0 13 = M 0 13 := g _ _ (by omega) (by omega) (by omega) (by omega)
    have e2 : M2 174 4 = M 174 4 := g _ _ (by omega) (by omega) (by omega) (by omega)
    have e3 : M2 152 61 = M 152 61 := g _ _ (by omega) (by omega) (by omega) (by omega)
    rcases h2 with ⟨z1, z2⟩ | ⟨R, z1, z2, z3, z4, z5, z6⟩
    · exact Or.inl ⟨by rw [e1, e2]; exact z1, by rw [e3]; exact z2⟩
    · refine Or.inr ⟨R, z1, by rw [e3]; exact z2, ?_, ?_, ?_, fun t ht => ?_⟩
      · rw [g 0 12 (by omega) (by omega) (by omega) (by omega)]; exact z3
      · rw [e1, g 152 62 (by omega) (by omega) (by omega) (by omega)]; exact z4
      · rw [g 152 62 (by omega) (by omega) (by omega) (by omega), e2]; exact z5
      · rw [g 149 _ (by omega) (by omega) (by omega) (by omega), g 192 _ (by omega) (by omega) (by omega) (by omega)]; exact z6 t ht
  · rw [g 2 j (by omega) (by omega) (by omega) (by omega), g 153 j (by omega) (by omega) (by omega) (by omega)]; exact t1 j
  · rw [g 1 1 (by omega) (by omega) (by omega) (by omega), g 152 1 (by omega) (by omega) (by omega) (by omega)]; exact t2
  · rw [g 1 1 (by omega) (by omega) (by omega) (by omega)]; exact t3
  · rw [g 1 1 (by omega) (by omega) (by omega) (by omega)] at j1
    rw [g 2 j (by omega) (by omega) (by omega) (by omega)]; exact t4 j j0 j1
  · rw [g 1 3 (by omega) (by omega) (by omega) (by omega), g 152 7 (by omega) (by omega) (by omega) (by omega)]; exact l1
  · rw [g 1 4 (by omega) (by omega) (by omega) (by omega), g 152 8 (by omega) (by omega) (by omega) (by omega)]; exact l2
  · rw [lo 0 15 (by omega), q1.1, q2.1]
  · rw [lo 0 15 (by omega), q1.1]; omega
  · rw [lo 0 15 (by omega), q1.1] at j1
    have a := q1.2 j.toNat (by omega)
    have b := q2.2 j.toNat (by omega)
    rw [show ((j.toNat : Nat) : Int) = j by omega] at a b
    rw [lo 150 j (by omega), a, b]
