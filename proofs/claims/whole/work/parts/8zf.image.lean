/-! image ON BOTH SIDES -/
def irow (w : Int → Int) : Nat → Int → List Int
  | 0, _ => []
  | m + 1, j => [w j / 256, w j % 256] ++ irow w m (j + 1)
def iall (N : Nat) (G : Int → Int) (W : Int → Int → Int) : Nat → Int → List Int
  | 0, _ => []
  | m + 1, a => [G a + 1] ++ irow (W a) N 0 ++ iall N G W m (a + 1)
def ickf : List Int → Int → Int
  | [], c => c
  | x :: l, c => ickf l ((3 * c + x) % 251)
theorem irow_len {w : Int → Int} : ∀ (m : Nat) (j : Int), (irow w m j).length = 2 * m
  | 0, _ => rfl
  | m + 1, j => by
    show ([w j / 256, w j % 256] ++ irow w m (j + 1)).length = 2 * (m + 1)
    rw [List.length_append, irow_len m (j + 1)]
    show 2 + 2 * m = 2 * (m + 1)
    omega
theorem irow_bd {w : Int → Int} : ∀ (m : Nat) (j : Int), (∀ k : Int, j ≤ k → k < j + m → 0 ≤ w k ∧ w k ≤ 999) → ∀ x ∈ irow w m j, 0 ≤ x ∧ x ≤ 255
  | 0, _, _, x, h => by cases h
  | m + 1, j, hw, x, h => by
    have h0 := hw j (Int.le_refl _) (by omega)
    rcases List.mem_append.mp h with q | q
    · rcases List.mem_cons.mp q with rfl | q
      · omega
      · rw [List.mem_singleton] at q; omega
    · exact irow_bd m (j + 1) (fun k k0 k1 => hw k (by omega) (by omega)) x q
theorem iall_bd {N : Nat} {G : Int → Int} {W : Int → Int → Int} : ∀ (m : Nat) (a : Int), (∀ b : Int, a ≤ b → b < a + m → (-1 ≤ G b ∧ G b < 4) ∧ ∀ k : Int, 0 ≤ k → k < N → 0 ≤ W b k ∧ W b k ≤ 999) → (∀ x ∈ iall N G W m a, 0 ≤ x ∧ x ≤ 255) ∧ (iall N G W m a).length = m * (1 + 2 * N)
  | 0, _, _ => ⟨fun x h => (by cases h), by show 0 = 0 * _; omega⟩
  | m + 1, a, hw => by
    obtain ⟨i1, i2⟩ := iall_bd m (a + 1) (fun b b0 b1 => hw b (by omega) (by omega))
    obtain ⟨g1, g2⟩ := hw a (Int.le_refl _) (by omega)
    refine ⟨fun x h => ?_, ?_⟩
    · rcases List.mem_append.mp h with q | q
      · rcases List.mem_append.mp q with q | q
        · rw [List.mem_singleton] at q; omega
        · exact irow_bd N 0 (fun k k0 k1 => g2 k k0 (by omega)) x q
      · exact i1 x q
    · show ([G a + 1] ++ irow (W a) N 0 ++ iall N G W m (a + 1)).length = (m + 1) * (1 + 2 * N)
      rw [List.length_append, List.length_append, irow_len, i2, Nat.succ_mul m (1 + 2 * N)]
      show 1 + 2 * N + m * (1 + 2 * N) = _
      omega
/-- so many octets are down -/
def pl_c (M : am_M) (L : List Int) : Prop := M 0 15 = L.length ∧ ∀ i : Nat, i < L.length → M 150 i = L.getD i 0
def pl_r (M : am_M) (L : List Int) : Prop := M 152 93 = L.length ∧ ∀ i : Nat, i < L.length → M 214 i = L.getD i 0
theorem st_paint {d : Nat} {M : am_M} {f : am_M → Prop} {L : List Int} {v : Int} (h : pl_c M L) (hl : L.length < 53) (hf : ∀ M', (∀ x j, ¬ x = 150 → ¬ (x = 0 ∧ j = 15) → M' x j = M x j) → pl_c M' (L ++ [v]) → f M') : am_cal pg (d + 1) 165 [(2, 0), (0, v)] sh_T M (am_cv sh_T f) := by
  obtain ⟨h1, h2⟩ := h
  refine en_X11_paint (bk_X11_paint_0 ⟨fun y => by omega, fun _ => ⟨fun y => by omega, fun y => ⟨⟨by omega, by omega⟩, ⟨by omega, by omega⟩, am_cv_i (hf _ (fun x j y1 y2 => by rw [am_up_el (by omega), am_up_el (by omega)]) ⟨?_, fun i hi => ?_⟩)⟩⟩⟩)
  · rw [am_up_at, List.length_append, List.length_singleton]; omega
  · rw [List.length_append, List.length_singleton] at hi
    rw [am_up_el (by omega)]
    by_cases y : i = L.length
    · rw [gd_r y, show (i : Int) = M 0 15 by omega, am_up_at]
    · rw [gd_l (by omega), am_up_el (by omega)]; exact h2 i (by omega)
theorem sp_writes {d : Nat} {M : am_M} {f : am_M → Prop} {L : List Int} {v : Int} (h : pl_r M L) (hl : L.length < 53) (hf : ∀ M', (∀ x j, ¬ x = 214 → ¬ (x = 152 ∧ j = 93) → M' x j = M x j) → pl_r M' (L ++ [v]) → f M') : am_cal pg (d + 1) 308 [(2, 152), (0, v)] sh_T M (am_cv sh_T f) := by
  obtain ⟨h1, h2⟩ := h
  refine en_X12_writes (bk_X12_writes_0 ⟨⟨by omega, by omega⟩, ⟨by omega, by omega⟩, am_cv_i (hf _ (fun x j y1 y2 => by rw [am_up_el (by omega), am_up_el (by omega)]) ⟨?_, fun i hi => ?_⟩)⟩)
  · rw [am_up_at, List.length_append, List.length_singleton]; omega
  · rw [List.length_append, List.length_singleton] at hi
    rw [am_up_el (by omega)]
    by_cases y : i = L.length
    · rw [gd_r y, show (i : Int) = M 152 93 by omega, am_up_at]
    · rw [gd_l (by omega), am_up_el (by omega)]; exact h2 i (by omega)
theorem ickf_step {L : List Int} (hL : ∀ x ∈ L, 0 ≤ x ∧ x ≤ 255) {i : Nat} (hi : i < L.length) {c : Int} (hc : 0 ≤ c ∧ c ≤ 250) : ickf (L.drop i) c = ickf (L.drop (i + 1)) ((3 * c + L.getD i 0) % 251) ∧ (0 ≤ L.getD i 0 ∧ L.getD i 0 ≤ 255) ∧ (3 * c + L.getD i 0).tmod 251 = (3 * c + L.getD i 0) % 251 ∧ 0 ≤ (3 * c + L.getD i 0) % 251 ∧ (3 * c + L.getD i 0) % 251 ≤ 250 := by
  have ex : L[i] = L.getD i 0 := by rw [List.getD_eq_getElem?_getD, List.getElem?_eq_getElem hi]; rfl
  have hb := hL _ (List.getElem_mem hi)
  rw [ex] at hb
  refine ⟨?_, hb, Int.tmod_eq_emod_of_nonneg (by omega), by omega, by omega⟩
  rw [List.drop_eq_getElem_cons hi, ex]
  rfl
/-- the picture, its check behind it -/
def ipic (D : dm_D) (G : Int → Int) (W : Int → Int → Int) (A : Nat) : List Int := iall (dN D) G W A 0 ++ [ickf (iall (dN D) G W A 0) 181]
theorem st_image {d : Nat} {M : am_M} {f : Int → am_M → Prop} {D : dm_D} {G : Int → Int} {W : Int → Int → Int} (hb : bt_ok M D G W) (h : ∀ M', (∀ x j, ¬ x = 150 → ¬ (x = 0 ∧ j = 15) → M' x j = M x j) → pl_c M' (ipic D G W (M 174 4).toNat) → f ((ipic D G W (M 174 4).toNat).length : Int) M') : am_cal pg (d + 2) 156 [(2, 0)] sh_T M (am_c0 sh_T f) := by
  have hN : (dN D : Int) = M 174 3 := hb.2.1.2.1.symm
  have hN6 : dN D ≤ 6 := hb.1.2.1.1
  have hA := hb.2.2.1
  have hu := hb.1.1
  have hcc := hu
  unfold dr_is at hcc
  have hN2 : M (M 0 4 + 2) 0 = dN D := hb.1.2.2.1
  have hbd : ∀ b : Int, 0 ≤ b → b < 0 + ((M 174 4).toNat : Int) → (-1 ≤ G b ∧ G b < 4) ∧ ∀ k : Int, 0 ≤ k → k < (dN D : Int) → 0 ≤ W b k ∧ W b k ≤ 999 := fun b b0 b1 => by
    obtain ⟨s1, s2⟩ := hb.2.2.2.2 b b0 ⟨by omega, by omega⟩
    exact ⟨⟨s1.2.2.1.2.1, s1.2.2.1.2.2.1⟩, fun k k0 k1 => s1.2.2.2.2.1 k k0 (by omega)⟩
  obtain ⟨iB, iL⟩ := iall_bd (M 174 4).toNat 0 hbd
  -- the check, and its octet
  have chk : ∀ (m i : Nat) (c : Int) (M1 : am_M), i + m = (iall (dN D) G W (M 174 4).toNat 0).length → (iall (dN D) G W (M 174 4).toNat 0).length ≤ 52 → 0 ≤ c ∧ c ≤ 250 → (∀ x j, ¬ x = 150 → ¬ (x = 0 ∧ j = 15) → M1 x j = M x j) → pl_c M1 (iall (dN D) G W (M 174 4).toNat 0) → ickf (iall (dN D) G W (M 174 4).toNat 0) 181 = ickf ((iall (dN D) G W (M 174 4).toNat 0).drop i) c → am_g 11 0 co_X11_image (d + 1) (am_c0 sh_T f) 103 [(2, 0), (0, c), (0, (i : Int)), (3, 0)] [] sh_T M1 := by
    intro m
    induction m with
    | zero =>
      intro i c M1 hi h52 hc fr pl hk
      have p1 := pl.1
      refine bk_X11_image_103 ⟨fun _ => st_paint pl (by omega) (fun M2 f2 p2 => am_c0_i ?_), fun y => by omega⟩
      rw [List.drop_of_length_le (by omega)] at hk
      have hk : ickf (iall (dN D) G W (M 174 4).toNat 0) 181 = c := hk
      rw [← hk] at p2
      have r := h M2 (fun x j y1 y2 => by rw [f2 x j y1 y2]; exact fr x j y1 y2) p2
      have e15 : M2 0 15 = ((ipic D G W (M 174 4).toNat).length : Int) := p2.1
      rw [e15]
      exact r
    | succ m ih =>
      intro i c M1 hi h52 hc fr pl hk
      have p1 := pl.1
      obtain ⟨q1, q2, q3, q4, q5⟩ := ickf_step iB (i := i) (by omega) hc
      have e := pl.2 i (by omega)
      refine bk_X11_image_103 ⟨fun y => by omega, fun _ => ⟨fun y => by omega, fun _ => ?_⟩⟩
      rw [e, q3]
      exact ⟨⟨by omega, by omega⟩, ⟨by omega, by omega⟩, ⟨by omega, by omega⟩, ⟨by omega, by omega⟩, ih (i + 1) _ M1 (by omega) h52 ⟨q4, q5⟩ fr pl (by rw [hk, q1])⟩
  -- a row
  have row : ∀ (a : Int), 0 ≤ a → a < 4 → (0 ≤ a ∧ (a < 4 ∧ a < dA D)) → ∀ (m : Nat) (j : Nat) (L : List Int) (M1 : am_M), j + m = dN D → L.length + 2 * m ≤ 52 → (∀ x j, ¬ x = 150 → ¬ (x = 0 ∧ j = 15) → M1 x j = M x j) → pl_c M1 L → (∀ M2, (∀ x j, ¬ x = 150 → ¬ (x = 0 ∧ j = 15) → M2 x j = M x j) → pl_c M2 (L ++ irow (W a) m j) → am_g 11 0 co_X11_image (d + 1) (am_c0 sh_T f) 7 [(2, 0), (0, a + 1), (3, 0), (3, 0)] [] sh_T M2) → am_g 11 0 co_X11_image (d + 1) (am_c0 sh_T f) 45 [(2, 0), (0, a), (0, (j : Int)), (3, 0)] [] sh_T M1 := by
    intro a a0 a4 aok m
    obtain ⟨s1, s2⟩ := hb.2.2.2.2 a a0 aok.2
    induction m with
    | zero =>
      intro j L M1 hj hl fr pl k
      have e4 : M1 0 4 = M 0 4 := fr 0 4 (by omega) (by omega)
      refine bk_X11_image_45 ⟨by rw [e4]; exact dr_ob hu, ?_⟩
      rw [e4]
      refine st_count hu ?_
      rw [if_pos (by decide), fr (M 0 4 + 2) 0 (by omega) (by omega), hN2]
      refine ⟨fun _ => ⟨⟨by omega, by omega⟩, k M1 fr ?_⟩, fun y => by omega⟩
      rw [show irow (W a) 0 (j : Int) = [] from rfl, List.append_nil]
      exact pl
    | succ m ih =>
      intro j L M1 hj hl fr pl k
      have e4 : M1 0 4 = M 0 4 := fr 0 4 (by omega) (by omega)
      have hw := s1.2.2.2.2.1 j (by omega) (by omega)
      have ew : M1 (37 + 1 + 2 * a + 1) j = W a j := by rw [fr _ _ (by omega) (by omega)]; exact s1.2.2.2.1 j (by omega) (by omega)
      refine bk_X11_image_45 ⟨by rw [e4]; exact dr_ob hu, ?_⟩
      rw [e4]
      refine st_count hu ?_
      rw [if_pos (by decide), fr (M 0 4 + 2) 0 (by omega) (by omega), hN2]
      refine ⟨fun y => by omega, fun _ => ⟨⟨a0, a4⟩, s1.1.1, st_at s1.1 ?_⟩⟩
      rw [if_pos ⟨by omega, by omega⟩, ew]
      have es : am_shr (W a j) 8 = W a j / 256 := shr_10 (k := 8) (by omega) ⟨by omega, by omega⟩
      have eb : am_band (W a j) 255 = W a j % 256 := by
        have := band_255 (n := (W a j).toNat) (by omega)
        rw [show (((W a j).toNat : Nat) : Int) = W a j by omega] at this
        rw [this]; omega
      rw [es, eb]
      refine st_paint pl (by omega) (fun M2 f2 p2 => st_paint p2 (by rw [List.length_append, List.length_singleton]; omega) (fun M3 f3 p3 => ⟨⟨by omega, by omega⟩, ?_⟩))
      have el : (L ++ [W a j / 256] ++ [W a j % 256]).length = L.length + 2 := by rw [List.length_append, List.length_append, List.length_singleton, List.length_singleton]
      refine ih (j + 1) (L ++ [W a j / 256] ++ [W a j % 256]) M3 (by omega) (by omega) (fun x j y1 y2 => by rw [f3 x j y1 y2, f2 x j y1 y2]; exact fr x j y1 y2) p3 (fun M4 f4 p4 => k M4 f4 ?_)
      have e : L ++ [W a j / 256] ++ [W a j % 256] ++ irow (W a) m ((j + 1 : Nat) : Int) = L ++ irow (W a) (m + 1) (j : Int) := by
        show _ = L ++ ([W a j / 256, W a j % 256] ++ irow (W a) m ((j : Int) + 1))
        rw [List.append_assoc, List.append_assoc, show ((j + 1 : Nat) : Int) = (j : Int) + 1 by omega]
        rfl
      rw [e] at p4
      exact p4
  have all : ∀ (m a : Nat) (L : List Int) (M1 : am_M), a + m = (M 174 4).toNat → L.length + m * (1 + 2 * dN D) ≤ 52 → (∀ x j, ¬ x = 150 → ¬ (x = 0 ∧ j = 15) → M1 x j = M x j) → pl_c M1 L → L ++ iall (dN D) G W m a = iall (dN D) G W (M 174 4).toNat 0 → am_g 11 0 co_X11_image (d + 1) (am_c0 sh_T f) 7 [(2, 0), (0, (a : Int)), (3, 0), (3, 0)] [] sh_T M1 := by
    intro m
    induction m with
    | zero =>
      intro a L M1 ha hl fr pl hL
      have e4 : M1 0 4 = M 0 4 := fr 0 4 (by omega) (by omega)
      rw [show iall (dN D) G W 0 (a : Int) = [] from rfl, List.append_nil] at hL
      subst hL
      refine bk_X11_image_7 ⟨by rw [e4]; exact dr_ob hu, ?_⟩
      rw [e4]
      refine st_count hu ?_
      rw [if_pos (by decide), fr (M 0 4 + 2) 1 (by omega) (by omega), hA.1.1]
      exact ⟨fun _ => chk _ 0 181 M1 (Nat.zero_add _) (by omega) (by decide) fr pl rfl, fun y => by omega⟩
    | succ m ih =>
      intro a L M1 ha hl fr pl hL
      have e4 : M1 0 4 = M 0 4 := fr 0 4 (by omega) (by omega)
      obtain ⟨s1, s2⟩ := hb.2.2.2.2 a (by omega) ⟨by omega, by omega⟩
      rw [Nat.succ_mul m (1 + 2 * dN D)] at hl
      refine bk_X11_image_7 ⟨by rw [e4]; exact dr_ob hu, ?_⟩
      rw [e4]
      refine st_count hu ?_
      rw [if_pos (by decide), fr (M 0 4 + 2) 1 (by omega) (by omega), hA.1.1]
      have eg : M1 (37 + 1 + 2 * (a : Int)) 2 = G a := by rw [fr _ _ (by omega) (by omega)]; exact s1.2.2.1.1
      have g4 := s1.2.2.1.2
      rw [eg]
      refine ⟨fun y => by omega, fun _ => ⟨fun y => by omega, fun _ => ⟨⟨by omega, by omega⟩, s1.1.1, ⟨by omega, by omega⟩, st_paint pl (by omega) (fun M2 f2 p2 => row a (by omega) (by omega) ⟨by omega, by omega, by omega⟩ (dN D) 0 (L ++ [G a + 1]) M2 (by omega) (by rw [List.length_append, List.length_singleton]; omega) (fun x j y1 y2 => by rw [f2 x j y1 y2]; exact fr x j y1 y2) p2 (fun M3 f3 p3 => ?_))⟩⟩⟩
      refine ih (a + 1) _ M3 (by omega) ?_ f3 p3 ?_
      · rw [List.length_append, List.length_append, List.length_singleton, irow_len]; omega
      · rw [← hL, List.append_assoc, List.append_assoc]
        show L ++ ([G a + 1] ++ (irow (W a) (dN D) 0 ++ iall (dN D) G W m ((a + 1 : Nat) : Int))) = L ++ ([G a + 1] ++ irow (W a) (dN D) 0 ++ iall (dN D) G W m ((a : Int) + 1))
        rw [List.append_assoc, show ((a + 1 : Nat) : Int) = (a : Int) + 1 by omega]
  have h52 : (M 174 4).toNat * (1 + 2 * dN D) ≤ 52 := by
    have h1 : (M 174 4).toNat ≤ 4 := by omega
    have h2 : 1 + 2 * dN D ≤ 13 := by omega
    exact Nat.le_trans (Nat.mul_le_mul h1 h2) (by decide)
  exact en_X11_image (bk_X11_image_0 (all (M 174 4).toNat 0 [] _ (Nat.zero_add _) (by rw [List.length_nil]; omega) (fun x j y1 y2 => am_up_el (by omega)) ⟨am_up_at, fun i hi => absurd hi (Nat.not_lt_zero i)⟩ rfl))
