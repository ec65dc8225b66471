/-! on IN THE CLASS -/
def tls (t : Int → Int) : Nat → Int → List Int
  | 0, _ => []
  | n + 1, p => t p :: tls t n (p + 1)
theorem tls_len {t : Int → Int} : ∀ (n : Nat) (p : Int), (tls t n p).length = n
  | 0, _ => rfl
  | n + 1, p => by show (tls t n (p + 1)).length + 1 = n + 1; rw [tls_len n]
theorem tls_at {t : Int → Int} : ∀ (n : Nat) (p : Int) (j : Nat), j < n → (tls t n p).getD j 0 = t (p + j)
  | 0, _, j, h => absurd h (Nat.not_lt_zero j)
  | n + 1, p, 0, _ => by show t p = t (p + ((0 : Nat) : Int)); rw [show p + ((0 : Nat) : Int) = p by omega]
  | n + 1, p, j + 1, h => by
    show (tls t n (p + 1)).getD j 0 = _
    rw [tls_at n (p + 1) j (by omega), show p + 1 + (j : Int) = p + ((j + 1 : Nat) : Int) by omega]
theorem tls_mem {t : Int → Int} : ∀ (n : Nat) (p : Int) (x : Int), x ∈ tls t n p → ∃ j : Nat, j < n ∧ x = t (p + j)
  | 0, _, x, h => by cases h
  | n + 1, p, x, h => by
    rcases List.mem_cons.mp h with rfl | h
    · exact ⟨0, by omega, by rw [show p + ((0 : Nat) : Int) = p by omega]⟩
    · obtain ⟨j, h1, h2⟩ := tls_mem n (p + 1) x h
      exact ⟨j + 1, by omega, by rw [h2, show p + 1 + (j : Int) = p + ((j + 1 : Nat) : Int) by omega]⟩
/-- where a sleeper's octets begin -/
def ps_ (N : Nat) (a : Int) : Int := (1 + 2 * (N : Int)) * a
theorem ps_s {N : Nat} {a : Int} : ps_ N (a + 1) = ps_ N a + (1 + 2 * (N : Int)) := by unfold ps_; rw [Int.mul_add, Int.mul_one]
theorem ps_le {N : Nat} {a b : Int} (h : a ≤ b) : ps_ N a ≤ ps_ N b := Int.mul_le_mul_of_nonneg_left h (by omega)
theorem ps_0 {N : Nat} : ps_ N 0 = 0 := Int.mul_zero _
theorem ps_bd {N : Nat} {a A : Int} (hN : N ≤ 6) (hA : 0 ≤ A ∧ A ≤ 4) (h0 : 0 ≤ a) (h : a < A) : 0 ≤ ps_ N a ∧ ps_ N a + (1 + 2 * (N : Int)) ≤ ps_ N A ∧ ps_ N A ≤ 52 := by
  have h1 := ps_le (N := N) h0
  have h2 := ps_le (N := N) (show a + 1 ≤ A by omega)
  have h3 := ps_le (N := N) hA.2
  rw [ps_0] at h1
  rw [ps_s] at h2
  unfold ps_ at h3 h2 h1 ⊢
  omega
def pk_ (t : Int → Int) (N : Nat) (a j : Int) : Int := 256 * t (ps_ N a + 1 + 2 * j) + t (ps_ N a + 2 + 2 * j)
/-- a tape is a picture -/
def po_ (t : Int → Int) (R : Int) (N : Nat) (A g : Int) : Prop := R = ps_ N A + 1 ∧ t (R - 1) = ickf (tls t (R - 1).toNat 0) 181 ∧ ∀ a : Int, 0 ≤ a → a < A → t (ps_ N a) ≤ g ∧ ∀ j : Int, 0 ≤ j → j < (N : Int) → pk_ t N a j ≤ 999
theorem st_pairAt {d : Nat} {M : am_M} {f : Int → am_M → Prop} {k : Int} (ht : 0 ≤ M 1 1 ∧ M 1 1 ≤ 1600) (hb : ∀ j : Int, 0 ≤ j → j < M 1 1 → 0 ≤ M 2 j ∧ M 2 j ≤ 255) (hk : 0 ≤ k ∧ k + 1 < M 1 1) (h : f (256 * M 2 k + M 2 (k + 1)) M) : am_cal pg (d + 2) 93 [(2, 1), (0, k)] sh_T M (am_c0 sh_T f) := by
  have b1 := hb k hk.1 (by omega)
  have b2 := hb (k + 1) (by omega) (by omega)
  refine en_X9_pairAt (bk_X9_pairAt_0 (st_byteAt ht.2 ?_))
  rw [show rd_by (M 2) (M 1 1) k = M 2 k from if_pos ⟨by omega, by omega⟩]
  refine ⟨⟨by omega, by omega⟩, ⟨by omega, by omega⟩, st_byteAt ht.2 ?_⟩
  rw [show rd_by (M 2) (M 1 1) (k + 1) = M 2 (k + 1) from if_pos ⟨by omega, by omega⟩]
  exact ⟨⟨by omega, by omega⟩, am_c0_i h⟩
theorem st_isPicture {d : Nat} {M : am_M} {f : Int → am_M → Prop} {N : Nat} {A g : Int} (hu : dr_is (M 0 4)) (hN : M (M 0 4 + 2) 0 = N) (hA : M (M 0 4 + 2) 1 = A) (hg : M (M 0 4 + 2) 2 = g) (hN6 : N ≤ 6) (hA4 : 0 ≤ A ∧ A ≤ 4) (ht : 0 ≤ M 1 1 ∧ M 1 1 ≤ 1600) (hb : ∀ j : Int, 0 ≤ j → j < M 1 1 → 0 ≤ M 2 j ∧ M 2 j ≤ 255) (h1 : po_ (M 2) (M 1 1) N A g → f 1 M) (h0 : ¬ po_ (M 2) (M 1 1) N A g → f 0 M) : am_cal pg (d + 3) 166 [(2, 0)] sh_T M (am_c0 sh_T f) := by
  have ob := dr_ob hu
  have c0 : ∀ {e : Nat} {f : Int → am_M → Prop}, f (N : Int) M → am_cal pg (e + 1) 14 [(2, M 0 4), (0, 0)] sh_T M (am_c0 sh_T f) := fun h => st_count hu (by rw [if_pos (by decide), hN]; exact h)
  have c1 : ∀ {e : Nat} {f : Int → am_M → Prop}, f A M → am_cal pg (e + 1) 14 [(2, M 0 4), (0, 1)] sh_T M (am_c0 sh_T f) := fun h => st_count hu (by rw [if_pos (by decide), hA]; exact h)
  have c2 : ∀ {e : Nat} {f : Int → am_M → Prop}, f g M → am_cal pg (e + 1) 14 [(2, M 0 4), (0, 2)] sh_T M (am_c0 sh_T f) := fun h => st_count hu (by rw [if_pos (by decide), hg]; exact h)
  have hp4 := ps_le (N := N) hA4.2
  have hp40 : ps_ N A ≤ 52 := by unfold ps_ at hp4 ⊢; omega
  -- no picture any more
  have b143 : ∀ (a : Int), 0 ≤ a → a < A → (am_g 11 5 co_X11_isPicture (d + 2) (am_c0 sh_T f) 93 [(2, 0), (3, 0), (3, 0), (0, ps_ N (a + 1)), (0, 0), (0, a + 1), (3, 0)] [] sh_T M) → ∀ (m j : Nat), j + m = N → am_g 11 5 co_X11_isPicture (d + 2) (am_c0 sh_T f) 143 [(2, 0), (3, 0), (3, 0), (0, ps_ N a + 1 + 2 * (j : Int)), (0, 0), (0, a), (0, (j : Int))] [] sh_T M := by
    intro a a0 a1 hn m
    have hp := ps_bd hN6 hA4 a0 a1
    induction m with
    | zero =>
      intro j hj
      refine bk_X11_isPicture_143 ⟨ob, c0 ⟨fun _ => ⟨⟨by omega, by omega⟩, ?_⟩, fun y => by omega⟩⟩
      rw [show ps_ N a + 1 + 2 * (j : Int) = ps_ N (a + 1) by rw [ps_s]; omega]
      exact hn
    | succ m ih =>
      intro j hj
      refine bk_X11_isPicture_143 ⟨ob, c0 ⟨fun y => by omega, fun _ => ⟨fun _ => bk_X11_isPicture_179 ⟨⟨by omega, by omega⟩, ⟨by omega, by omega⟩, ?_⟩, fun y => absurd rfl y⟩⟩⟩
      rw [show ps_ N a + 1 + 2 * (j : Int) + 2 = ps_ N a + 1 + 2 * ((j + 1 : Nat) : Int) by omega]
      exact ih (j + 1) (by omega)
  have b93 : ¬ po_ (M 2) (M 1 1) N A g → ∀ (m a : Nat), (a : Int) + m = A → am_g 11 5 co_X11_isPicture (d + 2) (am_c0 sh_T f) 93 [(2, 0), (3, 0), (3, 0), (0, ps_ N a), (0, 0), (0, (a : Int)), (3, 0)] [] sh_T M := by
    intro hno m
    induction m with
    | zero => exact fun a ha => bk_X11_isPicture_93 ⟨ob, c1 ⟨fun _ => ⟨Or.inl rfl, am_c0_i (h0 hno)⟩, fun y => by omega⟩⟩
    | succ m ih =>
      intro a ha
      have hp := ps_bd (a := (a : Int)) hN6 hA4 (by omega) (by omega)
      refine bk_X11_isPicture_93 ⟨ob, c1 ⟨fun y => by omega, fun _ => ⟨fun _ => bk_X11_isPicture_134 ⟨⟨by omega, by omega⟩, ?_⟩, fun y => absurd rfl y⟩⟩⟩
      have r := b143 a (by omega) (by omega) (ih (a + 1) (by omega)) N 0 (Nat.zero_add _)
      rw [show ps_ N (a : Int) + 1 + 2 * ((0 : Nat) : Int) = ps_ N a + 1 by omega] at r
      exact r
  have g93 : M 1 1 = ps_ N A + 1 → M 2 (M 1 1 - 1) = ickf (tls (M 2) (M 1 1 - 1).toNat 0) 181 → ∀ (m a : Nat), (a : Int) + m = A → (∀ b : Int, 0 ≤ b → b < a → M 2 (ps_ N b) ≤ g ∧ ∀ j : Int, 0 ≤ j → j < (N : Int) → pk_ (M 2) N b j ≤ 999) → am_g 11 5 co_X11_isPicture (d + 2) (am_c0 sh_T f) 93 [(2, 0), (3, 0), (3, 0), (0, ps_ N a), (0, 1), (0, (a : Int)), (3, 0)] [] sh_T M := by
    intro hR hck m
    induction m with
    | zero => exact fun a ha hall => bk_X11_isPicture_93 ⟨ob, c1 ⟨fun _ => ⟨Or.inr rfl, am_c0_i (h1 ⟨hR, hck, fun b b0 b1 => hall b b0 (by omega)⟩)⟩, fun y => by omega⟩⟩
    | succ m ih =>
      intro a ha hall
      have hp := ps_bd (a := (a : Int)) hN6 hA4 (by omega) (by omega)
      have hbb := hb (ps_ N a) hp.1 (by omega)
      have inner : M 2 (ps_ N a) ≤ g → ∀ (m2 j : Nat), j + m2 = N → (∀ i : Int, 0 ≤ i → i < j → pk_ (M 2) N a i ≤ 999) → am_g 11 5 co_X11_isPicture (d + 2) (am_c0 sh_T f) 143 [(2, 0), (3, 0), (3, 0), (0, ps_ N a + 1 + 2 * (j : Int)), (0, 1), (0, (a : Int)), (0, (j : Int))] [] sh_T M := by
        intro hga m2
        induction m2 with
        | zero =>
          intro j hj hi
          refine bk_X11_isPicture_143 ⟨ob, c0 ⟨fun _ => ⟨⟨by omega, by omega⟩, ?_⟩, fun y => by omega⟩⟩
          rw [show ps_ N (a : Int) + 1 + 2 * (j : Int) = ps_ N ((a : Int) + 1) by rw [ps_s]; omega]
          refine ih (a + 1) (by omega) (fun b b0 b1 => ?_)
          by_cases z : b = (a : Int)
          · rw [z]; exact ⟨hga, fun i i0 i1 => hi i i0 (by omega)⟩
          · exact hall b b0 (by omega)
        | succ m2 ih2 =>
          intro j hj hi
          refine bk_X11_isPicture_143 ⟨ob, c0 ⟨fun y => by omega, fun _ => ⟨fun y => absurd y (by decide), fun _ => st_pairAt ht hb ⟨by omega, by omega⟩ ?_⟩⟩⟩
          have ep : 256 * M 2 (ps_ N (a : Int) + 1 + 2 * (j : Int)) + M 2 (ps_ N (a : Int) + 1 + 2 * (j : Int) + 1) = pk_ (M 2) N a j := by
            unfold pk_
            rw [show ps_ N (a : Int) + 1 + 2 * (j : Int) + 1 = ps_ N (a : Int) + 2 + 2 * (j : Int) by omega]
          rw [ep]
          refine ⟨fun y => bk_X11_isPicture_179 ⟨⟨by omega, by omega⟩, ⟨by omega, by omega⟩, ?_⟩, fun y => ⟨⟨by omega, by omega⟩, ⟨by omega, by omega⟩, ?_⟩⟩
          · rw [show ps_ N (a : Int) + 1 + 2 * (j : Int) + 2 = ps_ N a + 1 + 2 * ((j + 1 : Nat) : Int) by omega]
            exact b143 a (by omega) (by omega) (b93 (fun w => by have := (w.2.2 a (by omega) (by omega)).2 j (by omega) (by omega); omega) m (a + 1) (by omega)) m2 (j + 1) (by omega)
          · rw [show ps_ N (a : Int) + 1 + 2 * (j : Int) + 2 = ps_ N a + 1 + 2 * ((j + 1 : Nat) : Int) by omega]
            refine ih2 (j + 1) (by omega) (fun i i0 i1 => ?_)
            by_cases z : i = (j : Int)
            · rw [z]; exact y
            · exact hi i i0 (by omega)
      refine bk_X11_isPicture_93 ⟨ob, c1 ⟨fun y => by omega, fun _ => ⟨fun y => absurd y (by decide), fun _ => st_byteAt ht.2 ⟨ob, c2 ?_⟩⟩⟩⟩
      rw [show rd_by (M 2) (M 1 1) (ps_ N a) = M 2 (ps_ N a) from if_pos ⟨hp.1, by omega⟩]
      have e0 : ps_ N (a : Int) + 1 + 2 * ((0 : Nat) : Int) = ps_ N a + 1 := by omega
      refine ⟨fun y => bk_X11_isPicture_134 ⟨⟨by omega, by omega⟩, ?_⟩, fun y => ⟨⟨by omega, by omega⟩, ?_⟩⟩
      · have r := b143 a (by omega) (by omega) (b93 (fun w => by have := (w.2.2 a (by omega) (by omega)).1; omega) m (a + 1) (by omega)) N 0 (Nat.zero_add _)
        rw [e0] at r
        exact r
      · have r := inner y N 0 (Nat.zero_add _) (fun i i0 i1 => by omega)
        rw [e0] at r
        exact r
  have chk : M 1 1 = ps_ N A + 1 → ∀ (m i : Nat) (c : Int), (i : Int) + m = ps_ N A → 0 ≤ c ∧ c ≤ 250 → ickf (tls (M 2) (M 1 1 - 1).toNat 0) 181 = ickf ((tls (M 2) (M 1 1 - 1).toNat 0).drop i) c → am_g 11 5 co_X11_isPicture (d + 2) (am_c0 sh_T f) 43 [(2, 0), (0, ps_ N A), (0, c), (0, (i : Int)), (3, 0), (3, 0), (3, 0)] [] sh_T M := by
    intro hR m
    have hl : (tls (M 2) (M 1 1 - 1).toNat 0).length = (M 1 1 - 1).toNat := tls_len _ _
    have hLb : ∀ x ∈ tls (M 2) (M 1 1 - 1).toNat 0, 0 ≤ x ∧ x ≤ 255 := fun x hx => by
      obtain ⟨j, j1, rfl⟩ := tls_mem _ _ _ hx
      exact hb _ (by omega) (by omega)
    induction m with
    | zero =>
      intro i c hi hc hk
      rw [List.drop_of_length_le (by omega)] at hk
      have hk : ickf (tls (M 2) (M 1 1 - 1).toNat 0) 181 = c := hk
      refine bk_X11_isPicture_43 ⟨fun _ => st_byteAt ht.2 ?_, fun y => by omega⟩
      rw [show rd_by (M 2) (M 1 1) (ps_ N A) = M 2 (ps_ N A) from if_pos ⟨by omega, by omega⟩]
      have e1 : M 1 1 - 1 = ps_ N A := by omega
      refine ⟨fun y => ?_, fun y => am_c0_i (h0 (fun w => y ?_))⟩
      · have r := g93 hR (by rw [hk, e1]; exact y) A.toNat 0 (by omega) (fun b b0 b1 => by omega)
        rw [show ps_ N ((0 : Nat) : Int) = 0 from ps_0] at r
        exact r
      · have w2 := w.2.1
        rw [hk, e1] at w2
        exact w2
    | succ m ih =>
      intro i c hi hc hk
      obtain ⟨q1, q2, q3, q4, q5⟩ := ickf_step hLb (i := i) (by omega) hc
      have ea := tls_at (t := M 2) (M 1 1 - 1).toNat 0 i (by omega)
      rw [Int.zero_add] at ea
      refine bk_X11_isPicture_43 ⟨fun y => by omega, fun _ => ⟨⟨by omega, by omega⟩, st_byteAt ht.2 ?_⟩⟩
      rw [show rd_by (M 2) (M 1 1) (i : Int) = M 2 i from if_pos ⟨by omega, by omega⟩, ← ea, q3]
      exact ⟨⟨by omega, by omega⟩, ⟨by omega, by omega⟩, ih (i + 1) _ (by omega) ⟨q4, q5⟩ (by rw [hk, q1])⟩
  refine en_X11_isPicture (bk_X11_isPicture_0 ⟨ob, c1 ⟨ob, c0 ?_⟩⟩)
  have em : A * (1 + 2 * (N : Int)) = ps_ N A := Int.mul_comm _ _
  have hp0 := ps_le (N := N) hA4.1
  rw [ps_0] at hp0
  rw [em]
  exact ⟨⟨by omega, by omega⟩, ⟨by omega, by omega⟩, ⟨by omega, by omega⟩, ⟨by omega, by omega⟩, fun y => chk y (ps_ N A).toNat 0 181 (by omega) (by decide) rfl, fun y => am_c0_i (h0 (fun w => y w.1))⟩
