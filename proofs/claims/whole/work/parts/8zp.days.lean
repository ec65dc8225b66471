/-! DAYS IN THE REFERENCE, and on both sides -/
theorem io_in {N : Nat} (hN : 1 ≤ N) : ∀ (m x acc : Nat) (ds : List Int), (∀ k ∈ ds, 0 ≤ k ∧ k < (N : Int)) → ∀ k ∈ (io_ N m x acc ds).2, 0 ≤ k ∧ k < (N : Int)
  | 0, _, _, _, h => h
  | m + 1, x, acc, ds, h => io_in hN m (x / N) (acc ||| 2 ^ (x % N)) (((x % N : Nat) : Int) :: ds) (fun k hk => by
    have := Nat.mod_lt x (show N > 0 by omega)
    rcases List.mem_cons.mp hk with z | z
    · rw [z]; omega
    · exact h k z)
theorem sp_meets {D : dm_D} {a : Int} {d p v : Nat} {Q : am_Q} {k5 al few x : Int} (ha : 0 ≤ a ∧ a < 4 ∧ a < dA D) (hv : v < 64) (hpv : pc_ v = p) (hp : p ≤ 4) : ∀ (ds : List Int) (i : Nat) (M : am_M) (u : Int → Int), i + ds.length = p → (∀ j : Nat, j < ds.length → M 189 ((i : Int) + (j : Int)) = ds.getD j 0) → (∀ k ∈ ds, 0 ≤ k ∧ k < dN D) → rg_is M D → rw_ok M D 7 u → (∀ M', (∀ x j, ¬ x = 184 → ¬ x = 185 → ¬ (x = 152 ∧ j = 46) → ¬ x = 187 → M' x j = M x j) → rg_is M' D → rw_ok M' D 7 (dy_ D a ds u) → am_g 12 0 co_X12_days (d + 32) Q 123 [(2, 152), (0, a), (0, (v : Int)), (0, k5), (0, al), (0, few), (0, x), (0, (p : Int))] [] sh_T M') → am_g 12 0 co_X12_days (d + 32) Q 123 [(2, 152), (0, a), (0, (v : Int)), (0, k5), (0, al), (0, few), (0, x), (0, (i : Int))] [] sh_T M
  | [], i, M, u, hi, _, _, hd, hs, h => by
    rw [List.length_nil] at hi
    have ei : i = p := by omega
    subst ei
    exact h M (fun _ _ _ _ _ _ => rfl) hd hs
  | k :: ds, i, M, u, hi, hk, hin, hd, hs, h => by
    rw [List.length_cons] at hi hk
    have e0 : M 189 (i : Int) = k := by
      have := hk 0 (by omega)
      rw [show (i : Int) + ((0 : Nat) : Int) = (i : Int) by omega] at this
      exact this
    have hkD := hin k List.mem_cons_self
    have hN := hd.1.1
    refine bk_X12_days_123 (sp_bits hv ?_)
    rw [hpv, e0]
    refine ⟨fun z => by omega, fun _ => ⟨⟨by omega, by omega⟩, ⟨by omega, by omega⟩, sp_mk hd hs ha ⟨hkD.1, by omega⟩ (by decide) (fun M1 f1 => ⟨⟨by omega, by omega⟩, ⟨by omega, by omega⟩, ?_⟩)⟩⟩
    have x5 := pu_made_le (o := dO D 2) (n := 6) (b := dB D a) hs.2.2.1 (k := k) ⟨hkD.1, by omega⟩
    have w1 : rw_ok (am_up M1 187 (7 + k) (pu_made (dO D 2) u 6 k (dB D a))) D 7 (pu_up u k (pu_made (dO D 2) u 6 k (dB D a))) := rw_put (rw_fr (fun k k0 k1 => f1 187 _ (by omega) (by omega) (by omega)) hs) hkD.2 x5 rfl
    have f2 : ∀ x j, ¬ x = 184 → ¬ x = 185 → ¬ (x = 152 ∧ j = 46) → ¬ x = 187 → am_up M1 187 (7 + k) (pu_made (dO D 2) u 6 k (dB D a)) x j = M x j := fun x j y y2 y3 y4 => (am_up_el (by omega)).trans (f1 x j y y2 y3)
    generalize am_up M1 187 (7 + k) (pu_made (dO D 2) u 6 k (dB D a)) = M2 at w1 f2 ⊢
    refine sp_meets ha hv hpv hp ds (i + 1) M2 _ (by omega) (fun j hj => ?_) (fun x hx => hin x (List.mem_cons_of_mem _ hx)) (rg_is_fr (fun x j x1 x2 => f2 x j (by omega) (by omega) (by omega) (by omega)) hd) w1 (fun M' q1 q2 q3 => h M' (fun x j y y2 y3 y4 => (q1 x j y y2 y3 y4).trans (f2 x j y y2 y3 y4)) q2 q3)
    rw [f2 189 _ (by omega) (by omega) (by omega) (by omega), show ((i + 1 : Nat) : Int) + (j : Int) = (i : Int) + ((j + 1 : Nat) : Int) by omega, hk (j + 1) (by omega)]
    rfl
/-- the best order is kept -/
theorem sp_keepsO {d p v : Nat} {Q : am_Q} {a k5 al few x : Int} (hv : v < 64) (hpv : pc_ v = p) (hp : p ≤ 4) {M0 : am_M} : ∀ (m i : Nat) (M : am_M), i + m = p → (∀ x j, ¬ x = 190 → M x j = M0 x j) → (∀ j : Nat, j < i → M 190 (j : Int) = M0 189 (j : Int)) → (∀ M', (∀ x j, ¬ x = 190 → M' x j = M0 x j) → (∀ j : Nat, j < p → M' 190 (j : Int) = M0 189 (j : Int)) → am_g 12 0 co_X12_days (d + 32) Q 242 [(2, 152), (0, a), (0, (v : Int)), (0, k5), (0, al), (0, few), (0, x), (3, 0)] [] sh_T M') → am_g 12 0 co_X12_days (d + 32) Q 213 [(2, 152), (0, a), (0, (v : Int)), (0, k5), (0, al), (0, few), (0, x), (0, (i : Int))] [] sh_T M
  | 0, i, M, hi, h1, h2, h => by
    refine bk_X12_days_213 (sp_bits hv ?_)
    rw [hpv]
    exact ⟨fun _ => h M h1 (fun j hj => h2 j (by omega)), fun z => by omega⟩
  | m + 1, i, M, hi, h1, h2, h => by
    refine bk_X12_days_213 (sp_bits hv ?_)
    rw [hpv]
    refine ⟨fun z => by omega, fun _ => ⟨⟨by omega, by omega⟩, ⟨by omega, by omega⟩, ⟨by omega, by omega⟩, ?_⟩⟩
    refine sp_keepsO hv hpv hp m (i + 1) _ (by omega) (fun x j y => (am_up_el (by omega)).trans (h1 x j y)) (fun j hj => ?_) h
    by_cases z : j = i
    · rw [z, am_up_at]
      exact h1 189 _ (by omega)
    · rw [am_up_el (by omega)]
      exact h2 j (by omega)
theorem sp_lays7e {d : Nat} {M : am_M} {f : am_M → Prop} {a g : Int} {D : dm_D} {w : Int → Int} (hd : rg_is M D) (hs : rs_ok M D a g w) (h : ∀ M', (∀ x j, ¬ x = 187 → M' x j = M x j) → rg_is M' D → rs_ok M' D a g w → rw_ok M' D 7 w → f M') : am_cal pg (d + 2) 218 [(2, 152), (0, a), (0, 7)] sh_T M (am_cv sh_T f) := by
  have ha := hs.1
  refine sp_laysNow (v4 ha) (by decide) ?_
  have e : ∀ x, ¬ x = 187 → am_rs M 187 7 (fun k => M 186 (7 * a + 1 + k)) 6 x = M x := fun x hx => am_rs_el hx
  refine h _ (fun x j y => by rw [e x y]) (rg_is_fr (fun x j x1 x2 => by rw [e x (by omega)]) hd) (rs_ok_fr (fun j => by rw [e 186 (by decide)]) hs) ⟨by decide, fun k k0 k1 => ?_, hs.2.2.2⟩
  show am_rs M 187 7 (fun k => M 186 (7 * a + 1 + k)) 6 187 (7 + k) = w k
  rw [am_rs_at (by omega) (by omega)]
  show M 186 (7 * a + 1 + (7 + k - 7)) = w k
  rw [show (7 : Int) + k - 7 = k by omega]
  exact hs.2.2.1 k k0 k1
def io_f (N v x : Nat) : Option (List Int) := if (io_ N (pc_ v) x 0 []).1 = v then some (io_ N (pc_ v) x 0 []).2 else none
theorem io_pw {N j : Nat} (hN : N ≤ 6) (hj : j ≤ 4) : N ^ j ≤ 1296 := Nat.le_trans (Nat.pow_le_pow_left hN j) (show 6 ^ j ≤ 6 ^ 4 from Nat.pow_le_pow_right (by decide) hj)
theorem sp_findDays {D : dm_D} {a g k : Int} {d v : Nat} {M : am_M} {f : Int → am_M → Prop} {w : Int → Int} (hd : rg_is M D) (hs : rs_ok M D a g w) (hv : v < 2 ^ dN D) (hp : pc_ v ≤ 4) (hk : k = -1 ∨ (0 ≤ k ∧ k < (pc_ v : Int)))
    (h : ∀ (M' : am_M) (b : Int) (o : List Int), sc_fr M M' → dn_ D a g w (ios_ (dN D) v) b o → f (if b = -1 ∨ k = -1 then b else o.getD k.toNat 0) M') : am_g 12 0 co_X12_days (d + 32) (am_c0 sh_T f) 57 [(2, 152), (0, a), (0, (v : Int)), (0, k), (3, 0), (3, 0), (3, 0), (3, 0)] [] sh_T M := by
  have hN := hd.1.1
  have hv64 := lt_64 hN hv
  have ha := hs.1
  have hg := hs.2.1.2
  have h0 : 1 ≤ dN D ∨ pc_ v = 0 := by
    rcases Nat.eq_zero_or_pos (dN D) with z | z
    · rw [z] at hv
      have : v = 0 := by omega
      rw [this]; exact Or.inr rfl
    · exact Or.inl z
  have loop : ∀ (m x : Nat) (M1 : am_M) (b : Int) (o : List Int), x + m = dN D ^ pc_ v → sc_fr M M1 → rg_is M1 D → rs_ok M1 D a g w → dn_ D a g w ((List.range x).filterMap (io_f (dN D) v)) b o → (¬ b = -1 → ∀ i : Nat, i < pc_ v → M1 190 (i : Int) = o.getD i 0) → am_g 12 0 co_X12_days (d + 32) (am_c0 sh_T f) 93 [(2, 152), (0, a), (0, (v : Int)), (0, k), (0, ((dN D ^ pc_ v : Nat) : Int)), (0, b), (0, (x : Int)), (3, 0)] [] sh_T M1 := by
    have hall := io_pw hN hp
    intro m
    induction m with
    | zero =>
      intro x M1 b o hx fr d1 s1 dn be
      have ex : x = dN D ^ pc_ v := by omega
      rw [ex] at dn
      have r := h M1 b o fr dn
      refine bk_X12_days_93 ⟨fun _ => ⟨fun z => bk_X12_days_259 (am_c0_i ?_), fun z => ⟨fun z2 => ⟨⟨by omega, by omega⟩, am_c0_i ?_⟩, fun z2 => bk_X12_days_259 (am_c0_i ?_)⟩⟩, fun z => by omega⟩
      · rw [if_pos (Or.inl z)] at r; exact r
      · rw [if_neg (by omega)] at r
        have q := be z k.toNat (by omega)
        rw [show ((k.toNat : Nat) : Int) = k by omega] at q
        rw [q]; exact r
      · rw [if_pos (Or.inr z2)] at r; exact r
    | succ m ih =>
      intro x M1 b o hx fr d1 s1 dn be
      have eP : (List.range (x + 1)).filterMap (io_f (dN D) v) = (List.range x).filterMap (io_f (dN D) v) ++ (match io_f (dN D) v x with | some ds => [ds] | none => []) := by
        rw [List.range_succ, List.filterMap_append]
        congr 1
        cases z : io_f (dN D) v x with
        | none => rw [List.filterMap_cons_none z]; rfl
        | some ds => rw [List.filterMap_cons_some z]; rfl
      have again : ∀ (M9 : am_M) (b9 : Int) (o9 : List Int), sc_fr M M9 → rg_is M9 D → rs_ok M9 D a g w → dn_ D a g w ((List.range x).filterMap (io_f (dN D) v) ++ (match io_f (dN D) v x with | some ds => [ds] | none => [])) b9 o9 → (¬ b9 = -1 → ∀ i : Nat, i < pc_ v → M9 190 (i : Int) = o9.getD i 0) → am_g 12 0 co_X12_days (d + 32) (am_c0 sh_T f) 242 [(2, 152), (0, a), (0, (v : Int)), (0, k), (0, ((dN D ^ pc_ v : Nat) : Int)), (0, b9), (0, (x : Int)), (3, 0)] [] sh_T M9 := fun M9 b9 o9 q1 q2 q3 q4 q5 => by
        refine bk_X12_days_242 ⟨⟨by omega, by omega⟩, ih (x + 1) M9 b9 o9 (by omega) q1 q2 q3 ?_ q5⟩
        rw [eP]; exact q4
      refine bk_X12_days_93 ⟨fun z => by omega, fun _ => sp_isOrder d1.2.1 hN hv64 hp h0 (by omega) (fun M2 f2 o2 => ?_)⟩
      have fr2 : sc_fr M M2 := fun x j y => (f2 x j (by unfold sc_ at y; omega)).trans (fr x j y)
      have d2 : rg_is M2 D := rg_is_fr (fun x j x1 x2 => f2 x j (by omega)) d1
      have s2 : rs_ok M2 D a g w := rs_ok_fr (fun j => f2 186 j (by omega)) s1
      by_cases c : (io_ (dN D) (pc_ v) x 0 []).1 = v
      · rw [am_b_1 c]
        have ef : io_f (dN D) v x = some (io_ (dN D) (pc_ v) x 0 []).2 := if_pos c
        have elen : (io_ (dN D) (pc_ v) x 0 []).2.length = pc_ v := by rw [io_len, List.length_nil]; omega
        have ein : ∀ k ∈ (io_ (dN D) (pc_ v) x 0 []).2, 0 ≤ k ∧ k < (dN D : Int) := by
          rcases h0 with z | z
          · exact io_in z _ _ _ _ (fun k hk => by cases hk)
          · rw [z]; exact fun k hk => by cases hk
        rw [ef] at again
        generalize (io_ (dN D) (pc_ v) x 0 []).2 = ds at again elen ein o2
        refine ⟨fun _ => sp_lays7e d2 s2 (fun M3 f3 d3 s3 w3 => sp_meets (k5 := k) ha hv64 rfl hp ds 0 M3 w (by omega) (fun j hj => ?_) ein d3 w3 (fun M4 f4 d4 w4 => ?_)), fun z => absurd z (by decide)⟩
        · rw [show ((0 : Nat) : Int) + (j : Int) = (j : Int) by omega, f3 189 _ (by omega)]
          exact o2 j (by omega)
        · have fr4 : sc_fr M M4 := fun x j y => (f4 x j (by unfold sc_ at y; omega) (by unfold sc_ at y; omega) (by unfold sc_ at y; omega) (by unfold sc_ at y; omega)).trans ((f3 x j (by unfold sc_ at y; omega)).trans (fr2 x j y))
          have s4 : rs_ok M4 D a g w := rs_ok_fr (fun j => f4 186 j (by omega) (by omega) (by omega) (by omega)) s3
          have e4 : ∀ x j, x = 190 → M4 x j = M1 x j := fun x j y => (f4 x j (by omega) (by omega) (by omega) (by omega)).trans ((f3 x j (by omega)).trans (f2 x j (by omega)))
          have o4 : ∀ i : Nat, i < pc_ v → M4 189 (i : Int) = ds.getD i 0 := fun i hi => (f4 189 _ (by omega) (by omega) (by omega) (by omega)).trans ((f3 189 _ (by omega)).trans (o2 i hi))
          refine bk_X12_days_123 (sp_bits hv64 ⟨fun _ => sp_guideOf (v4 ha) ?_, fun z => by omega⟩)
          rw [s4.2.1.1]
          refine sp_seeks d4 w4 ha hg (fun M5 x1 x2 x3 => ⟨fun _ => ?_, fun z => absurd x3 z⟩) (fun M5 l x1 x2 x3 x4 => ?_)
          · have s5 : rs_ok M5 D a g w := rs_ok_fr (fun j => x1 186 j (by omega) (by omega) (by omega) (by omega)) s4
            exact again M5 b o (sc_tr fr4 (ss_sc x1)) (ss_rg x1 d4) s5 (dn_no dn ⟨wl_no x2, fun _ => x2⟩) (fun y i hi => (x1 190 _ (by omega) (by omega) (by omega) (by omega)).trans ((e4 190 _ rfl).trans (be y i hi)))
          · have s5 : rs_ok M5 D a g w := rs_ok_fr (fun j => x1 186 j (by omega) (by omega) (by omega) (by omega)) s4
            have fr5 := sc_tr fr4 (ss_sc x1)
            have d5 := ss_rg x1 d4
            have o5 : ∀ i : Nat, i < pc_ v → M5 189 (i : Int) = ds.getD i 0 := fun i hi => (x1 189 _ (by omega) (by omega) (by omega) (by omega)).trans (o4 i hi)
            have take : (b = -1 ∨ (l.length : Int) < b) → am_g 12 0 co_X12_days (d + 32) (am_c0 sh_T f) 204 [(2, 152), (0, a), (0, (v : Int)), (0, k), (0, ((dN D ^ pc_ v : Nat) : Int)), (3, 0), (0, (x : Int)), (3, 0)] [] sh_T M5 := fun hb => by
              refine bk_X12_days_204 ?_
              rw [x3]
              refine sp_keepsO hv64 rfl hp (M0 := M5) (pc_ v) 0 M5 (Nat.zero_add _) (fun _ _ _ => rfl) (fun j hj => absurd hj (Nat.not_lt_zero j)) (fun M6 q1 q2 => ?_)
              have e6 : ∀ x j, x = 186 → M6 x j = M5 x j := fun x j y => q1 x j (by omega)
              exact again M6 l.length ds (fun x j y => (q1 x j (by unfold sc_ at y; omega)).trans (fr5 x j y)) (rg_is_fr (fun x j x1 x2 => q1 x j (by omega)) d5) (rs_ok_fr (fun j => e6 186 j rfl) s5) (dn_new dn x2 hb) (fun _ i hi => (q2 i hi).trans (o5 i hi))
            refine ⟨fun z => by rw [x3] at z; omega, fun _ => ⟨fun z => take (Or.inl z), fun z => ⟨fun z2 => take (Or.inr (by rw [x3] at z2; exact z2)), fun z2 => ?_⟩⟩⟩
            rw [x3] at z2
            exact again M5 b o fr5 d5 s5 (dn_no dn ⟨wl_opt x2 z2, fun y => absurd y z⟩) (fun y i hi => (x1 190 _ (by omega) (by omega) (by omega) (by omega)).trans ((e4 190 _ rfl).trans (be y i hi)))
      · rw [am_b_0 c]
        have ef : io_f (dN D) v x = none := if_neg c
        rw [ef] at again
        refine ⟨fun z => absurd rfl z, fun _ => again M2 b o fr2 d2 s2 ?_ (fun y i hi => (f2 190 _ (by omega)).trans (be y i hi))⟩
        show dn_ D a g w (_ ++ []) b o
        rw [List.append_nil]; exact dn
  have powers : ∀ (m i : Nat), i + m = pc_ v → am_g 12 0 co_X12_days (d + 32) (am_c0 sh_T f) 63 [(2, 152), (0, a), (0, (v : Int)), (0, k), (0, ((dN D ^ i : Nat) : Int)), (0, (i : Int)), (3, 0), (3, 0)] [] sh_T M := by
    intro m
    induction m with
    | zero =>
      intro i hi
      have ei : i = pc_ v := by omega
      subst ei
      refine bk_X12_days_63 (sp_bits hv64 ⟨fun _ => ?_, fun z => by omega⟩)
      exact loop (dN D ^ pc_ v) 0 M (-1) [] (Nat.zero_add _) sc_rf hd hs dn_0 (fun y => absurd rfl y)
    | succ m ih =>
      intro i hi
      have b1 := io_pw hN (show i + 1 ≤ 4 by omega)
      refine bk_X12_days_63 (sp_bits hv64 ⟨fun z => by omega, fun _ => sp_dreadMany ?_⟩)
      rw [hd.2.1, show ((dN D ^ i : Nat) : Int) * (dN D : Int) = ((dN D ^ (i + 1) : Nat) : Int) by rw [Nat.pow_succ]; exact (Int.natCast_mul _ _).symm]
      exact ⟨⟨by omega, by omega⟩, ⟨by omega, by omega⟩, ih (i + 1) (by omega)⟩
  exact bk_X12_days_57 (powers (pc_ v) 0 (Nat.zero_add _))
theorem ios_f {N v : Nat} : ios_ N v = (List.range (N ^ pc_ v)).filterMap (io_f N v) := rfl
theorem qu_days {d : Nat} {M : am_M} {D : dm_D} {G : Int → Int} {W : Int → Int → Int} {a b k : Int} (hb : bt_ok M D G W) : qu_two (d + 33) 142 252 [(0, a), (0, b), (0, k)] M := by
  have h3 := hb.2.2.1
  have hcc := hb.1.1
  have hN := hb.1.2.1.1
  have e0 : M (M 0 4 + 2) 0 = (dN D : Int) := hb.1.2.2.1
  obtain ⟨es, e1024⟩ := shl_10 (n := dN D) (by omega)
  have hpos : (1 : Int) ≤ ((2 ^ dN D : Nat) : Int) := Int.ofNat_le.mpr (Nat.two_pow_pos _)
  have h1024 : ((2 ^ dN D : Nat) : Int) ≤ 1024 := Int.ofNat_le.mpr e1024
  have no : ∀ M1, sc_fr M M1 → ¬ ((0 ≤ a ∧ a < M 174 4) ∧ ∃ v : Nat, b = (v : Int) ∧ v < 2 ^ dN D ∧ pc_ v ≤ 4 ∧ (k = -1 ∨ (0 ≤ k ∧ k < (pc_ v : Int)))) → am_cal pg (d + 33) 252 [(2, 152), (0, a), (0, b), (0, k)] sh_T M1 (am_c0 sh_T fun y M2 => -1 = y ∧ sc_fr M M2) := fun M1 hf z => by
    have e4 : M1 174 4 = M 174 4 := hf 174 4 (by unfold sc_; omega)
    have e3 : M1 174 3 = (dN D : Int) := (hf 174 3 (by unfold sc_; omega)).trans hb.2.1.2.1
    have fin : am_g 12 0 co_X12_days (d + 32) (am_c0 sh_T fun y M2 => -1 = y ∧ sc_fr M M2) 55 [(3, 0), (3, 0), (3, 0), (3, 0), (3, 0), (3, 0), (3, 0), (3, 0)] [] sh_T M1 := bk_X12_days_55 (am_c0_i ⟨rfl, hf⟩)
    refine en_X12_days (bk_X12_days_0 (sp_isDreamer (by rw [e4]; exact h3.2) ⟨fun _ => fin, fun y => sp_dreadMany ?_⟩))
    rw [e3, es]
    refine ⟨⟨by omega, by omega⟩, sp_isIn ⟨fun _ => fin, fun y2 => ?_⟩⟩
    have hbb := am_b_nz y2
    obtain ⟨v, rfl⟩ : ∃ v : Nat, b = (v : Int) := ⟨b.toNat, by omega⟩
    have hv : v < 2 ^ dN D := by omega
    have hv64 := lt_64 hN hv
    rw [e4] at y
    have p6 := pc_le v hv64
    refine sp_bits hv64 ⟨fun _ => fin, fun y3 => ⟨fun y4 => absurd ⟨am_b_nz y, v, rfl, hv, by omega, Or.inl y4⟩ z, fun y4 => sp_bits hv64 ⟨⟨by omega, by omega⟩, sp_isIn ⟨fun y5 => ?_, fun _ => fin⟩⟩⟩⟩
    have hkk := am_b_nz y5
    exact absurd ⟨am_b_nz y, v, rfl, hv, by omega, Or.inr ⟨hkk.1, by omega⟩⟩ z
  refine en_X11_days (bk_X11_days_0 (st_isDreamer hb ⟨fun q => am_c0_i ⟨sc_rf, no M sc_rf (fun z => am_b_z.mp q z.1)⟩, fun q => ⟨fun q2 => am_c0_i ⟨sc_rf, no M sc_rf (fun z => ?_)⟩, fun q2 => ⟨dr_ob hcc, st_count hcc ?_⟩⟩⟩))
  · obtain ⟨-, v, z1, -⟩ := z
    omega
  · rw [if_pos (by decide), e0, es]
    obtain ⟨v, rfl⟩ : ∃ v : Nat, b = (v : Int) := ⟨b.toNat, by omega⟩
    refine ⟨fun q3 => am_c0_i ⟨sc_rf, no M sc_rf (fun z => ?_)⟩, fun q3 => ?_⟩
    · obtain ⟨-, v', z1, z2, -⟩ := z
      omega
    · have hv : v < 2 ^ dN D := by omega
      have hv64 := lt_64 hN hv
      have ha := am_b_nz q
      have ha4 : 0 ≤ a ∧ a < 4 ∧ a < dA D := by omega
      have h5 := hb.2.2.2.2 a ha.1 ha4.2
      refine st_bitCount hv64 ⟨fun q4 => ⟨v4 ha4, ?_⟩, fun q4 => am_c0_i ⟨sc_rf, no M sc_rf (fun z => ?_)⟩⟩
      · have hp : pc_ v ≤ 4 := by omega
        refine st_findDays hb.1 h5.1 (by omega) hv hp (fun M1 x o f1 dn be => ?_)
        -- the reference behind the class
        have ref : (k = -1 ∨ (0 ≤ k ∧ k < (pc_ v : Int))) → am_cal pg (d + 33) 252 [(2, 152), (0, a), (0, (v : Int)), (0, k)] sh_T M1 (am_c0 sh_T fun y M2 => (if x = -1 ∨ k = -1 then x else o.getD k.toNat 0) = y ∧ sc_fr M M2) := fun hk => by
          have hb1 := bt_ok_fr f1 hb
          have e4 : M1 174 4 = M 174 4 := f1 174 4 (by unfold sc_; omega)
          have e3 : M1 174 3 = (dN D : Int) := (f1 174 3 (by unfold sc_; omega)).trans hb.2.1.2.1
          have go : am_g 12 0 co_X12_days (d + 32) (am_c0 sh_T fun y M2 => (if x = -1 ∨ k = -1 then x else o.getD k.toNat 0) = y ∧ sc_fr M M2) 57 [(2, 152), (0, a), (0, (v : Int)), (0, k), (3, 0), (3, 0), (3, 0), (3, 0)] [] sh_T M1 := by
            refine sp_findDays hb1.2.1 (hb1.2.2.2.2 a ha.1 ha4.2).2 hv hp hk (fun M2 y o2 f2 dn2 => ⟨?_, sc_tr f1 f2⟩)
            rw [ios_all (dN D) (by omega) v hv hp] at dn2
            obtain ⟨z1, z2⟩ := dn_eq dn dn2
            rw [← z1]
            by_cases c : x = -1 ∨ k = -1
            · rw [if_pos c, if_pos c]
            · rw [if_neg c, if_neg c, z2 (fun y => c (Or.inl y))]
          refine en_X12_days (bk_X12_days_0 (sp_isDreamer (by rw [e4]; exact h3.2) ⟨fun y => ?_, fun _ => sp_dreadMany ?_⟩))
          · rw [e4] at y
            exact absurd ha (am_b_z.mp y)
          · rw [e3, es]
            refine ⟨⟨by omega, by omega⟩, sp_isIn ⟨fun y => ?_, fun _ => sp_bits hv64 ⟨fun y => by omega, fun _ => ⟨fun _ => go, fun y => sp_bits hv64 ⟨⟨by omega, by omega⟩, sp_isIn ⟨fun _ => go, fun y2 => ?_⟩⟩⟩⟩⟩⟩
            · have := am_b_z.mp y
              omega
            · have := am_b_z.mp y2
              omega
        refine ⟨fun z => am_c0_i ⟨f1, ?_⟩, fun z => ⟨fun z2 => ⟨fun z3 => am_c0_i ⟨f1, no M1 f1 (fun y => ?_)⟩, fun z3 => st_bitCount hv64 ⟨fun z4 => am_c0_i ⟨f1, no M1 f1 (fun y => ?_)⟩, fun z4 => st_metByDay z3 (by omega) (am_c0_i ⟨f1, ?_⟩)⟩⟩, fun z2 => am_c0_i ⟨f1, ?_⟩⟩⟩
        · have r := ref (Or.inl z)
          rw [if_pos (Or.inr z)] at r
          exact r
        · obtain ⟨-, v', y1, y2, y3, y4⟩ := y
          omega
        · obtain ⟨-, v', y1, y2, y3, y4⟩ := y
          have ev : v' = v := by omega
          rw [ev] at y4
          omega
        · have r := ref (Or.inr ⟨z3, z4⟩)
          rw [if_neg (by omega)] at r
          have e := be z2 k.toNat (by omega)
          rw [show ((k.toNat : Nat) : Int) = k by omega] at e
          rw [e]; exact r
        · rw [z2]
          by_cases c : 0 ≤ k ∧ k < (pc_ v : Int)
          · have r := ref (Or.inr c)
            rw [if_pos (Or.inl z2), z2] at r
            exact r
          · refine no M1 f1 (fun y => ?_)
            obtain ⟨-, v', y1, y2, y3, y4⟩ := y
            have ev : v' = v := by omega
            rw [ev] at y4
            omega
      · obtain ⟨-, v', y1, y2, y3, y4⟩ := z
        have ev : v' = v := by omega
        rw [ev] at y3
        omega
theorem iv_days {n : Nat} {M : am_M} {a b c : Int} (h : iv_ n M) : tr_two 301 142 252 [(0, a), (0, b), (0, c)] M (iv_ (n + 1)) := by
  obtain ⟨D, ⟨G, W, k⟩, -⟩ := h.1
  exact iv_qu h (qu_days (d := 268) k.1)
