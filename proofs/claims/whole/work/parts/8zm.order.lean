/-! THE REFERENCE'S ORDERS OF A SET, by numbers; they are the class's -/
/-- so many digits off a number: what set they make, in which order -/
def io_ (N : Nat) : Nat → Nat → Nat → List Int → Nat × List Int
  | 0, _, acc, ds => (acc, ds)
  | m + 1, x, acc, ds => io_ N m (x / N) (acc ||| 2 ^ (x % N)) (((x % N : Nat) : Int) :: ds)
theorem bor_all : ∀ l : Nat, l < 64 → ∀ x : Nat, x < 6 → am_bor (l : Int) (am_shl 1 (x : Int)) = ((l ||| 2 ^ x : Nat) : Int) ∧ l ||| 2 ^ x < 64 := by decide +kernel
theorem io_len {N : Nat} : ∀ (m x acc : Nat) (ds : List Int), (io_ N m x acc ds).2.length = m + ds.length
  | 0, _, _, ds => by show ds.length = 0 + ds.length; omega
  | m + 1, x, acc, ds => by
    show (io_ N m (x / N) _ (_ :: ds)).2.length = m + 1 + ds.length
    rw [io_len m, List.length_cons]; omega
theorem sp_isOrder {d : Nat} {M : am_M} {f : Int → am_M → Prop} {N v n : Nat} (hN : M 174 3 = N) (hN6 : N ≤ 6) (hv : v < 64) (hp : pc_ v ≤ 4) (h1 : 1 ≤ N ∨ pc_ v = 0) (hn : n < 10000) (h : ∀ M', (∀ x j, ¬ x = 189 → M' x j = M x j) → (∀ i : Nat, i < pc_ v → M' 189 i = (io_ N (pc_ v) n 0 []).2.getD i 0) → f (am_b ((io_ N (pc_ v) n 0 []).1 = v)) M') : am_cal pg (d + 2) 251 [(2, 152), (0, (n : Int)), (0, (v : Int))] sh_T M (am_c0 sh_T f) := by
  have loop : ∀ (m x acc : Nat) (ds : List Int) (M1 : am_M), (m = 0 ∨ 1 ≤ N) → m + ds.length = pc_ v → acc < 64 → x < 10000 → io_ N m x acc ds = io_ N (pc_ v) n 0 [] → (∀ x j, ¬ x = 189 → M1 x j = M x j) → (∀ i : Nat, i < ds.length → M1 189 ((m : Int) + i) = ds.getD i 0) → am_g 12 5 co_X12_isOrder (d + 1) (am_c0 sh_T f) 13 [(2, 152), (3, 0), (0, (v : Int)), (0, (x : Int)), (0, (acc : Int)), (0, (m : Int) - 1)] [] sh_T M1 := by
    intro m
    induction m with
    | zero =>
      intro x acc ds M1 hm hl ha hx hio fr done
      have e : io_ N (pc_ v) n 0 [] = (acc, ds) := hio.symm
      have r := h M1 fr (fun i hi => by rw [e]; have := done i (by omega); rw [show ((0 : Nat) : Int) + (i : Int) = (i : Int) by omega] at this; exact this)
      rw [e] at r
      refine bk_X12_isOrder_13 ⟨fun _ => ⟨fun y => am_c0_i ?_, fun y => am_c0_i ?_⟩, fun y => by omega⟩
      · rw [am_b_0 (fun z => y (by rw [show acc = v from z]))] at r; exact r
      · rw [am_b_1 (show acc = v by omega)] at r; exact r
    | succ m ih =>
      intro x acc ds M1 hm hl ha hx hio fr done
      have hN1 : 1 ≤ N := by omega
      have hml := Nat.mod_lt x (show N > 0 by omega)
      obtain ⟨k1, k2⟩ := bor_all acc ha (x % N) (by omega)
      have e1 : ((x : Int)).tmod (N : Int) = ((x % N : Nat) : Int) := by rw [Int.tmod_eq_emod_of_nonneg (by omega)]; rfl
      have e2 : ((x : Int)).tdiv (N : Int) = ((x / N : Nat) : Int) := by rw [Int.tdiv_eq_ediv_of_nonneg (by omega)]; rfl
      have hxd : x / N ≤ x := Nat.div_le_self _ _
      rw [show ((m + 1 : Nat) : Int) - 1 = (m : Int) by omega]
      refine bk_X12_isOrder_13 ⟨fun y => by omega, fun _ => sp_dreadMany ?_⟩
      rw [fr 174 3 (by omega), hN, e1]
      refine ⟨by omega, ⟨by omega, by omega⟩, sp_dreadMany ?_⟩
      rw [am_up_el (by omega), fr 174 3 (by omega), hN, e2, am_up_at, k1]
      refine ⟨by omega, ⟨Int.le_trans (by decide) (Int.natCast_nonneg _), Int.lt_of_le_of_lt (Int.ofNat_le.mpr hxd) (by omega)⟩, ⟨by omega, by omega⟩, ?_⟩
      rw [show (m : Int) + (-1) = (m : Int) - 1 by omega]
      refine ih (x / N) _ (((x % N : Nat) : Int) :: ds) _ (Or.inr hN1) (by rw [List.length_cons]; omega) k2 (by omega) hio (fun x j y => ?_) (fun i hi => ?_)
      · rw [am_up_el (by omega)]; exact fr x j y
      · cases i with
        | zero =>
          rw [show (m : Int) + ((0 : Nat) : Int) = (m : Int) by omega, am_up_at]
          rfl
        | succ i =>
          rw [List.length_cons] at hi
          rw [am_up_el (by omega), show (m : Int) + ((i + 1 : Nat) : Int) = ((m + 1 : Nat) : Int) + (i : Int) by omega, done i (by omega)]
          rfl
  refine en_X12_isOrder (bk_X12_isOrder_0 (sp_bits hv ⟨⟨by omega, by omega⟩, ?_⟩))
  exact loop (pc_ v) n 0 [] M (by omega) (by rw [List.length_nil]; omega) (by decide) hn rfl (fun x j _ => rfl) (fun i hi => absurd hi (Nat.not_lt_zero i))
/-- both go through the same orders, in the same row -/
def ios_ (N v : Nat) : List (List Int) := (List.range (N ^ pc_ v)).filterMap (fun x => if (io_ N (pc_ v) x 0 []).1 = v then some (io_ N (pc_ v) x 0 []).2 else none)
theorem ios_all : ∀ N : Nat, N < 7 → ∀ v : Nat, v < 2 ^ N → pc_ v ≤ 4 → ios_ N v = (List.range (fa_ (pc_ v))).map (ord_ v) := by decide +kernel
