/-! THE CLASS'S ORDERS OF A SET, by their number -/
def fa_ (n : Nat) : Nat := if n ≤ 1 then 1 else if n = 2 then 2 else if n = 3 then 6 else 24
/-- a set without one of its dreads -/
def rm_ (l x : Nat) : Nat := if l / 2 ^ x % 2 = 1 then l - 2 ^ x else l
theorem rm_all : ∀ l : Nat, l < 64 → ∀ x : Nat, x < 6 → am_band (l : Int) (am_bxor (am_shl 1 (x : Int)) (-1)) = (rm_ l x : Int) ∧ rm_ l x < 64 := by decide +kernel
theorem lbg_lt {v k : Nat} : ∀ (m i s : Nat), i + m = 6 → lbg v k m i s < 6
  | 0, i, s, h => by show 0 < 6; decide
  | m + 1, i, s, h => by
    show (if v / 2 ^ i % 2 = 1 then (if s = k then i else lbg v k m (i + 1) (s + 1)) else lbg v k m (i + 1) s) < 6
    split
    · split
      · omega
      · exact lbg_lt m (i + 1) (s + 1) (by omega)
    · exact lbg_lt m (i + 1) s (by omega)
/-- the order, from a place on: so many places more -/
def oc_ (many : Nat) : Nat → Nat → Nat → Nat → Nat → List Int
  | 0, _, _, _, _ => []
  | m + 1, i, o, r, l => ((lbg l (r / (o / (many - i))) 6 0 0 : Nat) : Int) :: oc_ many m (i + 1) (o / (many - i)) (r % (o / (many - i))) (rm_ l (lbg l (r / (o / (many - i))) 6 0 0))
def ord_ (v n : Nat) : List Int := oc_ (pc_ v) (pc_ v) 0 (fa_ (pc_ v)) n v
theorem oc_len {many : Nat} : ∀ (m i o r l : Nat), (oc_ many m i o r l).length = m
  | 0, _, _, _, _ => rfl
  | m + 1, i, o, r, l => by
    show (oc_ many m (i + 1) _ _ _).length + 1 = m + 1
    rw [oc_len m]
theorem st_setOrder {d : Nat} {M : am_M} {f : Int → am_M → Prop} {v n : Nat} (hv : v < 64) (hp : pc_ v ≤ 4) (hn : n < 100) (h0 : fa_ (pc_ v) ≤ n → f (-1) M) (h1 : n < fa_ (pc_ v) → ∀ M', (∀ x j, ¬ x = 125 → M' x j = M x j) → (∀ i : Nat, i < pc_ v → M' 125 i = (ord_ v n).getD i 0) → f (pc_ v) M') : am_cal pg (d + 2) 122 [(2, 95), (0, (v : Int)), (0, (n : Int))] sh_T M (am_c0 sh_T f) := by
  generalize hmany : pc_ v = many at hp h0 h1
  -- place by place
  have place : ∀ (m i o r l : Nat) (M1 : am_M), i + m = many → l < 64 → r < 100 → o < 100 → (∀ t : Nat, t ≤ m → ∀ q : Nat, True) → (∀ j : Nat, j < m → True) → fa_ (many - i) = o → (∀ x j, ¬ x = 125 → M1 x j = M x j) → (∀ j : Nat, j < i → M1 125 j = (ord_ v n).getD j 0) → ord_ v n = (ord_ v n).take i ++ oc_ many m i o r l → n < fa_ many → am_g 10 0 co_X10_setOrder (d + 1) (am_c0 sh_T f) 58 [(2, 95), (3, 0), (3, 0), (0, (many : Int)), (0, (o : Int)), (0, (l : Int)), (0, (r : Int)), (0, (i : Int))] [] sh_T M1 := by
    intro m
    induction m with
    | zero =>
      intro i o r l M1 hi hl hr ho _ _ hf fr done hsp hlt
      refine bk_X10_setOrder_58 ⟨fun _ => bk_X10_setOrder_147 (am_c0_i (h1 hlt M1 fr (fun j hj => done j (by omega)))), fun y => by omega⟩
    | succ m ih =>
      intro i o r l M1 hi hl hr ho _ _ hf fr done hsp hlt
      have hdiv : 1 ≤ many - i ∧ many - i ≤ 4 := by omega
      have ho2 : 1 ≤ o / (many - i) ∧ fa_ (many - (i + 1)) = o / (many - i) := by
        rw [← hf, show many - (i + 1) = many - i - 1 by omega]
        rcases (show many - i = 1 ∨ many - i = 2 ∨ many - i = 3 ∨ many - i = 4 by omega) with z | z | z | z <;> rw [z] <;> decide
      have et : ((o : Int)).tdiv ((many : Int) - (i : Int)) = ((o / (many - i) : Nat) : Int) := by
        rw [Int.tdiv_eq_ediv_of_nonneg (by omega), show (many : Int) - (i : Int) = ((many - i : Nat) : Int) by omega]; rfl
      have hod : o / (many - i) ≤ o := Nat.div_le_self _ _
      generalize hq : o / (many - i) = q at et ho2 hod
      have e1 : ((r : Int)).tdiv (q : Int) = ((r / q : Nat) : Int) := by rw [Int.tdiv_eq_ediv_of_nonneg (by omega)]; rfl
      have e2 : ((r : Int)).tmod (q : Int) = ((r % q : Nat) : Int) := by rw [Int.tmod_eq_emod_of_nonneg (by omega)]; rfl
      have hr1 : r / q ≤ r := Nat.div_le_self _ _
      have hr2 : r % q ≤ r := Nat.mod_le _ _
      have hx := lbg_lt (v := l) (k := r / q) 6 0 0 rfl
      obtain ⟨k1, k2⟩ := rm_all l hl (lbg l (r / q) 6 0 0) hx
      refine bk_X10_setOrder_58 ⟨fun y => by omega, fun _ => ⟨fun y => by omega, fun _ => ?_⟩⟩
      rw [et]
      refine ⟨⟨by omega, by omega⟩, by omega, ⟨by omega, by omega⟩, fun y => by omega, fun _ => ⟨by omega, ?_, ?_⟩⟩
      · rw [e1]; exact ⟨Int.le_trans (by decide) (Int.natCast_nonneg _), Int.lt_of_le_of_lt (Int.ofNat_le.mpr hr1) (by omega)⟩
      · rw [e1, e2]
        refine st_lowestBit (by omega) ⟨⟨by omega, by omega⟩, by omega, ⟨by omega, by omega⟩, ?_⟩
        rw [k1]
        have hsp2 : oc_ many (m + 1) i o r l = ((lbg l (r / q) 6 0 0 : Nat) : Int) :: oc_ many m (i + 1) q (r % q) (rm_ l (lbg l (r / q) 6 0 0)) := by rw [← hq]; rfl
        have hol : (ord_ v n).length = many := by unfold ord_; rw [oc_len]; exact hmany
        have htl : ((ord_ v n).take i).length = i := by rw [List.length_take, hol]; omega
        have hat : (ord_ v n).getD i 0 = ((lbg l (r / q) 6 0 0 : Nat) : Int) := by
          rw [hsp, hsp2]
          have g := gd_m (A := (ord_ v n).take i) (B := oc_ many m (i + 1) q (r % q) (rm_ l (lbg l (r / q) 6 0 0))) (w := ((lbg l (r / q) 6 0 0 : Nat) : Int))
          rw [htl] at g
          exact g
        refine ih (i + 1) q (r % q) _ _ (by omega) k2 (by omega) (by omega) (fun _ _ _ => trivial) (fun _ _ => trivial) ho2.2 (fun x j y => ?_) (fun j hj => ?_) ?_ hlt
        · rw [am_up_el (by omega)]; exact fr x j y
        · by_cases z : j = i
          · rw [z, am_up_at, hat]
          · rw [am_up_el (by omega)]; exact done j (by omega)
        · have e3 : (ord_ v n).take (i + 1) = (ord_ v n).take i ++ [((lbg l (r / q) 6 0 0 : Nat) : Int)] := by
            rw [List.take_succ, ← hat, List.getD_eq_getElem?_getD, List.getElem?_eq_getElem (by omega)]
            rfl
          rw [e3, List.append_assoc]
          rw [hsp2] at hsp
          exact hsp
  have prod : ∀ (m i p : Nat), i + m = 6 → 2 ≤ i → p ≤ 24 → (i ≤ many → p = fa_ (i - 1)) → (many < i → p = fa_ many) → am_g 10 0 co_X10_setOrder (d + 1) (am_c0 sh_T f) 11 [(2, 95), (0, (v : Int)), (0, (n : Int)), (0, (many : Int)), (0, (p : Int)), (0, (i : Int)), (3, 0), (3, 0)] [] sh_T M := by
    have last : am_g 10 0 co_X10_setOrder (d + 1) (am_c0 sh_T f) 36 [(2, 95), (0, (v : Int)), (0, (n : Int)), (0, (many : Int)), (0, (fa_ many : Int)), (3, 0), (3, 0), (3, 0)] [] sh_T M := by
      have hfa : fa_ many ≤ 24 := by
        rcases (show many = 0 ∨ many = 1 ∨ many = 2 ∨ many = 3 ∨ many = 4 by omega) with z | z | z | z | z <;> rw [z] <;> decide
      refine bk_X10_setOrder_36 ⟨fun y => bk_X10_setOrder_47 (am_c0_i (h0 (by omega))), fun y => ⟨fun _ => ?_, fun z => by omega⟩⟩
      refine place many 0 (fa_ many) n v M (Nat.zero_add _) hv hn (by omega) (fun _ _ _ => trivial) (fun _ _ => trivial) rfl (fun x j _ => rfl) (fun j hj => absurd hj (Nat.not_lt_zero j)) ?_ (by omega)
      show ord_ v n = [] ++ oc_ many many 0 (fa_ many) n v
      unfold ord_
      rw [hmany]
      rfl
    intro m
    induction m with
    | zero =>
      intro i p hi h2 hp24 ha hb
      rw [hb (by omega)]
      exact bk_X10_setOrder_11 ⟨fun _ => last, fun y => by omega⟩
    | succ m ih =>
      intro i p hi h2 hp24 ha hb
      by_cases c : many < i
      · rw [hb c]
        exact bk_X10_setOrder_11 ⟨fun _ => last, fun y => by omega⟩
      · have hpi := ha (by omega)
        have hmul : p * i = fa_ i ∧ fa_ i ≤ 24 := by
          rw [hpi]
          rcases (show i = 2 ∨ i = 3 ∨ i = 4 by omega) with z | z | z <;> rw [z] <;> decide
        have em : (p : Int) * (i : Int) = ((fa_ i : Nat) : Int) := by rw [← hmul.1]; exact (Int.natCast_mul p i).symm
        refine bk_X10_setOrder_11 ⟨fun y => by omega, fun _ => ⟨fun y => by omega, fun _ => ?_⟩⟩
        rw [em]
        refine ⟨⟨by omega, by omega⟩, ⟨by omega, by omega⟩, ih (i + 1) (fa_ i) (by omega) (by omega) hmul.2 (fun y => rfl) (fun y => ?_)⟩
        rw [show many = i by omega]
  refine en_X10_setOrder (bk_X10_setOrder_0 (st_bitCount hv ?_))
  rw [hmany]
  exact prod 4 2 1 rfl (Nat.le_refl _) (by decide) (fun _ => rfl) (fun y => by
    rcases (show many = 0 ∨ many = 1 by omega) with z | z <;> rw [z] <;> rfl)
