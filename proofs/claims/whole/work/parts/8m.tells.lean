/-! THE CLASS READS NAMES, new and known -/
/-- a dream that is being told, as the class has it: so many braveries, so many guides' dreads are down -/
def td_ (M : am_M) (c : Int) (T : tt_) (nb ng : Int) : Prop := tn_ M c T ∧ (∀ a : Int, 0 ≤ a → a < nb → M (c + 3) a = tBr T a) ∧ (∀ j : Int, 0 ≤ j → j < 24 → M (c + 4) j = tFe T j) ∧ (∀ g : Int, 0 ≤ g → g < ng → M (c + 5) g = tGu T g) ∧ (M c 5 = tHo T ∧ M c 6 = tLa T ∧ M c 7 = tSp T) ∧ (∀ k : Int, 0 ≤ k → k < 3 → (tS T k = none ∧ M (c + 11) k = 0 ∧ M (c + 12) k = 0) ∨ ∃ f g : Nat, tS T k = some (f, g) ∧ M (c + 11) k = f ∧ M (c + 12) k = g)
def xf_ (c : Int) (M0 M : am_M) : Prop := ∀ x j, ¬ (x = 1 ∧ 2 ≤ j ∧ j ≤ 7) → ¬ (c ≤ x ∧ x ≤ c + 12) → M x j = M0 x j
def xs_ (M0 M : am_M) (c p en : Int) (T : tt_) (nb ng : Int) : Prop := xf_ c M0 M ∧ cs_ M M false (c + 6) p en (tC T) ∧ td_ M c T nb ng
def xz_ (M0 M : am_M) (c k z : Int) : Prop := xf_ c M0 M ∧ cf_ M M (c + 6) k z
def xq_ (M0 : am_M) (c : Int) : Prop := dr_is c ∧ cg_ M0 false (c + 6) ∧ ro_ M0
section DT
variable {M0 M : am_M} {c p en nb ng : Int} {T : tt_}
theorem xf_tr {M1 M2 : am_M} (h : xf_ c M0 M1) (k : xf_ c M1 M2) : xf_ c M0 M2 := fun x j y z => (k x j y z).trans (h x j y z)
theorem xf_cs {M1 : am_M} (h : cs_fr (c + 6) M M1) : xf_ c M M1 := fun x j y z => h x j y (by omega) (by omega)
theorem xq_fr (hq : xq_ M0 c) (h : xf_ c M0 M) : xq_ M c := by
  obtain ⟨h1, ⟨h2, h3, ⟨h4, h5⟩, h6⟩, h7⟩ := hq
  have hc := h1
  unfold dr_is at hc
  refine ⟨h1, ⟨h2, h3, ⟨(h 3 1 (by omega) (by omega)).trans h4, (h 3 2 (by omega) (by omega)).trans h5⟩, fun i hi => ?_⟩, fun k k0 k1 => (h _ _ (by omega) (by omega)).trans (h7 k k0 k1)⟩
  rw [h 2000001 i (by omega) (by omega), h 2000002 i (by omega) (by omega)]
  exact h6 i hi
theorem cs_self {q : Bool} {v : Int} {C : List Int} (h : cs_ M0 M q v p en C) : cs_ M M q v p en C := ⟨fun _ _ _ _ _ => rfl, h.2⟩
theorem cf_self {v k z : Int} (h : cf_ M0 M v k z) : cf_ M M v k z := ⟨fun _ _ _ _ _ => rfl, h.2⟩
theorem td_fr {M1 : am_M} (hc : dr_is c) (h : cs_fr (c + 6) M M1) (ht : td_ M c T nb ng) : td_ M1 c T nb ng := by
  unfold dr_is at hc
  obtain ⟨⟨a1, a2⟩, a3, a4, a5, ⟨a6, a7, a8⟩, a9⟩ := ht
  refine ⟨⟨fun k k0 k1 => ?_, fun k k0 k1 i j i1 j1 => ?_⟩, fun a x y => ?_, fun j x y => ?_, fun g x y => ?_, ⟨?_, ?_, ?_⟩, fun k k0 k1 => ?_⟩
  · rw [h _ _ (by omega) (by omega) (by omega)]; exact a1 k k0 k1
  · rw [h _ _ (by omega) (by omega) (by omega)]; exact a2 k k0 k1 i j i1 j1
  · rw [h _ _ (by omega) (by omega) (by omega)]; exact a3 a x y
  · rw [h _ _ (by omega) (by omega) (by omega)]; exact a4 j x y
  · rw [h _ _ (by omega) (by omega) (by omega)]; exact a5 g x y
  · rw [h _ _ (by omega) (by omega) (by omega)]; exact a6
  · rw [h _ _ (by omega) (by omega) (by omega)]; exact a7
  · rw [h _ _ (by omega) (by omega) (by omega)]; exact a8
  · rw [h _ _ (by omega) (by omega) (by omega), h _ _ (by omega) (by omega) (by omega)]; exact a9 k k0 k1
/-- the text alone has moved on -/
theorem xs_cs {M1 : am_M} {p1 en1 : Int} (hc : dr_is c) (h : xs_ M0 M c p en T nb ng) (h1 : cs_ M M1 false (c + 6) p1 en1 (tC T)) : xs_ M0 M1 c p1 en1 T nb ng := ⟨xf_tr h.1 (xf_cs h1.1), cs_self h1, td_fr hc h1.1 h.2.2⟩
theorem xz_cf {M1 : am_M} {k z : Int} (h : xf_ c M0 M) (h1 : cf_ M M1 (c + 6) k z) : xz_ M0 M1 c k z := ⟨xf_tr h (xf_cs h1.1), cf_self h1⟩
theorem cs_mv {M1 : am_M} {q : Bool} {v : Int} {C : List Int} (h : cs_ M M q v p en C) (h1 : ∀ j, M1 1 j = M 1 j) (h2 : ∀ j, M1 2 j = M 2 j) (h3 : M1 v 1 = M v 1) (h4 : ∀ j, M1 (v + 1) j = M (v + 1) j) : cs_ M1 M1 q v p en C := by
  obtain ⟨-, g2, ⟨g3, g4, g5⟩, g6, g7, g8⟩ := h
  refine ⟨fun _ _ _ _ _ => rfl, ?_, ⟨?_, ?_, ?_⟩, ?_, g7, fun i hi => ?_⟩
  · unfold tx_ok; rw [h1, h1]; exact g2
  · show rd_at (M1 2) (M1 1 1) (M1 1 2) = p
    rw [show M1 2 = M 2 from funext h2, h1, h1]; exact g3
  · rw [h1]; exact g4
  · rw [h1, h1]; exact g5
  · rw [h3]; exact g6
  · rw [h4]; exact g8 i hi
theorem cf_mv {M1 : am_M} {v k z : Int} (h : cf_ M M v k z) (h1 : ∀ j, M1 1 j = M 1 j) (h3 : 0 ≤ M1 v 1 ∧ M1 v 1 ≤ 1600) : cf_ M1 M1 v k z := by
  obtain ⟨-, g2, ⟨g3, g4, g5⟩, g6⟩ := h
  refine ⟨fun _ _ _ _ _ => rfl, ?_, ⟨?_, ?_, g5⟩, h3⟩
  · unfold tx_ok; rw [h1, h1]; exact g2
  · rw [h1]; exact g3
  · rw [h1]; exact g4
/-- behind a fault, a cell of the dream's -/
theorem xz_up (hc : dr_is c) {k z x j v : Int} (h : xz_ M0 M c k z) (hx : c ≤ x ∧ x ≤ c + 12 ∧ ¬ x = c + 6) : xz_ M0 (am_up M x j v) c k z := by
  unfold dr_is at hc
  refine ⟨fun x' j' y z => (am_up_el (by omega)).trans (h.1 x' j' y z), cf_mv h.2 (fun j' => am_up_el (by omega)) ?_⟩
  rw [am_up_el (by omega)]; exact h.2.2.2.2
theorem ow_w : pg_str 1000010 = wj_ ow_ ∧ ow_ ≠ [] ∧ ∀ w ∈ ow_, w ≠ [] ∧ ∀ c ∈ w, c ≠ 32 := by decide +kernel
/-- a name is taken -/
theorem ct_name {d : Nat} {f : Int → am_M → Prop} {q : Bool} {v : Int} {C : List Int} (hg : cg_ M0 q v) (h : cs_ M0 M q v p en C) (h1 : ∀ k z, pr_name (M0 2) (M0 1 1) p en = .error (k, z) → ∀ M', cf_ M0 M' v k z → f 0 M') (h2 : ∀ p1 en1 n, pr_name (M0 2) (M0 1 1) p en = .ok (p1, en1, n) → ∀ M', cs_ M0 M' q v p1 en1 C → nn_ M' n → M' 1 6 = p → f 1 M') : am_cal pg (d + 3) 110 [(2, 1)] sh_T M (am_c0 sh_T f) := by
  have hv := hg.2.1
  obtain ⟨i1, i2, i3, i4, i5⟩ := cs_in hg h
  have e : tx_p M = p := h.2.2.1.1
  have e5 : M 1 5 = en := h.2.2.1.2.1
  obtain ⟨et, ee⟩ := cs_t hg h.1
  have ew : tx_w M = rd_wd (M0 2) (M0 1 1) en p := by
    show rd_wd (M 2) (M 1 1) (M 1 5) (tx_p M) = _
    rw [et, ee, e, e5]
  have eo : tx_wi M 1000010 = pr_ix (M0 2) (M0 1 1) en p ow_ 0 := by
    rw [tx_ix h.2.1 ow_w.1 ow_w.2.1 ow_w.2.2, et, ee, e, e5]
  have hl := rd_wd_le (t := M0 2) (en := en) i2
  have hp := (cs_p hg h).1
  rw [e] at hp
  refine st_takeName h.2.1 (fun z1 z2 z3 z4 => ?_) (fun z => ?_) (fun z1 z2 z3 => ?_) (fun z => absurd h.2.2.1.2.2.1 z)
  · rw [ew] at z2 z4
    rw [eo] at z3
    have hx : pr_name (M0 2) (M0 1 1) p en = .ok (rd_at (M0 2) (M0 1 1) (p + rd_wd (M0 2) (M0 1 1) en p), p + rd_wd (M0 2) (M0 1 1) en p, nm_ (M0 2) (rd_wd (M0 2) (M0 1 1) en p).toNat p) := by
      unfold pr_name
      rw [if_neg (fun y => y.elim (fun y => z2 y) (fun y => y z3)), if_neg (by omega)]
    obtain ⟨o1, o2, o3, o4, o5⟩ := pr_name_o hx
    rw [ew, e]
    refine h2 _ _ _ hx _ (cs_at hg h (j := p + rd_wd (M0 2) (M0 1 1) en p) ?_ ?_ (by omega) (fun x y y1 => ?_)) ⟨o1, ?_, ?_, ?_, ?_, fun j hj => ?_⟩ ?_
    · rw [am_up_el (by omega), am_up_at]
    · rw [am_up_at]
    · rw [am_up_el (by omega), am_up_el (by omega), am_up_el (by omega), am_up_el (by omega), am_up_el (by omega)]
    · rw [am_up_el (by omega), am_up_el (by omega), am_up_at, o2]
    · rw [am_up_el (by omega), am_up_el (by omega), am_up_el (by omega), am_up_at]; exact i1
    · rw [am_up_el (by omega), am_up_el (by omega), am_up_el (by omega), am_up_at]; omega
    · rw [am_up_el (by omega), am_up_el (by omega), am_up_el (by omega), am_up_el (by omega), am_up_el (by omega), ee]; exact i4
    · have t2 : (am_up (am_up (am_up (am_up (am_up M 1 2 p) 1 6 p) 1 7 (rd_wd (M0 2) (M0 1 1) en p)) 1 2 (p + rd_wd (M0 2) (M0 1 1) en p)) 1 5 (p + rd_wd (M0 2) (M0 1 1) en p)) 2 = M 2 := funext fun y => by
        rw [am_up_el (by omega), am_up_el (by omega), am_up_el (by omega), am_up_el (by omega), am_up_el (by omega)]
      have key : ∀ MM : am_M, MM 2 = M 2 → MM 1 1 = M 1 1 → MM 1 6 = p → rd_by (MM 2) (MM 1 1) (MM 1 6 + (j : Int)) = (nm_ (M0 2) (rd_wd (M0 2) (M0 1 1) en p).toNat p).getD j 0 + 96 := fun MM k1 k2 k3 => by
        rw [k1, k2, k3, et, ee, o5 j hj]
        unfold rd_by
        rw [if_pos ⟨by omega, by omega⟩]; omega
      exact key _ t2 (by rw [am_up_el (by omega), am_up_el (by omega), am_up_el (by omega), am_up_el (by omega), am_up_el (by omega)]) (by rw [am_up_el (by omega), am_up_el (by omega), am_up_el (by omega), am_up_at])
    · rw [am_up_el (by omega), am_up_el (by omega), am_up_el (by omega), am_up_at]
  · rw [ew, eo] at z
    rw [e]
    exact h1 1 p (by unfold pr_name; rw [if_pos z]) _ (cs_bl hg hp (by decide))
  · rw [ew] at z1 z3
    rw [eo] at z2
    rw [e]
    exact h1 1 (p + 6) (by unfold pr_name; rw [if_neg (fun y => y.elim (fun y => z1 y) (fun y => y z2)), if_pos z3]) _ (cs_bl hg hp (by decide))
end DT
