/-! THE REFERENCE'S MACHINE WITH A STACK, against the rules (printed by wip/whole/stackm.py) -/
def qsk (M : am_M) (C W : List Int) (r : Nat) (b : Int) : Prop := (M 152 83 = C.length ∧ ∀ i : Nat, i < C.length → M 211 i = C.getD i 0) ∧ (M 152 85 = W.length ∧ ∀ i : Nat, i < W.length → M 212 ((W.length : Int) - 1 - i) = W.getD i 0) ∧ (M 152 86 = 6 - (r : Int) ∧ r + on_ W ≤ 6) ∧ M 152 87 = b ∧ C.length + W.length ≤ 1600
def qsf (M M' : am_M) : Prop := ∀ x j, ¬ (x = 211 ∧ 0 ≤ j ∧ j < 1600) → ¬ x = 212 → ¬ (x = 152 ∧ (j = 83 ∨ j = 85 ∨ j = 86)) → M' x j = M x j
theorem qsf_tr {M M1 M2 : am_M} (h : qsf M M1) (k : qsf M1 M2) : qsf M M2 := fun x j a b c => (k x j a b c).trans (h x j a b c)
section ST
variable {M0 M M' : am_M} {p en : Int} {C W W0 : List Int} {r : Nat} {b : Int}
theorem qsk_tf (h : tf_ M M') (hs : qsk M C W r b) : qsk M' C W r b := by
  obtain ⟨⟨a1, a2⟩, ⟨a3, a4⟩, ⟨a5, a6⟩, a7, a8⟩ := hs
  refine ⟨⟨?_, fun i hi => ?_⟩, ⟨?_, fun i hi => ?_⟩, ⟨?_, a6⟩, ?_, a8⟩
  · rw [h 152 83 (by omega)]; exact a1
  · rw [h 211 i (by omega)]; exact a2 i hi
  · rw [h 152 85 (by omega)]; exact a3
  · rw [h 212 _ (by omega)]; exact a4 i hi
  · rw [h 152 86 (by omega)]; exact a5
  · rw [h 152 87 (by omega)]; exact a7
theorem qsx (hx : rx_ M0 M p en) (h : qsf M M') : rx_ M0 M' p en ∧ M' 152 2 = M 152 2 := by
  obtain ⟨g1, g2, g3, g4, g5⟩ := hx
  have f1 : rp_fr M0 M' := rp_tr g1 (fun x j a b c d f => h x j (by omega) (by omega) (by omega))
  obtain ⟨e1, e2⟩ := rp_t g1
  obtain ⟨e3, e4⟩ := rp_t f1
  have e5 : M' 152 2 = M 152 2 := h 152 2 (by omega) (by omega) (by omega)
  refine ⟨⟨f1, ⟨?_, ?_, ?_⟩, ?_, ?_, ?_⟩, e5⟩
  · rw [e4, ← e2]; exact g2.1
  · rw [e5]; exact g2.2.1
  · rw [e5, e4, ← e2]; exact g2.2.2
  · show rd_at (M' 153) (M' 152 3) (M' 152 2) = p
    rw [e3, e4, e5, ← e1, ← e2]
    exact g3
  · rw [h 152 4 (by omega) (by omega) (by omega)]; exact g4
  · rw [h 152 5 (by omega) (by omega) (by omega), h 152 6 (by omega) (by omega) (by omega)]; exact g5
theorem qscode {d : Nat} {f : am_M → Prop} {c : Int} (hs : qsk M C W r b) (hl : C.length + W.length < 1600) (hf : ∀ M', qsk M' (C ++ [c]) W r b → qsf M M' → f M') : am_cal pg (d + 1) 277 [(2, 152), (0, c)] sh_T M (am_cv sh_T f) := by
  obtain ⟨⟨a1, a2⟩, ⟨a3, a4⟩, ⟨a5, a6⟩, a7, a8⟩ := hs
  have key : f (am_up (am_up M 211 (M 152 83) c) 152 83 (M 152 83 + 1)) := by
    refine hf _ ⟨⟨?_, fun i hi => ?_⟩, ⟨?_, fun i hi => ?_⟩, ⟨?_, a6⟩, ?_, ?_⟩ (fun x j y1 y2 y3 => ?_)
    · rw [am_up_at, List.length_append, List.length_singleton]; omega
    · rw [List.length_append, List.length_singleton] at hi
      rw [am_up_el (by omega)]
      by_cases y : i = C.length
      · rw [gd_r y, show (i : Int) = M 152 83 by omega, am_up_at]
      · rw [gd_l (by omega), am_up_el (by omega)]
        exact a2 i (by omega)
    · rw [am_up_el (by omega), am_up_el (by omega)]; exact a3
    · rw [am_up_el (by omega), am_up_el (by omega)]; exact a4 i hi
    · rw [am_up_el (by omega), am_up_el (by omega)]; exact a5
    · rw [am_up_el (by omega), am_up_el (by omega)]; exact a7
    · rw [List.length_append, List.length_singleton]; omega
    · rw [am_up_el (by omega), am_up_el (by omega)]
  exact en_X12_qCode (bk_X12_qCode_0 ⟨⟨by omega, by omega⟩, ⟨by omega, by omega⟩, am_cv_i key⟩)
theorem qsopens {d : Nat} {f : am_M → Prop} {w z : Int} (hb : M 152 5 = 0) (hs : qsk M C W r b) (hl : C.length + W.length < 1600) (hw : w = 12 ∨ 20 ≤ w) (h0 : r = 0 → f (rf_bl M 4 z)) (h1 : ∀ r', r = r' + 1 → ∀ M', qsk M' C (w :: W) r' b → qsf M M' → f M') : am_cal pg (d + 2) 278 [(2, 152), (0, w), (0, z)] sh_T M (am_cv sh_T f) := by
  obtain ⟨⟨a1, a2⟩, ⟨a3, a4⟩, ⟨a5, a6⟩, a7, a8⟩ := hs
  have key : ∀ r', r = r' + 1 → f (am_up (am_up (am_up M 152 86 (M 152 86 + 1)) 212 (M 152 85) w) 152 85 (M 152 85 + 1)) := fun r' hr => by
    have eo : on_ (w :: W) = 1 + on_ W := by
      show (if w = 12 ∨ 20 ≤ w then 1 else 0) + on_ W = _
      rw [if_pos hw]
    refine h1 r' hr _ ⟨⟨?_, fun i hi => ?_⟩, ⟨?_, fun i hi => ?_⟩, ⟨?_, by omega⟩, ?_, ?_⟩ (fun x j y1 y2 y3 => ?_)
    · rw [am_up_el (by omega), am_up_el (by omega), am_up_el (by omega)]; exact a1
    · rw [am_up_el (by omega), am_up_el (by omega), am_up_el (by omega)]; exact a2 i hi
    · rw [am_up_at, List.length_cons]; omega
    · rw [List.length_cons] at hi ⊢
      rw [am_up_el (by omega)]
      cases i with
      | zero =>
        rw [show (((W.length + 1 : Nat) : Int) - 1 - ((0 : Nat) : Int)) = M 152 85 by omega, am_up_at]
        rfl
      | succ i =>
        rw [am_up_el (by omega), am_up_el (by omega), show (((W.length + 1 : Nat) : Int) - 1 - ((i + 1 : Nat) : Int)) = (W.length : Int) - 1 - i by omega]
        exact a4 i (by omega)
    · rw [am_up_el (by omega), am_up_el (by omega), am_up_at]; omega
    · rw [am_up_el (by omega), am_up_el (by omega), am_up_el (by omega)]; exact a7
    · rw [List.length_cons]; omega
    · rw [am_up_el (by omega), am_up_el (by omega), am_up_el (by omega)]
  exact en_X12_qOpens (bk_X12_qOpens_0 ⟨fun _ => ⟨fun y => ⟨⟨by omega, by omega⟩, ⟨by omega, by omega⟩, ⟨by omega, by omega⟩, am_cv_i (key (r - 1) (by omega))⟩, fun y => sp_fail (am_cv_i (h0 (by omega)))⟩, fun y => absurd hb y⟩)
theorem qshd {w : Int} (hs : qsk M C (w :: W) r b) : M 212 (M 152 85 - 1) = w ∧ M 152 85 = (W.length : Int) + 1 := by
  obtain ⟨-, ⟨a3, a4⟩, -, -, -⟩ := hs
  rw [List.length_cons] at a3
  have h := a4 0 (by rw [List.length_cons]; omega)
  rw [List.length_cons] at h
  refine ⟨?_, by omega⟩
  rw [show M 152 85 - 1 = (((W.length + 1 : Nat) : Int) - 1 - ((0 : Nat) : Int)) by omega]
  exact h
theorem qsisOn {d : Nat} {f : Int → am_M → Prop} {v : Int} (hs : qsk M C W r b) (h0 : W = [] → f 0 M) (h1 : ∀ w W', W = w :: W' → f (am_b (w = v)) M) : am_cal pg (d + 1) 279 [(2, 152), (0, v)] sh_T M (am_c0 sh_T f) := by
  cases W with
  | nil =>
    have a3 := hs.2.1.1
    rw [List.length_nil] at a3
    exact en_X12_qIsOn (bk_X12_qIsOn_0 ⟨fun _ => am_c0_i (h0 rfl), fun y => by omega⟩)
  | cons w W =>
    obtain ⟨e1, e2⟩ := qshd hs
    have a8 := hs.2.2.2.2
    rw [List.length_cons] at a8
    have h := h1 w W rfl
    refine en_X12_qIsOn (bk_X12_qIsOn_0 ⟨fun y => by omega, fun _ => ⟨⟨by omega, by omega⟩, ⟨by omega, by omega⟩, ?_⟩⟩)
    rw [e1]
    refine ⟨fun y => am_c0_i ?_, fun y => am_c0_i ?_⟩
    · rw [am_b_0 y] at h; exact h
    · rw [am_b_1 y] at h; exact h
/-- one less waits, nothing else -/
theorem qsk_pop {w : Int} {r' : Nat} (hs : qsk M C (w :: W) r b) (hr : r' + on_ W ≤ 6) {N : am_M} (e1 : N 152 85 = M 152 85 - 1) (e2 : N 152 86 = 6 - (r' : Int)) (hf : ∀ x j, ¬ (x = 152 ∧ (j = 85 ∨ j = 86)) → N x j = M x j) : qsk N C W r' b := by
  obtain ⟨g1, g2⟩ := qshd hs
  obtain ⟨⟨a1, a2⟩, ⟨a3, a4⟩, ⟨a5, a6⟩, a7, a8⟩ := hs
  rw [List.length_cons] at a8
  refine ⟨⟨?_, fun i hi => ?_⟩, ⟨by omega, fun i hi => ?_⟩, ⟨e2, hr⟩, ?_, by omega⟩
  · rw [hf 152 83 (by omega)]; exact a1
  · rw [hf 211 i (by omega)]; exact a2 i hi
  · rw [hf 212 _ (by omega)]
    have h := a4 (i + 1) (by rw [List.length_cons]; omega)
    rw [List.length_cons, show (((W.length + 1 : Nat) : Int) - 1 - ((i + 1 : Nat) : Int)) = (W.length : Int) - 1 - i by omega] at h
    exact h
  · rw [hf 152 87 (by omega)]; exact a7
theorem qsdrops {d : Nat} {f : am_M → Prop} {w : Int} (hs : qsk M C (w :: W) r b) (hf : ∀ M', qsk M' (C ++ [w]) W r b → qsf M M' → f M') : am_cal pg (d + 2) 280 [(2, 152)] sh_T M (am_cv sh_T f) := by
  obtain ⟨e1, e2⟩ := qshd hs
  have a8 := hs.2.2.2.2
  rw [List.length_cons] at a8
  have k1 : qsk (am_up M 152 85 (M 152 85 - 1)) C W r b := qsk_pop hs (on_tl hs.2.2.1.2) am_up_at ((am_up_el (by omega)).trans hs.2.2.1.1) (fun x j y => am_up_el (by omega))
  refine en_X12_qDrops (bk_X12_qDrops_0 ⟨⟨by omega, by omega⟩, ⟨by omega, by omega⟩, ?_⟩)
  rw [e1]
  exact qscode k1 (by omega) (fun M' q1 q2 => am_cv_i (hf M' q1 (fun x j y1 y2 y3 => (q2 x j y1 y2 y3).trans (am_up_el (by omega)))))
theorem qsdropE {d : Nat} {f : am_M → Prop} {w : Int} (hw : w = 12 ∨ 20 ≤ w) (hs : qsk M C (w :: W) r b) (hf : ∀ M', qsk M' (C ++ [w]) W (r + 1) b → qsf M M' → f M') : am_cal pg (d + 2) 280 [(2, 152)] sh_T (am_up M 152 86 (M 152 86 - 1)) (am_cv sh_T f) := by
  obtain ⟨e1, e2⟩ := qshd hs
  have a8 := hs.2.2.2.2
  have a5 := hs.2.2.1.1
  have a6 := hs.2.2.1.2
  rw [List.length_cons] at a8
  have eo : on_ (w :: W) = 1 + on_ W := by
    show (if w = 12 ∨ 20 ≤ w then 1 else 0) + on_ W = _
    rw [if_pos hw]
  obtain ⟨N, eN⟩ : ∃ N, N = am_up M 152 86 (M 152 86 - 1) := ⟨_, rfl⟩
  rw [← eN]
  have u : ∀ x j, ¬ (x = 152 ∧ j = 86) → N x j = M x j := fun x j y => by rw [eN]; exact am_up_el y
  have u2 : N 152 86 = M 152 86 - 1 := by rw [eN]; exact am_up_at
  have k1 : qsk (am_up N 152 85 (N 152 85 - 1)) C W (r + 1) b := qsk_pop hs (by omega) (by rw [am_up_at, u _ _ (by omega)]) (by rw [am_up_el (by omega), u2]; omega) (fun x j y => (am_up_el (by omega)).trans (u x j (by omega)))
  have e3 : N 152 85 = M 152 85 := u _ _ (by omega)
  refine en_X12_qDrops (bk_X12_qDrops_0 ⟨⟨by omega, by omega⟩, ⟨by omega, by omega⟩, ?_⟩)
  rw [show N 212 (N 152 85 - 1) = w by rw [e3, u _ _ (by omega)]; exact e1]
  exact qscode k1 (by omega) (fun M' q1 q2 => am_cv_i (hf M' q1 (fun x j y1 y2 y3 => (q2 x j y1 y2 y3).trans ((am_up_el (by omega)).trans (u x j (by omega))))))
theorem qsmark {d : Nat} {f : Int → am_M → Prop} {w : Int} (h : f (am_b (20 ≤ w ∧ w ≤ 24)) M) : am_cal pg (d + 1) 281 [(0, w)] sh_T M (am_c0 sh_T f) := by
  refine en_X12_qIsBracket (bk_X12_qIsBracket_0 ⟨fun y => am_c0_i ?_, fun y => ⟨fun y2 => am_c0_i ?_, fun y2 => am_c0_i ?_⟩⟩)
  · rw [am_b_0 (by omega)] at h; exact h
  · rw [am_b_0 (by omega)] at h; exact h
  · rw [am_b_1 (by omega)] at h; exact h
theorem qslast {d : Nat} {f : Int → am_M → Prop} (hs : qsk M C (W ++ W0) r W0.length) (hf : f (lm_ W) M) : am_cal pg (d + 2) 282 [(2, 152)] sh_T M (am_c0 sh_T f) := by
  obtain ⟨-, ⟨a3, a4⟩, -, a7, a8⟩ := hs
  rw [List.length_append] at a3 a8
  have go : ∀ (V U : List Int), W = U ++ V → f (lm_ V) M → am_g 12 0 co_X12_qBracket (d + 1) (am_c0 sh_T f) 7 [(2, 152), (0, (V.length : Int) + (W0.length : Int) - 1)] [] sh_T M := by
    intro V
    induction V with
    | nil =>
      intro U hW hf
      exact bk_X12_qBracket_7 ⟨fun _ => am_c0_i hf, fun z => by rw [a7, List.length_nil] at z; omega⟩
    | cons w V ih =>
      intro U hW hf
      have el : W.length = U.length + V.length + 1 := by rw [hW, List.length_append, List.length_cons]; omega
      have hv : M 212 (((w :: V).length : Int) + (W0.length : Int) - 1) = w := by
        have h := a4 U.length (by rw [List.length_append]; omega)
        rw [List.length_append, show (((W.length + W0.length : Nat) : Int) - 1 - (U.length : Int)) = ((w :: V).length : Int) + (W0.length : Int) - 1 by rw [List.length_cons]; omega] at h
        rw [h, hW, List.append_assoc, List.cons_append]
        exact gd_m
      have hf : f (if 20 ≤ w ∧ w ≤ 24 then w else lm_ V) M := hf
      refine bk_X12_qBracket_7 ⟨fun z => by rw [a7, List.length_cons] at z; omega, fun _ => ⟨⟨by rw [List.length_cons]; omega, by rw [List.length_cons]; omega⟩, ?_⟩⟩
      rw [hv]
      refine qsmark ⟨fun z => ⟨fun y => by rw [a7, List.length_cons] at y; omega, fun _ => am_c0_i ?_⟩, fun z => ⟨⟨by rw [List.length_cons]; omega, by rw [List.length_cons]; omega⟩, ?_⟩⟩
      · rw [hv]
        rw [if_pos (am_b_nz z)] at hf
        exact hf
      · rw [if_neg (am_b_z.mp z)] at hf
        have q := ih (U ++ [w]) (by rw [hW, List.append_assoc]; rfl) hf
        rw [show ((w :: V).length : Int) + (W0.length : Int) - 1 + (-1) = (V.length : Int) + (W0.length : Int) - 1 by rw [List.length_cons]; omega]
        exact q
  refine en_X12_qBracket (bk_X12_qBracket_0 ⟨⟨by omega, by omega⟩, ?_⟩)
  rw [show M 152 85 - 1 = (W.length : Int) + (W0.length : Int) - 1 by omega]
  exact go W [] rfl hf
theorem qstoMark {d : Nat} {f : am_M → Prop} {m : Int} (hm : 20 ≤ m ∧ m ≤ 24) : ∀ (U C : List Int) (M : am_M), op_ U → qsk M C (U ++ m :: (W ++ W0)) r W0.length → (∀ M', qsk M' (C ++ U) (m :: (W ++ W0)) r W0.length → qsf M M' → f M') → am_g 12 9 co_X12_qDropsToBracket (d + 2) (am_cv sh_T f) 0 [(2, 152)] [] sh_T M
  | [], C, M, _, hs, hf => by
    have hs : qsk M C (m :: (W ++ W0)) r W0.length := hs
    obtain ⟨e1, e2⟩ := qshd hs
    have a7 := hs.2.2.2.1
    have a8 := hs.2.2.2.2
    rw [List.length_cons] at a8
    rw [List.length_append] at a8 e2
    refine bk_X12_qDropsToBracket_0 ⟨fun z => by omega, fun _ => ⟨⟨by omega, by omega⟩, ⟨by omega, by omega⟩, ?_⟩⟩
    rw [e1]
    refine qsmark ⟨fun _ => am_cv_i (hf M ?_ (fun _ _ _ _ _ => rfl)), fun z => absurd hm (am_b_z.mp z)⟩
    rw [List.append_nil]
    exact hs
  | u :: U, C, M, hU, hs, hf => by
    have hs : qsk M C (u :: (U ++ m :: (W ++ W0))) r W0.length := hs
    obtain ⟨e1, e2⟩ := qshd hs
    have hu := hU u List.mem_cons_self
    have a7 := hs.2.2.2.1
    have a8 := hs.2.2.2.2
    rw [List.length_cons] at a8
    rw [List.length_append, List.length_cons, List.length_append] at a8 e2
    refine bk_X12_qDropsToBracket_0 ⟨fun z => by omega, fun _ => ⟨⟨by omega, by omega⟩, ⟨by omega, by omega⟩, ?_⟩⟩
    rw [e1]
    refine qsmark ⟨fun z => absurd (am_b_nz z) (by omega), fun _ => qsdrops hs (fun M1 k1 f1 => qstoMark hm U (C ++ [u]) M1 (fun x hx => hU x (List.mem_cons_of_mem _ hx)) k1 (fun M2 k2 f2 => hf M2 ?_ (qsf_tr f1 f2)))⟩
    rw [List.append_assoc] at k2
    exact k2
theorem qsends {d : Nat} {f : am_M → Prop} : ∀ (W C : List Int) (r : Nat) (M : am_M), M 152 5 = 0 → qsk M C (W ++ W0) r W0.length → (∀ M', qsk M' (pe_ C W r).1 ((pe_ C W r).2.1 ++ W0) (pe_ C W r).2.2 W0.length → qsf M M' → f M') → am_g 12 9 co_X12_qEndsPart (d + 2) (am_cv sh_T f) 0 [(2, 152)] [] sh_T M
  | [], C, r, M, hb, hs, hf => by
    have a3 := hs.2.1.1
    have a7 := hs.2.2.2.1
    rw [List.nil_append] at a3
    exact bk_X12_qEndsPart_0 ⟨fun z => absurd hb z, fun _ => ⟨fun _ => am_cv_i (hf M hs (fun _ _ _ _ _ => rfl)), fun z => by omega⟩⟩
  | w :: W, C, r, M, hb, hs, hf => by
    have hs : qsk M C (w :: (W ++ W0)) r W0.length := hs
    obtain ⟨e1, e2⟩ := qshd hs
    have a5 := hs.2.2.1.1
    have a6 := hs.2.2.1.2
    have a7 := hs.2.2.2.1
    have a8 := hs.2.2.2.2
    rw [List.length_cons] at a8
    rw [List.length_append] at a8 e2
    have e : pe_ C (w :: W) r = if 60 ≤ w then pe_ (C ++ [w]) W (r + 1) else (C, w :: W, r) := rfl
    rw [e] at hf
    refine bk_X12_qEndsPart_0 ⟨fun z => absurd hb z, fun _ => ⟨fun z => by omega, fun _ => ⟨⟨by omega, by omega⟩, ⟨by omega, by omega⟩, ?_⟩⟩⟩
    rw [e1]
    refine ⟨fun z => am_cv_i ?_, fun z => ⟨⟨by omega, by omega⟩, qsdropE (Or.inr (by omega)) hs (fun M1 k1 f1 => ?_)⟩⟩
    · rw [if_neg (by omega)] at hf
      exact hf M hs (fun _ _ _ _ _ => rfl)
    · rw [if_pos z] at hf
      exact qsends W (C ++ [w]) (r + 1) M1 ((f1 152 5 (by omega) (by omega) (by omega)).trans hb) k1 (fun M2 k2 f2 => hf M2 k2 (qsf_tr f1 f2))
end ST
/-- where the sum's loop stands -/
abbrev qsG (d : Nat) (Q : am_Q) (v1 x : Int) (M : am_M) : Prop := am_g 12 9 co_X12_qSums (d + 1) Q 15 [(2, 152), (0, v1), (0, x)] [] sh_T M
abbrev qsKG (d : Nat) (Q : am_Q) (v1 : Int) : am_Q := am_c0 sh_T fun x5 M5 => ((x5 = 0 → qsG d Q v1 0 M5) ∧ (¬ x5 = 0 → qsG d Q v1 1 M5))
abbrev qsKP (d : Nat) (Q : am_Q) (v1 : Int) : am_Q := am_cv sh_T fun M3 => ((¬ M3 152 5 = 0 → qsG d Q v1 0 M3) ∧ (M3 152 5 = 0 → am_cal pg (d + 1) 289 [(2, 152)] sh_T M3 (qsKG d Q v1)))
def qso (_ : List Int) : Prop := True
theorem qso_ap {U W : List Int} (_ : qso (U ++ W)) : qso W := trivial
theorem qso_tl {m : Int} {W : List Int} (_ : qso (m :: W)) : qso W := trivial
theorem qso_c {m : Int} {W : List Int} (_ : m < 60) (_ : qso W) : qso (m :: W) := trivial
def qsA (M0 : am_M) (W0 : List Int) (Q : am_Q) (d : Nat) (v1 : Int) : pm_C := fun p en C W r => qso W → ∀ M, rx_ M0 M p en → qsk M C (W ++ W0) r W0.length → ((C.length + (W ++ W0).length : Nat) : Int) < p → am_g 12 9 co_X12_qPartTold (d + 6) (qsKP (d + 6) Q v1) 2 [(2, 152), (0, 1), (3, 0), (3, 0), (3, 0), (3, 0)] [] sh_T M
def qsB (M0 : am_M) (W0 : List Int) (Q : am_Q) (d : Nat) (v1 : Int) : pm_C := fun p en C W r => qso W → ∀ M, rx_ M0 M p en → qsk M C (W ++ W0) r W0.length → ((C.length + (W ++ W0).length : Nat) : Int) < p → am_g 12 5 co_X12_qGoesOn (d + 6) (qsKG (d + 6) Q v1) 0 [(2, 152), (3, 0)] [] sh_T M
def qsF (M0 : am_M) (Q : am_Q) (v1 : Int) : Int → Int → Prop := fun k z => ∀ M, ru_ M0 M k z → Q (none, sh_T, am_up M 152 87 v1)
section SM
variable {M0 M : am_M} {W0 : List Int} {Q : am_Q} {d : Nat} {v1 p en : Int} {C W : List Int} {r : Nat}
theorem qsfin {k z : Int} (hF : qsF M0 Q v1 k z) (h : ru_ M0 M k z) : qsG d Q v1 0 M :=
  bk_X12_qSums_15 ⟨fun _ => bk_X12_qSums_53 ⟨fun _ => hF M h, fun y => absurd y (ru_b h)⟩, fun y => absurd rfl y⟩
theorem qsfg {k z : Int} (hF : qsF M0 Q v1 k z) (h : ru_ M0 M k z) : qsKG d Q v1 (some (0, 0), sh_T, M) := am_c0_i ⟨fun _ => qsfin hF h, fun y => absurd rfl y⟩
theorem qsfq {k z : Int} (hF : qsF M0 Q v1 k z) (h : ru_ M0 M k z) : qsKP d Q v1 (none, sh_T, M) := am_cv_i ⟨fun _ => qsfin hF h, fun y => absurd y (ru_b h)⟩
theorem qsfp {k z x : Int} (hF : qsF M0 Q v1 k z) (h : ru_ M0 M k z) : am_g 12 9 co_X12_qPartTold d (qsKP d Q v1) 2 [(2, 152), (0, x), (3, 0), (3, 0), (3, 0), (3, 0)] [] sh_T M := by
  have e : am_g 12 9 co_X12_qPartTold d (qsKP d Q v1) 184 [(2, 152), (3, 0), (3, 0), (3, 0), (3, 0), (3, 0)] [] sh_T M := bk_X12_qPartTold_184 ⟨fun y => absurd y (ru_b h), fun _ => qsfq hF h⟩
  exact bk_X12_qPartTold_2 ⟨fun _ => e, fun _ => ⟨fun _ => e, fun y => absurd y (ru_b h)⟩⟩
/-- what waits is one more, and on -/
theorem qson {k : Int} (hk : ¬ (k = 12 ∨ 20 ≤ k)) (hA : qsA M0 W0 Q d v1 p en C (k :: W) r) (ho : qso (k :: W)) (hx : rx_ M0 M p en) (hs : qsk M C (W ++ W0) r W0.length) (hl : ((C.length + (W ++ W0).length : Nat) : Int) + 1 < p) : (0 ≤ M 152 85 ∧ M 152 85 < 1700) ∧ am_r (M 152 85 + 1) ∧ qsKG (d + 6) Q v1 (some (0, 1), sh_T, am_up (am_up M 212 (M 152 85) k) 152 85 (M 152 85 + 1)) := by
  obtain ⟨⟨a1, a2⟩, ⟨a3, a4⟩, ⟨a5, a6⟩, a7, a8⟩ := hs
  obtain ⟨i1, i2, i3, i4, -⟩ := rx_in hx
  have f1 : qsf M (am_up (am_up M 212 (M 152 85) k) 152 85 (M 152 85 + 1)) := fun x j y1 y2 y3 => by rw [am_up_el (by omega), am_up_el (by omega)]
  have hx2 := (qsx hx f1).1
  have eo : on_ (k :: (W ++ W0)) = on_ (W ++ W0) := by
    show (if k = 12 ∨ 20 ≤ k then 1 else 0) + on_ (W ++ W0) = _
    rw [if_neg hk]; omega
  refine ⟨⟨by omega, by omega⟩, ⟨by omega, by omega⟩, am_c0_i ⟨fun y => absurd y (by decide), fun _ => bk_X12_qSums_15 ⟨fun y => absurd y (by decide), fun _ => ⟨fun y => absurd hx2.2.2.2.2.1 y, fun _ => en_X12_qPartTold (bk_X12_qPartTold_0 (hA ho _ hx2 ⟨⟨?_, fun i hi => ?_⟩, ⟨?_, fun i hi => ?_⟩, ⟨?_, by show r + on_ (k :: (W ++ W0)) ≤ 6; omega⟩, ?_, ?_⟩ ?_))⟩⟩⟩⟩
  · rw [am_up_el (by omega), am_up_el (by omega)]; exact a1
  · rw [am_up_el (by omega), am_up_el (by omega)]; exact a2 i hi
  · rw [am_up_at]
    show M 152 85 + 1 = (((k :: (W ++ W0)).length : Nat) : Int)
    rw [List.length_cons]; omega
  · have hi : i < (k :: (W ++ W0)).length := hi
    show am_up _ 152 85 _ 212 ((((k :: (W ++ W0)).length : Nat) : Int) - 1 - i) = (k :: (W ++ W0)).getD i 0
    rw [List.length_cons] at hi ⊢
    rw [am_up_el (by omega)]
    cases i with
    | zero =>
      rw [show ((((W ++ W0).length + 1 : Nat) : Int) - 1 - ((0 : Nat) : Int)) = M 152 85 by omega, am_up_at]
      rfl
    | succ i =>
      rw [am_up_el (by omega), show ((((W ++ W0).length + 1 : Nat) : Int) - 1 - ((i + 1 : Nat) : Int)) = ((W ++ W0).length : Int) - 1 - i by omega]
      exact a4 i (by omega)
  · rw [am_up_el (by omega), am_up_el (by omega)]; exact a5
  · rw [am_up_el (by omega), am_up_el (by omega)]; exact a7
  · show C.length + (k :: (W ++ W0)).length ≤ 1600
    rw [List.length_cons]; omega
  · show ((C.length + (k :: (W ++ W0)).length : Nat) : Int) < p
    rw [List.length_cons]; omega
/-- behind a part -/
theorem qsbeh (hB : pm_B (qsB M0 W0 Q d v1) p en C W r) (_ : qso W) (hx : rx_ M0 M p en) (hs : qsk M C (W ++ W0) r W0.length) (hl : ((C.length + (W ++ W0).length : Nat) : Int) < p) : am_g 12 5 co_X12_qGoesOn (d + 6) (qsKG (d + 6) Q v1) 115 [(2, 152), (3, 0)] [] sh_T M := by
  have hp := pe_in C W r
  rw [List.length_append] at hl
  refine bk_X12_qGoesOn_115 (en_X12_qEndsPart (qsends W C r M hx.2.2.2.2.1 hs (fun M1 k1 f1 => hB trivial M1 (qsx hx f1).1 k1 ?_)))
  rw [List.length_append]
  omega
theorem qsendp (hB : pm_B (qsB M0 W0 Q d v1) p en C W r) (_ : qso W) (hx : rx_ M0 M p en) (hs : qsk M C (W ++ W0) r W0.length) (hl : ((C.length + (W ++ W0).length : Nat) : Int) < p) : am_cal pg (d + 6) 287 [(2, 152)] sh_T M (am_cv sh_T fun M5 => qsKP (d + 6) Q v1 (none, sh_T, M5)) := by
  have hp := pe_in C W r
  rw [List.length_append] at hl
  refine en_X12_qEndsPart (qsends W C r M hx.2.2.2.2.1 hs (fun M1 k1 f1 => am_cv_i ⟨fun y => absurd (qsx hx f1).1.2.2.2.2.1 y, fun _ => en_X12_qGoesOn (hB trivial M1 (qsx hx f1).1 k1 ?_)⟩))
  rw [List.length_append]
  omega
theorem qsR4 {U : List Int} {m : Int} (hU : op_ U) (hm : m = 20 ∨ m = 23 ∨ m = 24) (hc : rc (M0 153) (M0 152 3) p = 41) (hB : pm_B (qsB M0 W0 Q d v1) (rd_at (M0 153) (M0 152 3) (p + 1)) en (C ++ U ++ (if m = 20 then [] else [m - 18])) W (r + 1)) : qsB M0 W0 Q d v1 p en C (U ++ m :: W) r := by
  intro ho M hx hs hl
  obtain ⟨i1, i2, i3, i4, -⟩ := rx_in hx
  have hlt := (rc_lt hc (by decide)).1
  have hr := rd_at_le (t := M0 153) (e := M0 152 3) (i := p + 1) (by omega)
  have ho1 : qso W := qso_tl (qso_ap ho)
  have eL : lm_ (U ++ m :: W) = m := by rw [lm_op U _ hU, lm_m (by omega)]
  rw [List.length_append, List.length_append, List.length_cons] at hl
  have g43 : ∀ M1, rx_ M0 M1 p en → M1 152 2 = p → qsk M1 C (U ++ m :: W ++ W0) r W0.length → am_g 12 5 co_X12_qGoesOn (d + 6) (qsKG (d + 6) Q v1) 43 [(2, 152), (3, 0)] [] sh_T M1 := fun M1 h1 hp1 k1 => by
    have t2 : tf_ M1 (am_up M1 152 2 (M1 152 2 + 1)) := fun x j y => am_up_el (by omega)
    have h2 : rx_ M0 (am_up M1 152 2 (M1 152 2 + 1)) (rd_at (M0 153) (M0 152 3) (p + 1)) en := rx_at h1 (by rw [am_up_at, hp1]) ((am_up_el (by omega)).trans h1.2.2.2.1) (by omega) t2
    have k2 : qsk (am_up M1 152 2 (M1 152 2 + 1)) C (U ++ m :: (W ++ W0)) r W0.length := by
      have := qsk_tf t2 k1
      rw [List.append_assoc] at this
      exact this
    refine bk_X12_qGoesOn_43 ⟨⟨by omega, by omega⟩, en_X12_qDropsToBracket (qstoMark (by omega) U C _ hU k2 (fun M3 k3 f3 => ?_))⟩
    obtain ⟨e1, e2⟩ := qshd k3
    have a5 := k3.2.2.1.1
    have a6 := k3.2.2.1.2
    have a8 := k3.2.2.2.2
    rw [List.length_append, List.length_cons, List.length_append] at a8
    rw [List.length_append] at e2
    have eo : on_ (m :: (W ++ W0)) = 1 + on_ (W ++ W0) := by
      show (if m = 12 ∨ 20 ≤ m then 1 else 0) + on_ (W ++ W0) = _
      rw [if_pos (by omega)]
    obtain ⟨h3, hp3⟩ := qsx h2 f3
    have k4 : qsk (am_up (am_up M3 152 85 (M3 152 85 - 1)) 152 86 (M3 152 86 - 1)) (C ++ U) (W ++ W0) (r + 1) W0.length := qsk_pop k3 (by omega) ((am_up_el (by omega)).trans am_up_at) (by rw [am_up_at]; omega) (fun x j y => by rw [am_up_el (by omega), am_up_el (by omega)])
    have f4 : qsf M3 (am_up (am_up M3 152 85 (M3 152 85 - 1)) 152 86 (M3 152 86 - 1)) := fun x j y1 y2 y3 => by rw [am_up_el (by omega), am_up_el (by omega)]
    have h4 := (qsx h3 f4).1
    refine ⟨⟨by omega, by omega⟩, ⟨by omega, by omega⟩, ⟨by omega, by omega⟩, ?_⟩
    rw [e1]
    refine ⟨fun y => ?_, fun y => ⟨fun y2 => ?_, fun y2 => ?_⟩⟩
    · rw [if_pos y, List.append_nil] at hB
      refine qsbeh hB ho1 h4 k4 ?_
      rw [List.length_append, List.length_append]; omega
    · rw [if_neg y, show m - 18 = 6 by omega] at hB
      refine qscode k4 (by rw [List.length_append, List.length_append]; omega) (fun M5 k5 f5 => qsbeh hB ho1 (qsx h4 f5).1 k5 ?_)
      rw [List.length_append, List.length_append, List.length_append, List.length_singleton]; omega
    · rw [if_neg y, show m - 18 = 5 by omega] at hB
      refine qscode k4 (by rw [List.length_append, List.length_append]; omega) (fun M5 k5 f5 => qsbeh hB ho1 (qsx h4 f5).1 k5 ?_)
      rw [List.length_append, List.length_append, List.length_append, List.length_singleton]; omega
  refine bk_X12_qGoesOn_0 ⟨fun y => absurd hx.2.2.2.2.1 y, fun _ => rt_look hx (fun M1 h1 hp1 t1 => ⟨fun y => absurd hc y, fun _ => ?_⟩)⟩
  have k1 := qsk_tf t1 hs
  have g := g43 M1 h1 hp1 k1
  refine qslast k1 ?_
  rw [eL]
  refine ⟨fun _ => g, fun y => qslast k1 ?_⟩
  rw [eL]
  refine ⟨fun _ => g, fun y2 => qslast k1 ?_⟩
  rw [eL]
  exact ⟨fun y3 => by omega, fun _ => g⟩
theorem qsR5 (hW0 : hd_ (fun w => ¬ (1 ≤ w ∧ w ≤ 4)) W0) {U : List Int} {k : Int} (hU : mu_ U) (hW : hd_ (fun w => ¬ (w = 3 ∨ w = 4)) W) (hk : k = 3 ∧ rc (M0 153) (M0 152 3) p = 42 ∨ k = 4 ∧ rc (M0 153) (M0 152 3) p = 47) (hA : qsA M0 W0 Q d v1 (rd_at (M0 153) (M0 152 3) (p + 1)) en (C ++ U) (k :: W) r) : qsB M0 W0 Q d v1 p en C (U ++ W) r := by
  intro ho M hx hs hl
  obtain ⟨i1, i2, i3, i4, -⟩ := rx_in hx
  have hlt : p < M0 152 3 := by rcases hk with ⟨-, y⟩ | ⟨-, y⟩ <;> exact (rc_lt y (by decide)).1
  have htp : M0 153 p = rc (M0 153) (M0 152 3) p := by unfold rc; rw [if_pos hlt]
  have hr := rd_at_le (t := M0 153) (e := M0 152 3) (i := p + 1) (by omega)
  have ho1 : qso (k :: W) := qso_c (by omega) (qso_ap ho)
  have hk12 : ¬ (k = 12 ∨ 20 ≤ k) := by omega
  rw [List.length_append, List.length_append] at hl
  have hT : ∀ v, (v = 3 ∨ v = 4) → ∀ w V, W ++ W0 = w :: V → ¬ w = v := fun v hv w V hV => by
    cases W with
    | nil =>
      cases W0 with
      | nil => cases hV
      | cons z Z =>
        have hz : ¬ (1 ≤ z ∧ z ≤ 4) := hW0
        have : z = w := by cases hV; rfl
        omega
    | cons z Z =>
      have hz : ¬ (z = 3 ∨ z = 4) := hW
      have : z = w := by cases hV; rfl
      omega
  have loop : ∀ (U C1 : List Int) (M1 : am_M), mu_ U → rx_ M0 M1 (rd_at (M0 153) (M0 152 3) (p + 1)) en → qsk M1 C1 (U ++ (W ++ W0)) r W0.length → ((C1.length + U.length : Nat) : Int) < p - ((W ++ W0).length : Nat) → qsA M0 W0 Q d v1 (rd_at (M0 153) (M0 152 3) (p + 1)) en (C1 ++ U) (k :: W) r → am_g 12 5 co_X12_qGoesOn (d + 6) (qsKG (d + 6) Q v1) 162 [(2, 152), (0, k)] [] sh_T M1 := by
    intro U
    induction U with
    | nil =>
      intro C1 M1 hU h1 k1 hl1 hA
      have k1 : qsk M1 C1 (W ++ W0) r W0.length := k1
      rw [List.append_nil] at hA
      rw [List.length_nil] at hl1
      have fin := qson (d := d) (v1 := v1) hk12 hA ho1 h1 k1 (by omega)
      have b4 : am_cal pg (d + 6) 279 [(2, 152), (0, 4)] sh_T M1 (am_c0 sh_T fun x3 M3 => ((x3 = 0 → (0 ≤ M3 152 85 ∧ M3 152 85 < 1700) ∧ am_r ((M3 152 85) + 1) ∧ qsKG (d + 6) Q v1 (some (0, 1), sh_T, (am_up (am_up M3 212 (M3 152 85) k) 152 85 ((M3 152 85) + 1)))) ∧ (¬ x3 = 0 → am_g 12 5 co_X12_qGoesOn (d + 6) (qsKG (d + 6) Q v1) 178 [(2, 152), (0, k)] [] sh_T M3))) := qsisOn k1 (fun _ => ⟨fun _ => fin, fun y => absurd rfl y⟩) (fun w V hV => ⟨fun _ => fin, fun y => absurd (am_b_nz y) (hT 4 (Or.inr rfl) w V hV)⟩)
      exact bk_X12_qGoesOn_162 (qsisOn k1 (fun _ => ⟨fun y => absurd rfl y, fun _ => b4⟩) (fun w V hV => ⟨fun y => absurd (am_b_nz y) (hT 3 (Or.inl rfl) w V hV), fun _ => b4⟩))
    | cons u U ih =>
      intro C1 M1 hU h1 k1 hl1 hA
      have k1 : qsk M1 C1 (u :: (U ++ (W ++ W0))) r W0.length := k1
      have hu := hU u List.mem_cons_self
      rw [List.length_cons] at hl1
      have dr : am_g 12 5 co_X12_qGoesOn (d + 6) (qsKG (d + 6) Q v1) 178 [(2, 152), (0, k)] [] sh_T M1 := bk_X12_qGoesOn_178 (qsdrops k1 (fun M2 k2 f2 => ih (C1 ++ [u]) M2 (fun x hx => hU x (List.mem_cons_of_mem _ hx)) (qsx h1 f2).1 k2 (by rw [List.length_append, List.length_singleton]; omega) (by rw [List.append_assoc]; exact hA)))
      refine bk_X12_qGoesOn_162 (qsisOn k1 (fun z => by cases z) (fun w V hV => ⟨fun _ => dr, fun y => qsisOn k1 (fun z => by cases z) (fun w2 V2 hV2 => ⟨fun y2 => ?_, fun _ => dr⟩)⟩))
      have e1 : u = w := by cases hV; rfl
      have e2 : u = w2 := by cases hV2; rfl
      have := am_b_z.mp y
      have := am_b_z.mp y2
      omega
  have g136 : ∀ M1, rx_ M0 M1 (rd_at (M0 153) (M0 152 3) (p + 1)) en → M1 152 2 = p + 1 → qsk M1 C (U ++ W ++ W0) r W0.length → am_g 12 5 co_X12_qGoesOn (d + 6) (qsKG (d + 6) Q v1) 140 [(2, 152), (3, 0)] [] sh_T M1 := fun M1 h1 hp1 k1 => by
    rw [List.append_assoc] at k1
    have et : M1 153 (M1 152 2 - 1) = rc (M0 153) (M0 152 3) p := by
      rw [(rp_t h1.1).1, hp1, show p + 1 - 1 = p by omega]; exact htp
    have g := loop U C M1 hU h1 k1 (by rw [List.length_append]; omega) hA
    refine bk_X12_qGoesOn_140 ⟨⟨by omega, by omega⟩, ⟨by omega, by omega⟩, ?_⟩
    rw [et]
    refine ⟨fun y => ?_, fun y => ?_⟩
    · rw [show k = 4 by omega] at g; exact g
    · rw [show k = 3 by omega] at g; exact g
  have g118 : ∀ M1, rx_ M0 M1 p en → qsk M1 C (U ++ W ++ W0) r W0.length → am_g 12 5 co_X12_qGoesOn (d + 6) (qsKG (d + 6) Q v1) 122 [(2, 152), (3, 0)] [] sh_T M1 := fun M1 h1 k1 =>
    bk_X12_qGoesOn_122 (rt_sign (by decide) h1 (fun _ M2 h2 hp2 t2 => ⟨fun _ => g136 M2 h2 hp2 (qsk_tf t2 k1), fun y => absurd y (by decide)⟩) (fun y M2 h2 hp2 t2 => ⟨fun y2 => absurd rfl y2, fun _ => rt_sign (by decide) h2 (fun _ M3 h3 hp3 t3 => ⟨fun y2 => absurd y2 (by decide), fun _ => g136 M3 h3 hp3 (qsk_tf t3 (qsk_tf t2 k1))⟩) (fun y3 => by omega)⟩))
  exact bk_X12_qGoesOn_0 ⟨fun y => absurd hx.2.2.2.2.1 y, fun _ => rt_look hx (fun M1 h1 hp1 t1 => ⟨fun _ => g118 M1 h1 (qsk_tf t1 hs), fun y => by omega⟩)⟩
theorem qsR6 (hW0 : hd_ (fun w => ¬ (1 ≤ w ∧ w ≤ 4)) W0) {U : List Int} {k : Int} (hU : op_ U) (hW : hd_ (fun w => ¬ (1 ≤ w ∧ w ≤ 4)) W) (hk : k = 1 ∧ rc (M0 153) (M0 152 3) p = 43 ∨ k = 2 ∧ rc (M0 153) (M0 152 3) p = 45) (hA : qsA M0 W0 Q d v1 (rd_at (M0 153) (M0 152 3) (p + 1)) en (C ++ U) (k :: W) r) : qsB M0 W0 Q d v1 p en C (U ++ W) r := by
  intro ho M hx hs hl
  obtain ⟨i1, i2, i3, i4, -⟩ := rx_in hx
  have hlt : p < M0 152 3 := by rcases hk with ⟨-, y⟩ | ⟨-, y⟩ <;> exact (rc_lt y (by decide)).1
  have htp : M0 153 p = rc (M0 153) (M0 152 3) p := by unfold rc; rw [if_pos hlt]
  have hr := rd_at_le (t := M0 153) (e := M0 152 3) (i := p + 1) (by omega)
  have ho1 : qso (k :: W) := qso_c (by omega) (qso_ap ho)
  have hk12 : ¬ (k = 12 ∨ 20 ≤ k) := by omega
  rw [List.length_append, List.length_append] at hl
  have hT : ∀ v, (1 ≤ v ∧ v ≤ 4) → ∀ w V, W ++ W0 = w :: V → ¬ w = v := fun v hv w V hV => by
    cases W with
    | nil =>
      cases W0 with
      | nil => cases hV
      | cons z Z =>
        have hz : ¬ (1 ≤ z ∧ z ≤ 4) := hW0
        have : z = w := by cases hV; rfl
        omega
    | cons z Z =>
      have hz : ¬ (1 ≤ z ∧ z ≤ 4) := hW
      have : z = w := by cases hV; rfl
      omega
  have loop : ∀ (U C1 : List Int) (M1 : am_M), op_ U → rx_ M0 M1 (rd_at (M0 153) (M0 152 3) (p + 1)) en → qsk M1 C1 (U ++ (W ++ W0)) r W0.length → ((C1.length + U.length : Nat) : Int) < p - ((W ++ W0).length : Nat) → qsA M0 W0 Q d v1 (rd_at (M0 153) (M0 152 3) (p + 1)) en (C1 ++ U) (k :: W) r → am_g 12 5 co_X12_qGoesOn (d + 6) (qsKG (d + 6) Q v1) 247 [(2, 152), (0, k)] [] sh_T M1 := by
    intro U
    induction U with
    | nil =>
      intro C1 M1 hU h1 k1 hl1 hA
      have k1 : qsk M1 C1 (W ++ W0) r W0.length := k1
      rw [List.append_nil] at hA
      rw [List.length_nil] at hl1
      have fin := qson (d := d) (v1 := v1) hk12 hA ho1 h1 k1 (by omega)
      have zero : ∀ v, (1 ≤ v ∧ v ≤ 4) → ∀ f : Int → am_M → Prop, f 0 M1 → am_cal pg (d + 6) 279 [(2, 152), (0, v)] sh_T M1 (am_c0 sh_T f) := fun v hv f hf => qsisOn k1 (fun _ => hf) (fun w V hV => by rw [am_b_0 (hT v hv w V hV)]; exact hf)
      exact bk_X12_qGoesOn_247 (zero 3 (by decide) _ ⟨fun y => absurd rfl y, fun _ => zero 4 (by decide) _ ⟨fun y => absurd rfl y, fun _ => zero 1 (by decide) _ ⟨fun y => absurd rfl y, fun _ => zero 2 (by decide) _ ⟨fun _ => fin, fun y => absurd rfl y⟩⟩⟩⟩)
    | cons u U ih =>
      intro C1 M1 hU h1 k1 hl1 hA
      have k1 : qsk M1 C1 (u :: (U ++ (W ++ W0))) r W0.length := k1
      have hu := hU u List.mem_cons_self
      rw [List.length_cons] at hl1
      have dr : am_g 12 5 co_X12_qGoesOn (d + 6) (qsKG (d + 6) Q v1) 279 [(2, 152), (0, k)] [] sh_T M1 := bk_X12_qGoesOn_279 (qsdrops k1 (fun M2 k2 f2 => ih (C1 ++ [u]) M2 (fun x hx => hU x (List.mem_cons_of_mem _ hx)) (qsx h1 f2).1 k2 (by rw [List.length_append, List.length_singleton]; omega) (by rw [List.append_assoc]; exact hA)))
      have is : ∀ v, ∀ f : Int → am_M → Prop, f (am_b (u = v)) M1 → am_cal pg (d + 6) 279 [(2, 152), (0, v)] sh_T M1 (am_c0 sh_T f) := fun v f hf => qsisOn k1 (fun z => by cases z) (fun w V hV => by
        have e1 : u = w := by cases hV; rfl
        rw [← e1]; exact hf)
      refine bk_X12_qGoesOn_247 (is 3 _ ⟨fun _ => dr, fun y3 => is 4 _ ⟨fun _ => dr, fun y4 => is 1 _ ⟨fun _ => dr, fun y1 => is 2 _ ⟨fun y2 => ?_, fun _ => dr⟩⟩⟩⟩)
      have := am_b_z.mp y1
      have := am_b_z.mp y2
      have := am_b_z.mp y3
      have := am_b_z.mp y4
      omega
  have g221 : ∀ M1, rx_ M0 M1 (rd_at (M0 153) (M0 152 3) (p + 1)) en → M1 152 2 = p + 1 → qsk M1 C (U ++ W ++ W0) r W0.length → am_g 12 5 co_X12_qGoesOn (d + 6) (qsKG (d + 6) Q v1) 225 [(2, 152), (3, 0)] [] sh_T M1 := fun M1 h1 hp1 k1 => by
    rw [List.append_assoc] at k1
    have et : M1 153 (M1 152 2 - 1) = rc (M0 153) (M0 152 3) p := by
      rw [(rp_t h1.1).1, hp1, show p + 1 - 1 = p by omega]; exact htp
    have g := loop U C M1 hU h1 k1 (by rw [List.length_append]; omega) hA
    refine bk_X12_qGoesOn_225 ⟨⟨by omega, by omega⟩, ⟨by omega, by omega⟩, ?_⟩
    rw [et]
    refine ⟨fun y => ?_, fun y => ?_⟩
    · rw [show k = 2 by omega] at g; exact g
    · rw [show k = 1 by omega] at g; exact g
  have g118 : ∀ M1, rx_ M0 M1 p en → qsk M1 C (U ++ W ++ W0) r W0.length → am_g 12 5 co_X12_qGoesOn (d + 6) (qsKG (d + 6) Q v1) 122 [(2, 152), (3, 0)] [] sh_T M1 := fun M1 h1 k1 =>
    bk_X12_qGoesOn_122 (rt_sign (by decide) h1 (fun y => by omega) (fun _ M2 h2 hp2 t2 => ⟨fun y => absurd rfl y, fun _ => rt_sign (by decide) h2 (fun y => by omega) (fun _ M3 h3 hp3 t3 => ⟨fun _ => rt_sign (by decide) h3 (fun _ M4 h4 hp4 t4 => ⟨fun _ => g221 M4 h4 hp4 (qsk_tf t4 (qsk_tf t3 (qsk_tf t2 k1))), fun y => absurd y (by decide)⟩) (fun _ M4 h4 hp4 t4 => ⟨fun y => absurd rfl y, fun _ => rt_sign (by decide) h4 (fun _ M5 h5 hp5 t5 => ⟨fun y => absurd y (by decide), fun _ => g221 M5 h5 hp5 (qsk_tf t5 (qsk_tf t4 (qsk_tf t3 (qsk_tf t2 k1))))⟩) (fun y => by omega)⟩), fun y => absurd rfl y⟩)⟩))
  exact bk_X12_qGoesOn_0 ⟨fun y => absurd hx.2.2.2.2.1 y, fun _ => rt_look hx (fun M1 h1 hp1 t1 => ⟨fun _ => g118 M1 h1 (qsk_tf t1 hs), fun y => by omega⟩)⟩
/-- no sign comes again: what is open last decides -/
theorem qsg118 (n1 : ¬ rc (M0 153) (M0 152 3) p = 42) (n2 : ¬ rc (M0 153) (M0 152 3) p = 47) (n3 : ¬ rc (M0 153) (M0 152 3) p = 43) (n4 : ¬ rc (M0 153) (M0 152 3) p = 45) (hx : rx_ M0 M p en) (hs : qsk M C (W ++ W0) r W0.length) {K : am_Q} (h1 : lm_ W = 21 ∨ lm_ W = 22 → ∀ M1, rx_ M0 M1 p en → qsk M1 C (W ++ W0) r W0.length → am_g 12 5 co_X12_qGoesOn (d + 6) K 326 [(2, 152), (3, 0)] [] sh_T M1) (h2 : lm_ W = -1 → ∀ M1, rx_ M0 M1 p en → qsk M1 C (W ++ W0) r W0.length → K (some (0, 0), sh_T, M1)) (h3 : ¬ (lm_ W = 21 ∨ lm_ W = 22) → ¬ lm_ W = -1 → ∀ M1, ru_ M0 M1 1 p → K (some (0, 0), sh_T, M1)) : am_g 12 5 co_X12_qGoesOn (d + 6) K 122 [(2, 152), (3, 0)] [] sh_T M := by
  refine bk_X12_qGoesOn_122 (rt_sign (by decide) hx (fun y => absurd y n1) (fun _ M2 h2' hp2 t2 => ⟨fun y => absurd rfl y, fun _ => rt_sign (by decide) h2' (fun y => absurd y n2) (fun _ M3 h3' hp3 t3 => ⟨fun _ => rt_sign (by decide) h3' (fun y => absurd y n3) (fun _ M4 h4' hp4 t4 => ⟨fun y => absurd rfl y, fun _ => rt_sign (by decide) h4' (fun y => absurd y n4) (fun _ M5 h5' hp5 t5 => ⟨fun _ => ?_, fun y => absurd rfl y⟩)⟩), fun y => absurd rfl y⟩)⟩))
  have k5 := qsk_tf t5 (qsk_tf t4 (qsk_tf t3 (qsk_tf t2 hs)))
  refine qslast k5 ⟨fun y => h1 (Or.inl y) M5 h5' k5, fun y => qslast k5 ⟨fun y2 => qslast k5 ⟨fun y3 => bk_X12_qGoesOn_386 (h2 y3 M5 h5' k5), fun y3 => ⟨fun y4 => absurd h5'.2.2.2.2.1 y4, fun _ => sp_fail (bk_X12_qGoesOn_386 (h3 (by omega) y3 _ ?_))⟩⟩, fun y2 => h1 (Or.inr y2) M5 h5' k5⟩⟩
  rw [hp5]
  exact rx_bl h5' (by decide)
theorem qsR7 {U : List Int} {m : Int} (hU : op_ U) (hm : m = 21 ∨ m = 22) (n1 : ¬ rc (M0 153) (M0 152 3) p = 42) (n2 : ¬ rc (M0 153) (M0 152 3) p = 47) (n3 : ¬ rc (M0 153) (M0 152 3) p = 43) (n4 : ¬ rc (M0 153) (M0 152 3) p = 45) (hA : rc (M0 153) (M0 152 3) p = 44 → qsA M0 W0 Q d v1 (rd_at (M0 153) (M0 152 3) (p + 1)) en (C ++ U) ((m + 2) :: W) r) (hF : ¬ rc (M0 153) (M0 152 3) p = 44 → qsF M0 Q v1 1 p) : qsB M0 W0 Q d v1 p en C (U ++ m :: W) r := by
  intro ho M hx hs hl
  obtain ⟨i1, i2, i3, i4, -⟩ := rx_in hx
  have ho1 : qso ((m + 2) :: W) := qso_c (by omega) (qso_tl (qso_ap ho))
  have eL : lm_ (U ++ m :: W) = m := by rw [lm_op U _ hU, lm_m (by omega)]
  rw [List.length_append, List.length_append, List.length_cons] at hl
  have g322 : ∀ M1, rx_ M0 M1 p en → qsk M1 C (U ++ m :: W ++ W0) r W0.length → am_g 12 5 co_X12_qGoesOn (d + 6) (qsKG (d + 6) Q v1) 326 [(2, 152), (3, 0)] [] sh_T M1 := fun M1 h1 k1 => by
    refine bk_X12_qGoesOn_326 (rt_asksSign (by decide) h1 (fun y M2 h2 t2 => ⟨fun _ => ?_, fun y2 => absurd h2.2.2.2.2.1 y2⟩) (fun y M2 h2 => ⟨fun y2 => absurd y2 (ru_b h2), fun _ => qsfg (hF y) h2⟩))
    have hlt := (rc_lt y (by decide)).1
    have hr := rd_at_le (t := M0 153) (e := M0 152 3) (i := p + 1) (by omega)
    have k2 : qsk M2 C (U ++ m :: (W ++ W0)) r W0.length := by
      have := qsk_tf t2 k1
      rw [List.append_assoc] at this
      exact this
    refine en_X12_qDropsToBracket (qstoMark (by omega) U C _ hU k2 (fun M3 k3 f3 => ?_))
    obtain ⟨e1, e2⟩ := qshd k3
    obtain ⟨⟨a1, a2⟩, ⟨a3, a4⟩, ⟨a5, a6⟩, a7, a8⟩ := k3
    have a8' := a8
    rw [List.length_append, List.length_cons, List.length_append] at a8'
    rw [List.length_append] at e2
    rw [e1]
    obtain ⟨h3, hp3⟩ := qsx h2 f3
    have f4 : qsf M3 (am_up M3 212 (M3 152 85 - 1) (m + 2)) := fun x j y1 y2 y3 => am_up_el (by omega)
    have h4 := (qsx h3 f4).1
    have eo : on_ ((m + 2) :: (W ++ W0)) = on_ (m :: (W ++ W0)) := by
      show (if m + 2 = 12 ∨ 20 ≤ m + 2 then 1 else 0) + on_ (W ++ W0) = (if m = 12 ∨ 20 ≤ m then 1 else 0) + on_ (W ++ W0)
      rw [if_pos (by omega), if_pos (by omega)]
    refine ⟨⟨by omega, by omega⟩, ⟨by omega, by omega⟩, ⟨by omega, by omega⟩, am_c0_i ⟨fun y => absurd y (by decide), fun _ => bk_X12_qSums_15 ⟨fun y => absurd y (by decide), fun _ => ⟨fun y => absurd h4.2.2.2.2.1 y, fun _ => en_X12_qPartTold (bk_X12_qPartTold_0 (hA y ho1 _ h4 ⟨⟨?_, fun i hi => ?_⟩, ⟨?_, fun i hi => ?_⟩, ⟨?_, by show r + on_ ((m + 2) :: (W ++ W0)) ≤ 6; omega⟩, ?_, ?_⟩ ?_))⟩⟩⟩⟩
    · rw [am_up_el (by omega)]; exact a1
    · rw [am_up_el (by omega)]; exact a2 i hi
    · rw [am_up_el (by omega)]; exact a3
    · have hi : i < (m :: (W ++ W0)).length := hi
      have r4 := a4 i hi
      show am_up _ 212 _ _ 212 ((((m + 2) :: (W ++ W0)).length : Int) - 1 - i) = ((m + 2) :: (W ++ W0)).getD i 0
      rw [List.length_cons] at hi r4 a3 ⊢
      cases i with
      | zero =>
        rw [show ((((W ++ W0).length + 1 : Nat) : Int) - 1 - ((0 : Nat) : Int)) = M3 152 85 - 1 by omega, am_up_at]
        rfl
      | succ i =>
        rw [am_up_el (by omega)]
        exact r4
    · rw [am_up_el (by omega)]; exact a5
    · rw [am_up_el (by omega)]; exact a7
    · exact a8
    · show (((C ++ U).length + ((m + 2) :: (W ++ W0)).length : Nat) : Int) < _
      rw [List.length_append, List.length_cons, List.length_append]; omega
  have g118 : ∀ M1, rx_ M0 M1 p en → qsk M1 C (U ++ m :: W ++ W0) r W0.length → am_g 12 5 co_X12_qGoesOn (d + 6) (qsKG (d + 6) Q v1) 122 [(2, 152), (3, 0)] [] sh_T M1 := fun M1 h1 k1 =>
    qsg118 n1 n2 n3 n4 h1 k1 (fun _ M2 h2 k2 => g322 M2 h2 k2) (fun y => by rw [eL] at y; omega) (fun y => by rw [eL] at y; omega)
  refine bk_X12_qGoesOn_0 ⟨fun y => absurd hx.2.2.2.2.1 y, fun _ => rt_look hx (fun M1 h1 hp1 t1 => ⟨fun _ => g118 M1 h1 (qsk_tf t1 hs), fun _ => ?_⟩)⟩
  have k1 := qsk_tf t1 hs
  refine qslast k1 ⟨fun y => by rw [eL] at y; omega, fun _ => qslast k1 ⟨fun y => by rw [eL] at y; omega, fun _ => qslast k1 ⟨fun _ => g118 M1 h1 k1, fun y => by rw [eL] at y; omega⟩⟩⟩
theorem qsR8 {U : List Int} {m : Int} (hU : op_ U) (hm : m = 20 ∨ m = 23 ∨ m = 24) (n1 : ¬ rc (M0 153) (M0 152 3) p = 42) (n2 : ¬ rc (M0 153) (M0 152 3) p = 47) (n3 : ¬ rc (M0 153) (M0 152 3) p = 43) (n4 : ¬ rc (M0 153) (M0 152 3) p = 45) (n5 : ¬ rc (M0 153) (M0 152 3) p = 41) (hF : qsF M0 Q v1 1 p) : qsB M0 W0 Q d v1 p en C (U ++ m :: W) r := by
  intro ho M hx hs hl
  have eL : lm_ (U ++ m :: W) = m := by rw [lm_op U _ hU, lm_m (by omega)]
  exact bk_X12_qGoesOn_0 ⟨fun y => absurd hx.2.2.2.2.1 y, fun _ => rt_look hx (fun M1 h1 hp1 t1 => ⟨fun _ => qsg118 n1 n2 n3 n4 h1 (qsk_tf t1 hs) (fun y => by rw [eL] at y; omega) (fun y => by rw [eL] at y; omega) (fun _ _ M2 h2 => qsfg hF h2), fun y => absurd y n5⟩)⟩
/-- the sum has ended -/
theorem qsE {U : List Int} (hU : op_ U) (n1 : ¬ rc (M0 153) (M0 152 3) p = 42) (n2 : ¬ rc (M0 153) (M0 152 3) p = 47) (n3 : ¬ rc (M0 153) (M0 152 3) p = 43) (n4 : ¬ rc (M0 153) (M0 152 3) p = 45) (hQ : ∀ M', rx_ M0 M' p en → qsk M' (C ++ U) W0 r W0.length → Q (none, sh_T, am_up M' 152 87 v1)) : qsB M0 W0 Q d v1 p en C (U ++ []) r := by
  intro ho M hx hs hl
  have eL : lm_ (U ++ []) = -1 := lm_op U [] hU
  have loop : ∀ (V C1 : List Int) (M1 : am_M), rx_ M0 M1 p en → qsk M1 C1 (V ++ W0) r W0.length → C ++ U = C1 ++ V → am_g 12 9 co_X12_qSums (d + 7) Q 53 [(2, 152), (0, v1), (3, 0)] [] sh_T M1 := by
    intro V
    induction V with
    | nil =>
      intro C1 M1 h1 k1 e
      have k1 : qsk M1 C1 W0 r W0.length := k1
      rw [List.append_nil] at e
      rw [e] at hQ
      have a3 := k1.2.1.1
      have a7 := k1.2.2.2.1
      exact bk_X12_qSums_53 ⟨fun y => absurd h1.2.2.2.2.1 y, fun _ => ⟨fun _ => hQ M1 h1 k1, fun y => by omega⟩⟩
    | cons v V ih =>
      intro C1 M1 h1 k1 e
      have k1 : qsk M1 C1 (v :: (V ++ W0)) r W0.length := k1
      have a3 := k1.2.1.1
      have a7 := k1.2.2.2.1
      rw [List.length_cons, List.length_append] at a3
      exact bk_X12_qSums_53 ⟨fun y => absurd h1.2.2.2.2.1 y, fun _ => ⟨fun y => by omega, fun _ => qsdrops k1 (fun M2 k2 f2 => ih (C1 ++ [v]) M2 (qsx h1 f2).1 k2 (by rw [e, List.append_assoc]; rfl))⟩⟩
  have fin : ∀ M1, rx_ M0 M1 p en → qsk M1 C (U ++ [] ++ W0) r W0.length → qsKG (d + 6) Q v1 (some (0, 0), sh_T, M1) := fun M1 h1 k1 => by
    rw [List.append_nil] at k1
    exact am_c0_i ⟨fun _ => bk_X12_qSums_15 ⟨fun _ => loop U C M1 h1 k1 rfl, fun y => absurd rfl y⟩, fun y => absurd rfl y⟩
  have g118 : ∀ M1, rx_ M0 M1 p en → qsk M1 C (U ++ [] ++ W0) r W0.length → am_g 12 5 co_X12_qGoesOn (d + 6) (qsKG (d + 6) Q v1) 122 [(2, 152), (3, 0)] [] sh_T M1 := fun M1 h1 k1 =>
    qsg118 n1 n2 n3 n4 h1 k1 (fun y => by rw [eL] at y; omega) (fun _ M2 h2 k2 => fin M2 h2 k2) (fun y y2 => absurd eL y2)
  refine bk_X12_qGoesOn_0 ⟨fun y => absurd hx.2.2.2.2.1 y, fun _ => rt_look hx (fun M1 h1 hp1 t1 => ⟨fun _ => g118 M1 h1 (qsk_tf t1 hs), fun _ => ?_⟩)⟩
  have k1 := qsk_tf t1 hs
  refine qslast k1 ⟨fun y => by rw [eL] at y; omega, fun _ => qslast k1 ⟨fun y => by rw [eL] at y; omega, fun _ => qslast k1 ⟨fun _ => g118 M1 h1 k1, fun y => by rw [eL] at y; omega⟩⟩⟩
/-- a code is written behind a fault, too -/
theorem qscodef {f : am_M → Prop} {c k z : Int} (h : ru_ M0 M k z) (hn : 0 ≤ M 152 83 ∧ M 152 83 < 1600) (hf : ∀ M', ru_ M0 M' k z → f M') : am_cal pg (d + 1) 277 [(2, 152), (0, c)] sh_T M (am_cv sh_T f) := by
  have e3 := (rp_t h.1).2
  have g0 := h.2.1.2.1
  have g1 := h.2.1.2.2
  have key : f (am_up (am_up M 211 (M 152 83) c) 152 83 (M 152 83 + 1)) := by
    refine hf _ (ru_fr h (fun x j a b c d f => ?_) ?_)
    · rw [am_up_el (by omega), am_up_el (by omega)]
    · rw [am_up_el (by omega), am_up_el (by omega)]; omega
  exact en_X12_qCode (bk_X12_qCode_0 ⟨⟨by omega, by omega⟩, ⟨by omega, by omega⟩, am_cv_i key⟩)
theorem rd_wd_c {t : Int → Int} {e en p : Int} (h : 0 < rd_wd t e en p) : 97 ≤ rc t e p ∧ rc t e p ≤ 122 := by
  unfold rd_wd at h
  by_cases c : p = en
  · rw [if_pos c] at h; omega
  · rw [if_neg c] at h
    obtain ⟨g1, g2, g3, g4⟩ := rd_les_spec (t := t) (e := e) p
    have hlt : p < e := by rcases g2 with g2 | g2 <;> omega
    have := is_le_iff.mp (g3 p (Int.le_refl _) (by omega))
    unfold rc
    rw [if_pos hlt]
    exact this
/-- the number of a question's word -/
def qi_ (c : Int) : Int := if c = 60 then 5 else if 40 ≤ c ∧ c ≤ 44 then c - 40 else -1
theorem qt_here {f : Int → am_M → Prop} (hw : rw_all M0) (hx : rx_ M0 M p en) (hf : ∀ M', rx_ M0 M' p en → M' 152 2 = p → tf_ M M' → f (qi_ (pr_wc (M0 153) (M0 152 3) en p (ts_ true))) M') : am_cal pg (d + 3) 284 [(2, 152)] sh_T M (am_c0 sh_T f) := by
  have is : ∀ {w : List Int} {cw : Int}, (w, cw) ∈ ts_ true → (rd_is (M0 153) (M0 152 3) en p w = true ↔ pr_wc (M0 153) (M0 152 3) en p (ts_ true) = cw) := fun hm => pr_wc_is (ts_u true) hm
  have hin := pr_wc_in (q := true) (t := M0 153) (e := M0 152 3) (en := en) (p := p)
  unfold qi_ at hf
  refine en_X12_qWordHere (bk_X12_qWordHere_0 (rt_here hw (w := w_room) (by decide) hx (fun M1 h1 p1 t1 => ⟨fun y1 => rt_here hw (w := w_dread) (by decide) h1 (fun M2 h2 p2 t2 => ⟨fun y2 => rt_here hw (w := w_worst) (by decide) h2 (fun M3 h3 p3 t3 => ⟨fun y3 => rt_here hw (w := w_sum) (by decide) h3 (fun M4 h4 p4 t4 => ⟨fun y4 => rt_here hw (w := w_many) (by decide) h4 (fun M5 h5 p5 t5 => ⟨fun y5 => rt_here hw (w := w_weigh) (by decide) h5 (fun M6 h6 p6 t6 => ⟨fun y6 => am_c0_i ?_, fun y6 => am_c0_i ?_⟩), fun y5 => am_c0_i ?_⟩), fun y4 => am_c0_i ?_⟩), fun y3 => am_c0_i ?_⟩), fun y2 => am_c0_i ?_⟩), fun y1 => am_c0_i ?_⟩)))
  · have r := hf M6 h6 p6 (tf_tr t1 (tf_tr t2 (tf_tr t3 (tf_tr t4 (tf_tr t5 t6)))))
    have y1 := am_b_z.mp y1
    have y2 := am_b_z.mp y2
    have y3 := am_b_z.mp y3
    have y4 := am_b_z.mp y4
    have y5 := am_b_z.mp y5
    have y6 := am_b_z.mp y6
    rw [is (cw := 40) (by decide)] at y1
    rw [is (cw := 41) (by decide)] at y2
    rw [is (cw := 42) (by decide)] at y3
    rw [is (cw := 43) (by decide)] at y4
    rw [is (cw := 44) (by decide)] at y5
    rw [is (cw := 60) (by decide)] at y6
    rw [if_neg y6, if_neg (by omega)] at r
    exact r
  · have r := hf M6 h6 p6 (tf_tr t1 (tf_tr t2 (tf_tr t3 (tf_tr t4 (tf_tr t5 t6)))))
    have y6 := (is (cw := 60) (by decide)).mp (am_b_nz y6)
    rw [if_pos y6] at r
    exact r
  · have r := hf M5 h5 p5 (tf_tr t1 (tf_tr t2 (tf_tr t3 (tf_tr t4 t5))))
    have y := (is (cw := 44) (by decide)).mp (am_b_nz y5)
    rw [y] at r
    exact r
  · have r := hf M4 h4 p4 (tf_tr t1 (tf_tr t2 (tf_tr t3 t4)))
    have y := (is (cw := 43) (by decide)).mp (am_b_nz y4)
    rw [y] at r
    exact r
  · have r := hf M3 h3 p3 (tf_tr t1 (tf_tr t2 t3))
    have y := (is (cw := 42) (by decide)).mp (am_b_nz y3)
    rw [y] at r
    exact r
  · have r := hf M2 h2 p2 (tf_tr t1 t2)
    have y := (is (cw := 41) (by decide)).mp (am_b_nz y2)
    rw [y] at r
    exact r
  · have r := hf M1 h1 p1 t1
    have y := (is (cw := 40) (by decide)).mp (am_b_nz y1)
    rw [y] at r
    exact r
theorem qt_of {f : Int → am_M → Prop} {a b : Int} (hw : rw_all M0) (hx : rx_ M0 M p en) (hf : ∀ M', rx_ M0 M' p en → M' 152 2 = p → tf_ M M' → f (if a ≤ qi_ (pr_wc (M0 153) (M0 152 3) en p (ts_ true)) ∧ qi_ (pr_wc (M0 153) (M0 152 3) en p (ts_ true)) < b then qi_ (pr_wc (M0 153) (M0 152 3) en p (ts_ true)) else -1) M') : am_cal pg (d + 4) 285 [(2, 152), (0, a), (0, b)] sh_T M (am_c0 sh_T f) := by
  refine en_X12_qWordOf (bk_X12_qWordOf_0 (qt_here hw hx (fun M1 h1 p1 t1 => ?_)))
  have r := hf M1 h1 p1 t1
  refine ⟨fun y => am_c0_i ?_, fun y => ⟨fun y2 => am_c0_i ?_, fun y2 => am_c0_i ?_⟩⟩
  · rw [if_neg (by omega)] at r; exact r
  · rw [if_neg (by omega)] at r; exact r
  · rw [if_pos ⟨y, y2⟩] at r; exact r
theorem qt_asks {f : am_M → Prop} (hw : rw_all M0) (hx : rx_ M0 M p en) (hc : pr_wc (M0 153) (M0 152 3) en p (ts_ true) = 60 ∨ 40 ≤ pr_wc (M0 153) (M0 152 3) en p (ts_ true) ∧ pr_wc (M0 153) (M0 152 3) en p (ts_ true) ≤ 44) (hf : ∀ M', rx_ M0 M' (rd_at (M0 153) (M0 152 3) (p + rd_wd (M0 153) (M0 152 3) en p)) (p + rd_wd (M0 153) (M0 152 3) en p) → tf_ M M' → f M') : am_cal pg (d + 5) 286 [(2, 152), (0, qi_ (pr_wc (M0 153) (M0 152 3) en p (ts_ true)))] sh_T M (am_cv sh_T f) := by
  have is : ∀ {w : List Int} {cw : Int}, (w, cw) ∈ ts_ true → (rd_is (M0 153) (M0 152 3) en p w = true ↔ pr_wc (M0 153) (M0 152 3) en p (ts_ true) = cw) := fun hm => pr_wc_is (ts_u true) hm
  have go : ∀ {a : Int} {w : List Int} {cw : Int}, (a, w) ∈ rws → (w, cw) ∈ ts_ true → pr_wc (M0 153) (M0 152 3) en p (ts_ true) = cw → am_cal pg (d + 4) 178 [(2, 152), (2, a)] sh_T M (am_cv sh_T fun M1 => am_cv sh_T f (none, sh_T, M1)) := fun hm ht hy => rt_asks hw hm hx (fun _ M1 h1 t1 => am_cv_i (hf M1 h1 t1)) (fun y => absurd ((is ht).mpr hy) y)
  have e : qi_ (pr_wc (M0 153) (M0 152 3) en p (ts_ true)) = if pr_wc (M0 153) (M0 152 3) en p (ts_ true) = 60 then 5 else if 40 ≤ pr_wc (M0 153) (M0 152 3) en p (ts_ true) ∧ pr_wc (M0 153) (M0 152 3) en p (ts_ true) ≤ 44 then pr_wc (M0 153) (M0 152 3) en p (ts_ true) - 40 else -1 := rfl
  rw [e]
  by_cases c : pr_wc (M0 153) (M0 152 3) en p (ts_ true) = 60
  · rw [if_pos c]
    exact en_X12_qAsksWord (bk_X12_qAsksWord_0 ⟨fun _ => go (w := w_weigh) (by decide) (by decide) c, fun y => absurd y (by decide), fun y => absurd y (by decide), fun y => absurd y (by decide), fun y => absurd y (by decide), fun y => absurd y (by decide)⟩)
  · rw [if_neg c, if_pos (by omega)]
    exact en_X12_qAsksWord (bk_X12_qAsksWord_0 ⟨fun y => by omega, fun y => go (w := w_room) (cw := 40) (by decide) (by decide) (by omega), fun y => go (w := w_dread) (cw := 41) (by decide) (by decide) (by omega), fun y => go (w := w_worst) (cw := 42) (by decide) (by decide) (by omega), fun y => go (w := w_sum) (cw := 43) (by decide) (by decide) (by omega), fun y => go (w := w_many) (cw := 44) (by decide) (by decide) (by omega)⟩)
theorem qt_asks_bad {f : am_M → Prop} {x : Int} (hb : ¬ M 152 5 = 0) (hf : f M) : am_cal pg (d + 2) 286 [(2, 152), (0, x)] sh_T M (am_cv sh_T f) :=
  en_X12_qAsksWord (bk_X12_qAsksWord_0 ⟨fun _ => sp_asks_bad hb (am_cv_i hf), fun _ => sp_asks_bad hb (am_cv_i hf), fun _ => sp_asks_bad hb (am_cv_i hf), fun _ => sp_asks_bad hb (am_cv_i hf), fun _ => sp_asks_bad hb (am_cv_i hf), fun _ => sp_asks_bad hb (am_cv_i hf)⟩)
theorem qsnum (hF : ∀ k x, pr_num (M0 153) (M0 152 3) 9999 p en = .error (k, x) → qsF M0 Q v1 k x) (hB : ∀ p1 en1 v, pr_num (M0 153) (M0 152 3) 9999 p en = .ok (p1, en1, v) → pm_B (qsB M0 W0 Q d v1) p1 en1 (C ++ [1000 + v]) W r) (ho : qso W) (hx : rx_ M0 M p en) (hs : qsk M C (W ++ W0) r W0.length) (hl : ((C.length + (W ++ W0).length : Nat) : Int) < p) : am_g 12 9 co_X12_qPartTold (d + 6) (qsKP (d + 6) Q v1) 209 [(2, 152), (3, 0), (0, -1), (3, 0), (3, 0), (3, 0)] [] sh_T M := by
  obtain ⟨i1, i2, i3, i4, -⟩ := rx_in hx
  have hn := pr_num_g (t := M0 153) (e := M0 152 3) (g := 9999) (en := en) i1 i2
  rw [List.length_append] at hl
  refine bk_X12_qPartTold_209 ⟨fun _ => rt_num (by decide) hx (fun k z hy x M8 x0 x1 h8 t8 => ⟨⟨by omega, by omega⟩, ?_⟩) (fun p1 en1 w hy M8 h8 t8 => ?_), fun y => absurd rfl y⟩
  · refine qscodef h8 ?_ (fun M9 h9 => en_X12_qEndsPart (bk_X12_qEndsPart_0 ⟨fun _ => am_cv_i (qsfq (hF k z hy) h9), fun y => absurd y (ru_b h9)⟩))
    rw [t8 152 83 (by omega)]
    have := hs.1.1
    omega
  · have hv := pr_num_v hy
    rw [hy] at hn
    obtain ⟨g1, g2, g3, g4, g5⟩ := hn
    have k8 := qsk_tf t8 hs
    refine ⟨⟨by omega, by omega⟩, qscode k8 (by rw [List.length_append]; omega) (fun M9 k9 f9 => qsendp (hB p1 en1 w hy) ho (qsx h8 f9).1 k9 ?_)⟩
    rw [List.length_append, List.length_singleton, List.length_append]; omega
theorem qsR1 (hw : rw_all M0) (c1 : is_di (rc (M0 153) (M0 152 3) p) = true) (hF : ∀ k x, pr_num (M0 153) (M0 152 3) 9999 p en = .error (k, x) → qsF M0 Q v1 k x) (hB : ∀ p1 en1 v, pr_num (M0 153) (M0 152 3) 9999 p en = .ok (p1, en1, v) → pm_B (qsB M0 W0 Q d v1) p1 en1 (C ++ [1000 + v]) W r) : qsA M0 W0 Q d v1 p en C W r := by
  intro ho M hx hs hl
  have hd := is_di_iff.mp c1
  have nw : ∀ {w : List Int}, ¬ rd_is (M0 153) (M0 152 3) en p w = true := fun y => by have := rd_is_le y; omega
  have z0 : pr_wc (M0 153) (M0 152 3) en p (ts_ true) = 0 := Classical.byContradiction fun z => by
    have := rd_wd_c (pr_wc_0 (ts_ true) z)
    omega
  have eq : qi_ (pr_wc (M0 153) (M0 152 3) en p (ts_ true)) = -1 := by rw [z0]; rfl
  have g184 : ∀ M1, rx_ M0 M1 p en → qsk M1 C (W ++ W0) r W0.length → am_g 12 9 co_X12_qPartTold (d + 6) (qsKP (d + 6) Q v1) 184 [(2, 152), (3, 0), (3, 0), (3, 0), (3, 0), (3, 0)] [] sh_T M1 := fun M1 h1 k1 => by
    refine bk_X12_qPartTold_184 ⟨fun _ => qt_of hw h1 (fun M2 h2 hp2 t2 => ?_), fun y => absurd h1.2.2.2.2.1 y⟩
    rw [eq, if_neg (by decide)]
    exact ⟨fun _ => qsnum hF hB ho h2 (qsk_tf t2 k1) hl, fun y => absurd rfl y⟩
  refine bk_X12_qPartTold_2 ⟨fun y => absurd y (by decide), fun _ => ⟨fun y => absurd hx.2.2.2.2.1 y, fun _ => rt_look hx (fun M1 h1 hp1 t1 => qt_of hw h1 (fun M2 h2 hp2 t2 => ?_))⟩⟩
  rw [eq, if_neg (by decide)]
  exact ⟨fun _ => rt_here hw (w := w_min) (by decide) h2 (fun M3 h3 hp3 t3 => ⟨fun y => absurd (am_b_nz y) nw, fun _ => rt_here hw (w := w_max) (by decide) h3 (fun M4 h4 hp4 t4 => ⟨fun _ => ⟨fun _ => bk_X12_qPartTold_181 (bk_X12_qPartTold_2 ⟨fun _ => g184 M4 h4 (qsk_tf t4 (qsk_tf t3 (qsk_tf t2 (qsk_tf t1 hs)))), fun y => absurd rfl y⟩), fun y => absurd rfl y⟩, fun y => absurd (am_b_nz y) nw⟩)⟩), fun y => by omega⟩
theorem qsR2 (hw : rw_all M0) (c1 : rc (M0 153) (M0 152 3) p = 40) (hF : r = 0 → qsF M0 Q v1 4 p) (hA : ∀ r', r = r' + 1 → qsA M0 W0 Q d v1 (rd_at (M0 153) (M0 152 3) (p + 1)) en C (20 :: W) r') : qsA M0 W0 Q d v1 p en C W r := by
  intro ho M hx hs hl
  obtain ⟨i1, i2, i3, i4, -⟩ := rx_in hx
  have hlt := (rc_lt c1 (by decide)).1
  have hr := rd_at_le (t := M0 153) (e := M0 152 3) (i := p + 1) (by omega)
  refine bk_X12_qPartTold_2 ⟨fun y => absurd y (by decide), fun _ => ⟨fun y => absurd hx.2.2.2.2.1 y, fun _ => rt_look hx (fun M1' h1' hp1' t1' => qt_of hw h1' (fun M1 h1 hp1 t1 => ⟨fun y => absurd c1 y, fun _ => ?_⟩))⟩⟩
  have k1 := qsk_tf t1 (qsk_tf t1' hs)
  rw [hp1]
  refine qsopens h1.2.2.2.2.1 k1 (by omega) (Or.inr (by decide)) (fun hr0 => ?_) (fun r' hr' M2 k2 f2 => ?_)
  · have u1 := rx_bl h1 (k := 4) (z := p) (by decide)
    have e2 : rf_bl M1 4 p 152 2 = p := by rw [rf_bl_0 h1.2.2.2.2.1, am_up_el (by omega), am_up_el (by omega)]; exact hp1
    rw [e2]
    exact ⟨⟨by omega, by omega⟩, bk_X12_qPartTold_181 (qsfp (hF hr0) (ru_fr u1 (fun x j a b c d f => am_up_el (by omega)) (by rw [am_up_at]; omega)))⟩
  · obtain ⟨h2, hp2⟩ := qsx h1 f2
    rw [hp1] at hp2
    rw [hp2]
    have t3 : tf_ M2 (am_up M2 152 2 (p + 1)) := fun x j y => am_up_el (by omega)
    have h3 : rx_ M0 (am_up M2 152 2 (p + 1)) (rd_at (M0 153) (M0 152 3) (p + 1)) en := rx_at h2 am_up_at ((am_up_el (by omega)).trans h2.2.2.2.1) (by omega) t3
    refine ⟨⟨by omega, by omega⟩, bk_X12_qPartTold_181 (hA r' hr' (qso_c (by decide) ho) _ h3 (qsk_tf t3 k2) ?_)⟩
    show ((C.length + (20 :: (W ++ W0)).length : Nat) : Int) < _
    rw [List.length_cons]; omega
theorem qsR3 (hw : rw_all M0) (c1 : ¬ is_di (rc (M0 153) (M0 152 3) p) = true) (c2 : ¬ rc (M0 153) (M0 152 3) p = 40) (hF0 : pr_wc (M0 153) (M0 152 3) en p (ts_ true) = 0 → qsF M0 Q v1 1 p)
    (hF4 : pr_wc (M0 153) (M0 152 3) en p (ts_ true) = 5 ∨ pr_wc (M0 153) (M0 152 3) en p (ts_ true) = 6 → rc (M0 153) (M0 152 3) (rd_at (M0 153) (M0 152 3) (p + rd_wd (M0 153) (M0 152 3) en p)) = 40 → r = 0 → qsF M0 Q v1 4 (rd_at (M0 153) (M0 152 3) (p + rd_wd (M0 153) (M0 152 3) en p)))
    (hA : pr_wc (M0 153) (M0 152 3) en p (ts_ true) = 5 ∨ pr_wc (M0 153) (M0 152 3) en p (ts_ true) = 6 → rc (M0 153) (M0 152 3) (rd_at (M0 153) (M0 152 3) (p + rd_wd (M0 153) (M0 152 3) en p)) = 40 → ∀ r', r = r' + 1 → qsA M0 W0 Q d v1 (rd_at (M0 153) (M0 152 3) (rd_at (M0 153) (M0 152 3) (p + rd_wd (M0 153) (M0 152 3) en p) + 1)) (p + rd_wd (M0 153) (M0 152 3) en p) C ((16 + pr_wc (M0 153) (M0 152 3) en p (ts_ true)) :: W) r')
    (hF1 : pr_wc (M0 153) (M0 152 3) en p (ts_ true) = 5 ∨ pr_wc (M0 153) (M0 152 3) en p (ts_ true) = 6 → ¬ rc (M0 153) (M0 152 3) (rd_at (M0 153) (M0 152 3) (p + rd_wd (M0 153) (M0 152 3) en p)) = 40 → qsF M0 Q v1 1 (rd_at (M0 153) (M0 152 3) (p + rd_wd (M0 153) (M0 152 3) en p)))
    (hF6 : pr_wc (M0 153) (M0 152 3) en p (ts_ true) = 60 → r = 0 → qsF M0 Q v1 4 p)
    (hA6 : pr_wc (M0 153) (M0 152 3) en p (ts_ true) = 60 → ∀ r', r = r' + 1 → qsA M0 W0 Q d v1 (rd_at (M0 153) (M0 152 3) (p + rd_wd (M0 153) (M0 152 3) en p)) (p + rd_wd (M0 153) (M0 152 3) en p) C (60 :: W) r')
    (hB : ¬ pr_wc (M0 153) (M0 152 3) en p (ts_ true) = 0 → ¬ (pr_wc (M0 153) (M0 152 3) en p (ts_ true) = 5 ∨ pr_wc (M0 153) (M0 152 3) en p (ts_ true) = 6) → ¬ pr_wc (M0 153) (M0 152 3) en p (ts_ true) = 60 → pm_B (qsB M0 W0 Q d v1) (rd_at (M0 153) (M0 152 3) (p + rd_wd (M0 153) (M0 152 3) en p)) (p + rd_wd (M0 153) (M0 152 3) en p) (C ++ [pr_wc (M0 153) (M0 152 3) en p (ts_ true)]) W r) : qsA M0 W0 Q d v1 p en C W r := by
  intro ho M hx hs hl
  obtain ⟨i1, i2, i3, i4, -⟩ := rx_in hx
  have hwd := rd_wd_le (t := M0 153) (en := en) i2
  have hwr := rd_at_le (t := M0 153) (e := M0 152 3) (i := p + rd_wd (M0 153) (M0 152 3) en p) hwd.2
  have hin := pr_wc_in (q := true) (t := M0 153) (e := M0 152 3) (en := en) (p := p)
  have hc0 := pr_wc_0 (t := M0 153) (e := M0 152 3) (en := en) (p := p) (ts_ true)
  have is : ∀ {w : List Int} {cw : Int}, (w, cw) ∈ ts_ true → (rd_is (M0 153) (M0 152 3) en p w = true ↔ pr_wc (M0 153) (M0 152 3) en p (ts_ true) = cw) := fun hm => pr_wc_is (ts_u true) hm
  have eqi : qi_ (pr_wc (M0 153) (M0 152 3) en p (ts_ true)) = if pr_wc (M0 153) (M0 152 3) en p (ts_ true) = 60 then 5 else if 40 ≤ pr_wc (M0 153) (M0 152 3) en p (ts_ true) ∧ pr_wc (M0 153) (M0 152 3) en p (ts_ true) ≤ 44 then pr_wc (M0 153) (M0 152 3) en p (ts_ true) - 40 else -1 := rfl
  rw [List.length_append] at hl
  have g184 : ¬ (pr_wc (M0 153) (M0 152 3) en p (ts_ true) = 5 ∨ pr_wc (M0 153) (M0 152 3) en p (ts_ true) = 6) → ¬ pr_wc (M0 153) (M0 152 3) en p (ts_ true) = 60 → ∀ M1, rx_ M0 M1 p en → qsk M1 C (W ++ W0) r W0.length → am_g 12 9 co_X12_qPartTold (d + 6) (qsKP (d + 6) Q v1) 184 [(2, 152), (3, 0), (3, 0), (3, 0), (3, 0), (3, 0)] [] sh_T M1 := fun n56 n60 M1 h1 k1 => by
    refine bk_X12_qPartTold_184 ⟨fun _ => qt_of hw h1 (fun M2 h2 hp2 t2 => ?_), fun y => absurd h1.2.2.2.2.1 y⟩
    have k2 := qsk_tf t2 k1
    by_cases c : 40 ≤ pr_wc (M0 153) (M0 152 3) en p (ts_ true) ∧ pr_wc (M0 153) (M0 152 3) en p (ts_ true) ≤ 44
    · rw [if_neg n60, if_pos c] at eqi
      have hpos := hc0 (by omega)
      have as := qt_asks (d := d + 1) (f := fun M4 => am_g 12 9 co_X12_qPartTold (d + 6) (qsKP (d + 6) Q v1) 209 [(2, 152), (3, 0), (0, qi_ (pr_wc (M0 153) (M0 152 3) en p (ts_ true))), (3, 0), (3, 0), (3, 0)] [] sh_T M4) hw h2 (Or.inr c) (fun M4 h4 t4 => by
        rw [eqi]
        refine bk_X12_qPartTold_209 ⟨fun y => by omega, fun _ => ⟨⟨by omega, by omega⟩, ?_⟩⟩
        rw [show 40 + (pr_wc (M0 153) (M0 152 3) en p (ts_ true) - 40) = pr_wc (M0 153) (M0 152 3) en p (ts_ true) by omega]
        refine qscode (qsk_tf t4 k2) (by rw [List.length_append]; omega) (fun M5 k5 f5 => qsendp (hB (by omega) n56 n60) ho (qsx h4 f5).1 k5 ?_)
        rw [List.length_append, List.length_singleton, List.length_append]; omega)
      rw [if_pos ⟨by omega, by omega⟩]
      exact ⟨fun y => by omega, fun _ => as⟩
    · rw [if_neg n60, if_neg c] at eqi
      have z0 : pr_wc (M0 153) (M0 152 3) en p (ts_ true) = 0 := by
        rcases hin with z | z | z | z | z
        · exact z
        · exact absurd (Or.inl z) n56
        · exact absurd (Or.inr z) n56
        · exact absurd z.1 (by decide)
        · rcases z.2 with z2 | z2
          · exact absurd z2 n60
          · exact absurd z2 c
      rw [eqi, if_neg (by decide)]
      have en0 : pr_num (M0 153) (M0 152 3) 9999 p en = .error (1, p) := if_neg (fun y => c1 y.1)
      exact ⟨fun _ => qsnum (fun k x hy => by rw [en0] at hy; cases hy; exact hF0 z0) (fun p1 en1 v hy => by rw [en0] at hy; cases hy) ho h2 k2 (by rw [List.length_append]; omega), fun y => absurd rfl y⟩
  have g143f : ∀ (M1 : am_M) (k z : Int), qsF M0 Q v1 k z → ru_ M0 M1 k z → am_g 12 9 co_X12_qPartTold (d + 6) (qsKP (d + 6) Q v1) 143 [(2, 152), (0, 1), (3, 0), (3, 0), (3, 0), (3, 0)] [] sh_T M1 := fun M1 k z hF h1 => bk_X12_qPartTold_143 (sp_asksSign_bad (ru_b h1) (bk_X12_qPartTold_181 (qsfp hF h1)))
  have g100 : ∀ (v4 : Int), (pr_wc (M0 153) (M0 152 3) en p (ts_ true) = 5 ∧ ¬ v4 = 0 ∨ pr_wc (M0 153) (M0 152 3) en p (ts_ true) = 6 ∧ v4 = 0) → ∀ M1, rx_ M0 M1 (rd_at (M0 153) (M0 152 3) (p + rd_wd (M0 153) (M0 152 3) en p)) (p + rd_wd (M0 153) (M0 152 3) en p) → qsk M1 C (W ++ W0) r W0.length → am_g 12 9 co_X12_qPartTold (d + 6) (qsKP (d + 6) Q v1) 100 [(2, 152), (0, 1), (3, 0), (3, 0), (0, v4), (3, 0)] [] sh_T M1 := fun v4 hv M1 h1 k1 => by
    have h56 : pr_wc (M0 153) (M0 152 3) en p (ts_ true) = 5 ∨ pr_wc (M0 153) (M0 152 3) en p (ts_ true) = 6 := hv.elim (fun y => Or.inl y.1) (fun y => Or.inr y.1)
    have hpos := hc0 (by omega)
    generalize rd_at (M0 153) (M0 152 3) (p + rd_wd (M0 153) (M0 152 3) en p) = p2 at h1 hwr hF4 hA hF1 ⊢
    have two : ∀ w : Int, w = 16 + pr_wc (M0 153) (M0 152 3) en p (ts_ true) → rc (M0 153) (M0 152 3) p2 = 40 → ∀ M2, rx_ M0 M2 p2 (p + rd_wd (M0 153) (M0 152 3) en p) → M2 152 2 = p2 → qsk M2 C (W ++ W0) r W0.length → am_cal pg (d + 6) 278 [(2, 152), (0, w), (0, M2 152 2)] sh_T M2 (am_cv sh_T fun M5 => am_g 12 9 co_X12_qPartTold (d + 6) (qsKP (d + 6) Q v1) 143 [(2, 152), (0, 1), (3, 0), (3, 0), (3, 0), (3, 0)] [] sh_T M5) := fun w hw y M2 h2 hp2 k2 => by
      have hlt := (rc_lt y (by decide)).1
      have hr := rd_at_le (t := M0 153) (e := M0 152 3) (i := p2 + 1) (by omega)
      rw [hp2]
      refine qsopens h2.2.2.2.2.1 k2 (by rw [List.length_append]; omega) (Or.inr (by omega)) (fun hr0 => g143f _ _ _ (hF4 h56 y hr0) (rx_bl h2 (by decide))) (fun r' hr' M3 k3 f3 => ?_)
      have h3 := (qsx h2 f3).1
      rw [hw] at k3
      refine bk_X12_qPartTold_143 (rt_asksSign (by decide) h3 (fun _ M4 h4 t4 => bk_X12_qPartTold_181 (hA h56 y r' hr' (qso_c (by omega) ho) M4 h4 (qsk_tf t4 k3) ?_)) (fun y2 => absurd y y2))
      show ((C.length + ((16 + pr_wc (M0 153) (M0 152 3) en p (ts_ true)) :: (W ++ W0)).length : Nat) : Int) < _
      rw [List.length_cons, List.length_append]; omega
    refine bk_X12_qPartTold_100 (rt_look h1 (fun M2 h2 hp2 t2 => ⟨fun y => ?_, fun y => ⟨fun y2 => by omega, fun _ => ⟨fun y3 => two 22 (by omega) y M2 h2 hp2 (qsk_tf t2 k1), fun y3 => two 21 (by omega) y M2 h2 hp2 (qsk_tf t2 k1)⟩⟩⟩))
    exact bk_X12_qPartTold_143 (rt_asksSign (by decide) h2 (fun y2 => absurd y2 y) (fun _ M3 h3 => bk_X12_qPartTold_181 (qsfp (hF1 h56 y) h3)))
  have g77 : (pr_wc (M0 153) (M0 152 3) en p (ts_ true) = 5 ∨ pr_wc (M0 153) (M0 152 3) en p (ts_ true) = 6) → ∀ M1, rx_ M0 M1 p en → qsk M1 C (W ++ W0) r W0.length → am_g 12 9 co_X12_qPartTold (d + 6) (qsKP (d + 6) Q v1) 77 [(2, 152), (0, 1), (3, 0), (3, 0), (3, 0), (3, 0)] [] sh_T M1 := fun h56 M1 h1 k1 => by
    refine bk_X12_qPartTold_77 (rt_takes hw (w := w_min) (by decide) h1 (fun y M2 h2 t2 => ⟨fun _ => g100 1 (Or.inl ⟨(is (by decide)).mp y, by decide⟩) M2 h2 (qsk_tf t2 k1), fun z => absurd z (by decide)⟩) (fun y M2 h2 hp2 t2 => ⟨fun z => absurd rfl z, fun _ => ?_⟩))
    rw [is (cw := 5) (by decide)] at y
    have z6 : pr_wc (M0 153) (M0 152 3) en p (ts_ true) = 6 := h56.elim (fun z => absurd z y) id
    exact rt_asks hw (w := w_max) (by decide) h2 (fun _ M3 h3 t3 => g100 0 (Or.inr ⟨z6, rfl⟩) M3 h3 (qsk_tf t3 (qsk_tf t2 k1))) (fun y2 => absurd ((is (by decide)).mpr z6) y2)
  refine bk_X12_qPartTold_2 ⟨fun y => absurd y (by decide), fun _ => ⟨fun y => absurd hx.2.2.2.2.1 y, fun _ => rt_look hx (fun M0' h0' hp0' t0' => qt_of hw h0' (fun M1 h1 hp1 t1 => ⟨fun _ => rt_here hw (w := w_min) (by decide) h1 (fun M2 h2 hp2 t2 => ⟨fun y => ?_, fun y => rt_here hw (w := w_max) (by decide) h2 (fun M3 h3 hp3 t3 => ⟨fun y2 => ?_, fun y2 => ?_⟩)⟩), fun y => absurd y c2⟩))⟩⟩
  · exact g77 (Or.inl ((is (by decide)).mp (am_b_nz y))) M2 h2 (qsk_tf t2 (qsk_tf t1 (qsk_tf t0' hs)))
  · have n5 := am_b_z.mp y
    have n6 := am_b_z.mp y2
    rw [is (cw := 5) (by decide)] at n5
    rw [is (cw := 6) (by decide)] at n6
    have k3 := qsk_tf t3 (qsk_tf t2 (qsk_tf t1 (qsk_tf t0' hs)))
    by_cases c : pr_wc (M0 153) (M0 152 3) en p (ts_ true) = 60
    · have as : ∀ (N : am_M), rx_ M0 N p en → ∀ F : am_M → Prop, (∀ M', rx_ M0 M' (rd_at (M0 153) (M0 152 3) (p + rd_wd (M0 153) (M0 152 3) en p)) (p + rd_wd (M0 153) (M0 152 3) en p) → tf_ N M' → F M') → am_cal pg (d + 6) 286 [(2, 152), (0, 5)] sh_T N (am_cv sh_T F) := fun N hN F hF => by
        have r := qt_asks (d := d + 1) (f := F) hw hN (Or.inl c) hF
        rw [eqi, if_pos c] at r
        exact r
      have hpos := hc0 (by omega)
      rw [if_pos c] at eqi
      rw [eqi, if_pos (by decide), hp3]
      refine ⟨fun z => absurd z (by decide), fun _ => ⟨⟨by decide, by decide⟩, ⟨by decide, by decide⟩, ?_⟩⟩
      have op : am_cal pg (d + 6) 278 [(2, 152), (0, 60), (0, p)] sh_T M3 (am_cv sh_T fun M13 => am_cal pg (d + 6) 286 [(2, 152), (0, 5)] sh_T M13 (am_cv sh_T fun M14 => am_g 12 9 co_X12_qPartTold (d + 6) (qsKP (d + 6) Q v1) 181 [(2, 152), (0, 1), (3, 0), (3, 0), (3, 0), (3, 0)] [] sh_T M14)) := by
        refine qsopens h3.2.2.2.2.1 k3 (by rw [List.length_append]; omega) (Or.inr (by decide)) (fun hr0 => ?_) (fun r' hr' M4 k4 f4 => ?_)
        · have u := rx_bl h3 (k := 4) (z := p) (by decide)
          exact qt_asks_bad (ru_b u) (bk_X12_qPartTold_181 (qsfp (hF6 c hr0) u))
        · refine as M4 (qsx h3 f4).1 _ (fun M5 h5 t5 => bk_X12_qPartTold_181 (hA6 c r' hr' trivial M5 h5 (qsk_tf t5 k4) ?_))
          show ((C.length + (60 :: (W ++ W0)).length : Nat) : Int) < _
          rw [List.length_cons, List.length_append]; omega
      exact op
    · have em : (if (5 : Int) ≤ qi_ (pr_wc (M0 153) (M0 152 3) en p (ts_ true)) ∧ qi_ (pr_wc (M0 153) (M0 152 3) en p (ts_ true)) < 6 then qi_ (pr_wc (M0 153) (M0 152 3) en p (ts_ true)) else -1) = -1 := by
        rw [if_neg c] at eqi
        by_cases c4 : 40 ≤ pr_wc (M0 153) (M0 152 3) en p (ts_ true) ∧ pr_wc (M0 153) (M0 152 3) en p (ts_ true) ≤ 44
        · rw [if_pos c4] at eqi
          rw [if_neg (by omega)]
        · rw [if_neg c4] at eqi
          rw [if_neg (by omega)]
      rw [em]
      exact ⟨fun _ => bk_X12_qPartTold_181 (bk_X12_qPartTold_2 ⟨fun _ => g184 (fun z => z.elim n5 n6) c M3 h3 k3, fun z => absurd rfl z⟩), fun z => absurd rfl z⟩
  · exact g77 (Or.inr ((is (by decide)).mp (am_b_nz y2))) M3 h3 (qsk_tf t3 (qsk_tf t2 (qsk_tf t1 (qsk_tf t0' hs))))
theorem qsrules (hw : rw_all M0) (hW0 : hd_ (fun w => ¬ (1 ≤ w ∧ w ≤ 4)) W0) : pm_R true (M0 153) (M0 152 3) (qsA M0 W0 Q d v1) (qsB M0 W0 Q d v1) (qsF M0 Q v1) :=
  ⟨fun _ _ _ _ _ h1 h2 h3 => qsR1 hw h1 h2 h3, fun _ _ _ _ _ h1 h2 h3 => qsR2 hw h1 h2 h3, fun _ _ _ _ _ h1 h2 h3 h4 h5 h6 h7 h8 h9 => qsR3 hw h1 h2 h3 h4 h5 h6 h7 h8 h9, fun _ _ _ _ _ _ _ h1 h2 h3 h4 => qsR4 h1 h2 h3 h4, fun _ _ _ _ _ _ _ h1 h2 h3 h4 => qsR5 hW0 h1 h2 h3 h4, fun _ _ _ _ _ _ _ h1 h2 h3 h4 => qsR6 hW0 h1 h2 h3 h4, fun _ _ _ _ _ _ _ h1 h2 h3 h4 h5 h6 h7 h8 => qsR7 h1 h2 h3 h4 h5 h6 h7 h8, fun _ _ _ _ _ _ _ h1 h2 h3 h4 h5 h6 h7 h8 => qsR8 h1 h2 h3 h4 h5 h6 h7 h8⟩
end SM
theorem qssums {M0 M : am_M} {d : Nat} {f : am_M → Prop} {C W0 : List Int} {r : Nat} {b p en : Int} (hw : rw_all M0) (hW0 : hd_ (fun w => ¬ (1 ≤ w ∧ w ≤ 4)) W0) (hx : rx_ M0 M p en) (hs : qsk M C W0 r b) (hl : ((C.length + W0.length : Nat) : Int) < p) (h1 : ∀ k z, pz_sum (M0 153) (M0 152 3) (pz_part true (M0 153) (M0 152 3) r) p en = .error (k, z) → ∀ M', ru_ M0 M' k z → f M') (h2 : ∀ p1 en1 ds, pz_sum (M0 153) (M0 152 3) (pz_part true (M0 153) (M0 152 3) r) p en = .ok (p1, en1, ds) → ∀ M', rx_ M0 M' p1 en1 → qsk M' (C ++ ds) W0 r b → f M') : am_cal pg (d + 8) 290 [(2, 152)] sh_T M (am_cv sh_T f) := by
  obtain ⟨i1, i2, i3, i4, -⟩ := rx_in hx
  have a3 := hs.2.1.1
  have a7 := hs.2.2.2.1
  have t1 : ∀ x j, ¬ (x = 152 ∧ j = 87) → am_up M 152 87 (M 152 85) x j = M x j := fun x j y => am_up_el y
  have hx1 : rx_ M0 (am_up M 152 87 (M 152 85)) p en := by
    obtain ⟨g1, g2, g3, g4, g5⟩ := hx
    refine ⟨rp_tr g1 (fun x j a b c d f => t1 x j (by omega)), ⟨?_, ?_, ?_⟩, ?_, ?_, ?_⟩
    · rw [t1 152 3 (by omega)]; exact g2.1
    · rw [t1 152 2 (by omega)]; exact g2.2.1
    · rw [t1 152 2 (by omega), t1 152 3 (by omega)]; exact g2.2.2
    · show rd_at ((am_up M 152 87 (M 152 85)) 153) ((am_up M 152 87 (M 152 85)) 152 3) ((am_up M 152 87 (M 152 85)) 152 2) = p
      rw [t1 152 3 (by omega), t1 152 2 (by omega), show (am_up M 152 87 (M 152 85)) 153 = M 153 from funext fun j => t1 153 j (by omega)]
      exact g3
    · rw [t1 152 4 (by omega)]; exact g4
    · rw [t1 152 5 (by omega)]; exact g5
  have move : ∀ (N : am_M) (C' : List Int) (x b' : Int), qsk N C' W0 r b' → qsk (am_up N 152 87 x) C' W0 r x := fun N C' x b' hN => by
    obtain ⟨⟨a1, a2⟩, ⟨a3, a4⟩, ⟨a5, a6⟩, a7, a8⟩ := hN
    exact ⟨⟨(am_up_el (by omega)).trans a1, fun i hi => (am_up_el (by omega)).trans (a2 i hi)⟩, ⟨(am_up_el (by omega)).trans a3, fun i hi => (am_up_el (by omega)).trans (a4 i hi)⟩, ⟨(am_up_el (by omega)).trans a5, a6⟩, am_up_at, a8⟩
  have k1 : qsk (am_up M 152 87 (M 152 85)) C ([] ++ W0) r W0.length := by
    have := move M C (M 152 85) b hs
    rw [a3] at this ⊢
    exact this
  have R := qsrules (Q := am_cv sh_T f) (d := d) (v1 := M 152 87) hw hW0
  have hA := pm_sum R i4 (pz_part_g r) (pm_part R i4 r) (cs := C) (W := []) trivial (p := p) (en := en) i1 i2 i3 (by
    refine (?_ : pm_S _ _ _ _ _ _ _ _)
    generalize hg : pz_sum (M0 153) (M0 152 3) _ p en = x at h1 h2
    match x, h1, h2 with
    | .error (k, z), h1, _ =>
      intro N hN
      have g0 := hN.2.1.2.1
      have g1 := hN.2.1.2.2
      have e3 := (rp_t hN.1).2
      exact am_cv_i (h1 k z rfl _ (ru_fr hN (fun x j a b c d f => am_up_el (by omega)) (by rw [am_up_el (by omega)]; omega)))
    | .ok (p1, en1, ds), _, h2 =>
      intro ds1 U hd hU n1 n2 n3 n4
      refine qsE hU n1 n2 n3 n4 (fun N hN kN => am_cv_i (h2 p1 en1 ds rfl _ ?_ ?_))
      · obtain ⟨g1, g2, g3, g4, g5⟩ := hN
        have t2 : ∀ x j, ¬ (x = 152 ∧ j = 87) → am_up N 152 87 (M 152 87) x j = N x j := fun x j y => am_up_el y
        refine ⟨rp_tr g1 (fun x j a b c d f => t2 x j (by omega)), ⟨?_, ?_, ?_⟩, ?_, ?_, ?_⟩
        · rw [t2 152 3 (by omega)]; exact g2.1
        · rw [t2 152 2 (by omega)]; exact g2.2.1
        · rw [t2 152 2 (by omega), t2 152 3 (by omega)]; exact g2.2.2
        · show rd_at ((am_up N 152 87 (M 152 87)) 153) ((am_up N 152 87 (M 152 87)) 152 3) ((am_up N 152 87 (M 152 87)) 152 2) = p1
          rw [t2 152 3 (by omega), t2 152 2 (by omega), show (am_up N 152 87 (M 152 87)) 153 = N 153 from funext fun j => t2 153 j (by omega)]
          exact g3
        · rw [t2 152 4 (by omega)]; exact g4
        · rw [t2 152 5 (by omega)]; exact g5
      · have := move N _ (M 152 87) _ kN
        rw [a7, show C ++ ds1 ++ U = C ++ ds by rw [hd, List.append_assoc]] at this
        rw [a7]
        exact this)
  refine en_X12_qSums (bk_X12_qSums_0 (bk_X12_qSums_15 ⟨fun y => absurd y (by decide), fun _ => ⟨fun y => absurd hx1.2.2.2.2.1 y, fun _ => en_X12_qPartTold (bk_X12_qPartTold_0 (hA ?_ _ hx1 k1 ?_))⟩⟩))
  · exact trivial
  · show ((C.length + W0.length : Nat) : Int) < p
    exact hl
