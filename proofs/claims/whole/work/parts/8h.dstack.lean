/-! THE REFERENCE'S MACHINE WITH A STACK, against the rules (printed by wip/whole/stackm.py) -/
def wsk (M : am_M) (C W : List Int) (r : Nat) (b : Int) : Prop := (M 152 40 = C.length ∧ ∀ i : Nat, i < C.length → M 182 i = C.getD i 0) ∧ (M 152 42 = W.length ∧ ∀ i : Nat, i < W.length → M 183 ((W.length : Int) - 1 - i) = W.getD i 0) ∧ (M 152 43 = 6 - (r : Int) ∧ r + on_ W ≤ 6) ∧ M 152 44 = b ∧ C.length + W.length ≤ 1600
def wsf (M M' : am_M) : Prop := ∀ x j, ¬ (x = 182 ∧ 0 ≤ j ∧ j < 1600) → ¬ x = 183 → ¬ (x = 152 ∧ (j = 40 ∨ j = 42 ∨ j = 43)) → M' x j = M x j
theorem wsf_tr {M M1 M2 : am_M} (h : wsf M M1) (k : wsf M1 M2) : wsf M M2 := fun x j a b c => (k x j a b c).trans (h x j a b c)
section ST
variable {M0 M M' : am_M} {p en : Int} {C W W0 : List Int} {r : Nat} {b : Int}
theorem wsk_tf (h : tf_ M M') (hs : wsk M C W r b) : wsk M' C W r b := by
  obtain ⟨⟨a1, a2⟩, ⟨a3, a4⟩, ⟨a5, a6⟩, a7, a8⟩ := hs
  refine ⟨⟨?_, fun i hi => ?_⟩, ⟨?_, fun i hi => ?_⟩, ⟨?_, a6⟩, ?_, a8⟩
  · rw [h 152 40 (by omega)]; exact a1
  · rw [h 182 i (by omega)]; exact a2 i hi
  · rw [h 152 42 (by omega)]; exact a3
  · rw [h 183 _ (by omega)]; exact a4 i hi
  · rw [h 152 43 (by omega)]; exact a5
  · rw [h 152 44 (by omega)]; exact a7
theorem wsx (hx : rx_ M0 M p en) (h : wsf M M') : rx_ M0 M' p en ∧ M' 152 2 = M 152 2 := by
  obtain ⟨g1, g2, g3, g4, g5⟩ := hx
  have f1 : rp_fr M0 M' := rp_tr g1 (fun x j a b c d f => h x j (by omega) (by omega) (by omega))
  obtain ⟨e1, e2⟩ := rp_t g1
  obtain ⟨e3, e4⟩ := rp_t f1
  have e5 : M' 152 2 = M 152 2 := h 152 2 (by omega) (by omega) (by omega)
  refine ⟨⟨f1, ⟨?_, ?_, ?_⟩, ?_, ?_, ?_⟩, e5⟩
  · rw [e4, ← e2]; exact g2.1
  · rw [e5]; exact g2.2.1
  · rw [e5, e4, ← e2]; exact g2.2.2
  · show rd_at (M' 153) (M' 152 3) (M' 152 2) = p
    rw [e3, e4, e5, ← e1, ← e2]
    exact g3
  · rw [h 152 4 (by omega) (by omega) (by omega)]; exact g4
  · rw [h 152 5 (by omega) (by omega) (by omega), h 152 6 (by omega) (by omega) (by omega)]; exact g5
theorem wscode {d : Nat} {f : am_M → Prop} {c : Int} (hs : wsk M C W r b) (hl : C.length + W.length < 1600) (hf : ∀ M', wsk M' (C ++ [c]) W r b → wsf M M' → f M') : am_cal pg (d + 1) 196 [(2, 152), (0, c)] sh_T M (am_cv sh_T f) := by
  obtain ⟨⟨a1, a2⟩, ⟨a3, a4⟩, ⟨a5, a6⟩, a7, a8⟩ := hs
  have key : f (am_up (am_up M 182 (M 152 40) c) 152 40 (M 152 40 + 1)) := by
    refine hf _ ⟨⟨?_, fun i hi => ?_⟩, ⟨?_, fun i hi => ?_⟩, ⟨?_, a6⟩, ?_, ?_⟩ (fun x j y1 y2 y3 => ?_)
    · rw [am_up_at, List.length_append, List.length_singleton]; omega
    · rw [List.length_append, List.length_singleton] at hi
      rw [am_up_el (by omega)]
      by_cases y : i = C.length
      · rw [gd_r y, show (i : Int) = M 152 40 by omega, am_up_at]
      · rw [gd_l (by omega), am_up_el (by omega)]
        exact a2 i (by omega)
    · rw [am_up_el (by omega), am_up_el (by omega)]; exact a3
    · rw [am_up_el (by omega), am_up_el (by omega)]; exact a4 i hi
    · rw [am_up_el (by omega), am_up_el (by omega)]; exact a5
    · rw [am_up_el (by omega), am_up_el (by omega)]; exact a7
    · rw [List.length_append, List.length_singleton]; omega
    · rw [am_up_el (by omega), am_up_el (by omega)]
  refine en_X12_code (bk_X12_code_0 ⟨⟨by omega, by omega⟩, ⟨by omega, by omega⟩, ⟨by omega, by omega⟩, am_cv_i ?_⟩)
  rw [Int.zero_add]
  exact key
theorem wsopens {d : Nat} {f : am_M → Prop} {w z : Int} (hb : M 152 5 = 0) (hs : wsk M C W r b) (hl : C.length + W.length < 1600) (hw : w = 12 ∨ 20 ≤ w) (h0 : r = 0 → f (rf_bl M 4 z)) (h1 : ∀ r', r = r' + 1 → ∀ M', wsk M' C (w :: W) r' b → wsf M M' → f M') : am_cal pg (d + 2) 197 [(2, 152), (0, w), (0, z)] sh_T M (am_cv sh_T f) := by
  obtain ⟨⟨a1, a2⟩, ⟨a3, a4⟩, ⟨a5, a6⟩, a7, a8⟩ := hs
  have key : ∀ r', r = r' + 1 → f (am_up (am_up (am_up M 152 43 (M 152 43 + 1)) 183 (M 152 42) w) 152 42 (M 152 42 + 1)) := fun r' hr => by
    have eo : on_ (w :: W) = 1 + on_ W := by
      show (if w = 12 ∨ 20 ≤ w then 1 else 0) + on_ W = _
      rw [if_pos hw]
    refine h1 r' hr _ ⟨⟨?_, fun i hi => ?_⟩, ⟨?_, fun i hi => ?_⟩, ⟨?_, by omega⟩, ?_, ?_⟩ (fun x j y1 y2 y3 => ?_)
    · rw [am_up_el (by omega), am_up_el (by omega), am_up_el (by omega)]; exact a1
    · rw [am_up_el (by omega), am_up_el (by omega), am_up_el (by omega)]; exact a2 i hi
    · rw [am_up_at, List.length_cons]; omega
    · rw [List.length_cons] at hi ⊢
      rw [am_up_el (by omega)]
      cases i with
      | zero =>
        rw [show (((W.length + 1 : Nat) : Int) - 1 - ((0 : Nat) : Int)) = M 152 42 by omega, am_up_at]
        rfl
      | succ i =>
        rw [am_up_el (by omega), am_up_el (by omega), show (((W.length + 1 : Nat) : Int) - 1 - ((i + 1 : Nat) : Int)) = (W.length : Int) - 1 - i by omega]
        exact a4 i (by omega)
    · rw [am_up_el (by omega), am_up_el (by omega), am_up_at]; omega
    · rw [am_up_el (by omega), am_up_el (by omega), am_up_el (by omega)]; exact a7
    · rw [List.length_cons]; omega
    · rw [am_up_el (by omega), am_up_el (by omega), am_up_el (by omega)]
  exact en_X12_opens (bk_X12_opens_0 ⟨fun y => ⟨⟨by omega, by omega⟩, ⟨by omega, by omega⟩, ⟨by omega, by omega⟩, am_cv_i (key (r - 1) (by omega))⟩, fun y => sp_fail (am_cv_i (h0 (by omega)))⟩)
theorem wshd {w : Int} (hs : wsk M C (w :: W) r b) : M 183 (M 152 42 - 1) = w ∧ M 152 42 = (W.length : Int) + 1 := by
  obtain ⟨-, ⟨a3, a4⟩, -, -, -⟩ := hs
  rw [List.length_cons] at a3
  have h := a4 0 (by rw [List.length_cons]; omega)
  rw [List.length_cons] at h
  refine ⟨?_, by omega⟩
  rw [show M 152 42 - 1 = (((W.length + 1 : Nat) : Int) - 1 - ((0 : Nat) : Int)) by omega]
  exact h
theorem wsisOn {d : Nat} {f : Int → am_M → Prop} {v : Int} (hs : wsk M C W r b) (h0 : W = [] → f 0 M) (h1 : ∀ w W', W = w :: W' → f (am_b (w = v)) M) : am_cal pg (d + 1) 198 [(2, 152), (0, v)] sh_T M (am_c0 sh_T f) := by
  cases W with
  | nil =>
    have a3 := hs.2.1.1
    rw [List.length_nil] at a3
    exact en_X12_isOn (bk_X12_isOn_0 ⟨fun _ => am_c0_i (h0 rfl), fun y => by omega⟩)
  | cons w W =>
    obtain ⟨e1, e2⟩ := wshd hs
    have a8 := hs.2.2.2.2
    rw [List.length_cons] at a8
    have h := h1 w W rfl
    refine en_X12_isOn (bk_X12_isOn_0 ⟨fun y => by omega, fun _ => ⟨⟨by omega, by omega⟩, ⟨by omega, by omega⟩, ?_⟩⟩)
    rw [e1]
    refine ⟨fun y => am_c0_i ?_, fun y => am_c0_i ?_⟩
    · rw [am_b_0 y] at h; exact h
    · rw [am_b_1 y] at h; exact h
/-- one less waits, nothing else -/
theorem wsk_pop {w : Int} {r' : Nat} (hs : wsk M C (w :: W) r b) (hr : r' + on_ W ≤ 6) {N : am_M} (e1 : N 152 42 = M 152 42 - 1) (e2 : N 152 43 = 6 - (r' : Int)) (hf : ∀ x j, ¬ (x = 152 ∧ (j = 42 ∨ j = 43)) → N x j = M x j) : wsk N C W r' b := by
  obtain ⟨g1, g2⟩ := wshd hs
  obtain ⟨⟨a1, a2⟩, ⟨a3, a4⟩, ⟨a5, a6⟩, a7, a8⟩ := hs
  rw [List.length_cons] at a8
  refine ⟨⟨?_, fun i hi => ?_⟩, ⟨by omega, fun i hi => ?_⟩, ⟨e2, hr⟩, ?_, by omega⟩
  · rw [hf 152 40 (by omega)]; exact a1
  · rw [hf 182 i (by omega)]; exact a2 i hi
  · rw [hf 183 _ (by omega)]
    have h := a4 (i + 1) (by rw [List.length_cons]; omega)
    rw [List.length_cons, show (((W.length + 1 : Nat) : Int) - 1 - ((i + 1 : Nat) : Int)) = (W.length : Int) - 1 - i by omega] at h
    exact h
  · rw [hf 152 44 (by omega)]; exact a7
theorem wsdrops {d : Nat} {f : am_M → Prop} {w : Int} (hs : wsk M C (w :: W) r b) (hf : ∀ M', wsk M' (C ++ [w]) W r b → wsf M M' → f M') : am_cal pg (d + 2) 199 [(2, 152)] sh_T M (am_cv sh_T f) := by
  obtain ⟨e1, e2⟩ := wshd hs
  have a8 := hs.2.2.2.2
  rw [List.length_cons] at a8
  have k1 : wsk (am_up M 152 42 (M 152 42 - 1)) C W r b := wsk_pop hs (on_tl hs.2.2.1.2) am_up_at ((am_up_el (by omega)).trans hs.2.2.1.1) (fun x j y => am_up_el (by omega))
  refine en_X12_drops (bk_X12_drops_0 ⟨⟨by omega, by omega⟩, ⟨by omega, by omega⟩, ?_⟩)
  rw [e1]
  exact wscode k1 (by omega) (fun M' q1 q2 => am_cv_i (hf M' q1 (fun x j y1 y2 y3 => (q2 x j y1 y2 y3).trans (am_up_el (by omega)))))
theorem wsdropE {d : Nat} {f : am_M → Prop} {w : Int} (hw : w = 12 ∨ 20 ≤ w) (hs : wsk M C (w :: W) r b) (hf : ∀ M', wsk M' (C ++ [w]) W (r + 1) b → wsf M M' → f M') : am_cal pg (d + 2) 199 [(2, 152)] sh_T (am_up M 152 43 (M 152 43 - 1)) (am_cv sh_T f) := by
  obtain ⟨e1, e2⟩ := wshd hs
  have a8 := hs.2.2.2.2
  have a5 := hs.2.2.1.1
  have a6 := hs.2.2.1.2
  rw [List.length_cons] at a8
  have eo : on_ (w :: W) = 1 + on_ W := by
    show (if w = 12 ∨ 20 ≤ w then 1 else 0) + on_ W = _
    rw [if_pos hw]
  obtain ⟨N, eN⟩ : ∃ N, N = am_up M 152 43 (M 152 43 - 1) := ⟨_, rfl⟩
  rw [← eN]
  have u : ∀ x j, ¬ (x = 152 ∧ j = 43) → N x j = M x j := fun x j y => by rw [eN]; exact am_up_el y
  have u2 : N 152 43 = M 152 43 - 1 := by rw [eN]; exact am_up_at
  have k1 : wsk (am_up N 152 42 (N 152 42 - 1)) C W (r + 1) b := wsk_pop hs (by omega) (by rw [am_up_at, u _ _ (by omega)]) (by rw [am_up_el (by omega), u2]; omega) (fun x j y => (am_up_el (by omega)).trans (u x j (by omega)))
  have e3 : N 152 42 = M 152 42 := u _ _ (by omega)
  refine en_X12_drops (bk_X12_drops_0 ⟨⟨by omega, by omega⟩, ⟨by omega, by omega⟩, ?_⟩)
  rw [show N 183 (N 152 42 - 1) = w by rw [e3, u _ _ (by omega)]; exact e1]
  exact wscode k1 (by omega) (fun M' q1 q2 => am_cv_i (hf M' q1 (fun x j y1 y2 y3 => (q2 x j y1 y2 y3).trans ((am_up_el (by omega)).trans (u x j (by omega))))))
theorem wsmark {d : Nat} {f : Int → am_M → Prop} {w : Int} (h : f (am_b (20 ≤ w ∧ w ≤ 24)) M) : am_cal pg (d + 1) 200 [(2, 152), (0, w)] sh_T M (am_c0 sh_T f) := by
  refine en_X12_isMark (bk_X12_isMark_0 ⟨fun y => am_c0_i ?_, fun y => ⟨fun y2 => am_c0_i ?_, fun y2 => am_c0_i ?_⟩⟩)
  · rw [am_b_0 (by omega)] at h; exact h
  · rw [am_b_0 (by omega)] at h; exact h
  · rw [am_b_1 (by omega)] at h; exact h
theorem wslast {d : Nat} {f : Int → am_M → Prop} (hs : wsk M C (W ++ W0) r W0.length) (hf : f (lm_ W) M) : am_cal pg (d + 2) 201 [(2, 152)] sh_T M (am_c0 sh_T f) := by
  obtain ⟨-, ⟨a3, a4⟩, -, a7, a8⟩ := hs
  rw [List.length_append] at a3 a8
  have go : ∀ (V U : List Int), W = U ++ V → f (lm_ V) M → am_g 12 0 co_X12_waitsLast (d + 1) (am_c0 sh_T f) 7 [(2, 152), (0, (V.length : Int) + (W0.length : Int) - 1)] [] sh_T M := by
    intro V
    induction V with
    | nil =>
      intro U hW hf
      exact bk_X12_waitsLast_7 ⟨fun _ => am_c0_i hf, fun z => by rw [a7, List.length_nil] at z; omega⟩
    | cons w V ih =>
      intro U hW hf
      have el : W.length = U.length + V.length + 1 := by rw [hW, List.length_append, List.length_cons]; omega
      have hv : M 183 (((w :: V).length : Int) + (W0.length : Int) - 1) = w := by
        have h := a4 U.length (by rw [List.length_append]; omega)
        rw [List.length_append, show (((W.length + W0.length : Nat) : Int) - 1 - (U.length : Int)) = ((w :: V).length : Int) + (W0.length : Int) - 1 by rw [List.length_cons]; omega] at h
        rw [h, hW, List.append_assoc, List.cons_append]
        exact gd_m
      have hf : f (if 20 ≤ w ∧ w ≤ 24 then w else lm_ V) M := hf
      refine bk_X12_waitsLast_7 ⟨fun z => by rw [a7, List.length_cons] at z; omega, fun _ => ⟨⟨by rw [List.length_cons]; omega, by rw [List.length_cons]; omega⟩, ?_⟩⟩
      rw [hv]
      refine wsmark ⟨fun z => ⟨fun y => by rw [a7, List.length_cons] at y; omega, fun _ => am_c0_i ?_⟩, fun z => ⟨⟨by rw [List.length_cons]; omega, by rw [List.length_cons]; omega⟩, ?_⟩⟩
      · rw [hv]
        rw [if_pos (am_b_nz z)] at hf
        exact hf
      · rw [if_neg (am_b_z.mp z)] at hf
        have q := ih (U ++ [w]) (by rw [hW, List.append_assoc]; rfl) hf
        rw [show ((w :: V).length : Int) + (W0.length : Int) - 1 + (-1) = (V.length : Int) + (W0.length : Int) - 1 by rw [List.length_cons]; omega]
        exact q
  refine en_X12_waitsLast (bk_X12_waitsLast_0 ⟨⟨by omega, by omega⟩, ?_⟩)
  rw [show M 152 42 - 1 = (W.length : Int) + (W0.length : Int) - 1 by omega]
  exact go W [] rfl hf
theorem wstoMark {d : Nat} {f : am_M → Prop} {m : Int} (hm : 20 ≤ m ∧ m ≤ 24) : ∀ (U C : List Int) (M : am_M), op_ U → wsk M C (U ++ m :: (W ++ W0)) r W0.length → (∀ M', wsk M' (C ++ U) (m :: (W ++ W0)) r W0.length → wsf M M' → f M') → am_g 12 9 co_X12_dropsToMark (d + 2) (am_cv sh_T f) 0 [(2, 152)] [] sh_T M
  | [], C, M, _, hs, hf => by
    have hs : wsk M C (m :: (W ++ W0)) r W0.length := hs
    obtain ⟨e1, e2⟩ := wshd hs
    have a7 := hs.2.2.2.1
    have a8 := hs.2.2.2.2
    rw [List.length_cons] at a8
    rw [List.length_append] at a8 e2
    refine bk_X12_dropsToMark_0 ⟨fun z => by omega, fun _ => ⟨⟨by omega, by omega⟩, ⟨by omega, by omega⟩, ?_⟩⟩
    rw [e1]
    refine wsmark ⟨fun _ => am_cv_i (hf M ?_ (fun _ _ _ _ _ => rfl)), fun z => absurd hm (am_b_z.mp z)⟩
    rw [List.append_nil]
    exact hs
  | u :: U, C, M, hU, hs, hf => by
    have hs : wsk M C (u :: (U ++ m :: (W ++ W0))) r W0.length := hs
    obtain ⟨e1, e2⟩ := wshd hs
    have hu := hU u List.mem_cons_self
    have a7 := hs.2.2.2.1
    have a8 := hs.2.2.2.2
    rw [List.length_cons] at a8
    rw [List.length_append, List.length_cons, List.length_append] at a8 e2
    refine bk_X12_dropsToMark_0 ⟨fun z => by omega, fun _ => ⟨⟨by omega, by omega⟩, ⟨by omega, by omega⟩, ?_⟩⟩
    rw [e1]
    refine wsmark ⟨fun z => absurd (am_b_nz z) (by omega), fun _ => wsdrops hs (fun M1 k1 f1 => wstoMark hm U (C ++ [u]) M1 (fun x hx => hU x (List.mem_cons_of_mem _ hx)) k1 (fun M2 k2 f2 => hf M2 ?_ (wsf_tr f1 f2)))⟩
    rw [List.append_assoc] at k2
    exact k2
end ST
/-- where the sum's loop stands -/
abbrev wsG (d : Nat) (Q : am_Q) (v1 x : Int) (M : am_M) : Prop := am_g 12 9 co_X12_sumsTold (d + 1) Q 15 [(2, 152), (0, v1), (0, x)] [] sh_T M
abbrev wsKG (d : Nat) (Q : am_Q) (v1 : Int) : am_Q := am_c0 sh_T fun x5 M5 => ((x5 = 0 → wsG d Q v1 0 M5) ∧ (¬ x5 = 0 → wsG d Q v1 1 M5))
abbrev wsKP (d : Nat) (Q : am_Q) (v1 : Int) : am_Q := am_cv sh_T fun M3 => ((¬ M3 152 5 = 0 → wsG d Q v1 0 M3) ∧ (M3 152 5 = 0 → am_cal pg (d + 1) 204 [(2, 152)] sh_T M3 (wsKG d Q v1)))
def wso (W : List Int) : Prop := ∀ w ∈ W, w < 60
theorem wso_ap {U W : List Int} (h : wso (U ++ W)) : wso W := fun w hw => h w (List.mem_append_right _ hw)
theorem wso_tl {m : Int} {W : List Int} (h : wso (m :: W)) : wso W := fun w hw => h w (List.mem_cons_of_mem _ hw)
theorem wso_c {m : Int} {W : List Int} (hm : m < 60) (h : wso W) : wso (m :: W) := fun w hw => by
  rcases List.mem_cons.mp hw with rfl | hw
  · exact hm
  · exact h w hw
def wsA (M0 : am_M) (W0 : List Int) (Q : am_Q) (d : Nat) (v1 : Int) : pm_C := fun p en C W r => wso W → ∀ M, rx_ M0 M p en → wsk M C (W ++ W0) r W0.length → ((C.length + (W ++ W0).length : Nat) : Int) < p → am_g 12 9 co_X12_onePart (d + 6) (wsKP (d + 6) Q v1) 2 [(2, 152), (0, 1), (3, 0), (3, 0), (3, 0)] [] sh_T M
def wsB (M0 : am_M) (W0 : List Int) (Q : am_Q) (d : Nat) (v1 : Int) : pm_C := fun p en C W r => wso W → ∀ M, rx_ M0 M p en → wsk M C (W ++ W0) r W0.length → ((C.length + (W ++ W0).length : Nat) : Int) < p → am_g 12 5 co_X12_goesOn (d + 6) (wsKG (d + 6) Q v1) 0 [(2, 152), (3, 0)] [] sh_T M
def wsF (M0 : am_M) (Q : am_Q) (v1 : Int) : Int → Int → Prop := fun k z => ∀ M, ru_ M0 M k z → Q (none, sh_T, am_up M 152 44 v1)
section SM
variable {M0 M : am_M} {W0 : List Int} {Q : am_Q} {d : Nat} {v1 p en : Int} {C W : List Int} {r : Nat}
theorem wsfin {k z : Int} (hF : wsF M0 Q v1 k z) (h : ru_ M0 M k z) : wsG d Q v1 0 M :=
  bk_X12_sumsTold_15 ⟨fun _ => bk_X12_sumsTold_53 ⟨fun _ => hF M h, fun y => absurd y (ru_b h)⟩, fun y => absurd rfl y⟩
theorem wsfg {k z : Int} (hF : wsF M0 Q v1 k z) (h : ru_ M0 M k z) : wsKG d Q v1 (some (0, 0), sh_T, M) := am_c0_i ⟨fun _ => wsfin hF h, fun y => absurd rfl y⟩
theorem wsfq {k z : Int} (hF : wsF M0 Q v1 k z) (h : ru_ M0 M k z) : wsKP d Q v1 (none, sh_T, M) := am_cv_i ⟨fun _ => wsfin hF h, fun y => absurd y (ru_b h)⟩
theorem wsfp {k z x : Int} (hF : wsF M0 Q v1 k z) (h : ru_ M0 M k z) : am_g 12 9 co_X12_onePart d (wsKP d Q v1) 2 [(2, 152), (0, x), (3, 0), (3, 0), (3, 0)] [] sh_T M := by
  have e : am_g 12 9 co_X12_onePart d (wsKP d Q v1) 146 [(2, 152), (3, 0), (3, 0), (3, 0), (3, 0)] [] sh_T M := bk_X12_onePart_146 ⟨fun y => absurd y (ru_b h), fun _ => wsfq hF h⟩
  exact bk_X12_onePart_2 ⟨fun _ => e, fun _ => ⟨fun _ => e, fun y => absurd y (ru_b h)⟩⟩
/-- what waits is one more, and on -/
theorem wson {k : Int} (hk : ¬ (k = 12 ∨ 20 ≤ k)) (hA : wsA M0 W0 Q d v1 p en C (k :: W) r) (ho : wso (k :: W)) (hx : rx_ M0 M p en) (hs : wsk M C (W ++ W0) r W0.length) (hl : ((C.length + (W ++ W0).length : Nat) : Int) + 1 < p) : (0 ≤ M 152 42 ∧ M 152 42 < 1700) ∧ am_r (M 152 42 + 1) ∧ wsKG (d + 6) Q v1 (some (0, 1), sh_T, am_up (am_up M 183 (M 152 42) k) 152 42 (M 152 42 + 1)) := by
  obtain ⟨⟨a1, a2⟩, ⟨a3, a4⟩, ⟨a5, a6⟩, a7, a8⟩ := hs
  obtain ⟨i1, i2, i3, i4, -⟩ := rx_in hx
  have f1 : wsf M (am_up (am_up M 183 (M 152 42) k) 152 42 (M 152 42 + 1)) := fun x j y1 y2 y3 => by rw [am_up_el (by omega), am_up_el (by omega)]
  have hx2 := (wsx hx f1).1
  have eo : on_ (k :: (W ++ W0)) = on_ (W ++ W0) := by
    show (if k = 12 ∨ 20 ≤ k then 1 else 0) + on_ (W ++ W0) = _
    rw [if_neg hk]; omega
  refine ⟨⟨by omega, by omega⟩, ⟨by omega, by omega⟩, am_c0_i ⟨fun y => absurd y (by decide), fun _ => bk_X12_sumsTold_15 ⟨fun y => absurd y (by decide), fun _ => ⟨fun y => absurd hx2.2.2.2.2.1 y, fun _ => en_X12_onePart (bk_X12_onePart_0 (hA ho _ hx2 ⟨⟨?_, fun i hi => ?_⟩, ⟨?_, fun i hi => ?_⟩, ⟨?_, by show r + on_ (k :: (W ++ W0)) ≤ 6; omega⟩, ?_, ?_⟩ ?_))⟩⟩⟩⟩
  · rw [am_up_el (by omega), am_up_el (by omega)]; exact a1
  · rw [am_up_el (by omega), am_up_el (by omega)]; exact a2 i hi
  · rw [am_up_at]
    show M 152 42 + 1 = (((k :: (W ++ W0)).length : Nat) : Int)
    rw [List.length_cons]; omega
  · have hi : i < (k :: (W ++ W0)).length := hi
    show am_up _ 152 42 _ 183 ((((k :: (W ++ W0)).length : Nat) : Int) - 1 - i) = (k :: (W ++ W0)).getD i 0
    rw [List.length_cons] at hi ⊢
    rw [am_up_el (by omega)]
    cases i with
    | zero =>
      rw [show ((((W ++ W0).length + 1 : Nat) : Int) - 1 - ((0 : Nat) : Int)) = M 152 42 by omega, am_up_at]
      rfl
    | succ i =>
      rw [am_up_el (by omega), show ((((W ++ W0).length + 1 : Nat) : Int) - 1 - ((i + 1 : Nat) : Int)) = ((W ++ W0).length : Int) - 1 - i by omega]
      exact a4 i (by omega)
  · rw [am_up_el (by omega), am_up_el (by omega)]; exact a5
  · rw [am_up_el (by omega), am_up_el (by omega)]; exact a7
  · show C.length + (k :: (W ++ W0)).length ≤ 1600
    rw [List.length_cons]; omega
  · show ((C.length + (k :: (W ++ W0)).length : Nat) : Int) < p
    rw [List.length_cons]; omega
/-- behind a part -/
theorem wsbeh (hB : pm_B (wsB M0 W0 Q d v1) p en C W r) (ho : wso W) (hx : rx_ M0 M p en) (hs : wsk M C (W ++ W0) r W0.length) (hl : ((C.length + (W ++ W0).length : Nat) : Int) < p) : am_g 12 5 co_X12_goesOn (d + 6) (wsKG (d + 6) Q v1) 0 [(2, 152), (3, 0)] [] sh_T M := by
  unfold pm_B at hB
  rw [pe_id C W r ho] at hB
  exact hB ho M hx hs hl
theorem wsendp (hB : pm_B (wsB M0 W0 Q d v1) p en C W r) (ho : wso W) (hx : rx_ M0 M p en) (hs : wsk M C (W ++ W0) r W0.length) (hl : ((C.length + (W ++ W0).length : Nat) : Int) < p) : wsKP (d + 6) Q v1 (none, sh_T, M) :=
  am_cv_i ⟨fun y => absurd hx.2.2.2.2.1 y, fun _ => en_X12_goesOn (wsbeh hB ho hx hs hl)⟩
theorem wsR4 {U : List Int} {m : Int} (hU : op_ U) (hm : m = 20 ∨ m = 23 ∨ m = 24) (hc : rc (M0 153) (M0 152 3) p = 41) (hB : pm_B (wsB M0 W0 Q d v1) (rd_at (M0 153) (M0 152 3) (p + 1)) en (C ++ U ++ (if m = 20 then [] else [m - 18])) W (r + 1)) : wsB M0 W0 Q d v1 p en C (U ++ m :: W) r := by
  intro ho M hx hs hl
  obtain ⟨i1, i2, i3, i4, -⟩ := rx_in hx
  have hlt := (rc_lt hc (by decide)).1
  have hr := rd_at_le (t := M0 153) (e := M0 152 3) (i := p + 1) (by omega)
  have ho1 : wso W := wso_tl (wso_ap ho)
  have eL : lm_ (U ++ m :: W) = m := by rw [lm_op U _ hU, lm_m (by omega)]
  rw [List.length_append, List.length_append, List.length_cons] at hl
  have g43 : ∀ M1, rx_ M0 M1 p en → M1 152 2 = p → wsk M1 C (U ++ m :: W ++ W0) r W0.length → am_g 12 5 co_X12_goesOn (d + 6) (wsKG (d + 6) Q v1) 43 [(2, 152), (3, 0)] [] sh_T M1 := fun M1 h1 hp1 k1 => by
    have t2 : tf_ M1 (am_up M1 152 2 (M1 152 2 + 1)) := fun x j y => am_up_el (by omega)
    have h2 : rx_ M0 (am_up M1 152 2 (M1 152 2 + 1)) (rd_at (M0 153) (M0 152 3) (p + 1)) en := rx_at h1 (by rw [am_up_at, hp1]) ((am_up_el (by omega)).trans h1.2.2.2.1) (by omega) t2
    have k2 : wsk (am_up M1 152 2 (M1 152 2 + 1)) C (U ++ m :: (W ++ W0)) r W0.length := by
      have := wsk_tf t2 k1
      rw [List.append_assoc] at this
      exact this
    refine bk_X12_goesOn_43 ⟨⟨by omega, by omega⟩, en_X12_dropsToMark (wstoMark (by omega) U C _ hU k2 (fun M3 k3 f3 => ?_))⟩
    obtain ⟨e1, e2⟩ := wshd k3
    have a5 := k3.2.2.1.1
    have a6 := k3.2.2.1.2
    have a8 := k3.2.2.2.2
    rw [List.length_append, List.length_cons, List.length_append] at a8
    rw [List.length_append] at e2
    have eo : on_ (m :: (W ++ W0)) = 1 + on_ (W ++ W0) := by
      show (if m = 12 ∨ 20 ≤ m then 1 else 0) + on_ (W ++ W0) = _
      rw [if_pos (by omega)]
    obtain ⟨h3, hp3⟩ := wsx h2 f3
    have k4 : wsk (am_up (am_up M3 152 42 (M3 152 42 - 1)) 152 43 (M3 152 43 - 1)) (C ++ U) (W ++ W0) (r + 1) W0.length := wsk_pop k3 (by omega) ((am_up_el (by omega)).trans am_up_at) (by rw [am_up_at]; omega) (fun x j y => by rw [am_up_el (by omega), am_up_el (by omega)])
    have f4 : wsf M3 (am_up (am_up M3 152 42 (M3 152 42 - 1)) 152 43 (M3 152 43 - 1)) := fun x j y1 y2 y3 => by rw [am_up_el (by omega), am_up_el (by omega)]
    have h4 := (wsx h3 f4).1
    refine ⟨⟨by omega, by omega⟩, ⟨by omega, by omega⟩, ⟨by omega, by omega⟩, ?_⟩
    rw [e1]
    refine ⟨fun y => ?_, fun y => ⟨fun y2 => ?_, fun y2 => ?_⟩⟩
    · rw [if_pos y, List.append_nil] at hB
      refine wsbeh hB ho1 h4 k4 ?_
      rw [List.length_append, List.length_append]; omega
    · rw [if_neg y, show m - 18 = 6 by omega] at hB
      refine wscode k4 (by rw [List.length_append, List.length_append]; omega) (fun M5 k5 f5 => wsbeh hB ho1 (wsx h4 f5).1 k5 ?_)
      rw [List.length_append, List.length_append, List.length_append, List.length_singleton]; omega
    · rw [if_neg y, show m - 18 = 5 by omega] at hB
      refine wscode k4 (by rw [List.length_append, List.length_append]; omega) (fun M5 k5 f5 => wsbeh hB ho1 (wsx h4 f5).1 k5 ?_)
      rw [List.length_append, List.length_append, List.length_append, List.length_singleton]; omega
  refine bk_X12_goesOn_0 ⟨fun y => absurd hx.2.2.2.2.1 y, fun _ => rt_look hx (fun M1 h1 hp1 t1 => ⟨fun y => absurd hc y, fun _ => ?_⟩)⟩
  have k1 := wsk_tf t1 hs
  have g := g43 M1 h1 hp1 k1
  refine wslast k1 ?_
  rw [eL]
  refine ⟨fun _ => g, fun y => wslast k1 ?_⟩
  rw [eL]
  refine ⟨fun _ => g, fun y2 => wslast k1 ?_⟩
  rw [eL]
  exact ⟨fun y3 => by omega, fun _ => g⟩
theorem wsR5 (hW0 : hd_ (fun w => ¬ (1 ≤ w ∧ w ≤ 4)) W0) {U : List Int} {k : Int} (hU : mu_ U) (hW : hd_ (fun w => ¬ (w = 3 ∨ w = 4)) W) (hk : k = 3 ∧ rc (M0 153) (M0 152 3) p = 42 ∨ k = 4 ∧ rc (M0 153) (M0 152 3) p = 47) (hA : wsA M0 W0 Q d v1 (rd_at (M0 153) (M0 152 3) (p + 1)) en (C ++ U) (k :: W) r) : wsB M0 W0 Q d v1 p en C (U ++ W) r := by
  intro ho M hx hs hl
  obtain ⟨i1, i2, i3, i4, -⟩ := rx_in hx
  have hlt : p < M0 152 3 := by rcases hk with ⟨-, y⟩ | ⟨-, y⟩ <;> exact (rc_lt y (by decide)).1
  have htp : M0 153 p = rc (M0 153) (M0 152 3) p := by unfold rc; rw [if_pos hlt]
  have hr := rd_at_le (t := M0 153) (e := M0 152 3) (i := p + 1) (by omega)
  have ho1 : wso (k :: W) := wso_c (by omega) (wso_ap ho)
  have hk12 : ¬ (k = 12 ∨ 20 ≤ k) := by omega
  rw [List.length_append, List.length_append] at hl
  have hT : ∀ v, (v = 3 ∨ v = 4) → ∀ w V, W ++ W0 = w :: V → ¬ w = v := fun v hv w V hV => by
    cases W with
    | nil =>
      cases W0 with
      | nil => cases hV
      | cons z Z =>
        have hz : ¬ (1 ≤ z ∧ z ≤ 4) := hW0
        have : z = w := by cases hV; rfl
        omega
    | cons z Z =>
      have hz : ¬ (z = 3 ∨ z = 4) := hW
      have : z = w := by cases hV; rfl
      omega
  have loop : ∀ (U C1 : List Int) (M1 : am_M), mu_ U → rx_ M0 M1 (rd_at (M0 153) (M0 152 3) (p + 1)) en → wsk M1 C1 (U ++ (W ++ W0)) r W0.length → ((C1.length + U.length : Nat) : Int) < p - ((W ++ W0).length : Nat) → wsA M0 W0 Q d v1 (rd_at (M0 153) (M0 152 3) (p + 1)) en (C1 ++ U) (k :: W) r → am_g 12 5 co_X12_goesOn (d + 6) (wsKG (d + 6) Q v1) 158 [(2, 152), (0, k)] [] sh_T M1 := by
    intro U
    induction U with
    | nil =>
      intro C1 M1 hU h1 k1 hl1 hA
      have k1 : wsk M1 C1 (W ++ W0) r W0.length := k1
      rw [List.append_nil] at hA
      rw [List.length_nil] at hl1
      have fin := wson (d := d) (v1 := v1) hk12 hA ho1 h1 k1 (by omega)
      have b4 : am_cal pg (d + 6) 198 [(2, 152), (0, 4)] sh_T M1 (am_c0 sh_T fun x3 M3 => ((x3 = 0 → (0 ≤ M3 152 42 ∧ M3 152 42 < 1700) ∧ am_r ((M3 152 42) + 1) ∧ wsKG (d + 6) Q v1 (some (0, 1), sh_T, (am_up (am_up M3 183 (M3 152 42) k) 152 42 ((M3 152 42) + 1)))) ∧ (¬ x3 = 0 → am_g 12 5 co_X12_goesOn (d + 6) (wsKG (d + 6) Q v1) 174 [(2, 152), (0, k)] [] sh_T M3))) := wsisOn k1 (fun _ => ⟨fun _ => fin, fun y => absurd rfl y⟩) (fun w V hV => ⟨fun _ => fin, fun y => absurd (am_b_nz y) (hT 4 (Or.inr rfl) w V hV)⟩)
      exact bk_X12_goesOn_158 (wsisOn k1 (fun _ => ⟨fun y => absurd rfl y, fun _ => b4⟩) (fun w V hV => ⟨fun y => absurd (am_b_nz y) (hT 3 (Or.inl rfl) w V hV), fun _ => b4⟩))
    | cons u U ih =>
      intro C1 M1 hU h1 k1 hl1 hA
      have k1 : wsk M1 C1 (u :: (U ++ (W ++ W0))) r W0.length := k1
      have hu := hU u List.mem_cons_self
      rw [List.length_cons] at hl1
      have dr : am_g 12 5 co_X12_goesOn (d + 6) (wsKG (d + 6) Q v1) 174 [(2, 152), (0, k)] [] sh_T M1 := bk_X12_goesOn_174 (wsdrops k1 (fun M2 k2 f2 => ih (C1 ++ [u]) M2 (fun x hx => hU x (List.mem_cons_of_mem _ hx)) (wsx h1 f2).1 k2 (by rw [List.length_append, List.length_singleton]; omega) (by rw [List.append_assoc]; exact hA)))
      refine bk_X12_goesOn_158 (wsisOn k1 (fun z => by cases z) (fun w V hV => ⟨fun _ => dr, fun y => wsisOn k1 (fun z => by cases z) (fun w2 V2 hV2 => ⟨fun y2 => ?_, fun _ => dr⟩)⟩))
      have e1 : u = w := by cases hV; rfl
      have e2 : u = w2 := by cases hV2; rfl
      have := am_b_z.mp y
      have := am_b_z.mp y2
      omega
  have g136 : ∀ M1, rx_ M0 M1 (rd_at (M0 153) (M0 152 3) (p + 1)) en → M1 152 2 = p + 1 → wsk M1 C (U ++ W ++ W0) r W0.length → am_g 12 5 co_X12_goesOn (d + 6) (wsKG (d + 6) Q v1) 136 [(2, 152), (3, 0)] [] sh_T M1 := fun M1 h1 hp1 k1 => by
    rw [List.append_assoc] at k1
    have et : M1 153 (M1 152 2 - 1) = rc (M0 153) (M0 152 3) p := by
      rw [(rp_t h1.1).1, hp1, show p + 1 - 1 = p by omega]; exact htp
    have g := loop U C M1 hU h1 k1 (by rw [List.length_append]; omega) hA
    refine bk_X12_goesOn_136 ⟨⟨by omega, by omega⟩, ⟨by omega, by omega⟩, ?_⟩
    rw [et]
    refine ⟨fun y => ?_, fun y => ?_⟩
    · rw [show k = 4 by omega] at g; exact g
    · rw [show k = 3 by omega] at g; exact g
  have g118 : ∀ M1, rx_ M0 M1 p en → wsk M1 C (U ++ W ++ W0) r W0.length → am_g 12 5 co_X12_goesOn (d + 6) (wsKG (d + 6) Q v1) 118 [(2, 152), (3, 0)] [] sh_T M1 := fun M1 h1 k1 =>
    bk_X12_goesOn_118 (rt_sign (by decide) h1 (fun _ M2 h2 hp2 t2 => ⟨fun _ => g136 M2 h2 hp2 (wsk_tf t2 k1), fun y => absurd y (by decide)⟩) (fun y M2 h2 hp2 t2 => ⟨fun y2 => absurd rfl y2, fun _ => rt_sign (by decide) h2 (fun _ M3 h3 hp3 t3 => ⟨fun y2 => absurd y2 (by decide), fun _ => g136 M3 h3 hp3 (wsk_tf t3 (wsk_tf t2 k1))⟩) (fun y3 => by omega)⟩))
  exact bk_X12_goesOn_0 ⟨fun y => absurd hx.2.2.2.2.1 y, fun _ => rt_look hx (fun M1 h1 hp1 t1 => ⟨fun _ => g118 M1 h1 (wsk_tf t1 hs), fun y => by omega⟩)⟩
theorem wsR6 (hW0 : hd_ (fun w => ¬ (1 ≤ w ∧ w ≤ 4)) W0) {U : List Int} {k : Int} (hU : op_ U) (hW : hd_ (fun w => ¬ (1 ≤ w ∧ w ≤ 4)) W) (hk : k = 1 ∧ rc (M0 153) (M0 152 3) p = 43 ∨ k = 2 ∧ rc (M0 153) (M0 152 3) p = 45) (hA : wsA M0 W0 Q d v1 (rd_at (M0 153) (M0 152 3) (p + 1)) en (C ++ U) (k :: W) r) : wsB M0 W0 Q d v1 p en C (U ++ W) r := by
  intro ho M hx hs hl
  obtain ⟨i1, i2, i3, i4, -⟩ := rx_in hx
  have hlt : p < M0 152 3 := by rcases hk with ⟨-, y⟩ | ⟨-, y⟩ <;> exact (rc_lt y (by decide)).1
  have htp : M0 153 p = rc (M0 153) (M0 152 3) p := by unfold rc; rw [if_pos hlt]
  have hr := rd_at_le (t := M0 153) (e := M0 152 3) (i := p + 1) (by omega)
  have ho1 : wso (k :: W) := wso_c (by omega) (wso_ap ho)
  have hk12 : ¬ (k = 12 ∨ 20 ≤ k) := by omega
  rw [List.length_append, List.length_append] at hl
  have hT : ∀ v, (1 ≤ v ∧ v ≤ 4) → ∀ w V, W ++ W0 = w :: V → ¬ w = v := fun v hv w V hV => by
    cases W with
    | nil =>
      cases W0 with
      | nil => cases hV
      | cons z Z =>
        have hz : ¬ (1 ≤ z ∧ z ≤ 4) := hW0
        have : z = w := by cases hV; rfl
        omega
    | cons z Z =>
      have hz : ¬ (1 ≤ z ∧ z ≤ 4) := hW
      have : z = w := by cases hV; rfl
      omega
  have loop : ∀ (U C1 : List Int) (M1 : am_M), op_ U → rx_ M0 M1 (rd_at (M0 153) (M0 152 3) (p + 1)) en → wsk M1 C1 (U ++ (W ++ W0)) r W0.length → ((C1.length + U.length : Nat) : Int) < p - ((W ++ W0).length : Nat) → wsA M0 W0 Q d v1 (rd_at (M0 153) (M0 152 3) (p + 1)) en (C1 ++ U) (k :: W) r → am_g 12 5 co_X12_goesOn (d + 6) (wsKG (d + 6) Q v1) 243 [(2, 152), (0, k)] [] sh_T M1 := by
    intro U
    induction U with
    | nil =>
      intro C1 M1 hU h1 k1 hl1 hA
      have k1 : wsk M1 C1 (W ++ W0) r W0.length := k1
      rw [List.append_nil] at hA
      rw [List.length_nil] at hl1
      have fin := wson (d := d) (v1 := v1) hk12 hA ho1 h1 k1 (by omega)
      have zero : ∀ v, (1 ≤ v ∧ v ≤ 4) → ∀ f : Int → am_M → Prop, f 0 M1 → am_cal pg (d + 6) 198 [(2, 152), (0, v)] sh_T M1 (am_c0 sh_T f) := fun v hv f hf => wsisOn k1 (fun _ => hf) (fun w V hV => by rw [am_b_0 (hT v hv w V hV)]; exact hf)
      exact bk_X12_goesOn_243 (zero 3 (by decide) _ ⟨fun y => absurd rfl y, fun _ => zero 4 (by decide) _ ⟨fun y => absurd rfl y, fun _ => zero 1 (by decide) _ ⟨fun y => absurd rfl y, fun _ => zero 2 (by decide) _ ⟨fun _ => fin, fun y => absurd rfl y⟩⟩⟩⟩)
    | cons u U ih =>
      intro C1 M1 hU h1 k1 hl1 hA
      have k1 : wsk M1 C1 (u :: (U ++ (W ++ W0))) r W0.length := k1
      have hu := hU u List.mem_cons_self
      rw [List.length_cons] at hl1
      have dr : am_g 12 5 co_X12_goesOn (d + 6) (wsKG (d + 6) Q v1) 275 [(2, 152), (0, k)] [] sh_T M1 := bk_X12_goesOn_275 (wsdrops k1 (fun M2 k2 f2 => ih (C1 ++ [u]) M2 (fun x hx => hU x (List.mem_cons_of_mem _ hx)) (wsx h1 f2).1 k2 (by rw [List.length_append, List.length_singleton]; omega) (by rw [List.append_assoc]; exact hA)))
      have is : ∀ v, ∀ f : Int → am_M → Prop, f (am_b (u = v)) M1 → am_cal pg (d + 6) 198 [(2, 152), (0, v)] sh_T M1 (am_c0 sh_T f) := fun v f hf => wsisOn k1 (fun z => by cases z) (fun w V hV => by
        have e1 : u = w := by cases hV; rfl
        rw [← e1]; exact hf)
      refine bk_X12_goesOn_243 (is 3 _ ⟨fun _ => dr, fun y3 => is 4 _ ⟨fun _ => dr, fun y4 => is 1 _ ⟨fun _ => dr, fun y1 => is 2 _ ⟨fun y2 => ?_, fun _ => dr⟩⟩⟩⟩)
      have := am_b_z.mp y1
      have := am_b_z.mp y2
      have := am_b_z.mp y3
      have := am_b_z.mp y4
      omega
  have g221 : ∀ M1, rx_ M0 M1 (rd_at (M0 153) (M0 152 3) (p + 1)) en → M1 152 2 = p + 1 → wsk M1 C (U ++ W ++ W0) r W0.length → am_g 12 5 co_X12_goesOn (d + 6) (wsKG (d + 6) Q v1) 221 [(2, 152), (3, 0)] [] sh_T M1 := fun M1 h1 hp1 k1 => by
    rw [List.append_assoc] at k1
    have et : M1 153 (M1 152 2 - 1) = rc (M0 153) (M0 152 3) p := by
      rw [(rp_t h1.1).1, hp1, show p + 1 - 1 = p by omega]; exact htp
    have g := loop U C M1 hU h1 k1 (by rw [List.length_append]; omega) hA
    refine bk_X12_goesOn_221 ⟨⟨by omega, by omega⟩, ⟨by omega, by omega⟩, ?_⟩
    rw [et]
    refine ⟨fun y => ?_, fun y => ?_⟩
    · rw [show k = 2 by omega] at g; exact g
    · rw [show k = 1 by omega] at g; exact g
  have g118 : ∀ M1, rx_ M0 M1 p en → wsk M1 C (U ++ W ++ W0) r W0.length → am_g 12 5 co_X12_goesOn (d + 6) (wsKG (d + 6) Q v1) 118 [(2, 152), (3, 0)] [] sh_T M1 := fun M1 h1 k1 =>
    bk_X12_goesOn_118 (rt_sign (by decide) h1 (fun y => by omega) (fun _ M2 h2 hp2 t2 => ⟨fun y => absurd rfl y, fun _ => rt_sign (by decide) h2 (fun y => by omega) (fun _ M3 h3 hp3 t3 => ⟨fun _ => rt_sign (by decide) h3 (fun _ M4 h4 hp4 t4 => ⟨fun _ => g221 M4 h4 hp4 (wsk_tf t4 (wsk_tf t3 (wsk_tf t2 k1))), fun y => absurd y (by decide)⟩) (fun _ M4 h4 hp4 t4 => ⟨fun y => absurd rfl y, fun _ => rt_sign (by decide) h4 (fun _ M5 h5 hp5 t5 => ⟨fun y => absurd y (by decide), fun _ => g221 M5 h5 hp5 (wsk_tf t5 (wsk_tf t4 (wsk_tf t3 (wsk_tf t2 k1))))⟩) (fun y => by omega)⟩), fun y => absurd rfl y⟩)⟩))
  exact bk_X12_goesOn_0 ⟨fun y => absurd hx.2.2.2.2.1 y, fun _ => rt_look hx (fun M1 h1 hp1 t1 => ⟨fun _ => g118 M1 h1 (wsk_tf t1 hs), fun y => by omega⟩)⟩
/-- no sign comes again: what is open last decides -/
theorem wsg118 (n1 : ¬ rc (M0 153) (M0 152 3) p = 42) (n2 : ¬ rc (M0 153) (M0 152 3) p = 47) (n3 : ¬ rc (M0 153) (M0 152 3) p = 43) (n4 : ¬ rc (M0 153) (M0 152 3) p = 45) (hx : rx_ M0 M p en) (hs : wsk M C (W ++ W0) r W0.length) {K : am_Q} (h1 : lm_ W = 21 ∨ lm_ W = 22 → ∀ M1, rx_ M0 M1 p en → wsk M1 C (W ++ W0) r W0.length → am_g 12 5 co_X12_goesOn (d + 6) K 322 [(2, 152), (3, 0)] [] sh_T M1) (h2 : lm_ W = -1 → ∀ M1, rx_ M0 M1 p en → wsk M1 C (W ++ W0) r W0.length → K (some (0, 0), sh_T, M1)) (h3 : ¬ (lm_ W = 21 ∨ lm_ W = 22) → ¬ lm_ W = -1 → ∀ M1, ru_ M0 M1 1 p → K (some (0, 0), sh_T, M1)) : am_g 12 5 co_X12_goesOn (d + 6) K 118 [(2, 152), (3, 0)] [] sh_T M := by
  refine bk_X12_goesOn_118 (rt_sign (by decide) hx (fun y => absurd y n1) (fun _ M2 h2' hp2 t2 => ⟨fun y => absurd rfl y, fun _ => rt_sign (by decide) h2' (fun y => absurd y n2) (fun _ M3 h3' hp3 t3 => ⟨fun _ => rt_sign (by decide) h3' (fun y => absurd y n3) (fun _ M4 h4' hp4 t4 => ⟨fun y => absurd rfl y, fun _ => rt_sign (by decide) h4' (fun y => absurd y n4) (fun _ M5 h5' hp5 t5 => ⟨fun _ => ?_, fun y => absurd rfl y⟩)⟩), fun y => absurd rfl y⟩)⟩))
  have k5 := wsk_tf t5 (wsk_tf t4 (wsk_tf t3 (wsk_tf t2 hs)))
  refine wslast k5 ⟨fun y => h1 (Or.inl y) M5 h5' k5, fun y => wslast k5 ⟨fun y2 => wslast k5 ⟨fun y3 => bk_X12_goesOn_382 (h2 y3 M5 h5' k5), fun y3 => ⟨fun y4 => absurd h5'.2.2.2.2.1 y4, fun _ => sp_fail (bk_X12_goesOn_382 (h3 (by omega) y3 _ ?_))⟩⟩, fun y2 => h1 (Or.inr y2) M5 h5' k5⟩⟩
  rw [hp5]
  exact rx_bl h5' (by decide)
theorem wsR7 {U : List Int} {m : Int} (hU : op_ U) (hm : m = 21 ∨ m = 22) (n1 : ¬ rc (M0 153) (M0 152 3) p = 42) (n2 : ¬ rc (M0 153) (M0 152 3) p = 47) (n3 : ¬ rc (M0 153) (M0 152 3) p = 43) (n4 : ¬ rc (M0 153) (M0 152 3) p = 45) (hA : rc (M0 153) (M0 152 3) p = 44 → wsA M0 W0 Q d v1 (rd_at (M0 153) (M0 152 3) (p + 1)) en (C ++ U) ((m + 2) :: W) r) (hF : ¬ rc (M0 153) (M0 152 3) p = 44 → wsF M0 Q v1 1 p) : wsB M0 W0 Q d v1 p en C (U ++ m :: W) r := by
  intro ho M hx hs hl
  obtain ⟨i1, i2, i3, i4, -⟩ := rx_in hx
  have ho1 : wso ((m + 2) :: W) := wso_c (by omega) (wso_tl (wso_ap ho))
  have eL : lm_ (U ++ m :: W) = m := by rw [lm_op U _ hU, lm_m (by omega)]
  rw [List.length_append, List.length_append, List.length_cons] at hl
  have g322 : ∀ M1, rx_ M0 M1 p en → wsk M1 C (U ++ m :: W ++ W0) r W0.length → am_g 12 5 co_X12_goesOn (d + 6) (wsKG (d + 6) Q v1) 322 [(2, 152), (3, 0)] [] sh_T M1 := fun M1 h1 k1 => by
    refine bk_X12_goesOn_322 (rt_asksSign (by decide) h1 (fun y M2 h2 t2 => ⟨fun _ => ?_, fun y2 => absurd h2.2.2.2.2.1 y2⟩) (fun y M2 h2 => ⟨fun y2 => absurd y2 (ru_b h2), fun _ => wsfg (hF y) h2⟩))
    have hlt := (rc_lt y (by decide)).1
    have hr := rd_at_le (t := M0 153) (e := M0 152 3) (i := p + 1) (by omega)
    have k2 : wsk M2 C (U ++ m :: (W ++ W0)) r W0.length := by
      have := wsk_tf t2 k1
      rw [List.append_assoc] at this
      exact this
    refine en_X12_dropsToMark (wstoMark (by omega) U C _ hU k2 (fun M3 k3 f3 => ?_))
    obtain ⟨e1, e2⟩ := wshd k3
    obtain ⟨⟨a1, a2⟩, ⟨a3, a4⟩, ⟨a5, a6⟩, a7, a8⟩ := k3
    have a8' := a8
    rw [List.length_append, List.length_cons, List.length_append] at a8'
    rw [List.length_append] at e2
    rw [e1]
    obtain ⟨h3, hp3⟩ := wsx h2 f3
    have f4 : wsf M3 (am_up M3 183 (M3 152 42 - 1) (m + 2)) := fun x j y1 y2 y3 => am_up_el (by omega)
    have h4 := (wsx h3 f4).1
    have eo : on_ ((m + 2) :: (W ++ W0)) = on_ (m :: (W ++ W0)) := by
      show (if m + 2 = 12 ∨ 20 ≤ m + 2 then 1 else 0) + on_ (W ++ W0) = (if m = 12 ∨ 20 ≤ m then 1 else 0) + on_ (W ++ W0)
      rw [if_pos (by omega), if_pos (by omega)]
    refine ⟨⟨by omega, by omega⟩, ⟨by omega, by omega⟩, ⟨by omega, by omega⟩, am_c0_i ⟨fun y => absurd y (by decide), fun _ => bk_X12_sumsTold_15 ⟨fun y => absurd y (by decide), fun _ => ⟨fun y => absurd h4.2.2.2.2.1 y, fun _ => en_X12_onePart (bk_X12_onePart_0 (hA y ho1 _ h4 ⟨⟨?_, fun i hi => ?_⟩, ⟨?_, fun i hi => ?_⟩, ⟨?_, by show r + on_ ((m + 2) :: (W ++ W0)) ≤ 6; omega⟩, ?_, ?_⟩ ?_))⟩⟩⟩⟩
    · rw [am_up_el (by omega)]; exact a1
    · rw [am_up_el (by omega)]; exact a2 i hi
    · rw [am_up_el (by omega)]; exact a3
    · have hi : i < (m :: (W ++ W0)).length := hi
      have r4 := a4 i hi
      show am_up _ 183 _ _ 183 ((((m + 2) :: (W ++ W0)).length : Int) - 1 - i) = ((m + 2) :: (W ++ W0)).getD i 0
      rw [List.length_cons] at hi r4 a3 ⊢
      cases i with
      | zero =>
        rw [show ((((W ++ W0).length + 1 : Nat) : Int) - 1 - ((0 : Nat) : Int)) = M3 152 42 - 1 by omega, am_up_at]
        rfl
      | succ i =>
        rw [am_up_el (by omega)]
        exact r4
    · rw [am_up_el (by omega)]; exact a5
    · rw [am_up_el (by omega)]; exact a7
    · exact a8
    · show (((C ++ U).length + ((m + 2) :: (W ++ W0)).length : Nat) : Int) < _
      rw [List.length_append, List.length_cons, List.length_append]; omega
  have g118 : ∀ M1, rx_ M0 M1 p en → wsk M1 C (U ++ m :: W ++ W0) r W0.length → am_g 12 5 co_X12_goesOn (d + 6) (wsKG (d + 6) Q v1) 118 [(2, 152), (3, 0)] [] sh_T M1 := fun M1 h1 k1 =>
    wsg118 n1 n2 n3 n4 h1 k1 (fun _ M2 h2 k2 => g322 M2 h2 k2) (fun y => by rw [eL] at y; omega) (fun y => by rw [eL] at y; omega)
  refine bk_X12_goesOn_0 ⟨fun y => absurd hx.2.2.2.2.1 y, fun _ => rt_look hx (fun M1 h1 hp1 t1 => ⟨fun _ => g118 M1 h1 (wsk_tf t1 hs), fun _ => ?_⟩)⟩
  have k1 := wsk_tf t1 hs
  refine wslast k1 ⟨fun y => by rw [eL] at y; omega, fun _ => wslast k1 ⟨fun y => by rw [eL] at y; omega, fun _ => wslast k1 ⟨fun _ => g118 M1 h1 k1, fun y => by rw [eL] at y; omega⟩⟩⟩
theorem wsR8 {U : List Int} {m : Int} (hU : op_ U) (hm : m = 20 ∨ m = 23 ∨ m = 24) (n1 : ¬ rc (M0 153) (M0 152 3) p = 42) (n2 : ¬ rc (M0 153) (M0 152 3) p = 47) (n3 : ¬ rc (M0 153) (M0 152 3) p = 43) (n4 : ¬ rc (M0 153) (M0 152 3) p = 45) (n5 : ¬ rc (M0 153) (M0 152 3) p = 41) (hF : wsF M0 Q v1 1 p) : wsB M0 W0 Q d v1 p en C (U ++ m :: W) r := by
  intro ho M hx hs hl
  have eL : lm_ (U ++ m :: W) = m := by rw [lm_op U _ hU, lm_m (by omega)]
  exact bk_X12_goesOn_0 ⟨fun y => absurd hx.2.2.2.2.1 y, fun _ => rt_look hx (fun M1 h1 hp1 t1 => ⟨fun _ => wsg118 n1 n2 n3 n4 h1 (wsk_tf t1 hs) (fun y => by rw [eL] at y; omega) (fun y => by rw [eL] at y; omega) (fun _ _ M2 h2 => wsfg hF h2), fun y => absurd y n5⟩)⟩
/-- the sum has ended -/
theorem wsE {U : List Int} (hU : op_ U) (n1 : ¬ rc (M0 153) (M0 152 3) p = 42) (n2 : ¬ rc (M0 153) (M0 152 3) p = 47) (n3 : ¬ rc (M0 153) (M0 152 3) p = 43) (n4 : ¬ rc (M0 153) (M0 152 3) p = 45) (hQ : ∀ M', rx_ M0 M' p en → wsk M' (C ++ U) W0 r W0.length → Q (none, sh_T, am_up M' 152 44 v1)) : wsB M0 W0 Q d v1 p en C (U ++ []) r := by
  intro ho M hx hs hl
  have eL : lm_ (U ++ []) = -1 := lm_op U [] hU
  have loop : ∀ (V C1 : List Int) (M1 : am_M), rx_ M0 M1 p en → wsk M1 C1 (V ++ W0) r W0.length → C ++ U = C1 ++ V → am_g 12 9 co_X12_sumsTold (d + 7) Q 53 [(2, 152), (0, v1), (3, 0)] [] sh_T M1 := by
    intro V
    induction V with
    | nil =>
      intro C1 M1 h1 k1 e
      have k1 : wsk M1 C1 W0 r W0.length := k1
      rw [List.append_nil] at e
      rw [e] at hQ
      have a3 := k1.2.1.1
      have a7 := k1.2.2.2.1
      exact bk_X12_sumsTold_53 ⟨fun y => absurd h1.2.2.2.2.1 y, fun _ => ⟨fun _ => hQ M1 h1 k1, fun y => by omega⟩⟩
    | cons v V ih =>
      intro C1 M1 h1 k1 e
      have k1 : wsk M1 C1 (v :: (V ++ W0)) r W0.length := k1
      have a3 := k1.2.1.1
      have a7 := k1.2.2.2.1
      rw [List.length_cons, List.length_append] at a3
      exact bk_X12_sumsTold_53 ⟨fun y => absurd h1.2.2.2.2.1 y, fun _ => ⟨fun y => by omega, fun _ => wsdrops k1 (fun M2 k2 f2 => ih (C1 ++ [v]) M2 (wsx h1 f2).1 k2 (by rw [e, List.append_assoc]; rfl))⟩⟩
  have fin : ∀ M1, rx_ M0 M1 p en → wsk M1 C (U ++ [] ++ W0) r W0.length → wsKG (d + 6) Q v1 (some (0, 0), sh_T, M1) := fun M1 h1 k1 => by
    rw [List.append_nil] at k1
    exact am_c0_i ⟨fun _ => bk_X12_sumsTold_15 ⟨fun _ => loop U C M1 h1 k1 rfl, fun y => absurd rfl y⟩, fun y => absurd rfl y⟩
  have g118 : ∀ M1, rx_ M0 M1 p en → wsk M1 C (U ++ [] ++ W0) r W0.length → am_g 12 5 co_X12_goesOn (d + 6) (wsKG (d + 6) Q v1) 118 [(2, 152), (3, 0)] [] sh_T M1 := fun M1 h1 k1 =>
    wsg118 n1 n2 n3 n4 h1 k1 (fun y => by rw [eL] at y; omega) (fun _ M2 h2 k2 => fin M2 h2 k2) (fun y y2 => absurd eL y2)
  refine bk_X12_goesOn_0 ⟨fun y => absurd hx.2.2.2.2.1 y, fun _ => rt_look hx (fun M1 h1 hp1 t1 => ⟨fun _ => g118 M1 h1 (wsk_tf t1 hs), fun _ => ?_⟩)⟩
  have k1 := wsk_tf t1 hs
  refine wslast k1 ⟨fun y => by rw [eL] at y; omega, fun _ => wslast k1 ⟨fun y => by rw [eL] at y; omega, fun _ => wslast k1 ⟨fun _ => g118 M1 h1 k1, fun y => by rw [eL] at y; omega⟩⟩⟩
/-- a code is written behind a fault, too -/
theorem wscodef {f : am_M → Prop} {c k z : Int} (h : ru_ M0 M k z) (hn : 0 ≤ M 152 40 ∧ M 152 40 < 1600) (hf : ∀ M', ru_ M0 M' k z → f M') : am_cal pg (d + 1) 196 [(2, 152), (0, c)] sh_T M (am_cv sh_T f) := by
  have e3 := (rp_t h.1).2
  have g0 := h.2.1.2.1
  have g1 := h.2.1.2.2
  have key : f (am_up (am_up M 182 (M 152 40) c) 152 40 (M 152 40 + 1)) := by
    refine hf _ (ru_fr h (fun x j a b c d f => ?_) ?_)
    · rw [am_up_el (by omega), am_up_el (by omega)]
    · rw [am_up_el (by omega), am_up_el (by omega)]; omega
  refine en_X12_code (bk_X12_code_0 ⟨⟨by omega, by omega⟩, ⟨by omega, by omega⟩, ⟨by omega, by omega⟩, am_cv_i ?_⟩)
  rw [Int.zero_add]
  exact key
/-- a number is asked, and told -/
theorem wsnum (hF : ∀ k x, pr_num (M0 153) (M0 152 3) 9999 p en = .error (k, x) → wsF M0 Q v1 k x) (hB : ∀ p1 en1 v, pr_num (M0 153) (M0 152 3) 9999 p en = .ok (p1, en1, v) → pm_B (wsB M0 W0 Q d v1) p1 en1 (C ++ [1000 + v]) W r) (ho : wso W) (hx : rx_ M0 M p en) (hs : wsk M C (W ++ W0) r W0.length) (hl : ((C.length + (W ++ W0).length : Nat) : Int) < p) : am_cal pg (d + 6) 181 [(2, 152), (0, 0), (0, 9999)] sh_T M (am_c0 sh_T fun x14 M14 => am_r (1000 + x14) ∧ am_cal pg (d + 6) 196 [(2, 152), (0, 1000 + x14)] sh_T M14 (am_cv sh_T fun M16 => wsKP (d + 6) Q v1 (none, sh_T, M16))) := by
  obtain ⟨i1, i2, i3, i4, -⟩ := rx_in hx
  have hn := pr_num_g (t := M0 153) (e := M0 152 3) (g := 9999) (en := en) i1 i2
  rw [List.length_append] at hl
  refine rt_num (by decide) hx (fun k z hy x M8 x0 x1 h8 t8 => ⟨⟨by omega, by omega⟩, ?_⟩) (fun p1 en1 w hy M8 h8 t8 => ?_)
  · refine wscodef h8 ?_ (fun M9 h9 => wsfq (hF k z hy) h9)
    rw [t8 152 40 (by omega)]
    have := hs.1.1
    omega
  · have hv := pr_num_v hy
    rw [hy] at hn
    obtain ⟨g1, g2, g3, g4, g5⟩ := hn
    have k8 := wsk_tf t8 hs
    refine ⟨⟨by omega, by omega⟩, wscode k8 (by rw [List.length_append]; omega) (fun M9 k9 f9 => wsendp (hB p1 en1 w hy) ho (wsx h8 f9).1 k9 ?_)⟩
    rw [List.length_append, List.length_singleton, List.length_append]; omega
theorem wsR1 (hw : rw_all M0) (c1 : is_di (rc (M0 153) (M0 152 3) p) = true) (hF : ∀ k x, pr_num (M0 153) (M0 152 3) 9999 p en = .error (k, x) → wsF M0 Q v1 k x) (hB : ∀ p1 en1 v, pr_num (M0 153) (M0 152 3) 9999 p en = .ok (p1, en1, v) → pm_B (wsB M0 W0 Q d v1) p1 en1 (C ++ [1000 + v]) W r) : wsA M0 W0 Q d v1 p en C W r := by
  intro ho M hx hs hl
  have hd := is_di_iff.mp c1
  have nw : ∀ {w : List Int}, ¬ rd_is (M0 153) (M0 152 3) en p w = true := fun y => by have := rd_is_le y; omega
  have g146 : ∀ M1, rx_ M0 M1 p en → wsk M1 C (W ++ W0) r W0.length → am_g 12 9 co_X12_onePart (d + 6) (wsKP (d + 6) Q v1) 146 [(2, 152), (3, 0), (3, 0), (3, 0), (3, 0)] [] sh_T M1 := fun M1 h1 k1 => by
    refine bk_X12_onePart_146 ⟨fun _ => rt_takes hw (w := w_weigh) (by decide) h1 (fun y => absurd y nw) (fun _ M2 h2 hp2 t2 => ⟨fun _ => rt_takes hw (w := w_worst) (by decide) h2 (fun y => absurd y nw) (fun _ M3 h3 hp3 t3 => ⟨fun _ => rt_takes hw (w := w_sum) (by decide) h3 (fun y => absurd y nw) (fun _ M4 h4 hp4 t4 => ⟨fun _ => rt_takes hw (w := w_many) (by decide) h4 (fun y => absurd y nw) (fun _ M5 h5 hp5 t5 => ⟨fun _ => rt_takes hw (w := w_number) (by decide) h5 (fun y => absurd y nw) (fun _ M6 h6 hp6 t6 => ⟨fun _ => rt_takes hw (w := w_brave) (by decide) h6 (fun y => absurd y nw) (fun _ M7 h7 hp7 t7 => ⟨fun _ => ?_, fun y => absurd rfl y⟩), fun y => absurd rfl y⟩), fun y => absurd rfl y⟩), fun y => absurd rfl y⟩), fun y => absurd rfl y⟩), fun y => absurd rfl y⟩), fun y => absurd h1.2.2.2.2.1 y⟩
    exact wsnum hF hB ho h7 (wsk_tf t7 (wsk_tf t6 (wsk_tf t5 (wsk_tf t4 (wsk_tf t3 (wsk_tf t2 k1)))))) hl
  exact bk_X12_onePart_2 ⟨fun y => absurd y (by decide), fun _ => ⟨fun y => absurd hx.2.2.2.2.1 y, fun _ => rt_look hx (fun M1 h1 hp1 t1 => ⟨fun _ => rt_here hw (w := w_min) (by decide) h1 (fun M2 h2 hp2 t2 => ⟨fun y => absurd (am_b_nz y) nw, fun _ => rt_here hw (w := w_max) (by decide) h2 (fun M3 h3 hp3 t3 => ⟨fun _ => bk_X12_onePart_143 (bk_X12_onePart_2 ⟨fun _ => g146 M3 h3 (wsk_tf t3 (wsk_tf t2 (wsk_tf t1 hs))), fun y => absurd rfl y⟩), fun y => absurd (am_b_nz y) nw⟩)⟩), fun y => by omega⟩)⟩⟩
theorem wsR2 (c1 : rc (M0 153) (M0 152 3) p = 40) (hF : r = 0 → wsF M0 Q v1 4 p) (hA : ∀ r', r = r' + 1 → wsA M0 W0 Q d v1 (rd_at (M0 153) (M0 152 3) (p + 1)) en C (20 :: W) r') : wsA M0 W0 Q d v1 p en C W r := by
  intro ho M hx hs hl
  obtain ⟨i1, i2, i3, i4, -⟩ := rx_in hx
  have hlt := (rc_lt c1 (by decide)).1
  have hr := rd_at_le (t := M0 153) (e := M0 152 3) (i := p + 1) (by omega)
  refine bk_X12_onePart_2 ⟨fun y => absurd y (by decide), fun _ => ⟨fun y => absurd hx.2.2.2.2.1 y, fun _ => rt_look hx (fun M1 h1 hp1 t1 => ⟨fun y => absurd c1 y, fun _ => ?_⟩)⟩⟩
  have k1 := wsk_tf t1 hs
  rw [hp1]
  refine wsopens h1.2.2.2.2.1 k1 (by omega) (Or.inr (by decide)) (fun hr0 => ?_) (fun r' hr' M2 k2 f2 => ?_)
  · have u1 := rx_bl h1 (k := 4) (z := p) (by decide)
    have e2 : rf_bl M1 4 p 152 2 = p := by rw [rf_bl_0 h1.2.2.2.2.1, am_up_el (by omega), am_up_el (by omega)]; exact hp1
    rw [e2]
    exact ⟨⟨by omega, by omega⟩, bk_X12_onePart_143 (wsfp (hF hr0) (ru_fr u1 (fun x j a b c d f => am_up_el (by omega)) (by rw [am_up_at]; omega)))⟩
  · obtain ⟨h2, hp2⟩ := wsx h1 f2
    rw [hp1] at hp2
    rw [hp2]
    have t3 : tf_ M2 (am_up M2 152 2 (p + 1)) := fun x j y => am_up_el (by omega)
    have h3 : rx_ M0 (am_up M2 152 2 (p + 1)) (rd_at (M0 153) (M0 152 3) (p + 1)) en := rx_at h2 am_up_at ((am_up_el (by omega)).trans h2.2.2.2.1) (by omega) t3
    refine ⟨⟨by omega, by omega⟩, bk_X12_onePart_143 (hA r' hr' (wso_c (by decide) ho) _ h3 (wsk_tf t3 k2) ?_)⟩
    show ((C.length + (20 :: (W ++ W0)).length : Nat) : Int) < _
    rw [List.length_cons]; omega
theorem wsR3 (hw : rw_all M0) (c1 : ¬ is_di (rc (M0 153) (M0 152 3) p) = true) (c2 : ¬ rc (M0 153) (M0 152 3) p = 40) (hF0 : pr_wc (M0 153) (M0 152 3) en p (ts_ false) = 0 → wsF M0 Q v1 1 p)
    (hF4 : pr_wc (M0 153) (M0 152 3) en p (ts_ false) = 5 ∨ pr_wc (M0 153) (M0 152 3) en p (ts_ false) = 6 → rc (M0 153) (M0 152 3) (rd_at (M0 153) (M0 152 3) (p + rd_wd (M0 153) (M0 152 3) en p)) = 40 → r = 0 → wsF M0 Q v1 4 (rd_at (M0 153) (M0 152 3) (p + rd_wd (M0 153) (M0 152 3) en p)))
    (hA : pr_wc (M0 153) (M0 152 3) en p (ts_ false) = 5 ∨ pr_wc (M0 153) (M0 152 3) en p (ts_ false) = 6 → rc (M0 153) (M0 152 3) (rd_at (M0 153) (M0 152 3) (p + rd_wd (M0 153) (M0 152 3) en p)) = 40 → ∀ r', r = r' + 1 → wsA M0 W0 Q d v1 (rd_at (M0 153) (M0 152 3) (rd_at (M0 153) (M0 152 3) (p + rd_wd (M0 153) (M0 152 3) en p) + 1)) (p + rd_wd (M0 153) (M0 152 3) en p) C ((16 + pr_wc (M0 153) (M0 152 3) en p (ts_ false)) :: W) r')
    (hF1 : pr_wc (M0 153) (M0 152 3) en p (ts_ false) = 5 ∨ pr_wc (M0 153) (M0 152 3) en p (ts_ false) = 6 → ¬ rc (M0 153) (M0 152 3) (rd_at (M0 153) (M0 152 3) (p + rd_wd (M0 153) (M0 152 3) en p)) = 40 → wsF M0 Q v1 1 (rd_at (M0 153) (M0 152 3) (p + rd_wd (M0 153) (M0 152 3) en p)))
    (hB : ¬ pr_wc (M0 153) (M0 152 3) en p (ts_ false) = 0 → ¬ (pr_wc (M0 153) (M0 152 3) en p (ts_ false) = 5 ∨ pr_wc (M0 153) (M0 152 3) en p (ts_ false) = 6) → ¬ pr_wc (M0 153) (M0 152 3) en p (ts_ false) = 60 → pm_B (wsB M0 W0 Q d v1) (rd_at (M0 153) (M0 152 3) (p + rd_wd (M0 153) (M0 152 3) en p)) (p + rd_wd (M0 153) (M0 152 3) en p) (C ++ [pr_wc (M0 153) (M0 152 3) en p (ts_ false)]) W r) : wsA M0 W0 Q d v1 p en C W r := by
  intro ho M hx hs hl
  obtain ⟨i1, i2, i3, i4, -⟩ := rx_in hx
  have hwd := rd_wd_le (t := M0 153) (en := en) i2
  have hwr := rd_at_le (t := M0 153) (e := M0 152 3) (i := p + rd_wd (M0 153) (M0 152 3) en p) hwd.2
  have hin := pr_wc_in (q := false) (t := M0 153) (e := M0 152 3) (en := en) (p := p)
  have hc0 := pr_wc_0 (t := M0 153) (e := M0 152 3) (en := en) (p := p) (ts_ false)
  have is : ∀ {w : List Int} {cw : Int}, (w, cw) ∈ ts_ false → (rd_is (M0 153) (M0 152 3) en p w = true ↔ pr_wc (M0 153) (M0 152 3) en p (ts_ false) = cw) := fun hm => pr_wc_is (ts_u false) hm
  rw [List.length_append] at hl
  -- a word that is a part
  have atom : ∀ (cw : Int), 7 ≤ cw ∧ cw ≤ 12 → pr_wc (M0 153) (M0 152 3) en p (ts_ false) = cw → ∀ M1, rx_ M0 M1 (rd_at (M0 153) (M0 152 3) (p + rd_wd (M0 153) (M0 152 3) en p)) (p + rd_wd (M0 153) (M0 152 3) en p) → wsk M1 C (W ++ W0) r W0.length → am_cal pg (d + 6) 196 [(2, 152), (0, cw)] sh_T M1 (am_cv sh_T fun M16 => wsKP (d + 6) Q v1 (none, sh_T, M16)) := fun cw hcw he M1 h1 k1 => by
    have hb := hB (by omega) (by omega) (by omega)
    rw [he] at hb hc0
    have := hc0 (by omega)
    refine wscode k1 (by rw [List.length_append]; omega) (fun M9 k9 f9 => wsendp hb ho (wsx h1 f9).1 k9 ?_)
    rw [List.length_append, List.length_singleton, List.length_append]; omega
  have g146 : ¬ (pr_wc (M0 153) (M0 152 3) en p (ts_ false) = 5 ∨ pr_wc (M0 153) (M0 152 3) en p (ts_ false) = 6) → ∀ M1, rx_ M0 M1 p en → wsk M1 C (W ++ W0) r W0.length → am_g 12 9 co_X12_onePart (d + 6) (wsKP (d + 6) Q v1) 146 [(2, 152), (3, 0), (3, 0), (3, 0), (3, 0)] [] sh_T M1 := fun n56 M1 h1 k1 => by
    refine bk_X12_onePart_146 ⟨fun _ => rt_takes hw (w := w_weigh) (by decide) h1 (fun y M2 h2 t2 => ⟨fun z => absurd z (by decide), fun _ => atom 7 (by decide) ((is (by decide)).mp y) M2 h2 (wsk_tf t2 k1)⟩) (fun y1 M2 h2 hp2 t2 => ⟨fun _ => ?_, fun z => absurd rfl z⟩), fun y => absurd h1.2.2.2.2.1 y⟩
    have k2 := wsk_tf t2 k1
    refine rt_takes hw (w := w_worst) (by decide) h2 (fun y M3 h3 t3 => ⟨fun z => absurd z (by decide), fun _ => atom 8 (by decide) ((is (by decide)).mp y) M3 h3 (wsk_tf t3 k2)⟩) (fun y2 M3 h3 hp3 t3 => ⟨fun _ => ?_, fun z => absurd rfl z⟩)
    have k3 := wsk_tf t3 k2
    refine rt_takes hw (w := w_sum) (by decide) h3 (fun y M4 h4 t4 => ⟨fun z => absurd z (by decide), fun _ => atom 9 (by decide) ((is (by decide)).mp y) M4 h4 (wsk_tf t4 k3)⟩) (fun y3 M4 h4 hp4 t4 => ⟨fun _ => ?_, fun z => absurd rfl z⟩)
    have k4 := wsk_tf t4 k3
    refine rt_takes hw (w := w_many) (by decide) h4 (fun y M5 h5 t5 => ⟨fun z => absurd z (by decide), fun _ => atom 10 (by decide) ((is (by decide)).mp y) M5 h5 (wsk_tf t5 k4)⟩) (fun y4 M5 h5 hp5 t5 => ⟨fun _ => ?_, fun z => absurd rfl z⟩)
    have k5 := wsk_tf t5 k4
    refine rt_takes hw (w := w_number) (by decide) h5 (fun y M6 h6 t6 => ⟨fun z => absurd z (by decide), fun _ => atom 11 (by decide) ((is (by decide)).mp y) M6 h6 (wsk_tf t6 k5)⟩) (fun y5 M6 h6 hp6 t6 => ⟨fun _ => ?_, fun z => absurd rfl z⟩)
    have k6 := wsk_tf t6 k5
    refine rt_takes hw (w := w_brave) (by decide) h6 (fun y M7 h7 t7 => ⟨fun z => absurd z (by decide), fun _ => atom 12 (by decide) ((is (by decide)).mp y) M7 h7 (wsk_tf t7 k6)⟩) (fun y6 M7 h7 hp7 t7 => ⟨fun _ => ?_, fun z => absurd rfl z⟩)
    have k7 := wsk_tf t7 k6
    rw [is (cw := 7) (by decide)] at y1
    rw [is (cw := 8) (by decide)] at y2
    rw [is (cw := 9) (by decide)] at y3
    rw [is (cw := 10) (by decide)] at y4
    rw [is (cw := 11) (by decide)] at y5
    rw [is (cw := 12) (by decide)] at y6
    have z0 : pr_wc (M0 153) (M0 152 3) en p (ts_ false) = 0 := by
      rcases hin with z | z | z | z | z
      · exact z
      · exact absurd (Or.inl z) n56
      · exact absurd (Or.inr z) n56
      · omega
      · exact absurd z.1 (by decide)
    have en0 : pr_num (M0 153) (M0 152 3) 9999 p en = .error (1, p) := if_neg (fun y => c1 y.1)
    exact wsnum (fun k x hy => by rw [en0] at hy; cases hy; exact hF0 z0) (fun p1 en1 v hy => by rw [en0] at hy; cases hy) ho h7 k7 (by rw [List.length_append]; omega)
  have g132f : ∀ (M1 : am_M) (k z : Int), wsF M0 Q v1 k z → ru_ M0 M1 k z → am_g 12 9 co_X12_onePart (d + 6) (wsKP (d + 6) Q v1) 132 [(2, 152), (0, 1), (3, 0), (3, 0), (3, 0)] [] sh_T M1 := fun M1 k z hF h1 => bk_X12_onePart_132 (sp_asksSign_bad (ru_b h1) (bk_X12_onePart_143 (wsfp hF h1)))
  -- behind min or max
  have g90 : ∀ (v3 : Int), (pr_wc (M0 153) (M0 152 3) en p (ts_ false) = 5 ∧ ¬ v3 = 0 ∨ pr_wc (M0 153) (M0 152 3) en p (ts_ false) = 6 ∧ v3 = 0) → ∀ M1, rx_ M0 M1 (rd_at (M0 153) (M0 152 3) (p + rd_wd (M0 153) (M0 152 3) en p)) (p + rd_wd (M0 153) (M0 152 3) en p) → wsk M1 C (W ++ W0) r W0.length → am_g 12 9 co_X12_onePart (d + 6) (wsKP (d + 6) Q v1) 90 [(2, 152), (0, 1), (3, 0), (0, v3), (3, 0)] [] sh_T M1 := fun v3 hv M1 h1 k1 => by
    have h56 : pr_wc (M0 153) (M0 152 3) en p (ts_ false) = 5 ∨ pr_wc (M0 153) (M0 152 3) en p (ts_ false) = 6 := hv.elim (fun y => Or.inl y.1) (fun y => Or.inr y.1)
    have hpos := hc0 (by omega)
    generalize rd_at (M0 153) (M0 152 3) (p + rd_wd (M0 153) (M0 152 3) en p) = p2 at h1 hwr hF4 hA hF1 ⊢
    have two : ∀ w : Int, w = 16 + pr_wc (M0 153) (M0 152 3) en p (ts_ false) → rc (M0 153) (M0 152 3) p2 = 40 → ∀ M2, rx_ M0 M2 p2 (p + rd_wd (M0 153) (M0 152 3) en p) → M2 152 2 = p2 → wsk M2 C (W ++ W0) r W0.length → am_cal pg (d + 6) 197 [(2, 152), (0, w), (0, M2 152 2)] sh_T M2 (am_cv sh_T fun M5 => am_g 12 9 co_X12_onePart (d + 6) (wsKP (d + 6) Q v1) 132 [(2, 152), (0, 1), (3, 0), (3, 0), (3, 0)] [] sh_T M5) := fun w hw y M2 h2 hp2 k2 => by
      have hlt := (rc_lt y (by decide)).1
      have hr := rd_at_le (t := M0 153) (e := M0 152 3) (i := p2 + 1) (by omega)
      rw [hp2]
      refine wsopens h2.2.2.2.2.1 k2 (by rw [List.length_append]; omega) (Or.inr (by omega)) (fun hr0 => g132f _ _ _ (hF4 h56 y hr0) (rx_bl h2 (by decide))) (fun r' hr' M3 k3 f3 => ?_)
      have h3 := (wsx h2 f3).1
      rw [hw] at k3
      refine bk_X12_onePart_132 (rt_asksSign (by decide) h3 (fun _ M4 h4 t4 => bk_X12_onePart_143 (hA h56 y r' hr' (wso_c (by omega) ho) M4 h4 (wsk_tf t4 k3) ?_)) (fun y2 => absurd y y2))
      show ((C.length + ((16 + pr_wc (M0 153) (M0 152 3) en p (ts_ false)) :: (W ++ W0)).length : Nat) : Int) < _
      rw [List.length_cons, List.length_append]; omega
    refine bk_X12_onePart_90 (rt_look h1 (fun M2 h2 hp2 t2 => ⟨fun y => ?_, fun y => ⟨fun y2 => by omega, fun _ => ⟨fun y3 => two 22 (by omega) y M2 h2 hp2 (wsk_tf t2 k1), fun y3 => two 21 (by omega) y M2 h2 hp2 (wsk_tf t2 k1)⟩⟩⟩))
    exact bk_X12_onePart_132 (rt_asksSign (by decide) h2 (fun y2 => absurd y2 y) (fun _ M3 h3 => bk_X12_onePart_143 (wsfp (hF1 h56 y) h3)))
  have g69 : (pr_wc (M0 153) (M0 152 3) en p (ts_ false) = 5 ∨ pr_wc (M0 153) (M0 152 3) en p (ts_ false) = 6) → ∀ M1, rx_ M0 M1 p en → wsk M1 C (W ++ W0) r W0.length → am_g 12 9 co_X12_onePart (d + 6) (wsKP (d + 6) Q v1) 69 [(2, 152), (0, 1), (3, 0), (3, 0), (3, 0)] [] sh_T M1 := fun h56 M1 h1 k1 => by
    refine bk_X12_onePart_69 (rt_takes hw (w := w_min) (by decide) h1 (fun y M2 h2 t2 => ⟨fun _ => g90 1 (Or.inl ⟨(is (by decide)).mp y, by decide⟩) M2 h2 (wsk_tf t2 k1), fun z => absurd z (by decide)⟩) (fun y M2 h2 hp2 t2 => ⟨fun z => absurd rfl z, fun _ => ?_⟩))
    rw [is (cw := 5) (by decide)] at y
    have z6 : pr_wc (M0 153) (M0 152 3) en p (ts_ false) = 6 := h56.elim (fun z => absurd z y) id
    exact rt_asks hw (w := w_max) (by decide) h2 (fun _ M3 h3 t3 => g90 0 (Or.inr ⟨z6, rfl⟩) M3 h3 (wsk_tf t3 (wsk_tf t2 k1))) (fun y2 => absurd ((is (by decide)).mpr z6) y2)
  refine bk_X12_onePart_2 ⟨fun y => absurd y (by decide), fun _ => ⟨fun y => absurd hx.2.2.2.2.1 y, fun _ => rt_look hx (fun M1 h1 hp1 t1 => ⟨fun _ => rt_here hw (w := w_min) (by decide) h1 (fun M2 h2 hp2 t2 => ⟨fun y => ?_, fun y => rt_here hw (w := w_max) (by decide) h2 (fun M3 h3 hp3 t3 => ⟨fun y2 => ?_, fun y2 => ?_⟩)⟩), fun y => absurd y c2⟩)⟩⟩
  · exact g69 (Or.inl ((is (by decide)).mp (am_b_nz y))) M2 h2 (wsk_tf t2 (wsk_tf t1 hs))
  · have n5 := am_b_z.mp y
    have n6 := am_b_z.mp y2
    rw [is (cw := 5) (by decide)] at n5
    rw [is (cw := 6) (by decide)] at n6
    exact bk_X12_onePart_143 (bk_X12_onePart_2 ⟨fun _ => g146 (fun z => z.elim n5 n6) M3 h3 (wsk_tf t3 (wsk_tf t2 (wsk_tf t1 hs))), fun z => absurd rfl z⟩)
  · exact g69 (Or.inr ((is (by decide)).mp (am_b_nz y2))) M3 h3 (wsk_tf t3 (wsk_tf t2 (wsk_tf t1 hs)))
theorem wsrules (hw : rw_all M0) (hW0 : hd_ (fun w => ¬ (1 ≤ w ∧ w ≤ 4)) W0) : pm_R false (M0 153) (M0 152 3) (wsA M0 W0 Q d v1) (wsB M0 W0 Q d v1) (wsF M0 Q v1) :=
  ⟨fun _ _ _ _ _ h1 h2 h3 => wsR1 hw h1 h2 h3, fun _ _ _ _ _ h1 h2 h3 => wsR2 h1 h2 h3, fun _ _ _ _ _ h1 h2 h3 h4 h5 h6 h7 h8 h9 => wsR3 hw h1 h2 h3 h4 h5 h6 h9, fun _ _ _ _ _ _ _ h1 h2 h3 h4 => wsR4 h1 h2 h3 h4, fun _ _ _ _ _ _ _ h1 h2 h3 h4 => wsR5 hW0 h1 h2 h3 h4, fun _ _ _ _ _ _ _ h1 h2 h3 h4 => wsR6 hW0 h1 h2 h3 h4, fun _ _ _ _ _ _ _ h1 h2 h3 h4 h5 h6 h7 h8 => wsR7 h1 h2 h3 h4 h5 h6 h7 h8, fun _ _ _ _ _ _ _ h1 h2 h3 h4 h5 h6 h7 h8 => wsR8 h1 h2 h3 h4 h5 h6 h7 h8⟩
end SM
theorem wssums {M0 M : am_M} {d : Nat} {f : am_M → Prop} {C W0 : List Int} {r : Nat} {b p en : Int} (hw : rw_all M0) (hW0 : hd_ (fun w => ¬ (1 ≤ w ∧ w ≤ 4)) W0) (hx : rx_ M0 M p en) (hs : wsk M C W0 r b) (hl : ((C.length + W0.length : Nat) : Int) < p) (h1 : ∀ k z, pz_sum (M0 153) (M0 152 3) (pz_part false (M0 153) (M0 152 3) r) p en = .error (k, z) → ∀ M', ru_ M0 M' k z → f M') (h2 : ∀ p1 en1 ds, pz_sum (M0 153) (M0 152 3) (pz_part false (M0 153) (M0 152 3) r) p en = .ok (p1, en1, ds) → ∀ M', rx_ M0 M' p1 en1 → wsk M' (C ++ ds) W0 r b → f M') : am_cal pg (d + 8) 205 [(2, 152)] sh_T M (am_cv sh_T f) := by
  obtain ⟨i1, i2, i3, i4, -⟩ := rx_in hx
  have a3 := hs.2.1.1
  have a7 := hs.2.2.2.1
  have t1 : ∀ x j, ¬ (x = 152 ∧ j = 44) → am_up M 152 44 (M 152 42) x j = M x j := fun x j y => am_up_el y
  have hx1 : rx_ M0 (am_up M 152 44 (M 152 42)) p en := by
    obtain ⟨g1, g2, g3, g4, g5⟩ := hx
    refine ⟨rp_tr g1 (fun x j a b c d f => t1 x j (by omega)), ⟨?_, ?_, ?_⟩, ?_, ?_, ?_⟩
    · rw [t1 152 3 (by omega)]; exact g2.1
    · rw [t1 152 2 (by omega)]; exact g2.2.1
    · rw [t1 152 2 (by omega), t1 152 3 (by omega)]; exact g2.2.2
    · show rd_at ((am_up M 152 44 (M 152 42)) 153) ((am_up M 152 44 (M 152 42)) 152 3) ((am_up M 152 44 (M 152 42)) 152 2) = p
      rw [t1 152 3 (by omega), t1 152 2 (by omega), show (am_up M 152 44 (M 152 42)) 153 = M 153 from funext fun j => t1 153 j (by omega)]
      exact g3
    · rw [t1 152 4 (by omega)]; exact g4
    · rw [t1 152 5 (by omega)]; exact g5
  have move : ∀ (N : am_M) (C' : List Int) (x b' : Int), wsk N C' W0 r b' → wsk (am_up N 152 44 x) C' W0 r x := fun N C' x b' hN => by
    obtain ⟨⟨a1, a2⟩, ⟨a3, a4⟩, ⟨a5, a6⟩, a7, a8⟩ := hN
    exact ⟨⟨(am_up_el (by omega)).trans a1, fun i hi => (am_up_el (by omega)).trans (a2 i hi)⟩, ⟨(am_up_el (by omega)).trans a3, fun i hi => (am_up_el (by omega)).trans (a4 i hi)⟩, ⟨(am_up_el (by omega)).trans a5, a6⟩, am_up_at, a8⟩
  have k1 : wsk (am_up M 152 44 (M 152 42)) C ([] ++ W0) r W0.length := by
    have := move M C (M 152 42) b hs
    rw [a3] at this ⊢
    exact this
  have R := wsrules (Q := am_cv sh_T f) (d := d) (v1 := M 152 44) hw hW0
  have hA := pm_sum R i4 (pz_part_g r) (pm_part R i4 r) (cs := C) (W := []) trivial (p := p) (en := en) i1 i2 i3 (by
    refine (?_ : pm_S _ _ _ _ _ _ _ _)
    generalize hg : pz_sum (M0 153) (M0 152 3) _ p en = x at h1 h2
    match x, h1, h2 with
    | .error (k, z), h1, _ =>
      intro N hN
      have g0 := hN.2.1.2.1
      have g1 := hN.2.1.2.2
      have e3 := (rp_t hN.1).2
      exact am_cv_i (h1 k z rfl _ (ru_fr hN (fun x j a b c d f => am_up_el (by omega)) (by rw [am_up_el (by omega)]; omega)))
    | .ok (p1, en1, ds), _, h2 =>
      intro ds1 U hd hU n1 n2 n3 n4
      refine wsE hU n1 n2 n3 n4 (fun N hN kN => am_cv_i (h2 p1 en1 ds rfl _ ?_ ?_))
      · obtain ⟨g1, g2, g3, g4, g5⟩ := hN
        have t2 : ∀ x j, ¬ (x = 152 ∧ j = 44) → am_up N 152 44 (M 152 44) x j = N x j := fun x j y => am_up_el y
        refine ⟨rp_tr g1 (fun x j a b c d f => t2 x j (by omega)), ⟨?_, ?_, ?_⟩, ?_, ?_, ?_⟩
        · rw [t2 152 3 (by omega)]; exact g2.1
        · rw [t2 152 2 (by omega)]; exact g2.2.1
        · rw [t2 152 2 (by omega), t2 152 3 (by omega)]; exact g2.2.2
        · show rd_at ((am_up N 152 44 (M 152 44)) 153) ((am_up N 152 44 (M 152 44)) 152 3) ((am_up N 152 44 (M 152 44)) 152 2) = p1
          rw [t2 152 3 (by omega), t2 152 2 (by omega), show (am_up N 152 44 (M 152 44)) 153 = N 153 from funext fun j => t2 153 j (by omega)]
          exact g3
        · rw [t2 152 4 (by omega)]; exact g4
        · rw [t2 152 5 (by omega)]; exact g5
      · have := move N _ (M 152 44) _ kN
        rw [a7, show C ++ ds1 ++ U = C ++ ds by rw [hd, List.append_assoc]] at this
        rw [a7]
        exact this)
  refine en_X12_sumsTold (bk_X12_sumsTold_0 (bk_X12_sumsTold_15 ⟨fun y => absurd y (by decide), fun _ => ⟨fun y => absurd hx1.2.2.2.2.1 y, fun _ => en_X12_onePart (bk_X12_onePart_0 (hA ?_ _ hx1 k1 ?_))⟩⟩))
  · exact fun w hw => by cases hw
  · show ((C.length + W0.length : Nat) : Int) < p
    exact hl
