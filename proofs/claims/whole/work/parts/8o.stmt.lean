/-! THE CLASS READS STATEMENTS, each kind -/
section DU
variable {M0 M : am_M} {c p en nb ng : Int} {T : tt_}
theorem xz_wrd {d : Nat} {f : am_M → Prop} {v1 k z : Int} {w : List Int} (hq : xq_ M0 c) (h : xz_ M0 M c k z) (hs : pg_str v1 = w) (hw : w ≠ [] ∧ (∀ c ∈ w, c ≠ 32) ∧ w.length ≤ 1000) (hf : ∀ M', xz_ M0 M' c k z → f M') : am_cal pg (d + 4) 109 [(2, 1), (2, v1)] sh_T M (am_cv sh_T f) := cf_wrd (xq_fr hq h.1).2.1 h.2 hs hw (fun M' m => hf M' (xz_cf h.1 m))
theorem xz_num {d : Nat} {f : Int → am_M → Prop} {g k z : Int} (hq : xq_ M0 c) (h : xz_ M0 M c k z) (hf : ∀ x M', xz_ M0 M' c k z → f x M') : am_cal pg (d + 3) 111 [(2, 1), (0, g)] sh_T M (am_c0 sh_T f) := cf_num (xq_fr hq h.1).2.1 h.2 (fun x M' m => hf x M' (xz_cf h.1 m))
theorem xs_num {d : Nat} {f : Int → am_M → Prop} {g : Int} (hq : xq_ M0 c) (h : xs_ M0 M c p en T nb ng) (h1 : ∀ k z, pr_num (M0 2) (M0 1 1) g p en = .error (k, z) → ∀ x M', xz_ M0 M' c k z → f x M') (h2 : ∀ p1 en1 w, pr_num (M0 2) (M0 1 1) g p en = .ok (p1, en1, w) → ∀ M', xs_ M0 M' c p1 en1 T nb ng → f w M') : am_cal pg (d + 3) 111 [(2, 1), (0, g)] sh_T M (am_c0 sh_T f) := by
  obtain ⟨et, ee⟩ := xs_t hq.1 h.1
  rw [← et, ← ee] at h1 h2
  exact ct_num (xq_fr hq h.1).2.1 h.2.1 (fun k z hx x M' m => h1 k z hx x M' (xz_cf h.1 m)) (fun p1 en1 w hx M' m => h2 p1 en1 w hx M' (xs_cs hq.1 h m))
theorem xs_wrd {d : Nat} {f : am_M → Prop} {v1 : Int} {w : List Int} {α : Type} {a : α} (hq : xq_ M0 c) (h : xs_ M0 M c p en T nb ng) (hs : pg_str v1 = w) (hw : w ≠ [] ∧ (∀ c ∈ w, c ≠ 32) ∧ w.length ≤ 1000) (h1 : ∀ k z, pr_wrd (M0 2) (M0 1 1) w a p en = .error (k, z) → ∀ M', xz_ M0 M' c k z → f M') (h2 : ∀ p1 en1, pr_wrd (M0 2) (M0 1 1) w a p en = .ok (p1, en1, a) → ∀ M', xs_ M0 M' c p1 en1 T nb ng → f M') : am_cal pg (d + 4) 109 [(2, 1), (2, v1)] sh_T M (am_cv sh_T f) := by
  obtain ⟨et, ee⟩ := xs_t hq.1 h.1
  rw [← et, ← ee] at h1 h2
  exact ct_wrd (a := a) (xq_fr hq h.1).2.1 h.2.1 hs hw (fun k z hx M' m => h1 k z hx M' (xz_cf h.1 m)) (fun p1 en1 hx M' m => h2 p1 en1 hx M' (xs_cs hq.1 h m))
/-- what reading gives, for the class's dream -/
def ch_ (M0 : am_M) (c : Int) (f : am_M → Prop) (x : pr_ tt_) : Prop := match x with
  | .error (k, z) => ∀ M', xz_ M0 M' c k z → f M'
  | .ok (p1, en1, T1) => ∀ M', xs_ M0 M' c p1 en1 T1 ((tN T1 1).length : Int) ((tN T1 2).length : Int) → f M'
theorem ch_b {α : Type} {f : am_M → Prop} {x : pr_ α} {g : Int → Int → α → pr_ tt_} (h : ch_ M0 c f (pr_b x g)) : (∀ k z, x = .error (k, z) → ∀ M', xz_ M0 M' c k z → f M') ∧ ∀ p1 en1 a, x = .ok (p1, en1, a) → ch_ M0 c f (g p1 en1 a) := by
  match x, h with
  | .error (k, z), h => exact ⟨fun k' z' hx => (by cases hx; exact h), fun p1 en1 a hx => (by cases hx)⟩
  | .ok (p1, en1, a), h => exact ⟨fun k' z' hx => (by cases hx), fun p1' en1' a' hx => (by cases hx; exact h)⟩
theorem st_brave {d : Nat} {f : am_M → Prop} {a v : Int} (hc : dr_is c) (h1 : 0 ≤ a → a < 4 → f (am_up M (c + 3) a v)) (h2 : ¬ (0 ≤ a ∧ a < 4) → f M) : am_cal pg (d + 1) 21 [(2, c), (0, a), (0, v)] sh_T M (am_cv sh_T f) := by
  obtain ⟨⟨ob, -⟩, -, -, ⟨a1, a2⟩, -⟩ := dr_sh_of hc
  exact en_X2_brave (bk_X2_brave_0 ⟨fun z => am_cv_i (h2 (by omega)), fun z => ⟨ob, 4, a1, fun z2 => am_cv_i (h2 (by omega)), fun z2 => ⟨(a2 _ z z2).2, am_cv_i (h1 z z2)⟩⟩⟩)
theorem st_lead {d : Nat} {f : am_M → Prop} {a v : Int} (hc : dr_is c) (h1 : 0 ≤ a → a < 4 → f (am_up M (c + 5) a v)) (h2 : ¬ (0 ≤ a ∧ a < 4) → f M) : am_cal pg (d + 1) 23 [(2, c), (0, a), (0, v)] sh_T M (am_cv sh_T f) := by
  obtain ⟨⟨ob, -⟩, -, -, -, -, ⟨a1, a2⟩, -⟩ := dr_sh_of hc
  exact en_X2_lead (bk_X2_lead_0 ⟨fun z => am_cv_i (h2 (by omega)), fun z => ⟨ob, 4, a1, fun z2 => am_cv_i (h2 (by omega)), fun z2 => ⟨(a2 _ z z2).2, am_cv_i (h1 z z2)⟩⟩⟩)
theorem st_fear {d : Nat} {f : am_M → Prop} {a b v : Int} (hc : dr_is c) (ha : -1 ≤ a ∧ a < 4) (hb : -1 ≤ b ∧ b < 6) (h1 : 0 ≤ a → 0 ≤ b → f (am_up M (c + 4) (6 * a + b) v)) (h2 : ¬ (0 ≤ a ∧ 0 ≤ b) → f M) : am_cal pg (d + 1) 22 [(2, c), (0, a), (0, b), (0, v)] sh_T M (am_cv sh_T f) := by
  obtain ⟨⟨ob, -⟩, -, -, -, ⟨a1, a2⟩, -⟩ := dr_sh_of hc
  rw [show 6 * a = a * 6 by omega] at h1
  exact en_X2_fear (bk_X2_fear_0 ⟨⟨by omega, by omega⟩, ⟨by omega, by omega⟩, fun z => am_cv_i (h2 (by omega)), fun z => ⟨fun z2 => am_cv_i (h2 (by omega)), fun z2 => ⟨fun z3 => by omega, fun _ => ⟨ob, 24, a1, fun z3 => by omega, fun z3 => ⟨(a2 _ (by omega) z3).2, am_cv_i (h1 z z2)⟩⟩⟩⟩⟩)
theorem xs_brave {v : Int} (hc : dr_is c) (h : xs_ M0 M c p en T nb ng) : xs_ M0 (am_up M (c + 3) nb v) c p en (aB T nb v) (nb + 1) ng := by
  obtain ⟨q1, q2, ⟨⟨q3, q3'⟩, q4, q5, q6, ⟨q7, q8, q9⟩, q10⟩⟩ := h
  unfold dr_is at hc
  refine ⟨xf_tr q1 (fun x j x1 x2 => am_up_el (by omega)), cs_mv q2 (fun j => am_up_el (by omega)) (fun j => am_up_el (by omega)) (am_up_el (by omega)) (fun j => am_up_el (by omega)), ⟨fun k k0 k1 => ?_, fun k k0 k1 i j i1 j1 => ?_⟩, fun a x y => ?_, fun j x y => ?_, fun g x y => ?_, ⟨?_, ?_, ?_⟩, fun k k0 k1 => ?_⟩
  · rw [am_up_el (by omega)]; exact q3 k k0 k1
  · rw [am_up_el (by omega)]; exact q3' k k0 k1 i j i1 j1
  · show _ = if a = nb then v else tBr T a
    by_cases z : a = nb
    · rw [if_pos z, z, am_up_at]
    · rw [if_neg z, am_up_el (by omega)]; exact q4 a x (by omega)
  · rw [am_up_el (by omega)]; exact q5 j x y
  · rw [am_up_el (by omega)]; exact q6 g x y
  · rw [am_up_el (by omega)]; exact q7
  · rw [am_up_el (by omega)]; exact q8
  · rw [am_up_el (by omega)]; exact q9
  · rw [am_up_el (by omega), am_up_el (by omega)]; exact q10 k k0 k1
theorem xs_lead {v : Int} (hc : dr_is c) (h : xs_ M0 M c p en T nb ng) : xs_ M0 (am_up M (c + 5) ng v) c p en (aG T ng v) nb (ng + 1) := by
  obtain ⟨q1, q2, ⟨⟨q3, q3'⟩, q4, q5, q6, ⟨q7, q8, q9⟩, q10⟩⟩ := h
  unfold dr_is at hc
  refine ⟨xf_tr q1 (fun x j x1 x2 => am_up_el (by omega)), cs_mv q2 (fun j => am_up_el (by omega)) (fun j => am_up_el (by omega)) (am_up_el (by omega)) (fun j => am_up_el (by omega)), ⟨fun k k0 k1 => ?_, fun k k0 k1 i j i1 j1 => ?_⟩, fun a x y => ?_, fun j x y => ?_, fun g x y => ?_, ⟨?_, ?_, ?_⟩, fun k k0 k1 => ?_⟩
  · rw [am_up_el (by omega)]; exact q3 k k0 k1
  · rw [am_up_el (by omega)]; exact q3' k k0 k1 i j i1 j1
  · rw [am_up_el (by omega)]; exact q4 a x y
  · rw [am_up_el (by omega)]; exact q5 j x y
  · show _ = if g = ng then v else tGu T g
    by_cases z : g = ng
    · rw [if_pos z, z, am_up_at]
    · rw [if_neg z, am_up_el (by omega)]; exact q6 g x (by omega)
  · rw [am_up_el (by omega)]; exact q7
  · rw [am_up_el (by omega)]; exact q8
  · rw [am_up_el (by omega)]; exact q9
  · rw [am_up_el (by omega), am_up_el (by omega)]; exact q10 k k0 k1
theorem xs_fear {v i : Int} (hc : dr_is c) (h : xs_ M0 M c p en T nb ng) : xs_ M0 (am_up M (c + 4) i v) c p en (aF T i v) nb ng := by
  obtain ⟨q1, q2, ⟨⟨q3, q3'⟩, q4, q5, q6, ⟨q7, q8, q9⟩, q10⟩⟩ := h
  unfold dr_is at hc
  refine ⟨xf_tr q1 (fun x j x1 x2 => am_up_el (by omega)), cs_mv q2 (fun j => am_up_el (by omega)) (fun j => am_up_el (by omega)) (am_up_el (by omega)) (fun j => am_up_el (by omega)), ⟨fun k k0 k1 => ?_, fun k k0 k1 i j i1 j1 => ?_⟩, fun a x y => ?_, fun j x y => ?_, fun g x y => ?_, ⟨?_, ?_, ?_⟩, fun k k0 k1 => ?_⟩
  · rw [am_up_el (by omega)]; exact q3 k k0 k1
  · rw [am_up_el (by omega)]; exact q3' k k0 k1 i j i1 j1
  · rw [am_up_el (by omega)]; exact q4 a x y
  · show _ = if j = i then v else tFe T j
    by_cases z : j = i
    · rw [if_pos z, z, am_up_at]
    · rw [if_neg z, am_up_el (by omega)]; exact q5 j x y
  · rw [am_up_el (by omega)]; exact q6 g x y
  · rw [am_up_el (by omega)]; exact q7
  · rw [am_up_el (by omega)]; exact q8
  · rw [am_up_el (by omega)]; exact q9
  · rw [am_up_el (by omega), am_up_el (by omega)]; exact q10 k k0 k1
theorem xs_w {v k : Int} (hc : dr_is c) (hk : 0 ≤ k ∧ k < 3) (h : xs_ M0 M c p en T nb ng) : xs_ M0 (am_up M c (5 + k) v) c p en (aW T k v) nb ng := by
  obtain ⟨q1, q2, ⟨⟨q3, q3'⟩, q4, q5, q6, ⟨q7, q8, q9⟩, q10⟩⟩ := h
  unfold dr_is at hc
  have w : am_up M c (5 + k) v c 5 = tHo (aW T k v) ∧ am_up M c (5 + k) v c 6 = tLa (aW T k v) ∧ am_up M c (5 + k) v c 7 = tSp (aW T k v) := by
    rcases (show k = 0 ∨ k = 1 ∨ k = 2 by omega) with rfl | rfl | rfl
    · exact ⟨am_up_at, (am_up_el (by omega)).trans q8, (am_up_el (by omega)).trans q9⟩
    · exact ⟨(am_up_el (by omega)).trans q7, am_up_at, (am_up_el (by omega)).trans q9⟩
    · exact ⟨(am_up_el (by omega)).trans q7, (am_up_el (by omega)).trans q8, am_up_at⟩
  refine ⟨xf_tr q1 (fun x j x1 x2 => am_up_el (by omega)), cs_mv q2 (fun j => am_up_el (by omega)) (fun j => am_up_el (by omega)) (am_up_el (by omega)) (fun j => am_up_el (by omega)), ⟨fun k k0 k1 => ?_, fun k k0 k1 i j i1 j1 => ?_⟩, fun a x y => ?_, fun j x y => ?_, fun g x y => ?_, w, fun k k0 k1 => ?_⟩
  · rw [am_up_el (by omega)]; exact q3 k k0 k1
  · rw [am_up_el (by omega)]; exact q3' k k0 k1 i j i1 j1
  · rw [am_up_el (by omega)]; exact q4 a x y
  · rw [am_up_el (by omega)]; exact q5 j x y
  · rw [am_up_el (by omega)]; exact q6 g x y
  · rw [am_up_el (by omega), am_up_el (by omega)]; exact q10 k k0 k1
theorem len_aN {k : Int} {n : List Int} (hk : 0 ≤ k ∧ k < 3) : ((tN (aN T k n) k).length : Int) = ((tN T k).length : Int) + 1 := by
  rw [tN_aN hk hk, if_pos rfl, List.length_append, List.length_singleton]; omega
/-- a dreamer -/
theorem ct_dreamer {d : Nat} {f : am_M → Prop} (hq : xq_ M0 c) (hT : tkn_ T) (hroom : (tN T 1).length < 4) (h : xs_ M0 M c p en T ((tN T 1).length : Int) ((tN T 2).length : Int)) (hf : ch_ M0 c f (pz_do (M0 2) (M0 1 1) T 2 p en)) : am_cal pg (d + 5) 40 [(2, 4), (2, c)] sh_T M (am_cv sh_T f) := by
  have hc := hq.1
  have hob := (dr_sh_of hc).1.1
  have hf : ch_ M0 c f (pr_b (pz_new (M0 2) (M0 1 1) T p en) (fun p1 en1 n => pr_b (pr_wrd (M0 2) (M0 1 1) w_brave n p1 en1) (fun p2 en2 n => pr_b (pr_num (M0 2) (M0 1 1) 9 p2 en2) (fun p3 en3 v => .ok (p3, en3, aN (aB T (tN T 1).length v) 1 n))))) := hf
  obtain ⟨e1, k1⟩ := ch_b hf
  -- behind a fault
  have zbrave : ∀ M3 (a v k z : Int), xz_ M0 M3 c k z → (∀ M', xz_ M0 M' c k z → f M') → am_cal pg (d + 4) 21 [(2, c), (0, a), (0, v)] sh_T M3 (am_cv sh_T fun M5 => am_cv sh_T f (none, sh_T, M5)) := fun M3 a v k z m hf => st_brave hc (fun _ _ => am_cv_i (hf _ (xz_up hc m (by omega)))) (fun _ => am_cv_i (hf _ m))
  have znum : ∀ M2 (a k z : Int), xz_ M0 M2 c k z → (∀ M', xz_ M0 M' c k z → f M') → am_cal pg (d + 4) 111 [(2, 1), (0, 9)] sh_T M2 (am_c0 sh_T fun x3 M3 => am_ob sh_T 2 c ∧ am_cal pg (d + 4) 21 [(2, c), (0, a), (0, x3)] sh_T M3 (am_cv sh_T fun M5 => am_cv sh_T f (none, sh_T, M5))) := fun M2 a k z m hf => xz_num hq m (fun x M3 m3 => ⟨hob, zbrave M3 a x k z m3 hf⟩)
  refine en_X3_readDreamer (bk_X3_readDreamer_0 (ct_new hq (by decide) hT (by show ((tN T 1).length : Int) < fst_ (1 + 1) - fst_ 1; rw [show fst_ (1 + 1) - fst_ 1 = 4 by decide]; omega) h (fun k z hx M1 m1 => xz_wrd hq m1 sw_1.1 sw_1.2 (fun M2 m2 => znum M2 (-1) k z m2 (e1 k z hx))) (fun p1 en1 n hx M1 m1 => ?_)))
  obtain ⟨e2, k2⟩ := ch_b (k1 p1 en1 n hx)
  refine xs_wrd (a := n) hq m1 sw_1.1 sw_1.2 (fun k z hx2 M2 m2 => znum M2 _ k z m2 (e2 k z hx2)) (fun p2 en2 hx2 M2 m2 => ?_)
  obtain ⟨e3, k3⟩ := ch_b (k2 p2 en2 n hx2)
  refine xs_num hq m2 (fun k z hx3 x M3 m3 => ⟨hob, zbrave M3 _ x k z m3 (e3 k z hx3)⟩) (fun p3 en3 v hx3 M3 m3 => ⟨hob, st_brave hc (fun _ _ => am_cv_i (k3 p3 en3 v hx3 _ ?_)) (fun y => absurd ⟨by omega, by omega⟩ y)⟩)
  have r := xs_brave (v := v) hc m3
  rw [show ((tN (aN (aB T (tN T 1).length v) 1 n) 1).length : Int) = ((tN T 1).length : Int) + 1 from len_aN (T := aB T (tN T 1).length v) (by decide)]
  exact r
theorem ct_fears {d : Nat} {f : am_M → Prop} (hq : xq_ M0 c) (hT : tkn_ T) (h : xs_ M0 M c p en T ((tN T 1).length : Int) ((tN T 2).length : Int)) (hf : ch_ M0 c f (pz_do (M0 2) (M0 1 1) T 3 p en)) : am_cal pg (d + 5) 41 [(2, 4), (2, c)] sh_T M (am_cv sh_T f) := by
  have hc := hq.1
  have hob := (dr_sh_of hc).1.1
  have hl := hT.2
  have hf : ch_ M0 c f (pr_b (pz_known (M0 2) (M0 1 1) T 1 p en) (fun p1 en1 a => pr_b (pz_known (M0 2) (M0 1 1) T 0 p1 en1) (fun p2 en2 b => pr_b (pr_num (M0 2) (M0 1 1) 999 p2 en2) (fun p3 en3 v => .ok (p3, en3, aF T (6 * a + b) v))))) := hf
  obtain ⟨e1, k1⟩ := ch_b hf
  have zfear : ∀ M3 (a b v k z : Int), (-1 ≤ a ∧ a < 4) → (-1 ≤ b ∧ b < 6) → xz_ M0 M3 c k z → (∀ M', xz_ M0 M' c k z → f M') → am_cal pg (d + 4) 22 [(2, c), (0, a), (0, b), (0, v)] sh_T M3 (am_cv sh_T fun M5 => am_cv sh_T f (none, sh_T, M5)) := fun M3 a b v k z ha hb m hf => st_fear hc ha hb (fun _ _ => am_cv_i (hf _ (xz_up hc m (by omega)))) (fun _ => am_cv_i (hf _ m))
  have znum : ∀ M2 (a b k z : Int), (-1 ≤ a ∧ a < 4) → (-1 ≤ b ∧ b < 6) → xz_ M0 M2 c k z → (∀ M', xz_ M0 M' c k z → f M') → am_cal pg (d + 4) 111 [(2, 1), (0, 999)] sh_T M2 (am_c0 sh_T fun x3 M3 => am_ob sh_T 2 c ∧ am_cal pg (d + 4) 22 [(2, c), (0, a), (0, b), (0, x3)] sh_T M3 (am_cv sh_T fun M5 => am_cv sh_T f (none, sh_T, M5))) := fun M2 a b k z ha hb m hf => xz_num hq m (fun x M3 m3 => ⟨hob, zfear M3 a b x k z ha hb m3 hf⟩)
  refine en_X3_readFears (bk_X3_readFears_0 (ct_known hq (by decide) hT h (fun k z hx M1 m1 => xz_known m1 (znum M1 (-1) (-1) k z (by decide) (by decide) m1 (e1 k z hx))) (fun p1 en1 a hx M1 m1 => ?_)))
  have ha := pz_known_o hx
  obtain ⟨e2, k2⟩ := ch_b (k1 p1 en1 a hx)
  refine ct_known hq (by decide) hT m1 (fun k z hx2 M2 m2 => znum M2 a (-1) k z ⟨by omega, by omega⟩ (by decide) m2 (e2 k z hx2)) (fun p2 en2 b hx2 M2 m2 => ?_)
  have hb := pz_known_o hx2
  obtain ⟨e3, k3⟩ := ch_b (k2 p2 en2 b hx2)
  exact xs_num hq m2 (fun k z hx3 x M3 m3 => ⟨hob, zfear M3 a b x k z ⟨by omega, by omega⟩ ⟨by omega, by omega⟩ m3 (e3 k z hx3)⟩) (fun p3 en3 v hx3 M3 m3 => ⟨hob, st_fear hc ⟨by omega, by omega⟩ ⟨by omega, by omega⟩ (fun _ _ => am_cv_i (k3 p3 en3 v hx3 _ (xs_fear hc m3))) (fun y => absurd ⟨by omega, by omega⟩ y)⟩)
theorem ct_guide {d : Nat} {f : am_M → Prop} (hq : xq_ M0 c) (hT : tkn_ T) (hroom : (tN T 2).length < 4) (h : xs_ M0 M c p en T ((tN T 1).length : Int) ((tN T 2).length : Int)) (hf : ch_ M0 c f (pz_do (M0 2) (M0 1 1) T 4 p en)) : am_cal pg (d + 5) 42 [(2, 4), (2, c)] sh_T M (am_cv sh_T f) := by
  have hc := hq.1
  have hob := (dr_sh_of hc).1.1
  have hf : ch_ M0 c f (pr_b (pz_new (M0 2) (M0 1 1) T p en) (fun p1 en1 n => pr_b (pr_wrd (M0 2) (M0 1 1) w_of n p1 en1) (fun p2 en2 n => pr_b (pz_known (M0 2) (M0 1 1) T 0 p2 en2) (fun p3 en3 b => .ok (p3, en3, aN (aG T (tN T 2).length b) 2 n))))) := hf
  obtain ⟨e1, k1⟩ := ch_b hf
  have zlead : ∀ M3 (a v k z : Int), xz_ M0 M3 c k z → (∀ M', xz_ M0 M' c k z → f M') → am_cal pg (d + 4) 23 [(2, c), (0, a), (0, v)] sh_T M3 (am_cv sh_T fun M5 => am_cv sh_T f (none, sh_T, M5)) := fun M3 a v k z m hf => st_lead hc (fun _ _ => am_cv_i (hf _ (xz_up hc m (by omega)))) (fun _ => am_cv_i (hf _ m))
  have zknown : ∀ M2 (a k z : Int), xz_ M0 M2 c k z → (∀ M', xz_ M0 M' c k z → f M') → am_cal pg (d + 4) 45 [(2, 4), (2, c), (0, 0)] sh_T M2 (am_c0 sh_T fun x3 M3 => am_ob sh_T 2 c ∧ am_cal pg (d + 4) 23 [(2, c), (0, a), (0, x3)] sh_T M3 (am_cv sh_T fun M5 => am_cv sh_T f (none, sh_T, M5))) := fun M2 a k z m hf => xz_known m ⟨hob, zlead M2 a (-1) k z m hf⟩
  refine en_X3_readGuide (bk_X3_readGuide_0 (ct_new hq (by decide) hT (by show ((tN T 2).length : Int) < fst_ (2 + 1) - fst_ 2; rw [show fst_ (2 + 1) - fst_ 2 = 4 by decide]; omega) h (fun k z hx M1 m1 => xz_wrd hq m1 sw_2.1 sw_2.2 (fun M2 m2 => zknown M2 (-1) k z m2 (e1 k z hx))) (fun p1 en1 n hx M1 m1 => ?_)))
  obtain ⟨e2, k2⟩ := ch_b (k1 p1 en1 n hx)
  refine xs_wrd (a := n) hq m1 sw_2.1 sw_2.2 (fun k z hx2 M2 m2 => zknown M2 _ k z m2 (e2 k z hx2)) (fun p2 en2 hx2 M2 m2 => ?_)
  obtain ⟨e3, k3⟩ := ch_b (k2 p2 en2 n hx2)
  have hn := (pr_name_o (pz_new_o hx).1).1
  have hT' : tkn_ (aN T 2 n) := by
    refine ⟨fun k k0 k1 x hx => ?_, ?_, ?_, ?_⟩
    · rw [tN_aN (by decide) ⟨k0, k1⟩] at hx
      by_cases y : k = 2
      · rw [if_pos y] at hx
        rcases List.mem_append.mp hx with q | q
        · exact hT.1 k k0 k1 x q
        · rw [List.mem_singleton] at q; rw [q]; exact hn
      · rw [if_neg y] at hx
        exact hT.1 k k0 k1 x hx
    · exact hT.2.1
    · exact hT.2.2.1
    · rw [tN_aN (by decide) (by decide), if_pos rfl, List.length_append, List.length_singleton]; omega
  have e0 : pz_known (M0 2) (M0 1 1) (aN T 2 n) 0 p2 en2 = pz_known (M0 2) (M0 1 1) T 0 p2 en2 := rfl
  refine ct_known hq (by decide) hT' m2 (fun k z hx3 M3 m3 => ⟨hob, zlead M3 _ (-1) k z m3 (e3 k z (e0 ▸ hx3))⟩) (fun p3 en3 b hx3 M3 m3 => ⟨hob, st_lead hc (fun _ _ => am_cv_i (k3 p3 en3 b (e0 ▸ hx3) _ ?_)) (fun y => absurd ⟨by omega, by omega⟩ y)⟩)
  have r := xs_lead (v := b) hc m3
  rw [show ((tN (aN (aG T (tN T 2).length b) 2 n) 2).length : Int) = ((tN T 2).length : Int) + 1 from len_aN (T := aG T (tN T 2).length b) (by decide)]
  exact r
theorem ct_sumof {d : Nat} {f : am_M → Prop} {k : Int} (hq : xq_ M0 c) (hk : 0 ≤ k ∧ k < 3) (hlen : ((tC T).length : Int) ≤ p) (h : xs_ M0 M c p en T ((tN T 1).length : Int) ((tN T 2).length : Int)) (hf : ch_ M0 c f (pz_do (M0 2) (M0 1 1) T (k + 5) p en)) : am_cal pg (d + 43) 43 [(2, 4), (2, c), (0, k)] sh_T M (am_cv sh_T f) := by
  have hc := hq.1
  obtain ⟨⟨ob, ob6⟩, -, -, -, -, -, ⟨-, a2⟩, ⟨-, b2⟩⟩ := dr_sh_of hc
  have hdo : pz_do (M0 2) (M0 1 1) T (k + 5) p en = pr_b (pz_sum (M0 2) (M0 1 1) (pz_part false (M0 2) (M0 1 1) 6) p en) (fun p1 en1 ds => .ok (p1, en1, aS T k ds)) := by
    rcases (show k = 0 ∨ k = 1 ∨ k = 2 by omega) with rfl | rfl | rfl <;> rfl
  rw [hdo] at hf
  obtain ⟨e1, k1⟩ := ch_b hf
  obtain ⟨et, ee⟩ := xs_t hc h.1
  have e61 : M (c + 6) 1 = ((tC T).length : Int) := h.2.1.2.2.2.1
  have hqM := xq_fr hq h.1
  have mark : ∀ (M3 : am_M), f (am_up (am_up M3 (c + 11) k ((tC T).length : Int)) (c + 12) k (M3 (c + 6) 1)) → am_cal pg (d + 42) 25 [(2, c), (0, k), (0, M (c + 6) 1)] sh_T M3 (am_cv sh_T fun M4 => am_cv sh_T f (none, sh_T, M4)) := fun M3 hf => by
    refine en_X2_markSum (bk_X2_markSum_0 ⟨fun z => by omega, fun _ => ⟨fun z => by omega, fun _ => ⟨ob, (a2 k hk.1 (by have := hk.2; omega)).2, ob6, (b2 k hk.1 (by have := hk.2; omega)).2, am_cv_i (am_cv_i ?_)⟩⟩⟩)
    rw [am_up_el (by omega), e61]
    exact hf
  have top := cm_top hqM.2.1 6 (Nat.le_refl _)
  refine en_X3_readSum (bk_X3_readSum_0 ⟨ob, ob6, top M p en (tC T) _ _ h.2.1 hlen (by omega) (ck_mk (fun k2 z hx M3 m3 => mark M3 ?_) (fun p1 en1 ds hx M3 m3 => mark M3 ?_))⟩)
  · rw [et, ee] at hx
    exact e1 k2 z hx _ (xz_up hc (xz_up hc (xz_cf h.1 m3) (by omega)) (by omega))
  · rw [et, ee] at hx
    have hcc := hc
    unfold dr_is at hcc
    obtain ⟨⟨q3, q3'⟩, q4, q5, q6, ⟨q7, q8, q9⟩, q10⟩ := td_fr hc m3.1 h.2.2
    refine k1 p1 en1 ds hx _ ⟨xf_tr (xf_tr h.1 (xf_cs m3.1)) (fun x j x1 x2 => by rw [am_up_el (by omega), am_up_el (by omega)]), cs_mv (cs_self m3) (fun j => by rw [am_up_el (by omega), am_up_el (by omega)]) (fun j => by rw [am_up_el (by omega), am_up_el (by omega)]) (by rw [am_up_el (by omega), am_up_el (by omega)]) (fun j => by rw [am_up_el (by omega), am_up_el (by omega)]), ⟨fun k k0 k1 => ?_, fun k k0 k1 i j i1 j1 => ?_⟩, fun a x y => ?_, fun j x y => ?_, fun g x y => ?_, ⟨?_, ?_, ?_⟩, fun w w0 w1 => ?_⟩
    · rw [am_up_el (by omega), am_up_el (by omega)]; exact q3 k k0 k1
    · rw [am_up_el (by omega), am_up_el (by omega)]; exact q3' k k0 k1 i j i1 j1
    · rw [am_up_el (by omega), am_up_el (by omega)]; exact q4 a x y
    · rw [am_up_el (by omega), am_up_el (by omega)]; exact q5 j x y
    · rw [am_up_el (by omega), am_up_el (by omega)]; exact q6 g x y
    · rw [am_up_el (by omega), am_up_el (by omega)]; exact q7
    · rw [am_up_el (by omega), am_up_el (by omega)]; exact q8
    · rw [am_up_el (by omega), am_up_el (by omega)]; exact q9
    · show ((if w = k then some ((tC T).length, (tC T).length + ds.length) else tS T w) = none ∧ _) ∨ ∃ f g : Nat, (if w = k then some ((tC T).length, (tC T).length + ds.length) else tS T w) = some (f, g) ∧ _
      by_cases z : w = k
      · rw [if_pos z, z]
        refine Or.inr ⟨_, _, rfl, ?_, ?_⟩
        · rw [am_up_el (by omega), am_up_at]
        · rw [am_up_at, m3.2.2.2.1, List.length_append]
      · rw [if_neg z, am_up_el (by omega), am_up_el (by omega), am_up_el (by omega), am_up_el (by omega)]
        exact q10 w w0 w1
end DU
