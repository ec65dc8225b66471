/-! THE CLASS READS STATEMENTS -/
section DS
variable {M0 M : am_M} {c p en nb ng : Int} {T : tt_}
/-- what it stands on, of the text -/
theorem xs_t (hc : dr_is c) (h : xf_ c M0 M) : M 2 = M0 2 ∧ M 1 1 = M0 1 1 := by
  unfold dr_is at hc
  exact ⟨funext fun j => h 2 j (by omega) (by omega), h 1 1 (by omega) (by omega)⟩
theorem xz_known {d : Nat} {f : Int → am_M → Prop} {k z x : Int} (h : xz_ M0 M c k z) (hf : f (-1) M) : am_cal pg (d + 4) 45 [(2, 4), (2, c), (0, x)] sh_T M (am_c0 sh_T f) :=
  en_X3_readKnownName (bk_X3_readKnownName_0 (cf_failed h.2 ⟨fun _ => am_c0_i hf, fun y => absurd y (by decide)⟩))
theorem xz_new {d : Nat} {f : Int → am_M → Prop} {k z x : Int} (h : xz_ M0 M c k z) (hf : f (-1) M) : am_cal pg (d + 4) 44 [(2, 4), (2, c), (0, x)] sh_T M (am_c0 sh_T f) :=
  en_X3_readNewName (bk_X3_readNewName_0 (cf_failed h.2 ⟨fun _ => am_c0_i hf, fun y => absurd y (by decide)⟩))
theorem ct_known {d : Nat} {f : Int → am_M → Prop} {k : Int} (hq : xq_ M0 c) (hk : 0 ≤ k ∧ k < 3) (hT : tkn_ T) (h : xs_ M0 M c p en T nb ng) (h1 : ∀ e z, pz_known (M0 2) (M0 1 1) T k p en = .error (e, z) → ∀ M', xz_ M0 M' c e z → f (-1) M') (h2 : ∀ p1 en1 a, pz_known (M0 2) (M0 1 1) T k p en = .ok (p1, en1, a) → ∀ M', xs_ M0 M' c p1 en1 T nb ng → f a M') : am_cal pg (d + 4) 45 [(2, 4), (2, c), (0, k)] sh_T M (am_c0 sh_T f) := by
  have hc := hq.1
  have hqM := xq_fr hq h.1
  obtain ⟨et, ee⟩ := xs_t hc h.1
  unfold pz_known at h1 h2
  refine en_X3_readKnownName (bk_X3_readKnownName_0 (ct_failed h.2.1 ⟨fun y => absurd rfl y, fun _ => ct_name hqM.2.1 h.2.1 (fun e z hx M1 m1 => ⟨fun y => absurd rfl y, fun _ => am_c0_i ?_⟩) (fun p1 en1 n hx M1 m1 hn h16 => ⟨fun _ => ⟨(dr_sh_of hc).1.1, ?_⟩, fun y => absurd y (by decide)⟩)⟩))
  · rw [et, ee] at hx
    rw [hx] at h1
    exact h1 e z rfl M1 (xz_cf h.1 m1)
  · rw [et, ee] at hx
    rw [hx] at h1 h2
    have s1 := xs_cs hc h m1
    refine st_findName hc hk (xq_fr hq s1.1).2.2 s1.2.2.1 hT hn ⟨fun y => am_c0_i ?_, fun y => ?_⟩
    · exact h2 p1 en1 _ (if_neg y) M1 s1
    · rw [h16]
      refine st_blame (am_c0_i ?_)
      rw [y]
      exact h1 3 p (if_pos y) _ (xz_cf s1.1 (cs_bl (xq_fr hq s1.1).2.1 s1.2.1 (by decide)))
theorem nn_bl {k z : Int} {n : List Int} (h : nn_ M n) : nn_ (tx_bl M k z) n := by
  obtain ⟨h1, h2, h3, h4, h5, h6⟩ := h
  unfold tx_bl
  by_cases y : M 1 3 = 0
  · rw [if_pos y]
    have t2 : (am_up (am_up M 1 3 k) 1 4 z) 2 = M 2 := funext fun j => by rw [am_up_el (by omega), am_up_el (by omega)]
    have t : ∀ j, ¬ j = 3 → ¬ j = 4 → (am_up (am_up M 1 3 k) 1 4 z) 1 j = M 1 j := fun j j1 j2 => by rw [am_up_el (by omega), am_up_el (by omega)]
    refine ⟨h1, ?_, ?_, ?_, ?_, fun j hj => ?_⟩
    · rw [t 7 (by decide) (by decide)]; exact h2
    · rw [t 6 (by decide) (by decide)]; exact h3
    · rw [t 6 (by decide) (by decide)]; exact h4
    · rw [t 1 (by decide) (by decide)]; exact h5
    · rw [t2, t 1 (by decide) (by decide), t 6 (by decide) (by decide)]; exact h6 j hj
  · rw [if_neg y]; exact ⟨h1, h2, h3, h4, h5, h6⟩
theorem ct_new {d : Nat} {f : Int → am_M → Prop} {k : Int} (hq : xq_ M0 c) (hk : 0 ≤ k ∧ k < 3) (hT : tkn_ T) (hroom : ((tN T k).length : Int) < fst_ (k + 1) - fst_ k) (h : xs_ M0 M c p en T nb ng) (h1 : ∀ e z, pz_new (M0 2) (M0 1 1) T p en = .error (e, z) → ∀ M', xz_ M0 M' c e z → f (-1) M') (h2 : ∀ p1 en1 n, pz_new (M0 2) (M0 1 1) T p en = .ok (p1, en1, n) → ∀ M', xs_ M0 M' c p1 en1 (aN T k n) nb ng → f ((tN T k).length : Int) M') : am_cal pg (d + 4) 44 [(2, 4), (2, c), (0, k)] sh_T M (am_c0 sh_T f) := by
  have hc := hq.1
  have hqM := xq_fr hq h.1
  have hob := (dr_sh_of hc).1.1
  obtain ⟨et, ee⟩ := xs_t hc h.1
  unfold pz_new at h1 h2
  refine en_X3_readNewName (bk_X3_readNewName_0 (ct_failed h.2.1 ⟨fun y => absurd rfl y, fun _ => ct_name hqM.2.1 h.2.1 (fun e z hx M1 m1 => ⟨fun y => absurd rfl y, fun _ => am_c0_i ?_⟩) (fun p1 en1 n hx M1 m1 hn h16 => ⟨fun _ => ?_, fun y => absurd y (by decide)⟩)⟩))
  · rw [et, ee] at hx
    rw [hx] at h1
    exact h1 e z rfl M1 (xz_cf h.1 m1)
  · rw [et, ee] at hx
    rw [hx] at h1 h2
    have s1 := xs_cs hc h m1
    have hqM1 := xq_fr hq s1.1
    -- it is known
    have hz : ¬ (fn_ (tN T 0) n 0 = -1 ∧ fn_ (tN T 1) n 0 = -1 ∧ fn_ (tN T 2) n 0 = -1) → ∀ (m i : Nat), i + m = 3 → am_g 3 0 co_X3_readNewName (d + 3) (am_c0 sh_T f) 24 [(2, 4), (2, c), (0, k), (0, (i : Int))] [] sh_T (tx_bl M1 3 p) := fun bad => by
      have b1 : cf_ M1 (tx_bl M1 3 p) (c + 6) 3 p := cs_bl hqM1.2.1 s1.2.1 (by decide)
      have z1 : xz_ M0 (tx_bl M1 3 p) c 3 p := xz_cf s1.1 b1
      have t1 : tn_ (tx_bl M1 3 p) c T := (td_fr hc b1.1 s1.2.2).1
      have n1 : nn_ (tx_bl M1 3 p) n := nn_bl hn
      have r1 := (xq_fr hq z1.1).2.2
      intro m
      induction m with
      | zero =>
        intro i hi
        exact bk_X3_readNewName_24 ⟨fun _ => cf_failed b1 ⟨fun y => absurd y (by decide), fun _ => am_c0_i (h1 3 p (if_neg bad) _ z1)⟩, fun y => by omega⟩
      | succ m ih =>
        intro i hi
        refine bk_X3_readNewName_24 ⟨fun y => by omega, fun _ => ⟨hob, st_findName hc ⟨by omega, by omega⟩ r1 t1 hT n1 ⟨fun y => ⟨⟨by omega, by omega⟩, ih (i + 1) (by omega)⟩, fun y => st_blame ⟨⟨by omega, by omega⟩, ?_⟩⟩⟩⟩
        rw [cf_bl b1]
        exact ih (i + 1) (by omega)
    have loop : ∀ (m i : Nat), i + m = 3 → (∀ i' : Int, 0 ≤ i' → i' < i → fn_ (tN T i') n 0 = -1) → am_g 3 0 co_X3_readNewName (d + 3) (am_c0 sh_T f) 24 [(2, 4), (2, c), (0, k), (0, (i : Int))] [] sh_T M1 := by
      intro m
      induction m with
      | zero =>
        intro i hi hbe
        refine bk_X3_readNewName_24 ⟨fun _ => ct_failed s1.2.1 ⟨fun _ => ⟨hob, st_giveName hc hk hqM1.2.2 s1.2.2.1 hT hn hroom (fun M' hfr htn => am_c0_i (h2 p1 en1 n ?_ M' ?_))⟩, fun y => absurd rfl y⟩, fun y => by omega⟩
        · exact if_pos ⟨hbe 0 (by decide) (by omega), hbe 1 (by decide) (by omega), hbe 2 (by decide) (by omega)⟩
        · have hcc := hc
          unfold dr_is at hcc
          obtain ⟨q1, q2, ⟨q3, q4, q5, q6, ⟨q7, q8, q9⟩, q10⟩⟩ := s1
          refine ⟨xf_tr q1 (fun x j x1 x2 => hfr x j (by omega) (by omega)), cs_mv q2 (fun j => hfr _ _ (by omega) (by omega)) (fun j => hfr _ _ (by omega) (by omega)) (hfr _ _ (by omega) (by omega)) (fun j => hfr _ _ (by omega) (by omega)), htn, fun a x y => ?_, fun j x y => ?_, fun g x y => ?_, ⟨?_, ?_, ?_⟩, fun k k0 k1 => ?_⟩
          · rw [hfr _ _ (by omega) (by omega)]; exact q4 a x y
          · rw [hfr _ _ (by omega) (by omega)]; exact q5 j x y
          · rw [hfr _ _ (by omega) (by omega)]; exact q6 g x y
          · rw [hfr _ _ (by omega) (by omega)]; exact q7
          · rw [hfr _ _ (by omega) (by omega)]; exact q8
          · rw [hfr _ _ (by omega) (by omega)]; exact q9
          · rw [hfr _ _ (by omega) (by omega), hfr _ _ (by omega) (by omega)]; exact q10 k k0 k1
      | succ m ih =>
        intro i hi hbe
        refine bk_X3_readNewName_24 ⟨fun y => by omega, fun _ => ⟨hob, st_findName hc ⟨by omega, by omega⟩ hqM1.2.2 s1.2.2.1 hT hn ⟨fun y => ⟨⟨by omega, by omega⟩, ih (i + 1) (by omega) (fun i' i0 i1 => ?_)⟩, fun y => st_blame ⟨⟨by omega, by omega⟩, ?_⟩⟩⟩⟩
        · by_cases z : i' = (i : Int)
          · rw [z]; exact y
          · exact hbe i' i0 (by omega)
        · rw [h16]
          refine hz (fun bad => y ?_) m (i + 1) (by omega)
          rcases (show i = 0 ∨ i = 1 ∨ i = 2 by omega) with z | z | z <;> subst z
          · exact bad.1
          · exact bad.2.1
          · exact bad.2.2
    exact loop 3 0 rfl (fun i' i0 i1 => by omega)
/-- a word that must be here -/
theorem ct_wrd {d : Nat} {f : am_M → Prop} {q : Bool} {v v1 : Int} {C w : List Int} {α : Type} {a : α} (hg : cg_ M0 q v) (h : cs_ M0 M q v p en C) (hs : pg_str v1 = w) (hw : w ≠ [] ∧ (∀ c ∈ w, c ≠ 32) ∧ w.length ≤ 1000) (h1 : ∀ e z, pr_wrd (M0 2) (M0 1 1) w a p en = .error (e, z) → ∀ M', cf_ M0 M' v e z → f M') (h2 : ∀ p1 en1, pr_wrd (M0 2) (M0 1 1) w a p en = .ok (p1, en1, a) → ∀ M', cs_ M0 M' q v p1 en1 C → f M') : am_cal pg (d + 4) 109 [(2, 1), (2, v1)] sh_T M (am_cv sh_T f) := by
  obtain ⟨i1, i2, i3, i4, i5⟩ := cs_in hg h
  have e : tx_p M = p := h.2.2.1.1
  have e5 : M 1 5 = en := h.2.2.1.2.1
  obtain ⟨et, ee⟩ := cs_t hg h.1
  have ew : tx_w M = rd_wd (M0 2) (M0 1 1) en p := by
    show rd_wd (M 2) (M 1 1) (M 1 5) (tx_p M) = _
    rw [et, ee, e, e5]
  have eo : tx_wi M v1 = if rd_is (M0 2) (M0 1 1) en p w = true then 0 else -1 := by
    rw [tx_ix h.2.1 (ws := [w]) hs (fun z => by cases z) (fun x hx => by rw [List.mem_singleton] at hx; rw [hx]; exact ⟨hw.1, hw.2.1⟩), et, ee, e, e5]
    rfl
  have hl := rd_wd_le (t := M0 2) (en := en) i2
  unfold pr_wrd at h1 h2
  refine st_demandWord h.2.1 (by rw [hs]; exact hw.1) (by rw [hs]; exact hw.2.2) (fun z => ?_) (fun z => ?_)
  · rw [eo] at z
    by_cases y : rd_is (M0 2) (M0 1 1) en p w = true
    · rw [if_pos y] at h2
      refine h2 _ _ rfl _ ?_
      unfold tx_sk
      rw [ew, e]
      exact cs_at hg h ((am_up_el (by omega)).trans am_up_at) am_up_at (by omega) (fun x y z => by rw [am_up_el (by omega), am_up_el (by omega)])
    · rw [if_neg y] at z; exact absurd rfl z
  · rw [eo] at z
    by_cases y : rd_is (M0 2) (M0 1 1) en p w = true
    · rw [if_pos y] at z; exact absurd z (by decide)
    · rw [if_neg y] at h1
      refine h1 1 p rfl _ ?_
      unfold tx_bh
      have r := cs_bl hg (cs_p hg h).1 (k := 1) (z := p) (by decide)
      rw [e] at r ⊢
      exact r
theorem cf_wrd {d : Nat} {f : am_M → Prop} {q : Bool} {v v1 k z : Int} {w : List Int} (hg : cg_ M0 q v) (h : cf_ M0 M v k z) (hs : pg_str v1 = w) (hw : w ≠ [] ∧ (∀ c ∈ w, c ≠ 32) ∧ w.length ≤ 1000) (hf : ∀ M', cf_ M0 M' v k z → f M') : am_cal pg (d + 4) 109 [(2, 1), (2, v1)] sh_T M (am_cv sh_T f) := by
  have i := cf_in hg h
  have hw2 := tx_w_le h.2.1
  refine st_demandWord h.2.1 (by rw [hs]; exact hw.1) (by rw [hs]; exact hw.2.2) (fun y => hf _ ?_) (fun y => hf _ ?_)
  · unfold tx_sk
    exact cf_at hg h (by rw [am_up_el (by omega), am_up_at]; omega) (fun x y y1 => by rw [am_up_el (by omega), am_up_el (by omega)])
  · unfold tx_bh
    rw [cf_bl (cf_p hg h)]
    exact cf_p hg h
theorem sw_1 : pg_str 1000001 = w_brave ∧ w_brave ≠ [] ∧ (∀ c ∈ w_brave, c ≠ 32) ∧ w_brave.length ≤ 1000 := by decide +kernel
theorem sw_2 : pg_str 1000002 = w_of ∧ w_of ≠ [] ∧ (∀ c ∈ w_of, c ≠ 32) ∧ w_of.length ≤ 1000 := by decide +kernel
end DS
