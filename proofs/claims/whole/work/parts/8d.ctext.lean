/-! THE CLASS'S READER, against what is read as a value: its small steps -/
/-- words in a row, one blank between two -/
def wj_ : List (List Int) → List Int
  | [] => []
  | w :: [] => w
  | w :: v :: ws => w ++ 32 :: wj_ (v :: ws)
/-- the number of the word here in a row of words; -1 without -/
def pr_ix (t : Int → Int) (e en p : Int) : List (List Int) → Int → Int
  | [], _ => -1
  | w :: ws, n => if rd_is t e en p w = true then n else pr_ix t e en p ws (n + 1)
theorem rd_is_iff {t : Int → Int} {e en p : Int} {w : List Int} : rd_is t e en p w = true ↔ (rd_wd t e en p = w.length ∧ w ≠ []) ∧ rd_like t w p = true := by
  unfold rd_is
  simp only [Bool.and_eq_true, decide_eq_true_eq]
theorem wi_is_rd {t : Int → Int} {e en p : Int} {w : List Int} (h0 : 0 ≤ p) (h1 : p ≤ e) (hw : w ≠ []) : wi_is (rd_wd t e en p) (fun k => rd_by t e (p + k)) w 0 true ↔ rd_is t e en p w = true := by
  have hl := rd_wd_le (t := t) (en := en) h1
  rw [rd_is_iff]
  constructor
  · rintro ⟨-, h2, h3⟩
    refine ⟨⟨by omega, hw⟩, (rd_like_at w p).mpr fun j hj => ?_⟩
    have h := h3 j hj
    have h : rd_by t e (p + (0 + (j : Int))) = w.getD j 0 := h
    rw [rd_by_see (by omega) (by omega), Int.zero_add] at h
    exact h
  · rintro ⟨⟨h2, -⟩, h3⟩
    refine ⟨rfl, by omega, fun j hj => ?_⟩
    show rd_by t e (p + (0 + (j : Int))) = w.getD j 0
    rw [rd_by_see (by omega) (by omega), Int.zero_add]
    exact (rd_like_at w p).mp h3 j hj
theorem wi_ix {t : Int → Int} {e en p : Int} (h0 : 0 ≤ p) (h1 : p ≤ e) : ∀ (ws : List (List Int)) (n : Int), ws ≠ [] → (∀ w ∈ ws, w ≠ [] ∧ ∀ c ∈ w, c ≠ 32) → wi_go (rd_wd t e en p) (fun k => rd_by t e (p + k)) (wj_ ws) n 0 true = pr_ix t e en p ws n
  | [], n, h, _ => absurd rfl h
  | w :: [], n, _, hw => by
    have hw1 := hw w List.mem_cons_self
    obtain ⟨g1, g2⟩ := wi_last (L := rd_wd t e en p) (ch := fun k => rd_by t e (p + k)) w hw1.2 n 0 true
    rw [wi_is_rd h0 h1 hw1.1] at g1 g2
    show wi_go (rd_wd t e en p) (fun k => rd_by t e (p + k)) w n 0 true = (if rd_is t e en p w = true then n else -1)
    by_cases c : rd_is t e en p w = true
    · rw [if_pos c]; exact g1 c
    · rw [if_neg c]; exact g2 c
  | w :: v :: ws, n, _, hw => by
    have hw1 := hw w List.mem_cons_self
    obtain ⟨g1, g2⟩ := wi_word (L := rd_wd t e en p) (ch := fun k => rd_by t e (p + k)) w hw1.2 (wj_ (v :: ws)) n 0 true
    rw [wi_is_rd h0 h1 hw1.1] at g1 g2
    show wi_go (rd_wd t e en p) (fun k => rd_by t e (p + k)) (w ++ 32 :: wj_ (v :: ws)) n 0 true = (if rd_is t e en p w = true then n else pr_ix t e en p (v :: ws) (n + 1))
    by_cases c : rd_is t e en p w = true
    · rw [if_pos c]; exact g1 c
    · rw [if_neg c, g2 c]
      exact wi_ix h0 h1 (v :: ws) (n + 1) (fun z => by cases z) (fun x hx => hw x (List.mem_cons_of_mem _ hx))
theorem pr_ix_0 {t : Int → Int} {e en p : Int} (h : rd_wd t e en p = 0) : ∀ (ws : List (List Int)) (n : Int), pr_ix t e en p ws n = -1
  | [], _ => rfl
  | w :: ws, n => by
    have c : ¬ rd_is t e en p w = true := fun z => by
      obtain ⟨⟨z1, z2⟩, -⟩ := rd_is_iff.mp z
      have := List.length_pos_iff.mpr z2
      omega
    unfold pr_ix
    rw [if_neg c]
    exact pr_ix_0 h ws (n + 1)
theorem tx_ix {M : am_M} {v1 : Int} {ws : List (List Int)} (h0 : tx_ok M) (hs : pg_str v1 = wj_ ws) (hn : ws ≠ []) (hw : ∀ w ∈ ws, w ≠ [] ∧ ∀ c ∈ w, c ≠ 32) : tx_wi M v1 = pr_ix (M 2) (M 1 1) (M 1 5) (tx_p M) ws 0 := by
  have hp := tx_p_le h0
  have h2 := h0.2.2.1
  unfold tx_wi
  by_cases c : tx_w M = 0
  · rw [if_pos c, pr_ix_0 c]
  · rw [if_neg c, hs]
    exact wi_ix (by omega) hp.2 ws 0 hn hw
theorem ix_wc {t : Int → Int} {e en p : Int} : ∀ (l : List (List Int × Int)) (n : Int), (pr_ix t e en p (l.map Prod.fst) n = -1 ∧ pr_wc t e en p l = 0) ∨ ∃ i : Nat, i < l.length ∧ pr_ix t e en p (l.map Prod.fst) n = n + i ∧ pr_wc t e en p l = (l.getD i ([], 0)).2
  | [], _ => Or.inl ⟨rfl, rfl⟩
  | x :: l, n => by
    show ((if rd_is t e en p x.1 = true then n else pr_ix t e en p (l.map Prod.fst) (n + 1)) = -1 ∧ (if rd_is t e en p x.1 = true then x.2 else pr_wc t e en p l) = 0) ∨ ∃ i : Nat, i < (x :: l).length ∧ (if rd_is t e en p x.1 = true then n else pr_ix t e en p (l.map Prod.fst) (n + 1)) = n + i ∧ (if rd_is t e en p x.1 = true then x.2 else pr_wc t e en p l) = ((x :: l).getD i ([], 0)).2
    by_cases c : rd_is t e en p x.1 = true
    · rw [if_pos c, if_pos c]
      exact Or.inr ⟨0, by simp, by simp, rfl⟩
    · rw [if_neg c, if_neg c]
      rcases ix_wc (t := t) (e := e) (en := en) (p := p) l (n + 1) with h | ⟨i, h1, h2, h3⟩
      · exact Or.inl h
      · exact Or.inr ⟨i + 1, by rw [List.length_cons]; omega, by rw [h2]; omega, h3⟩
/-- a question's code as the class has it -/
def qv (c : Int) : Int := if 1000 ≤ c then c - 1000 else if c = 60 then -13 else if c = 40 then -26 else if c = 41 then -24 else if c = 42 then -21 else if c = 43 then -22 else if c = 44 then -23 else if c = 13 then 1 else -c
def cq (q : Bool) (c : Int) : Int := if q = true then qv c else cv c
/-- what the reader may write, codes into the reckoner v -/
def cs_fr (v : Int) (M0 M : am_M) : Prop := ∀ x j, ¬ (x = 1 ∧ 2 ≤ j ∧ j ≤ 7) → ¬ (x = v ∧ j = 1) → ¬ x = v + 1 → M x j = M0 x j
theorem cs_fr_tr {v : Int} {M M1 M2 : am_M} (h : cs_fr v M M1) (k : cs_fr v M1 M2) : cs_fr v M M2 := fun x j y y2 y3 => (k x j y y2 y3).trans (h x j y y2 y3)
/-- it stands at p (blanks gone over), no fault yet, the codes C told -/
def cs_ (M0 M : am_M) (q : Bool) (v p en : Int) (C : List Int) : Prop := cs_fr v M0 M ∧ tx_ok M ∧ (tx_p M = p ∧ M 1 5 = en ∧ (M 1 3 = 0 ∧ M 1 4 = -1)) ∧ (M v 1 = C.length ∧ C.length ≤ 1600 ∧ ∀ i : Nat, i < C.length → M (v + 1) i = cq q (C.getD i 0))
/-- it has found a fault -/
def cf_ (M0 M : am_M) (v k z : Int) : Prop := cs_fr v M0 M ∧ tx_ok M ∧ (M 1 3 = k ∧ M 1 4 = z ∧ ¬ k = 0) ∧ (0 ≤ M v 1 ∧ M v 1 ≤ 1600)
/-- what it stands on -/
def cg_ (M0 : am_M) (q : Bool) (v : Int) : Prop := rk_is v ∧ (v = 6 ∨ v = 17 ∨ v = 30) ∧ (M0 3 1 = v ∧ M0 3 2 = am_b (q = true)) ∧ (∀ i : Nat, i < 8 → M0 2000001 i = cv ((ts_ false).getD i ([], 0)).2 ∧ M0 2000002 i = qv ((ts_ true).getD i ([], 0)).2)
section CT
variable {M0 M : am_M} {q : Bool} {v p en : Int} {C : List Int}
theorem cs_t (hg : cg_ M0 q v) (h : cs_fr v M0 M) : M 2 = M0 2 ∧ M 1 1 = M0 1 1 := by
  have hv := hg.2.1
  exact ⟨funext fun j => h 2 j (by omega) (by omega) (by omega), h 1 1 (by omega) (by omega) (by omega)⟩
theorem cs_in (hg : cg_ M0 q v) (h : cs_ M0 M q v p en C) : 0 ≤ p ∧ p ≤ M0 1 1 ∧ rd_at (M0 2) (M0 1 1) p = p ∧ M0 1 1 ≤ 1600 ∧ tx_c M = rc (M0 2) (M0 1 1) p := by
  obtain ⟨h1, h2, ⟨h3, h4, h5⟩, h6⟩ := h
  obtain ⟨e1, e2⟩ := cs_t hg h1
  have hp := tx_p_le h2
  have h0 := h2.2.2.1
  have h16 := h2.2.1
  rw [e2] at h16 hp
  have er : rd_at (M0 2) (M0 1 1) p = p := by
    have : rd_at (M0 2) (M0 1 1) (M 1 2) = p := by rw [← e1, ← e2]; exact h3
    rw [← this]
    exact rd_at_at
  refine ⟨by omega, by omega, er, h16, ?_⟩
  show (if rd_at (M 2) (M 1 1) (M 1 2) < M 1 1 then M 2 (rd_at (M 2) (M 1 1) (M 1 2)) else -1) = _
  rw [show rd_at (M 2) (M 1 1) (M 1 2) = p from h3, e1, e2]
  rfl
/-- another place, another end of a word -/
theorem cs_at (hg : cg_ M0 q v) (h : cs_ M0 M q v p en C) {M' : am_M} {j en' : Int} (h1 : M' 1 2 = j) (h2 : M' 1 5 = en') (h0 : 0 ≤ j ∧ j ≤ M0 1 1) (hf : ∀ x y, ¬ (x = 1 ∧ (y = 2 ∨ 5 ≤ y ∧ y ≤ 7)) → M' x y = M x y) : cs_ M0 M' q v (rd_at (M0 2) (M0 1 1) j) en' C := by
  have hv := hg.2.1
  obtain ⟨g1, g2, ⟨g3, g4, g5⟩, g6, g7, g8⟩ := h
  obtain ⟨e1, e2⟩ := cs_t hg g1
  have f1 : cs_fr v M0 M' := fun x y y1 y2 y3 => (hf x y (by omega)).trans (g1 x y y1 y2 y3)
  obtain ⟨e3, e4⟩ := cs_t hg f1
  refine ⟨f1, ⟨?_, ?_, ?_, ?_⟩, ⟨?_, h2, ?_⟩, ?_, g7, fun i hi => ?_⟩
  · rw [hf 1 1 (by omega)]; exact g2.1
  · rw [hf 1 1 (by omega)]; exact g2.2.1
  · rw [h1]; exact h0.1
  · rw [h1, e4]; exact h0.2
  · show rd_at (M' 2) (M' 1 1) (M' 1 2) = _
    rw [e3, e4, h1]
  · rw [hf 1 3 (by omega), hf 1 4 (by omega)]; exact g5
  · rw [hf v 1 (by omega)]; exact g6
  · rw [hf (v + 1) i (by omega)]; exact g8 i hi
theorem cs_p (hg : cg_ M0 q v) (h : cs_ M0 M q v p en C) : cs_ M0 (am_up M 1 2 (tx_p M)) q v p en C ∧ am_up M 1 2 (tx_p M) 1 2 = p := by
  obtain ⟨i1, i2, i3, i4, -⟩ := cs_in hg h
  have e := h.2.2.1
  refine ⟨?_, am_up_at.trans e.1⟩
  have r := cs_at hg h (M' := am_up M 1 2 (tx_p M)) (j := p) (en' := en) (am_up_at.trans e.1) ((am_up_el (by omega)).trans e.2.1) ⟨i1, i2⟩ (fun x y z => am_up_el (by omega))
  rw [i3] at r
  exact r
theorem cs_bl (hg : cg_ M0 q v) (h : cs_ M0 M q v p en C) {k z : Int} (hk : ¬ k = 0) : cf_ M0 (tx_bl M k z) v k z := by
  have hv := hg.2.1
  obtain ⟨g1, g2, ⟨g3, g4, g5⟩, g6, g7, g8⟩ := h
  have e : tx_bl M k z = am_up (am_up M 1 3 k) 1 4 z := if_pos g5.1
  refine ⟨fun x y y1 y2 y3 => ?_, tx_ok_bl g2, ⟨?_, ?_, hk⟩, ?_⟩
  · rw [e, am_up_el (by omega), am_up_el (by omega)]; exact g1 x y y1 y2 y3
  · rw [e, am_up_el (by omega), am_up_at]
  · rw [e, am_up_at]
  · rw [e, am_up_el (by omega), am_up_el (by omega)]; omega
/-- behind a fault: whatever is done to the place -/
theorem cf_at (hg : cg_ M0 q v) {k z : Int} (h : cf_ M0 M v k z) {M' : am_M} (h0 : 0 ≤ M' 1 2 ∧ M' 1 2 ≤ M0 1 1) (hf : ∀ x y, ¬ (x = 1 ∧ (y = 2 ∨ 5 ≤ y ∧ y ≤ 7)) → M' x y = M x y) : cf_ M0 M' v k z := by
  have hv := hg.2.1
  obtain ⟨g1, g2, ⟨g3, g4, g5⟩, g6⟩ := h
  obtain ⟨e1, e2⟩ := cs_t hg g1
  have f1 : cs_fr v M0 M' := fun x y y1 y2 y3 => (hf x y (by omega)).trans (g1 x y y1 y2 y3)
  refine ⟨f1, ⟨?_, ?_, h0.1, ?_⟩, ⟨?_, ?_, g5⟩, ?_⟩
  · rw [hf 1 1 (by omega)]; exact g2.1
  · rw [hf 1 1 (by omega)]; exact g2.2.1
  · rw [hf 1 1 (by omega), e2]; exact h0.2
  · rw [hf 1 3 (by omega)]; exact g3
  · rw [hf 1 4 (by omega)]; exact g4
  · rw [hf v 1 (by omega)]; exact g6
theorem cf_in (hg : cg_ M0 q v) {k z : Int} (h : cf_ M0 M v k z) : 0 ≤ tx_p M ∧ tx_p M ≤ M0 1 1 ∧ M 1 1 = M0 1 1 := by
  have hp := tx_p_le h.2.1
  have e2 := (cs_t hg h.1).2
  have h0 := h.2.1.2.2.1
  exact ⟨by omega, by omega, e2⟩
theorem cf_p (hg : cg_ M0 q v) {k z : Int} (h : cf_ M0 M v k z) : cf_ M0 (am_up M 1 2 (tx_p M)) v k z := by
  have i := cf_in hg h
  exact cf_at hg h (by rw [am_up_at]; omega) (fun x y y1 => am_up_el (by omega))
theorem cf_bl {k z k2 z2 : Int} (h : cf_ M0 M v k z) : tx_bl M k2 z2 = M := if_neg (by rw [h.2.2.1.1]; exact h.2.2.1.2.2)
theorem ct_failed {d : Nat} {f : Int → am_M → Prop} (h : cs_ M0 M q v p en C) (hf : f 0 M) : am_cal pg (d + 1) 95 [(2, 1)] sh_T M (am_c0 sh_T f) := st_failed (by rw [am_b_0 (fun z => z h.2.2.1.2.2.1)]; exact hf)
theorem cf_failed {d : Nat} {f : Int → am_M → Prop} {k z : Int} (h : cf_ M0 M v k z) (hf : f 1 M) : am_cal pg (d + 1) 95 [(2, 1)] sh_T M (am_c0 sh_T f) := st_failed (by rw [am_b_1 (by rw [h.2.2.1.1]; exact h.2.2.1.2.2)]; exact hf)
theorem ct_look {d : Nat} {f : Int → am_M → Prop} (hg : cg_ M0 q v) (h : cs_ M0 M q v p en C) (hf : ∀ M', cs_ M0 M' q v p en C → M' 1 2 = p → f (rc (M0 2) (M0 1 1) p) M') : am_cal pg (d + 1) 98 [(2, 1)] sh_T M (am_c0 sh_T f) := by
  refine st_look h.2.1 ?_
  rw [(cs_in hg h).2.2.2.2]
  exact hf _ (cs_p hg h).1 (cs_p hg h).2
theorem ct_sees {d : Nat} {f : Int → am_M → Prop} {c : Int} (hg : cg_ M0 q v) (h : cs_ M0 M q v p en C) (hf : ∀ M', cs_ M0 M' q v p en C → M' 1 2 = p → f (am_b (rc (M0 2) (M0 1 1) p = c)) M') : am_cal pg (d + 2) 99 [(2, 1), (0, c)] sh_T M (am_c0 sh_T f) := by
  refine st_sees h.2.1 ?_
  rw [(cs_in hg h).2.2.2.2]
  exact hf _ (cs_p hg h).1 (cs_p hg h).2
theorem ct_digit {d : Nat} {f : Int → am_M → Prop} (hg : cg_ M0 q v) (h : cs_ M0 M q v p en C) (hf : ∀ M', cs_ M0 M' q v p en C → M' 1 2 = p → f (am_b (is_di (rc (M0 2) (M0 1 1) p) = true)) M') : am_cal pg (d + 2) 104 [(2, 1)] sh_T M (am_c0 sh_T f) := by
  refine st_seesDigit h.2.1 ?_
  rw [(cs_in hg h).2.2.2.2]
  exact hf _ (cs_p hg h).1 (cs_p hg h).2
theorem ct_step {d : Nat} {f : am_M → Prop} (hg : cg_ M0 q v) (h : cs_ M0 M q v p en C) (hp : M 1 2 = p) (hlt : p < M0 1 1) (hf : ∀ M', cs_ M0 M' q v (rd_at (M0 2) (M0 1 1) (p + 1)) en C → f M') : am_cal pg (d + 1) 100 [(2, 1)] sh_T M (am_cv sh_T f) := by
  obtain ⟨i1, i2, i3, i4, -⟩ := cs_in hg h
  refine st_step h.2.1 (hf _ (cs_at hg h (j := p + 1) ?_ ?_ (by omega) (fun x y z => am_up_el (by omega))))
  · rw [am_up_at, hp]
  · rw [am_up_el (by omega)]; exact h.2.2.1.2.1
theorem ct_blame {d : Nat} {f : am_M → Prop} {k : Int} (hg : cg_ M0 q v) (h : cs_ M0 M q v p en C) (hk : ¬ k = 0) (hf : ∀ M', cf_ M0 M' v k p → f M') : am_cal pg (d + 2) 97 [(2, 1), (0, k)] sh_T M (am_cv sh_T f) := by
  refine st_blameHere h.2.1 (hf _ ?_)
  have e : tx_p M = p := h.2.2.1.1
  unfold tx_bh
  rw [e]
  have r := cs_bl hg (cs_p hg h).1 (k := k) (z := p) hk
  rw [e] at r
  exact r
theorem cf_blame {d : Nat} {f : am_M → Prop} {k k0 z0 : Int} (hg : cg_ M0 q v) (h : cf_ M0 M v k0 z0) (hf : ∀ M', cf_ M0 M' v k0 z0 → f M') : am_cal pg (d + 2) 97 [(2, 1), (0, k)] sh_T M (am_cv sh_T f) := by
  refine st_blameHere h.2.1 (hf _ ?_)
  unfold tx_bh
  rw [cf_bl (cf_p hg h)]
  exact cf_p hg h
theorem ct_demand {d : Nat} {f : am_M → Prop} {c : Int} (hc : 0 ≤ c) (hg : cg_ M0 q v) (h : cs_ M0 M q v p en C) (h1 : rc (M0 2) (M0 1 1) p = c → ∀ M', cs_ M0 M' q v (rd_at (M0 2) (M0 1 1) (p + 1)) en C → f M') (h2 : ¬ rc (M0 2) (M0 1 1) p = c → ∀ M', cf_ M0 M' v 1 p → f M') : am_cal pg (d + 3) 101 [(2, 1), (0, c)] sh_T M (am_cv sh_T f) := by
  obtain ⟨i1, i2, i3, i4, i5⟩ := cs_in hg h
  have e : tx_p M = p := h.2.2.1.1
  refine st_demand h.2.1 (fun z => ?_) (fun z => ?_)
  · rw [i5] at z
    have hlt := (rc_lt z hc).1
    refine h1 z _ (cs_at hg h (j := p + 1) ?_ ?_ (by omega) (fun x y z => am_up_el (by omega)))
    · rw [am_up_at, e]
    · rw [am_up_el (by omega)]; exact h.2.2.1.2.1
  · rw [i5] at z
    refine h2 z _ ?_
    unfold tx_bh
    have r := cs_bl hg (cs_p hg h).1 (k := 1) (z := p) (by decide)
    rw [e] at r ⊢
    exact r
theorem cf_demand {d : Nat} {f : am_M → Prop} {c k0 z0 : Int} (hc : 0 ≤ c) (hg : cg_ M0 q v) (h : cf_ M0 M v k0 z0) (hf : ∀ M', cf_ M0 M' v k0 z0 → f M') : am_cal pg (d + 3) 101 [(2, 1), (0, c)] sh_T M (am_cv sh_T f) := by
  have i := cf_in hg h
  refine st_demand h.2.1 (fun z => ?_) (fun z => ?_)
  · have hlt : tx_p M < M 1 1 := by
      have z : (if tx_p M < M 1 1 then M 2 (tx_p M) else -1) = c := z
      by_cases y : tx_p M < M 1 1
      · exact y
      · rw [if_neg y] at z; omega
    exact hf _ (cf_at hg h (by rw [am_up_at]; omega) (fun x y y1 => am_up_el (by omega)))
  · refine hf _ ?_
    unfold tx_bh
    rw [cf_bl (cf_p hg h)]
    exact cf_p hg h
theorem ct_num {d : Nat} {f : Int → am_M → Prop} {g : Int} (hg : cg_ M0 q v) (h : cs_ M0 M q v p en C) (h1 : ∀ k z, pr_num (M0 2) (M0 1 1) g p en = .error (k, z) → ∀ x M', cf_ M0 M' v k z → f x M') (h2 : ∀ p1 en1 w, pr_num (M0 2) (M0 1 1) g p en = .ok (p1, en1, w) → ∀ M', cs_ M0 M' q v p1 en1 C → f w M') : am_cal pg (d + 3) 111 [(2, 1), (0, g)] sh_T M (am_c0 sh_T f) := by
  obtain ⟨i1, i2, i3, i4, i5⟩ := cs_in hg h
  have e : tx_p M = p := h.2.2.1.1
  have e5 : M 1 5 = en := h.2.2.1.2.1
  obtain ⟨et, ee⟩ := cs_t hg h.1
  unfold pr_num at h1 h2
  have en2 : tx_nm M = rd_num (M0 2) (M0 1 1) 4 p 0 := by
    show rd_num (M 2) (M 1 1) 4 (tx_p M) 0 = _
    rw [et, ee, e]
  refine st_takeNumber h.2.1 (fun z => ?_) (fun z z2 => ?_)
  · rw [i5, e, e5] at z
    rw [if_neg (fun y => z.elim (fun y2 => y2 y.1) (fun y2 => y.2 y2))] at h1
    refine h1 1 p rfl 0 _ ?_
    have r := cs_bl hg (cs_p hg h).1 (k := 1) (z := p) (by decide)
    rw [e] at r ⊢
    exact r
  · rw [i5] at z
    rw [e, e5] at z2
    rw [if_pos ⟨z, z2⟩] at h1 h2
    rw [en2, e]
    have hd := is_di_iff.mp z
    have hl := rc_lt (c := rc (M0 2) (M0 1 1) p) rfl (by omega)
    have hn4 := rd_num_le (t := M0 2) (e := M0 1 1) 4 p 0
    generalize rd_num (M0 2) (M0 1 1) 4 p 0 = r at h1 h2 hn4 ⊢
    obtain ⟨w, j⟩ := r
    have hn4 : p ≤ j ∧ (j ≤ M0 1 1 ∨ j = p) ∧ (0 ≤ (0 : Int) → 0 ≤ w) := hn4
    have hj : 0 ≤ j ∧ j ≤ M0 1 1 := by rcases hn4.2.1 with y | y <;> omega
    have a1 : cs_ M0 (am_up M 1 2 j) q v (rd_at (M0 2) (M0 1 1) j) en C := cs_at hg h am_up_at ((am_up_el (by omega)).trans e5) hj (fun x y z => am_up_el (by omega))
    have a5 : ∀ N : am_M, cs_ M0 N q v (rd_at (M0 2) (M0 1 1) j) en C → N 1 2 = j → cs_ M0 (am_up N 1 5 j) q v (rd_at (M0 2) (M0 1 1) j) j C := fun N hN h12 => cs_at hg hN ((am_up_el (by omega)).trans h12) am_up_at hj (fun x y z => am_up_el (by omega))
    have f5 : ∀ (N : am_M) (k z : Int), cf_ M0 N v k z → cf_ M0 (am_up N 1 5 j) v k z := fun N k z hN => cf_at hg hN (by rw [am_up_el (by omega)]; have := hN.2.1.2.2; have := (cs_t hg hN.1).2; omega) (fun x y y1 => am_up_el (by omega))
    show f w (am_up (tx_nb (am_up M 1 2 j) g p w) 1 5 j)
    unfold tx_nb
    have eb : rd_by ((am_up M 1 2 j) 2) ((am_up M 1 2 j) 1 1) ((am_up M 1 2 j) 1 2) = rd_by (M0 2) (M0 1 1) j := by
      obtain ⟨e3, e4⟩ := cs_t hg a1.1
      rw [e3, e4, am_up_at]
    rw [eb]
    by_cases c1 : is_di (rd_by (M0 2) (M0 1 1) j) = true
    · rw [if_pos c1] at h1
      rw [if_pos c1, am_up_at]
      exact h1 1 j rfl w _ (f5 _ _ _ (cs_bl hg a1 (by decide)))
    · rw [if_neg c1] at h1 h2
      rw [if_neg c1]
      by_cases c2 : g < w
      · rw [if_pos c2] at h1
        rw [if_pos c2]
        exact h1 2 p rfl w _ (f5 _ _ _ (cs_bl hg a1 (by decide)))
      · rw [if_neg c2] at h2
        rw [if_neg c2]
        exact h2 _ _ w rfl _ (a5 _ a1 am_up_at)
theorem cf_num {d : Nat} {f : Int → am_M → Prop} {g k0 z0 : Int} (hg : cg_ M0 q v) (h : cf_ M0 M v k0 z0) (hf : ∀ x M', cf_ M0 M' v k0 z0 → f x M') : am_cal pg (d + 3) 111 [(2, 1), (0, g)] sh_T M (am_c0 sh_T f) := by
  have i := cf_in hg h
  have hp := cf_p hg h
  refine st_takeNumber h.2.1 (fun z => ?_) (fun z z2 => ?_)
  · rw [cf_bl hp]
    exact hf _ _ hp
  · have hl := rd_num_le (t := M 2) (e := M 1 1) 4 (tx_p M) 0
    have hl : tx_p M ≤ (tx_nm M).2 ∧ ((tx_nm M).2 ≤ M 1 1 ∨ (tx_nm M).2 = tx_p M) ∧ _ := hl
    have hj : 0 ≤ (tx_nm M).2 ∧ (tx_nm M).2 ≤ M0 1 1 := by rcases hl.2.1 with y | y <;> omega
    have a1 : cf_ M0 (am_up M 1 2 (tx_nm M).2) v k0 z0 := cf_at hg h (by rw [am_up_at]; exact hj) (fun x y y1 => am_up_el (by omega))
    have e : tx_nb (am_up M 1 2 (tx_nm M).2) g (tx_p M) (tx_nm M).1 = am_up M 1 2 (tx_nm M).2 := by
      unfold tx_nb
      split
      · exact cf_bl a1
      · split
        · exact cf_bl a1
        · rfl
    rw [e]
    exact hf _ _ (cf_at hg a1 (by rw [am_up_el (by omega), am_up_at]; exact hj) (fun x y y1 => am_up_el (by omega)))
theorem ct_word {d : Nat} {f : Int → am_M → Prop} {v1 : Int} {ws : List (List Int)} (hg : cg_ M0 q v) (h : cs_ M0 M q v p en C) (hs : pg_str v1 = wj_ ws) (hn : ws ≠ []) (hw : ∀ w ∈ ws, w ≠ [] ∧ ∀ c ∈ w, c ≠ 32) (hl : pg_str v1 ≠ [] ∧ (pg_str v1).length ≤ 1000) (hf : ∀ M', cs_ M0 M' q v p en C → M' 1 2 = p → f (pr_ix (M0 2) (M0 1 1) en p ws 0) M') : am_cal pg (d + 2) 106 [(2, 1), (2, v1)] sh_T M (am_c0 sh_T f) := by
  obtain ⟨et, ee⟩ := cs_t hg h.1
  refine st_wordIn h.2.1 hl.1 hl.2 ?_
  rw [tx_ix h.2.1 hs hn hw, et, ee, show tx_p M = p from h.2.2.1.1, show M 1 5 = en from h.2.2.1.2.1]
  have r := cs_p hg h
  rw [show tx_p M = p from h.2.2.1.1] at r
  exact hf _ r.1 r.2
theorem ct_skip {d : Nat} {f : am_M → Prop} (hg : cg_ M0 q v) (h : cs_ M0 M q v p en C) (hf : ∀ M', cs_ M0 M' q v (rd_at (M0 2) (M0 1 1) (p + rd_wd (M0 2) (M0 1 1) en p)) (p + rd_wd (M0 2) (M0 1 1) en p) C → f M') : am_cal pg (d + 2) 107 [(2, 1)] sh_T M (am_cv sh_T f) := by
  obtain ⟨i1, i2, i3, i4, i5⟩ := cs_in hg h
  obtain ⟨et, ee⟩ := cs_t hg h.1
  have hl := rd_wd_le (t := M0 2) (en := en) i2
  have ew : tx_w M = rd_wd (M0 2) (M0 1 1) en p := by
    show rd_wd (M 2) (M 1 1) (M 1 5) (tx_p M) = _
    rw [et, ee, show tx_p M = p from h.2.2.1.1, show M 1 5 = en from h.2.2.1.2.1]
  refine st_skipWord h.2.1 (hf _ ?_)
  unfold tx_sk
  rw [ew, show tx_p M = p from h.2.2.1.1]
  exact cs_at hg h ((am_up_el (by omega)).trans am_up_at) am_up_at (by omega) (fun x y z => by rw [am_up_el (by omega), am_up_el (by omega)])
theorem ct_emit {d : Nat} {f : am_M → Prop} {c s : Int} (hg : cg_ M0 q v) (h : cs_ M0 M q v p en C) (hC : C.length < 1600) (hs : s = cq q c) (hf : ∀ M', cs_ M0 M' q v p en (C ++ [c]) → f M') : am_cal pg (d + 2) 82 [(2, 3), (0, s)] sh_T M (am_cv sh_T f) := by
  obtain ⟨hk, hv, ⟨h31, h32⟩, -⟩ := hg
  obtain ⟨g1, g2, ⟨g3, g4, g5⟩, g6, g7, g8⟩ := h
  have e31 : M 3 1 = v := (g1 3 1 (by omega) (by omega) (by omega)).trans h31
  obtain ⟨k1, ⟨k2, k3⟩, -⟩ := hk
  refine en_X8_emit (bk_X8_emit_0 ?_)
  rw [e31]
  have eu : am_up M (v + 1) (M v 1) s v 1 = M v 1 := am_up_el (by omega)
  refine ⟨fun z => by omega, fun _ => ⟨k1, en_X6_add (bk_X6_add_0 ⟨k1, fun z => by omega, fun _ => ⟨_, k2, fun z => by omega, fun z => ⟨(k3 _ (by omega) (by omega)).2, ?_, am_cv_i (am_cv_i (hf _ ?_))⟩⟩⟩)⟩⟩
  · rw [eu]; exact ⟨by omega, by omega⟩
  · rw [eu]
    have e : ∀ x y, ¬ (x = v ∧ y = 1) → ¬ x = v + 1 → am_up (am_up M (v + 1) (M v 1) s) v 1 (M v 1 + 1) x y = M x y := fun x y z z2 => by rw [am_up_el z, am_up_el (fun y => z2 y.1)]
    refine ⟨fun x y y1 y2 y3 => (e x y y2 y3).trans (g1 x y y1 y2 y3), ?_, ⟨?_, ?_, ?_⟩, ?_, ?_, fun i hi => ?_⟩
    · unfold tx_ok
      rw [e 1 1 (by omega) (by omega), e 1 2 (by omega) (by omega)]
      exact g2
    · show rd_at (am_up (am_up M (v + 1) (M v 1) s) v 1 (M v 1 + 1) 2) _ _ = p
      rw [show am_up (am_up M (v + 1) (M v 1) s) v 1 (M v 1 + 1) 2 = M 2 from funext fun y => e 2 y (by omega) (by omega), e 1 1 (by omega) (by omega), e 1 2 (by omega) (by omega)]
      exact g3
    · rw [e 1 5 (by omega) (by omega)]; exact g4
    · rw [e 1 3 (by omega) (by omega), e 1 4 (by omega) (by omega)]; exact g5
    · rw [am_up_at, List.length_append, List.length_singleton]; omega
    · rw [List.length_append, List.length_singleton]; omega
    · rw [List.length_append, List.length_singleton] at hi
      rw [am_up_el (by omega)]
      by_cases y : i = C.length
      · have e2 : (C ++ [c]).getD i 0 = c := by
          rw [List.getD_eq_getElem?_getD, List.getElem?_append_right (by omega), y, Nat.sub_self]
          rfl
        rw [e2, show (i : Int) = M v 1 by omega, am_up_at]
        exact hs
      · have e2 : (C ++ [c]).getD i 0 = C.getD i 0 := by
          rw [List.getD_eq_getElem?_getD, List.getD_eq_getElem?_getD, List.getElem?_append_left (by omega)]
        rw [e2, am_up_el (by omega)]
        exact g8 i (by omega)
theorem cf_emit {d : Nat} {f : am_M → Prop} {s k0 z0 : Int} (hg : cg_ M0 q v) (h : cf_ M0 M v k0 z0) (hf : ∀ M', cf_ M0 M' v k0 z0 → f M') : am_cal pg (d + 2) 82 [(2, 3), (0, s)] sh_T M (am_cv sh_T f) := by
  obtain ⟨hk, hv, ⟨h31, h32⟩, -⟩ := hg
  obtain ⟨g1, g2, ⟨g3, g4, g5⟩, g6, g7⟩ := h
  have e31 : M 3 1 = v := (g1 3 1 (by omega) (by omega) (by omega)).trans h31
  obtain ⟨k1, ⟨k2, k3⟩, -⟩ := hk
  refine en_X8_emit (bk_X8_emit_0 ?_)
  rw [e31]
  have eu : am_up M (v + 1) (M v 1) s v 1 = M v 1 := am_up_el (by omega)
  refine ⟨fun z => by omega, fun _ => ⟨k1, en_X6_add (bk_X6_add_0 ⟨k1, fun z => by omega, fun _ => ⟨_, k2, fun z => am_cv_i (am_cv_i (hf _ ⟨g1, g2, ⟨g3, g4, g5⟩, g6, g7⟩)), fun z => ⟨(k3 _ (by omega) (by omega)).2, ?_, am_cv_i (am_cv_i (hf _ ?_))⟩⟩⟩)⟩⟩
  · rw [eu]; exact ⟨by omega, by omega⟩
  · rw [eu]
    have e : ∀ x y, ¬ (x = v ∧ y = 1) → ¬ x = v + 1 → am_up (am_up M (v + 1) (M v 1) s) v 1 (M v 1 + 1) x y = M x y := fun x y z z2 => by rw [am_up_el z, am_up_el (fun y => z2 y.1)]
    refine ⟨fun x y y1 y2 y3 => (e x y y2 y3).trans (g1 x y y1 y2 y3), ?_, ⟨?_, ?_, g5⟩, ?_⟩
    · unfold tx_ok
      rw [e 1 1 (by omega) (by omega), e 1 2 (by omega) (by omega)]
      exact g2
    · rw [e 1 3 (by omega) (by omega)]; exact g3
    · rw [e 1 4 (by omega) (by omega)]; exact g4
    · rw [am_up_at]; omega
theorem ct_open {d : Nat} {f : Int → am_M → Prop} {r : Nat} (hg : cg_ M0 q v) (h : cs_ M0 M q v p en C) (hr : r ≤ 6) (h0 : r = 0 → ∀ M', cf_ M0 M' v 4 p → f 0 M') (h1 : ∀ r', r = r' + 1 → f 1 M) : am_cal pg (d + 3) 83 [(2, 3), (0, 6 - (r : Int))] sh_T M (am_c0 sh_T f) := by
  refine en_X8_mayOpen (bk_X8_mayOpen_0 ⟨fun z => ct_blame hg h (by decide) (fun M' hM => am_c0_i (h0 (by omega) M' hM)), fun z => am_c0_i (h1 (r - 1) (by omega))⟩)
end CT
