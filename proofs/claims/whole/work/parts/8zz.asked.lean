/-! ask ON BOTH SIDES -/
/-- what a question writes beside scratch: the tapes, the faults, codes -/
def ra2_ (x j : Int) : Prop := (x = 1 ∧ (j = 1 ∨ j = 3 ∨ j = 4)) ∨ (x = 152 ∧ (j = 1 ∨ j = 7 ∨ j = 8)) ∨ (x = 182 ∧ 0 ≤ j ∧ j < 1600)
def rs2_ (M M' : am_M) : am_M := fun x j => if (x = 1 ∧ (j = 1 ∨ j = 3 ∨ j = 4)) ∨ (x = 152 ∧ (j = 1 ∨ j = 7 ∨ j = 8)) ∨ (x = 182 ∧ 0 ≤ j ∧ j < 1600) then M x j else M' x j
def rq2_ (M M' : am_M) : Prop := ∀ x j, ¬ sc_ x j → ¬ ra2_ x j → M' x j = M x j
theorem rq2_tr {M M1 M2 : am_M} (h : rq2_ M M1) (k : rq2_ M1 M2) : rq2_ M M2 := fun x j y y2 => (k x j y y2).trans (h x j y y2)
theorem rq2_s {M M1 : am_M} (h : sc_fr M M1) : rq2_ M M1 := fun x j y _ => h x j y
theorem rs2_e {M M' : am_M} {x j : Int} (h : ¬ ra2_ x j) : M' x j = rs2_ M M' x j := (if_neg h).symm
theorem rs2_sc {M M' : am_M} (h : rq2_ M M') : sc_fr M (rs2_ M M') := fun x j y => by
  unfold rs2_
  split
  · rfl
  · rename_i z
    exact h x j y z
theorem rs2_up {M M' : am_M} {u : Int} (hu : 11 ≤ u ∧ u ≤ 24) : up_ u (rs2_ M M') M' := fun x j y => rs2_e (by unfold ra2_; omega)
theorem dr_24 {c : Int} (h : dr_is c) : 11 ≤ c ∧ c ≤ 24 := by
  rcases h with h | h <;> rw [h] <;> exact ⟨by decide, by decide⟩
theorem bt_q {M M' : am_M} {D : dm_D} {G : Int → Int} {W : Int → Int → Int} (h : rq2_ M M') (hb : bt_ok M D G W) : bt_ok M' D G W := by
  have k := bt_ok_fr (rs2_sc h) hb
  exact bt_up (rs2_up (dr_24 k.1.1)) k
theorem iv_q {n : Nat} {M M' : am_M} (h : iv_ n M) (hf : rq2_ M M') (h11 : M' 1 1 = 0) (h152 : M' 152 1 = 0) (hl : fl_ M') : iv_ (n + 1) M' := by
  have k := iv_sc h (rs2_sc hf)
  obtain ⟨⟨D, ⟨G, W, a1, a2, a3, a4⟩, h2, h3, h4⟩, ⟨T, h5⟩, t, -, h6, h7, h8, h9⟩ := k
  have up : up_ (rs2_ M M' 0 4) (rs2_ M M') M' := rs2_up (dr_24 h6.1)
  refine ⟨⟨D, ⟨G, W, bt_up up a1, ac_up up a2, fun i i0 i1 => ?_, ?_⟩, to_up up h2, h3, h4⟩, ⟨T, lt_up h6.1 up h5⟩, ⟨fun j => ?_, by rw [h11, h152], by rw [h11]; decide, fun j j0 j1 => by rw [h11] at j1; omega⟩, hl, ?_, pi_up up h7, xw_up up h8, rw_up up h9⟩
  · rw [rs2_e (M := M) (M' := M') (x := 151) (j := i) (by unfold ra2_; omega), rs2_e (M := M) (M' := M') (x := 154) (j := i) (by unfold ra2_; omega)]
    exact a3 i i0 i1
  · unfold lo_ok
    rw [rs2_e (M := M) (M' := M') (x := 0) (j := 17) (by unfold ra2_; omega), rs2_e (M := M) (M' := M') (x := 152) (j := 60) (by unfold ra2_; omega)]
    exact a4
  · rw [rs2_e (M := M) (M' := M') (x := 2) (j := j) (by unfold ra2_; omega), rs2_e (M := M) (M' := M') (x := 153) (j := j) (by unfold ra2_; omega)]
    exact t.1 j
  · unfold so_
    rw [rs2_e (M := M) (M' := M') (x := 0) (j := 4) (by unfold ra2_; omega), rs2_e (M := M) (M' := M') (x := 0) (j := 5) (by unfold ra2_; omega)]
    exact h6
/-- what is asked of a room ahead -/
def qw_ (D : dm_D) (a g : Int) (w : Int → Int) (t : Nat) : Int → Int := fun i => if i = 0 then (t : Int) else if i = 1 then pu_dread D g false (wk D a g w t) else if i = 2 then pu_max (wk D a g w t) 6 else if i = 3 then pu_sum (wk D a g w t) 6 else pu_many (wk D a g w t) 6
theorem qw_a {D : dm_D} {a g : Int} {w : Int → Int} {t : Nat} : qw_ D a g w t 0 = (t : Int) ∧ qw_ D a g w t 1 = pu_dread D g false (wk D a g w t) ∧ qw_ D a g w t 2 = pu_max (wk D a g w t) 6 ∧ qw_ D a g w t 3 = pu_sum (wk D a g w t) 6 ∧ qw_ D a g w t 4 = pu_many (wk D a g w t) 6 := ⟨rfl, rfl, rfl, rfl, rfl⟩
def qx_ (o : Option (List Int)) : Int := match o with
  | some (x :: _) => x
  | _ => 0
/-- the value of a room -/
def qv2_ (D : dm_D) (a g : Int) (w : Int → Int) (C : List Int) (t : Nat) : Int := qx_ (qe_ (qw_ D a g w t) (wk D a g w t) C [])
theorem pq_ok {t : Int → Int} {e p en hd : Int} {C : List Int} (h : pq_ t e = .ok (p, en, (hd, C))) : (0 ≤ hd ∧ hd ≤ 5) ∧ ∀ a wt : Int → Int, ∃ x, qe_ a wt C [] = some [x] ∧ (hd ≤ 2 → x = 0 ∨ x = 1) := by
  have hpq : pq_ t e = if ph_ t e = -1 then .error (1, rd_at t e 0) else pr_b (pi2_ t e (ph_ t e) (rd_at t e (rd_at t e 0 + rd_wd t e (-1) (rd_at t e 0))) (rd_at t e 0 + rd_wd t e (-1) (rd_at t e 0))) (fun p1 en1 cs => if rc t e p1 = -1 then .ok (p1, en1, (ph_ t e, cs)) else .error (1, p1)) := rfl
  rw [hpq] at h
  by_cases c : ph_ t e = -1
  · rw [if_pos c] at h; cases h
  · rw [if_neg c] at h
    have hin := (ph_in (t := t) (e := e)).elim (fun z => absurd z c) id
    generalize hx : pi2_ t e (ph_ t e) (rd_at t e (rd_at t e 0 + rd_wd t e (-1) (rd_at t e 0))) (rd_at t e 0 + rd_wd t e (-1) (rd_at t e 0)) = y at h
    match y, hx, h with
    | .error (k, z), _, h => cases h
    | .ok (p1, en1, cs), hx, h =>
      have h : (if rc t e p1 = -1 then Except.ok (p1, en1, (ph_ t e, cs)) else Except.error (1, p1) : pr_ (Int × List Int)) = .ok (p, en, (hd, C)) := h
      by_cases c2 : rc t e p1 = -1
      · rw [if_pos c2] at h
        simp only [Except.ok.injEq, Prod.mk.injEq] at h
        obtain ⟨-, -, e1, e2⟩ := h
        rw [← e1, ← e2]
        refine ⟨hin, fun a wt => ?_⟩
        unfold pi2_ at hx
        by_cases c3 : ph_ t e ≤ 2
        · rw [if_pos c3] at hx
          obtain ⟨x, x1, x2⟩ := qtest_ok (a := a) (wt := wt) hx
          exact ⟨x, x2, fun _ => x1⟩
        · rw [if_neg c3] at hx
          obtain ⟨x, x2⟩ := qsum_ok (a := a) (wt := wt) hx
          exact ⟨x, x2, fun z => absurd z c3⟩
      · rw [if_neg c2] at h; cases h
theorem qe_mi {a wt : Int → Int} (ha : ∀ i : Int, 0 ≤ i → i ≤ 4 → mi_ok (a i)) (hw : we_ok wt) : ∀ (C st r : List Int), (∀ z ∈ st, mi_ok z) → qe_ a wt C st = some r → ∀ z ∈ r, mi_ok z
  | [], st, r, hs, h => by
    have h : some st = some r := h
    cases h
    exact hs
  | c :: C, st, r, hs, h => by
    have hcons : ∀ (y : Int) (t : List Int), mi_ok y → (∀ z ∈ t, mi_ok z) → ∀ z ∈ y :: t, mi_ok z := fun y t hy ht z hz => by
      rcases List.mem_cons.mp hz with rfl | hz
      · exact hy
      · exact ht z hz
    by_cases c1 : 1000 ≤ c
    · rw [qe_n c1] at h
      by_cases c2 : c ≤ 10999 ∧ st.length < 64
      · rw [if_pos c2] at h
        exact qe_mi ha hw C _ r (hcons _ _ ⟨by omega, by omega⟩ hs) h
      · rw [if_neg c2] at h; cases h
    · by_cases c2 : c = 60
      · subst c2
        rw [qe_60] at h
        cases st with
        | nil => cases h
        | cons x t =>
          refine qe_mi ha hw C _ r (hcons _ _ ?_ (fun z hz => hs z (List.mem_cons_of_mem _ hz))) h
          by_cases z : 0 ≤ x ∧ x < 6
          · rw [if_pos z]
            have := hw x z.1 z.2
            exact ⟨by omega, by omega⟩
          · rw [if_neg z]; exact ⟨by decide, by decide⟩
      · by_cases c3 : 40 ≤ c ∧ c ≤ 44
        · rw [qe_40 c3] at h
          by_cases c4 : st.length < 64
          · rw [if_pos c4] at h
            exact qe_mi ha hw C _ r (hcons _ _ (ha _ (by omega) (by omega)) hs) h
          · rw [if_neg c4] at h; cases h
        · by_cases c4 : c = 13
          · subst c4
            rw [qe_13] at h
            by_cases c5 : st.length < 64
            · rw [if_pos c5] at h
              exact qe_mi ha hw C _ r (hcons _ _ ⟨by decide, by decide⟩ hs) h
            · rw [if_neg c5] at h; cases h
          · by_cases c5 : c = 12
            · subst c5
              rw [qe_12] at h
              cases st with
              | nil => cases h
              | cons x t =>
                have h : (if x = 0 ∨ x = 1 then qe_ a wt C ((1 - x) :: t) else none) = some r := h
                by_cases c6 : x = 0 ∨ x = 1
                · rw [if_pos c6] at h
                  exact qe_mi ha hw C _ r (hcons _ _ ⟨by omega, by omega⟩ (fun z hz => hs z (List.mem_cons_of_mem _ hz))) h
                · rw [if_neg c6] at h; cases h
            · by_cases c6 : 1 ≤ c ∧ c ≤ 11
              · rw [qe_2 c6] at h
                match st, hs, h with
                | [], _, h => cases h
                | [_], _, h => cases h
                | y :: x :: t, hs, h =>
                  have h : (if c ≤ 9 ∨ ((x = 0 ∨ x = 1) ∧ (y = 0 ∨ y = 1)) then qe_ a wt C (ec_j (-c) x y :: t) else none) = some r := h
                  by_cases c7 : c ≤ 9 ∨ ((x = 0 ∨ x = 1) ∧ (y = 0 ∨ y = 1))
                  · rw [if_pos c7] at h
                    have hy : mi_ok y := hs y List.mem_cons_self
                    have hx : mi_ok x := hs x (List.mem_cons_of_mem _ List.mem_cons_self)
                    exact qe_mi ha hw C _ r (hcons _ _ (ec_j_le (by omega) hx hy (c7.elim (fun v => Or.inl (by omega)) Or.inr)) (fun z hz => hs z (List.mem_cons_of_mem _ (List.mem_cons_of_mem _ hz)))) h
                  · rw [if_neg c7] at h; cases h
              · rw [qe_no c1 c2 c3 (by omega)] at h; cases h
/-- a room ahead: its value on both sides -/
theorem qv2_ok {D : dm_D} {a g : Int} {w : Int → Int} {C : List Int} {hd : Int} {T t : Nat} (hD : dg_ok D) (hw : dw_ok D w) (hT : wk_is D a g w T) (ht : t < T) (hC : ∀ a wt : Int → Int, ∃ x, qe_ a wt C [] = some [x] ∧ (hd ≤ 2 → x = 0 ∨ x = 1)) : qe_ (qw_ D a g w t) (wk D a g w t) C [] = some [qv2_ D a g w C t] ∧ (hd ≤ 2 → qv2_ D a g w C t = 0 ∨ qv2_ D a g w C t = 1) ∧ mi_ok (qv2_ D a g w C t) ∧ mi_ok (pu_dread D g false (wk D a g w t)) ∧ dw_ok D (wk D a g w t) := by
  have hwk := wk_ok hD hw t (fun s hs => hT.2.1 s (by omega))
  have h0 := pu_away hD hwk (hT.2.1 t ht)
  have hdr := pu_dread_in (g := g) (rd := false) (w := wk D a g w t) hD h0 (fun z => by cases z)
  have hdi : mi_ok (pu_dread D g false (wk D a g w t)) := ⟨by omega, by omega⟩
  obtain ⟨x, x1, x2⟩ := hC (qw_ D a g w t) (wk D a g w t)
  have e : qv2_ D a g w C t = x := by
    unfold qv2_
    rw [x1]
    rfl
  rw [e]
  have h200 := hT.1
  have hb : ∀ i : Int, 0 ≤ i → i ≤ 4 → mi_ok (qw_ D a g w t i) := fun i i0 i1 => by
    have q : ∀ i : Int, mi_ok (pu_ask (wk D a g w t) 6 0 0 i) := fun i => pu_ask_le (Nat.le_refl _) hwk.1 (by decide) (by decide) i
    obtain ⟨a0, a1, a2, a3, a4⟩ := qw_a (D := D) (a := a) (g := g) (w := w) (t := t)
    rcases (show i = 0 ∨ i = 1 ∨ i = 2 ∨ i = 3 ∨ i = 4 by omega) with z | z | z | z | z
    · rw [z, a0]; exact ⟨by omega, by omega⟩
    · rw [z, a1]; exact hdi
    · rw [z, a2]; exact q 1
    · rw [z, a3]; exact q 2
    · rw [z, a4]; exact q 3
  exact ⟨x1, x2, qe_mi hb hwk.1 C [] [x] (fun z hz => by cases hz) x1 x List.mem_cons_self, hdi, hwk⟩
theorem q1_in {v : Nat → Int} : ∀ t : Nat, -1 ≤ q1_ v t ∧ q1_ v t ≤ t
  | 0 => ⟨Int.le_refl _, by show (-1 : Int) ≤ ((0 : Nat) : Int); decide⟩
  | t + 1 => by
    have ih := q1_in (v := v) t
    unfold q1_
    split
    · omega
    · split <;> omega
theorem q2_in {v : Nat → Int} : ∀ t : Nat, -1 ≤ q2_ v t ∧ q2_ v t ≤ t
  | 0 => ⟨Int.le_refl _, by show (-1 : Int) ≤ ((0 : Nat) : Int); decide⟩
  | t + 1 => by
    have ih := q2_in (v := v) t
    unfold q2_
    split <;> omega
theorem q56_in {v : Nat → Int} {T : Nat} (hv : ∀ t : Nat, t < T → mi_ok (v t)) : ∀ t : Nat, t ≤ T → mi_ok (q5_ v t) ∧ mi_ok (q6_ v t)
  | 0, _ => ⟨⟨by show (-1000000 : Int) ≤ 0; decide, by show (0 : Int) ≤ 1000000; decide⟩, ⟨by show (-1000000 : Int) ≤ 0; decide, by show (0 : Int) ≤ 1000000; decide⟩⟩
  | t + 1, ht => by
    have ih := q56_in hv t (by omega)
    have h := hv t (by omega)
    unfold q5_ q6_
    refine ⟨?_, ?_⟩
    · split
      · exact h
      · split
        · exact h
        · exact ih.1
    · split
      · exact h
      · split
        · exact h
        · exact ih.2
theorem qa_in {v : Nat → Int} {T t : Nat} {hd : Int} (hv : ∀ t : Nat, t < T → mi_ok (v t)) (ht : t ≤ T) (hT : T ≤ 200) : -1000000000 ≤ qa_ hd v t ∧ qa_ hd v t ≤ 1000000000 := by
  have b1 := q1_in (v := v) t
  have b2 := q2_in (v := v) t
  have b3 := q3_in (v := v) t
  have b4 := q4_in hv t ht
  obtain ⟨⟨b5, b5'⟩, b6, b6'⟩ := q56_in hv t ht
  unfold qa_
  split
  · omega
  · split
    · omega
    · split
      · omega
      · split
        · omega
        · split <;> omega
