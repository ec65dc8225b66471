/-! A ROOM: faced or gone round, in the class and in the reference -/
def pu_up (w : Int → Int) (a x : Int) : Int → Int := fun j => if j = a then x else w j
/-- n dreads; m: how many are asked of (those behind the n-th weigh nothing); g a guide, r what he is afraid of; the sums of meeting and shunning; the courage -/
def pu_wst (n : Nat) (g r : Int) (w : Int → Int) : Int := pu_wo (fun k => pu_cnt g r (w k) k) (-1) n
def pu_snd (n : Nat) (g r : Int) (w : Int → Int) : Int := pu_wo (fun k => pu_cnt g r (w k) k) (pu_wst n g r w) n
def pu_with (n : Nat) (g r : Int) (round : Bool) (w : Int → Int) : Int := if round = true then pu_snd n g r w else pu_wst n g r w
def pu_go (n m : Nat) (g r : Int) (om os : Option (List Int)) (b : Int) (round : Bool) (w : Int → Int) : Int → Int :=
  if round = true then pu_up (pu_up w (pu_wst n g r w) (pu_made os w m (pu_wst n g r w) b)) (pu_snd n g r w) (pu_made om w m (pu_snd n g r w) b)
  else pu_up w (pu_wst n g r w) (pu_made om w m (pu_wst n g r w) b)
theorem pu_wo_but {v : Int → Int} {but : Int} : ∀ n : Nat, pu_wo v but n = -1 ∨ ¬ pu_wo v but n = but
  | 0 => Or.inl rfl
  | n + 1 => by
    have ih := pu_wo_but (v := v) (but := but) n
    unfold pu_wo
    by_cases c : (n : Int) = but
    · rw [if_pos c]; exact ih
    · rw [if_neg c]
      by_cases c2 : pu_wo v but n = -1
      · rw [if_pos c2]; exact Or.inr c
      · rw [if_neg c2]
        split
        · exact Or.inr c
        · exact ih
theorem pu_wo_ge {v : Int → Int} {but : Int} : ∀ n : Nat, (∃ k : Nat, k < n ∧ ¬ (k : Int) = but) → 0 ≤ pu_wo v but n
  | 0, h => by obtain ⟨k, h1, -⟩ := h; omega
  | n + 1, h => by
    have hl := pu_wo_le (v := v) (but := but) n
    unfold pu_wo
    by_cases c : (n : Int) = but
    · rw [if_pos c]
      obtain ⟨k, h1, h2⟩ := h
      exact pu_wo_ge n ⟨k, by have : ¬ k = n := fun q => h2 (by rw [q]; exact c); omega, h2⟩
    · rw [if_neg c]
      by_cases c2 : pu_wo v but n = -1
      · rw [if_pos c2]; omega
      · rw [if_neg c2]
        split <;> omega
theorem pu_wst_in {n : Nat} {g r : Int} {w : Int → Int} (hn : 0 < n) : 0 ≤ pu_wst n g r w ∧ pu_wst n g r w < n := ⟨pu_wo_ge n ⟨0, hn, by decide⟩, (pu_wo_le n).2⟩
theorem pu_snd_in {n : Nat} {g r : Int} {w : Int → Int} (hn : 1 < n) : 0 ≤ pu_snd n g r w ∧ pu_snd n g r w < n ∧ ¬ pu_snd n g r w = pu_wst n g r w := by
  have h1 : 0 ≤ pu_snd n g r w := by
    refine pu_wo_ge n ?_
    by_cases c : pu_wst n g r w = 0
    · exact ⟨1, hn, by rw [c]; decide⟩
    · exact ⟨0, by omega, fun q => c q.symm⟩
  refine ⟨h1, (pu_wo_le n).2, ?_⟩
  rcases pu_wo_but (v := fun k => pu_cnt g r (w k) k) (but := pu_wst n g r w) n with q | q
  · unfold pu_snd at h1
    rw [q] at h1; omega
  · exact q
theorem pu_made_le {o : Option (List Int)} {w : Int → Int} {n : Nat} {k b : Int} (hw : we_ok w) (hk : 0 ≤ k ∧ k < 6) : 0 ≤ pu_made o w n k b ∧ pu_made o w n k b ≤ 999 := by
  cases o with
  | none => exact hw k hk.1 hk.2
  | some cs => exact pu_mk_le cs _
theorem pu_up_ok {w : Int → Int} {a x : Int} (hw : we_ok w) (hx : 0 ≤ x ∧ x ≤ 999) : we_ok (pu_up w a x) := by
  intro k k0 k1
  unfold pu_up
  split
  · exact hx
  · exact hw k k0 k1
theorem pu_go_ok {n m : Nat} {g r b : Int} {om os : Option (List Int)} {round : Bool} {w : Int → Int} (hn : 0 < n ∧ n ≤ 6) (hr : round = true → 1 < n) (hw : we_ok w) : we_ok (pu_go n m g r om os b round w) := by
  have h1 := pu_wst_in (g := g) (r := r) (w := w) hn.1
  unfold pu_go
  split
  · rename_i q
    have h2 := pu_snd_in (g := g) (r := r) (w := w) (hr q)
    exact pu_up_ok (pu_up_ok hw (pu_made_le hw (by omega))) (pu_made_le hw (by omega))
  · exact pu_up_ok hw (pu_made_le hw (by omega))
/-- what a room writes in the class: the scratch, the sleeper's row -/
def en_fr (c v : Int) (M M' : am_M) : Prop := ∀ a j, ¬ a = c + 8 → ¬ a = c + 9 → ¬ a = c + 10 → ¬ (a = c + 6 ∧ j = 3) → ¬ a = v + 1 → M' a j = M a j
/-- all that a room needs of a dream and a sleeper -/
def en_ok (M : am_M) (c v : Int) (om os : Option (List Int)) : Prop := dr_is c ∧ sl_is v ∧ we_ok (M (v + 1)) ∧ (-1 ≤ M v 2 ∧ M v 2 < 4) ∧ (0 ≤ M v 1 ∧ M v 1 < 4) ∧ (0 ≤ M (c + 3) (M v 1) ∧ M (c + 3) (M v 1) ≤ 9) ∧ (0 ≤ M (c + 2) 0 ∧ M (c + 2) 0 ≤ 6) ∧ dr_sum M c 0 om ∧ dr_sum M c 1 os
theorem dr_sum_fr {M M' : am_M} {c w : Int} {o : Option (List Int)} (hc : dr_is c) (h11 : ∀ j, M' (c + 11) j = M (c + 11) j) (h12 : ∀ j, M' (c + 12) j = M (c + 12) j) (h6 : M' (c + 6) 1 = M (c + 6) 1) (h7 : ∀ j, M' (c + 7) j = M (c + 7) j) (ho : dr_sum M c w o) : dr_sum M' c w o := by
  cases o with
  | none => show M' (c + 12) w ≤ M' (c + 11) w; rw [h11, h12]; exact ho
  | some cs =>
    obtain ⟨o1, o2, o3, o4, o5, o6⟩ := ho
    refine ⟨by rw [h11, h12]; exact o1, by rw [h11]; exact o2, by rw [h12, h6]; exact o3, by rw [h11, h12]; exact o4, fun i hi => by rw [h7, h11]; exact o5 i hi, o6⟩
theorem st_canEnter {d : Nat} {M : am_M} {f : Int → am_M → Prop} {c v x : Int} (hc : dr_is c) (hv : sl_is v) (hw : we_ok (M (v + 1))) (hx : x = 0 ∨ x = 1) (h : f (am_b (x < M (c + 2) 0 ∧ ¬ pu_sum (M (v + 1)) 6 ≤ M c 5)) M) : am_cal pg (d + 3) 33 [(2, c), (2, v), (0, x)] sh_T M (am_c0 sh_T f) := by
  refine en_X2_canEnter (bk_X2_canEnter_0 ⟨dr_ob hc, st_count hc ?_⟩)
  rw [if_pos ⟨by decide, by decide⟩]
  refine ⟨fun q => ⟨fun q2 => am_c0_i ?_, fun q2 => st_isHome hc hv hw ⟨fun q3 => am_c0_i ?_, fun q3 => am_c0_i ?_⟩⟩, fun q => ⟨fun q2 => am_c0_i ?_, fun q2 => st_isHome hc hv hw ⟨fun q3 => am_c0_i ?_, fun q3 => am_c0_i ?_⟩⟩⟩
  · rw [am_b_0 (by omega)] at h; exact h
  · have q4 : pu_sum (M (v + 1)) 6 ≤ M c 5 := Classical.byContradiction fun z => q3 (am_b_z.mpr z)
    rw [am_b_0 (fun z => z.2 q4)] at h; exact h
  · rw [am_b_1 ⟨by omega, am_b_z.mp q3⟩] at h; exact h
  · rw [am_b_0 (by omega)] at h; exact h
  · have q4 : pu_sum (M (v + 1)) 6 ≤ M c 5 := Classical.byContradiction fun z => q3 (am_b_z.mpr z)
    rw [am_b_0 (fun z => z.2 q4)] at h; exact h
  · rw [am_b_1 ⟨by omega, am_b_z.mp q3⟩] at h; exact h
theorem st_enter {d : Nat} {M : am_M} {f : Int → am_M → Prop} {c v : Int} {om os : Option (List Int)} {round : Bool} (hok : en_ok M c v om os)
    (h0 : ¬ (am_b (round = true) < M (c + 2) 0 ∧ ¬ pu_sum (M (v + 1)) 6 ≤ M c 5) → f (-1) M)
    (h1 : am_b (round = true) < M (c + 2) 0 → ¬ pu_sum (M (v + 1)) 6 ≤ M c 5 → ∀ M', en_fr c v M M' → (∀ j, M' (v + 1) j = pu_go (M (c + 2) 0).toNat 6 (M v 2) (M (c + 5) (M v 2)) om os (M (c + 3) (M v 1)) round (M (v + 1)) j) → f (pu_with (M (c + 2) 0).toNat (M v 2) (M (c + 5) (M v 2)) round (M (v + 1))) M') : am_cal pg (d + 5) 34 [(2, c), (2, v), (0, am_b (round = true))] sh_T M (am_c0 sh_T f) := by
  obtain ⟨hc, hv, hw, hg, hn, hb, hd, hom, hos⟩ := hok
  have hcr : 11 ≤ c ∧ c ≤ 24 := by rcases hc with rfl | rfl <;> exact ⟨by decide, by decide⟩
  have hvr := hv.2.2.2.2
  refine en_X2_enter (bk_X2_enter_0 ⟨dr_ob hc, st_canEnter hc hv hw am_b_01 ⟨fun q => ?_, fun q => am_c0_i (h0 (am_b_z.mp q))⟩⟩)
  have q' : am_b (round = true) < M (c + 2) 0 ∧ ¬ pu_sum (M (v + 1)) 6 ≤ M c 5 := Classical.byContradiction fun z => q (am_b_z.mpr z)
  have h1 := h1 q'.1 q'.2
  have b01 := am_b_01 (p := round = true)
  have hn0 : 0 < (M (c + 2) 0).toNat := by omega
  have hw1 := pu_wst_in (g := M v 2) (r := M (c + 5) (M v 2)) (w := M (v + 1)) hn0
  refine st_heaviest hc hv hg hw hd ?_
  show (¬ am_b (round = true) = 0 → _) ∧ (am_b (round = true) = 0 → _)
  have ew : pu_wo (sl_cnt M c v) (-1) (M (c + 2) 0).toNat = pu_wst (M (c + 2) 0).toNat (M v 2) (M (c + 5) (M v 2)) (M (v + 1)) := rfl
  rw [ew]
  refine ⟨fun qr => ?_, fun qr => ?_⟩
  · have hr : round = true := Classical.byContradiction fun z => qr (am_b_z.mpr z)
    have hn1 : 1 < (M (c + 2) 0).toNat := by
      have : am_b (round = true) = 1 := am_b_1 hr
      omega
    have hw2 := pu_snd_in (g := M v 2) (r := M (c + 5) (M v 2)) (w := M (v + 1)) hn1
    refine st_heaviest hc hv hg hw hd ?_
    have ew2 : pu_wo (sl_cnt M c v) (pu_wst (M (c + 2) 0).toNat (M v 2) (M (c + 5) (M v 2)) (M (v + 1))) (M (c + 2) 0).toNat = pu_snd (M (c + 2) 0).toNat (M v 2) (M (c + 5) (M v 2)) (M (v + 1)) := rfl
    rw [ew2]
    refine st_becomes hc hv hw (by omega) (by decide) hn hb hom (fun M1 hf1 => ?_)
    have eq1 : ∀ a, ¬ a = c + 8 → ¬ a = c + 9 → ¬ a = c + 10 → ¬ a = c + 6 → M1 a = M a := fun a p1 p2 p3 p4 => by
      funext j; exact hf1 a j p1 p2 p3 (fun z => p4 z.1)
    have ev1 : M1 (v + 1) = M (v + 1) := eq1 _ (by omega) (by omega) (by omega) (by omega)
    have ev : M1 v = M v := eq1 _ (by omega) (by omega) (by omega) (by omega)
    have e3 : M1 (c + 3) = M (c + 3) := eq1 _ (by omega) (by omega) (by omega) (by omega)
    have hos1 : dr_sum M1 c 1 os := dr_sum_fr hc (fun j => hf1 _ j (by omega) (by omega) (by omega) (by omega)) (fun j => hf1 _ j (by omega) (by omega) (by omega) (by omega)) (hf1 _ _ (by omega) (by omega) (by omega) (by omega)) (fun j => hf1 _ j (by omega) (by omega) (by omega) (by omega)) hos
    refine st_becomes hc hv (by rw [ev1]; exact hw) (by omega) (by decide) (by rw [ev]; exact hn) (by rw [ev, e3]; exact hb) hos1 (fun M2 hf2 => ?_)
    rw [ev1, ev, e3]
    refine ⟨hv.1, st_put hv (by omega) (by omega) (st_put hv (by omega) (by omega) (am_c0_i ?_))⟩
    have hp : pu_with (M (c + 2) 0).toNat (M v 2) (M (c + 5) (M v 2)) round (M (v + 1)) = pu_snd (M (c + 2) 0).toNat (M v 2) (M (c + 5) (M v 2)) (M (v + 1)) := by unfold pu_with; rw [if_pos hr]
    rw [hp] at h1
    refine h1 _ ?_ ?_
    · intro a j p1 p2 p3 p4 p5
      rw [am_up_el (fun z => p5 z.1), am_up_el (fun z => p5 z.1), hf2 a j p1 p2 p3 p4, hf1 a j p1 p2 p3 p4]
    · intro j
      unfold pu_go
      rw [if_pos hr]
      unfold pu_up
      have e2 : M2 (v + 1) j = M (v + 1) j := by rw [hf2 _ j (by omega) (by omega) (by omega) (by omega), ev1]
      by_cases j1 : j = pu_snd (M (c + 2) 0).toNat (M v 2) (M (c + 5) (M v 2)) (M (v + 1))
      · rw [if_pos j1, j1]
        exact am_up_at
      · rw [if_neg j1, am_up_el (fun z => j1 z.2)]
        by_cases j2 : j = pu_wst (M (c + 2) 0).toNat (M v 2) (M (c + 5) (M v 2)) (M (v + 1))
        · rw [if_pos j2, j2]
          exact am_up_at
        · rw [if_neg j2, am_up_el (fun z => j2 z.2)]
          exact e2
  · have hr : ¬ round = true := am_b_z.mp qr
    refine st_becomes hc hv hw (by omega) (by decide) hn hb hom (fun M1 hf1 => ?_)
    refine ⟨hv.1, st_put hv (by omega) (by omega) (am_c0_i ?_)⟩
    have hp : pu_with (M (c + 2) 0).toNat (M v 2) (M (c + 5) (M v 2)) round (M (v + 1)) = pu_wst (M (c + 2) 0).toNat (M v 2) (M (c + 5) (M v 2)) (M (v + 1)) := by unfold pu_with; rw [if_neg hr]
    rw [hp] at h1
    refine h1 _ ?_ ?_
    · intro a j p1 p2 p3 p4 p5
      rw [am_up_el (fun z => p5 z.1), hf1 a j p1 p2 p3 p4]
    · intro j
      unfold pu_go
      rw [if_neg hr]
      unfold pu_up
      by_cases j2 : j = pu_wst (M (c + 2) 0).toNat (M v 2) (M (c + 5) (M v 2)) (M (v + 1))
      · rw [if_pos j2, j2]
        exact am_up_at
      · rw [if_neg j2, am_up_el (fun z => j2 z.2)]
        exact hf1 _ j (by omega) (by omega) (by omega) (by omega)
theorem st_meetByDay {d : Nat} {M : am_M} {f : am_M → Prop} {c v k : Int} {o : Option (List Int)} (hc : dr_is c) (hv : sl_is v) (hw : we_ok (M (v + 1))) (hk : 0 ≤ k ∧ k < 6) (hn : 0 ≤ M v 1 ∧ M v 1 < 4) (hb : 0 ≤ M (c + 3) (M v 1) ∧ M (c + 3) (M v 1) ≤ 9) (ho : dr_sum M c 2 o) (h : ∀ M', en_fr c v M M' → (∀ j, M' (v + 1) j = pu_up (M (v + 1)) k (pu_made o (M (v + 1)) 6 k (M (c + 3) (M v 1))) j) → f M') : am_cal pg (d + 5) 35 [(2, c), (2, v), (0, k)] sh_T M (am_cv sh_T f) := by
  have hcr : 11 ≤ c ∧ c ≤ 24 := by rcases hc with rfl | rfl <;> exact ⟨by decide, by decide⟩
  have hvr := hv.2.2.2.2
  refine en_X2_meetByDay (bk_X2_meetByDay_0 ⟨dr_ob hc, st_becomes hc hv hw hk (by decide) hn hb ho (fun M1 hf1 => ⟨hv.1, st_put hv hk.1 hk.2 (am_cv_i (h _ ?_ ?_))⟩)⟩)
  · intro a j p1 p2 p3 p4 p5
    rw [am_up_el (fun z => p5 z.1), hf1 a j p1 p2 p3 p4]
  · intro j
    unfold pu_up
    by_cases j2 : j = k
    · rw [if_pos j2, j2]; exact am_up_at
    · rw [if_neg j2, am_up_el (fun z => j2 z.2)]
      exact hf1 _ j (by omega) (by omega) (by omega) (by omega)
