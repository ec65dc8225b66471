/-! WHAT A SUM MAKES OF A WEIGHT: the reference's pile; its codes are the class's steps -/
def er (a : Int → Int) : List Int → List Int → Option (List Int)
  | [], st => some st
  | c :: cs, st =>
    if 1000 ≤ c then (if c ≤ 10999 ∧ st.length < 64 then er a cs ((c - 1000) :: st) else none)
    else if 7 ≤ c ∧ c ≤ 12 then (if st.length < 64 then er a cs (a (c - 7) :: st) else none)
    else if 1 ≤ c ∧ c ≤ 6 then (match st with
      | y :: x :: t => er a cs (ec_j (-c) x y :: t)
      | _ => none)
    else none
/-- a code as the class has it -/
def cv (c : Int) : Int := if 1000 ≤ c then c - 1000 else if 7 ≤ c then -(13 + c) else -c
theorem er_ec {a kn wt : Int → Int} (h : ∀ k, 0 ≤ k → k < 6 → kn k = a k) : ∀ (cs st : List Int) (r : List Int), er a cs st = some r → ec 6 kn wt (cs.map cv) st = some r
  | [], st, r, hr => hr
  | c :: cs, st, r, hr => by
    unfold er at hr
    show ec 6 kn wt (cv c :: cs.map cv) st = some r
    unfold ec
    unfold cv
    by_cases c1 : 1000 ≤ c
    · rw [if_pos c1] at hr
      simp only [c1, if_true]
      by_cases c2 : c ≤ 10999 ∧ st.length < 64
      · rw [if_pos c2] at hr
        rw [if_pos (by omega), if_pos ⟨by omega, c2.2⟩]
        exact er_ec h cs _ r hr
      · rw [if_neg c2] at hr; cases hr
    · rw [if_neg c1] at hr
      simp only [c1, if_false]
      by_cases c2 : 7 ≤ c ∧ c ≤ 12
      · rw [if_pos c2] at hr
        simp only [c2.1, if_true]
        by_cases c3 : st.length < 64
        · rw [if_pos c3] at hr
          rw [if_neg (by omega), if_pos (by omega), if_pos ⟨by omega, c3⟩]
          rw [show -20 - -(13 + c) = c - 7 by omega, h _ (by omega) (by omega)]
          exact er_ec h cs _ r hr
        · rw [if_neg c3] at hr; cases hr
      · rw [if_neg c2] at hr
        by_cases c3 : 1 ≤ c ∧ c ≤ 6
        · rw [if_pos c3] at hr
          have c4 : ¬ 7 ≤ c := by omega
          simp only [c4, if_false]
          rw [if_neg (by omega), if_neg (by omega), if_neg (by omega), if_neg (by omega), if_pos (by omega)]
          match st, hr with
          | [], hr => cases hr
          | [_], hr => cases hr
          | y :: x :: t, hr =>
            show (if -9 ≤ -c ∨ ((x = 0 ∨ x = 1) ∧ (y = 0 ∨ y = 1)) then ec 6 kn wt (cs.map cv) (ec_j (-c) x y :: t) else none) = some r
            rw [if_pos (Or.inl (by omega))]
            exact er_ec h cs _ r hr
        · rw [if_neg c3] at hr; cases hr
/-- how it goes doesn't hang on the numbers -/
theorem er_len {a b : Int → Int} : ∀ (cs st st' : List Int), st.length = st'.length → (er a cs st).map List.length = (er b cs st').map List.length
  | [], st, st', h => by unfold er; simp [h]
  | c :: cs, st, st', h => by
    unfold er
    by_cases c1 : 1000 ≤ c
    · rw [if_pos c1, if_pos c1, h]
      by_cases c2 : c ≤ 10999 ∧ st'.length < 64
      · rw [if_pos c2, if_pos c2]; exact er_len cs _ _ (by simp [h])
      · rw [if_neg c2, if_neg c2]
    · rw [if_neg c1, if_neg c1]
      by_cases c2 : 7 ≤ c ∧ c ≤ 12
      · rw [if_pos c2, if_pos c2, h]
        by_cases c3 : st'.length < 64
        · rw [if_pos c3, if_pos c3]; exact er_len cs _ _ (by simp [h])
        · rw [if_neg c3, if_neg c3]
      · rw [if_neg c2, if_neg c2]
        by_cases c3 : 1 ≤ c ∧ c ≤ 6
        · rw [if_pos c3, if_pos c3]
          match st, st', h with
          | [], [], _ => rfl
          | [_], [_], _ => rfl
          | y :: x :: t, y' :: x' :: t', h => exact er_len cs _ _ (by simpa using h)
        · rw [if_neg c3, if_neg c3]
/-- codes that are right: whatever is asked, one number comes out -/
def er_ok (cs : List Int) : Prop := ∃ x, er (fun _ => 0) cs [] = some [x]
theorem er_all {cs : List Int} (h : er_ok cs) (a : Int → Int) : ∃ x, er a cs [] = some [x] := by
  obtain ⟨x, hx⟩ := h
  have e := er_len (a := a) (b := fun _ => 0) cs [] [] rfl
  rw [hx] at e
  cases hr : er a cs [] with
  | none => rw [hr] at e; cases e
  | some r =>
    rw [hr] at e
    simp at e
    match r, e with
    | [y], _ => exact ⟨y, rfl⟩
/-- what is asked of weights w, n of them, for the k-th, with the courage b -/
def pu_ask (w : Int → Int) (n : Nat) (k b : Int) : Int → Int := fun i => if i = 0 then w k else if i = 1 then pu_max w n else if i = 2 then pu_sum w n else if i = 3 then pu_many w n else if i = 4 then k else b
def pu_99 (x : Int) : Int := if x < 0 then 0 else if 999 < x then 999 else x
theorem pu_99_le (x : Int) : 0 ≤ pu_99 x ∧ pu_99 x ≤ 999 := by
  unfold pu_99
  split
  · omega
  · split <;> omega
/-- what codes make of it -/
def pu_mk (cs : List Int) (a : Int → Int) : Int := match er a cs [] with
  | some (x :: _) => pu_99 x
  | _ => 0
theorem pu_mk_le (cs : List Int) (a : Int → Int) : 0 ≤ pu_mk cs a ∧ pu_mk cs a ≤ 999 := by
  unfold pu_mk
  split
  · exact pu_99_le _
  · exact ⟨by decide, by decide⟩
def rf_mf (M M' : am_M) : Prop := ∀ a j, ¬ a = 184 → ¬ a = 185 → ¬ (a = 152 ∧ j = 46) → M' a j = M a j
theorem rf_mf_rf {M : am_M} : rf_mf M M := fun _ _ _ _ _ => rfl
theorem rf_mf_tr {M M1 M2 : am_M} (h : rf_mf M M1) (h2 : rf_mf M1 M2) : rf_mf M M2 := fun a j p q r => (h2 a j p q r).trans (h a j p q r)
/-- a run of the pile's changes only the pile -/
def rf_pf (M M' : am_M) : Prop := ∀ a j, ¬ a = 184 → ¬ (a = 152 ∧ j = 46) → M' a j = M a j
theorem rf_pf_tr {M M1 M2 : am_M} (h : rf_pf M M1) (h2 : rf_pf M1 M2) : rf_pf M M2 := fun a j p q => (h2 a j p q).trans (h a j p q)
def rf_st (M : am_M) (st : List Int) : Prop := M 152 46 = st.length ∧ st.length ≤ 64 ∧ ∀ i : Nat, i < st.length → M 184 ((st.length : Int) - 1 - i) = st.getD i 0
theorem sp_puts {d : Nat} {M : am_M} {f : am_M → Prop} {x : Int} {st : List Int} (hs : rf_st M st) (hl : st.length < 64) (h : ∀ M', rf_pf M M' → rf_st M' (x :: st) → f M') : am_cal pg (d + 1) 209 [(2, 152), (1, x)] sh_T M (am_cv sh_T f) := by
  obtain ⟨s1, s2, s3⟩ := hs
  refine en_X12_puts (bk_X12_puts_0 ⟨⟨by omega, by omega⟩, ⟨by omega, by omega⟩, am_cv_i (h _ ?_ ?_)⟩)
  · intro a j q1 q2
    rw [am_up_el q2, am_up_el (fun q => q1 q.1)]
  · refine ⟨?_, by simp; omega, fun i hi => ?_⟩
    · rw [am_up_at, s1]; simp
    · rw [am_up_el (by omega)]
      cases i with
      | zero =>
        rw [s1]
        simp
        exact am_up_at
      | succ i =>
        simp only [List.length_cons] at hi ⊢
        rw [am_up_el (by omega)]
        have := s3 i (by omega)
        simp only [List.getD_cons_succ]
        rw [← this]
        congr 1
        omega
theorem sp_clip {d : Nat} {M : am_M} {f : Int → am_M → Prop} {x : Int} (h : f (pu_cl x) M) : am_cal pg (d + 1) 207 [(1, x)] sh_T M (am_c1 sh_T f) := by
  unfold pu_cl at h
  refine en_X12_clip (bk_X12_clip_0 ⟨fun c => ⟨fun c2 => am_c1_i ?_, fun c2 => am_c1_i ?_⟩, fun c => am_c1_i ?_⟩)
  · rw [if_neg (by omega), if_neg (by omega)] at h; exact h
  · rw [if_neg (by omega), if_pos c2] at h; exact h
  · rw [if_pos c] at h; exact h
theorem sp_floor {d : Nat} {M : am_M} {f : Int → am_M → Prop} {x y : Int} (hx : mi_ok x) (hy : mi_ok y) (h : f (pu_fl x y) M) : am_cal pg (d + 1) 208 [(1, x), (1, y)] sh_T M (am_c1 sh_T f) := by
  have ht := tdiv_le (y := y) hx
  unfold pu_fl at h
  refine en_X12_floor (bk_X12_floor_0 ⟨fun c => ⟨c, ⟨by omega, by omega⟩, c, fun c2 => am_c1_i ?_, fun c2 => ⟨fun c3 => ⟨fun c4 => am_c1_i ?_, fun c4 => ⟨⟨by omega, by omega⟩, am_c1_i ?_⟩⟩, fun c3 => ⟨fun c4 => ⟨⟨by omega, by omega⟩, am_c1_i ?_⟩, fun c4 => am_c1_i ?_⟩⟩⟩, fun c => am_c1_i ?_⟩)
  · rw [if_neg c, if_neg (fun q => q.1 c2)] at h; exact h
  · rw [if_neg c, if_neg (fun q => q.2 (by omega))] at h; exact h
  · rw [if_neg c, if_pos ⟨c2, by omega⟩] at h; exact h
  · rw [if_neg c, if_pos ⟨c2, by omega⟩] at h; exact h
  · rw [if_neg c, if_neg (fun q => q.2 (by omega))] at h; exact h
  · rw [if_pos c] at h; exact h
theorem sp_joins {d : Nat} {M : am_M} {f : am_M → Prop} {c x y : Int} {st : List Int} (hc : 1 ≤ c ∧ c ≤ 6) (hx : mi_ok x) (hy : mi_ok y) (hs : rf_st M (y :: x :: st)) (h : ∀ M', rf_pf M M' → rf_st M' (ec_j (-c) x y :: st) → f M') : am_cal pg (d + 2) 210 [(2, 152), (0, c)] sh_T M (am_cv sh_T f) := by
  obtain ⟨s1, s2, s3⟩ := hs
  simp only [List.length_cons] at s1 s2 s3
  have ey : M 184 (M 152 46 - 1) = y := by
    have := s3 0 (by omega)
    simp only [List.getD_cons_zero] at this
    rw [← this]; congr 1; omega
  have ex : M 184 (M 152 46 - 2) = x := by
    have := s3 1 (by omega)
    simp only [List.getD_cons_succ, List.getD_cons_zero] at this
    rw [← this]; congr 1; omega
  have hm := mi_mul hx hy
  have hst : rf_st (am_up M 152 46 (M 152 46 - 2)) st := by
    refine ⟨by rw [am_up_at]; omega, by omega, fun i hi => ?_⟩
    rw [am_up_el (by omega)]
    have := s3 (i + 2) (by omega)
    simp only [List.getD_cons_succ] at this
    rw [← this]; congr 1; omega
  have hpf : rf_pf M (am_up M 152 46 (M 152 46 - 2)) := fun a j q1 q2 => am_up_el q2
  have put : ∀ z, ec_j (-c) x y = z → am_cal pg (d + 1) 209 [(2, 152), (1, z)] sh_T (am_up M 152 46 (M 152 46 - 2)) (am_cv sh_T fun M7 => am_cv sh_T f (none, sh_T, M7)) := fun z e => sp_puts hst (by omega) (fun M' q1 q2 => am_cv_i (h M' (rf_pf_tr hpf q1) (by rw [e]; exact q2)))
  obtain ⟨x0, x1⟩ := hx
  obtain ⟨y0, y1⟩ := hy
  refine en_X12_joins (bk_X12_joins_0 ?_)
  rw [ex, ey]
  refine ⟨⟨by omega, by omega⟩, ⟨by omega, by omega⟩, ⟨by omega, by omega⟩, ⟨by omega, by omega⟩, ⟨by omega, by omega⟩, fun q => ⟨fun q2 => put _ ?_, fun q2 => put _ ?_⟩, fun q => ⟨⟨by omega, by omega⟩, sp_clip (put _ ?_)⟩, fun q => ⟨⟨by omega, by omega⟩, sp_clip (put _ ?_)⟩, fun q => ⟨hm, sp_clip (put _ ?_)⟩, fun q => sp_floor ⟨x0, x1⟩ ⟨y0, y1⟩ (put _ ?_), fun q => ⟨fun q2 => put _ ?_, fun q2 => put _ ?_⟩⟩
  · have : c = 6 := by omega
    subst this
    show (if x < y then y else x) = _
    split <;> omega
  · have : c = 6 := by omega
    subst this
    show (if x < y then y else x) = _
    split <;> omega
  · subst q; exact ej_1
  · subst q; exact ej_2
  · subst q; exact ej_3
  · subst q; exact ej_4
  · subst q
    show (if y < x then y else x) = _
    split <;> omega
  · subst q
    show (if y < x then y else x) = _
    split <;> omega
theorem sp_made_g {d : Nat} {M0 : am_M} {f : Int → am_M → Prop} {which to x : Int} {a : Int → Int} (hwh : 0 ≤ which ∧ which < 3) (hask : ∀ k, 0 ≤ k → k < 6 → M0 185 k = a k ∧ mi_ok (a k)) (hto : M0 181 (3 + which) = to) (ht : to ≤ 1600) (h : ∀ M', rf_pf M0 M' → f (pu_99 x) M') : ∀ (cs : List Int) (k : Int) (M : am_M) (st : List Int), rf_pf M0 M → rf_st M st → (∀ z ∈ st, mi_ok z) → 0 ≤ k → k + cs.length = to → (∀ i : Nat, i < cs.length → M0 182 (1600 + k + i) = cs.getD i 0) → er a cs st = some [x] → am_g 12 0 co_X12_made (d + 2) (am_c0 sh_T f) 105 [(2, 152), (0, which), (3, 0), (3, 0), (3, 0), (0, k), (3, 0)] [] sh_T M := by
  intro cs
  induction cs with
  | nil =>
    intro k M st hf hs hm k0 hk hc he
    unfold er at he
    cases he
    simp at hk
    have e1 : M 181 (3 + which) = to := by rw [hf 181 _ (by decide) (by omega)]; exact hto
    have e2 : M 184 0 = x := by
      have := hs.2.2 0 (by simp)
      simpa using this
    have hx : mi_ok x := hm x (by simp)
    have h99 := h M hf
    unfold pu_99 at h99
    refine bk_X12_made_105 ⟨⟨by omega, by omega⟩, ⟨by omega, by omega⟩, fun _ => ?_, fun c => by omega⟩
    rw [e2]
    refine ⟨fun c => ⟨fun c2 => ⟨⟨by omega, by omega⟩, am_c0_i ?_⟩, fun c2 => am_c0_i ?_⟩, fun c => am_c0_i ?_⟩
    · rw [if_neg (by omega), if_neg (by omega)] at h99; exact h99
    · rw [if_neg (by omega), if_pos c2] at h99; exact h99
    · rw [if_pos c] at h99; exact h99
  | cons c cs ih =>
    intro k M st hf hs hm k0 hk hc he
    simp only [List.length_cons] at hk hc
    have e1 : M 181 (3 + which) = to := by rw [hf 181 _ (by decide) (by omega)]; exact hto
    have e3 : M 182 (1600 + k) = c := by
      rw [hf 182 _ (by decide) (by omega)]
      have := hc 0 (by omega)
      simpa using this
    have next : ∀ (M' : am_M) (st' : List Int), rf_pf M M' → rf_st M' st' → (∀ z ∈ st', mi_ok z) → er a cs st' = some [x] → am_g 12 0 co_X12_made (d + 2) (am_c0 sh_T f) 192 [(2, 152), (0, which), (3, 0), (3, 0), (3, 0), (0, k), (3, 0)] [] sh_T M' := by
      intro M' st' q1 q2 q3 q4
      refine bk_X12_made_192 ⟨⟨by omega, by omega⟩, ih (k + 1) M' st' (rf_pf_tr hf q1) q2 q3 (by omega) (by omega) (fun i hi => ?_) q4⟩
      have := hc (i + 1) (by omega)
      simp only [List.getD_cons_succ] at this
      rw [← this]; congr 1; omega
    have hcons : ∀ (y : Int) (t : List Int), mi_ok y → (∀ z ∈ t, mi_ok z) → ∀ z ∈ y :: t, mi_ok z := fun y t hy ht z hz => by
      rcases List.mem_cons.mp hz with rfl | hz
      · exact hy
      · exact ht z hz
    unfold er at he
    refine bk_X12_made_105 ⟨⟨by omega, by omega⟩, ⟨by omega, by omega⟩, fun q => by omega, fun _ => ⟨⟨by omega, by omega⟩, ⟨by omega, by omega⟩, ?_⟩⟩
    rw [e3]
    by_cases c1 : 1000 ≤ c
    · rw [if_pos c1] at he
      by_cases c2 : c ≤ 10999 ∧ st.length < 64
      · rw [if_pos c2] at he
        exact ⟨fun q => by omega, fun _ => ⟨⟨by omega, by omega⟩, sp_puts hs c2.2 (fun M' q1 q2 => next M' _ q1 q2 (hcons _ _ ⟨by omega, by omega⟩ hm) he)⟩⟩
      · rw [if_neg c2] at he; cases he
    · rw [if_neg c1] at he
      refine ⟨fun _ => sp_isIn ?_, fun q => by omega⟩
      by_cases c2 : 7 ≤ c ∧ c ≤ 12
      · rw [if_pos c2] at he
        rw [am_b_1 c2]
        refine ⟨fun q => (by cases q), fun _ => ⟨⟨by omega, by omega⟩, ⟨by omega, by omega⟩, ?_⟩⟩
        have ha := hask (c - 7) (by omega) (by omega)
        rw [hf 185 _ (by decide) (by omega), ha.1]
        by_cases c3 : st.length < 64
        · rw [if_pos c3] at he
          exact sp_puts hs c3 (fun M' q1 q2 => next M' _ q1 q2 (hcons _ _ ha.2 hm) he)
        · rw [if_neg c3] at he; cases he
      · rw [if_neg c2] at he
        rw [am_b_0 c2]
        refine ⟨fun _ => ?_, fun q => absurd rfl q⟩
        by_cases c3 : 1 ≤ c ∧ c ≤ 6
        · rw [if_pos c3] at he
          match st, hs, hm, he with
          | [], _, _, he => cases he
          | [_], _, _, he => cases he
          | y :: z :: t, hs, hm, he =>
            have hy : mi_ok y := hm y List.mem_cons_self
            have hz : mi_ok z := hm z (List.mem_cons_of_mem _ List.mem_cons_self)
            have ht' : ∀ w ∈ t, mi_ok w := fun w hw' => hm w (List.mem_cons_of_mem _ (List.mem_cons_of_mem _ hw'))
            exact sp_joins c3 hz hy hs (fun M' q1 q2 => next M' _ q1 q2 (hcons _ _ (ec_j_le (by omega) hz hy (Or.inl (by omega))) ht') he)
        · rw [if_neg c3] at he; cases he
/-- the sum of a sort as the reference has it: its codes, if there is one -/
def rf_sum (M : am_M) (which : Int) (o : Option (List Int)) : Prop := match o with
  | none => M 180 (3 + which) = -1
  | some cs => ¬ M 180 (3 + which) = -1 ∧ 0 ≤ M 180 (3 + which) ∧ M 181 (3 + which) ≤ 1600 ∧ M 180 (3 + which) + cs.length = M 181 (3 + which) ∧ (∀ i : Nat, i < cs.length → M 182 (1600 + M 180 (3 + which) + i) = cs.getD i 0) ∧ er_ok cs
/-- what a sum makes: nothing else than the weight where there is none -/
def pu_made (o : Option (List Int)) (w : Int → Int) (n : Nat) (k b : Int) : Int := match o with
  | none => w k
  | some cs => pu_mk cs (pu_ask w n k b)
theorem pu_ask_le {w : Int → Int} {n : Nat} {k b : Int} (hn : n ≤ 6) (hw : we_ok w) (hk : 0 ≤ k ∧ k < 6) (hb : 0 ≤ b ∧ b ≤ 9) (i : Int) : mi_ok (pu_ask w n k b i) := by
  have hw' : ∀ j : Nat, j < n → 0 ≤ w j ∧ w j ≤ 999 := fun j hj => hw j (by omega) (by omega)
  have hs : ∀ m : Nat, m ≤ n → 0 ≤ pu_sum w m ∧ pu_sum w m ≤ m * 999 ∧ 0 ≤ pu_max w m ∧ pu_max w m ≤ 999 := by
    intro m
    induction m with
    | zero => intro _; exact ⟨Int.le_refl _, by show (0 : Int) ≤ ((0 : Nat) : Int) * 999; decide, Int.le_refl _, by show (0 : Int) ≤ 999; decide⟩
    | succ m ih =>
      intro hm
      obtain ⟨h1, h2, h3, h4⟩ := ih (by omega)
      obtain ⟨h5, h6⟩ := hw' m (by omega)
      unfold pu_sum pu_max
      refine ⟨by omega, by omega, ?_, ?_⟩
      · split <;> omega
      · split <;> omega
  obtain ⟨h1, h2, h3, h4⟩ := hs n (Nat.le_refl _)
  have h5 := pu_many_le (w := w) n
  have h6 := hw k hk.1 hk.2
  have h7 : (n : Int) * 999 ≤ 5994 := by omega
  unfold pu_ask mi_ok
  split
  · omega
  split
  · omega
  split
  · omega
  split
  · omega
  split
  · omega
  · omega
theorem sp_made {d : Nat} {M : am_M} {f : Int → am_M → Prop} {which r k a : Int} {o : Option (List Int)} (hwh : 0 ≤ which ∧ which < 3) (hc : rf_cn M) (hr : ro_ok M r) (hk : 0 ≤ k ∧ k < 6) (ha : 0 ≤ a ∧ a < 4) (hb : 0 ≤ M 176 (4 + a) ∧ M 176 (4 + a) ≤ 9) (ho : rf_sum M which o) (h : ∀ M', rf_mf M M' → f (pu_made o (ro M r) (M 174 3).toNat k (M 176 (4 + a))) M') : am_cal pg (d + 3) 227 [(2, 152), (0, which), (0, r), (0, k), (0, a)] sh_T M (am_c0 sh_T f) := by
  have hr0 := hr
  obtain ⟨r0, r1, hw⟩ := hr0
  have hc0 := hc
  obtain ⟨c0, c1⟩ := hc0
  cases o with
  | none =>
    have ho : M 180 (3 + which) = -1 := ho
    exact en_X12_made (bk_X12_made_0 ⟨⟨by omega, by omega⟩, ⟨by omega, by omega⟩, fun q => absurd ho q, fun _ => ⟨⟨by omega, by omega⟩, ⟨by omega, by omega⟩, am_c0_i (h M rf_mf_rf)⟩⟩)
  | some cs =>
    obtain ⟨o1, o2, o3, o4, o5, o6⟩ := ho
    have hwe : we_ok (ro M r) := fun j j0 j1 => hw j j0 j1
    have hal := fun i => pu_ask_le (n := (M 174 3).toNat) (b := M 176 (4 + a)) (by omega) hwe hk hb i
    obtain ⟨x, hx⟩ := er_all o6 (pu_ask (ro M r) (M 174 3).toNat k (M 176 (4 + a)))
    have hmk : pu_made (some cs) (ro M r) (M 174 3).toNat k (M 176 (4 + a)) = pu_99 x := by
      show pu_mk cs _ = _
      unfold pu_mk
      rw [hx]
    rw [hmk] at h
    refine en_X12_made (bk_X12_made_0 ⟨⟨by omega, by omega⟩, ⟨by omega, by omega⟩, fun _ => ⟨⟨by omega, by omega⟩, ⟨by omega, by omega⟩, ?_⟩, fun q => absurd q o1⟩)
    refine sp_greatestAt hc hr (sp_sumAt hc hr (sp_manyAt hc hr ⟨⟨by omega, by omega⟩, ⟨by omega, by omega⟩, ⟨by omega, by omega⟩, ?_⟩))
    generalize hM : am_up (am_up (am_up (am_up (am_up (am_up M 185 0 (M 187 (r + k))) 185 1 (pu_max (ro M r) (M 174 3).toNat)) 185 2 (pu_sum (ro M r) (M 174 3).toNat)) 185 3 (pu_many (ro M r) (M 174 3).toNat)) 185 4 k) 185 5 (M 176 (4 + a)) = M1
    have hm1 : rf_mf M M1 := fun b j q1 q2 q3 => by
      rw [← hM]
      rw [am_up_el (fun z => q2 z.1), am_up_el (fun z => q2 z.1), am_up_el (fun z => q2 z.1), am_up_el (fun z => q2 z.1), am_up_el (fun z => q2 z.1), am_up_el (fun z => q2 z.1)]
    have hm2 : rf_mf M (am_up M1 152 46 0) := fun b j q1 q2 q3 => by
      rw [am_up_el q3]; exact hm1 b j q1 q2 q3
    have hE : ∀ b j, ¬ b = 184 → ¬ b = 185 → ¬ (b = 152 ∧ j = 46) → (am_up M1 152 46 0) b j = M b j := fun b j q1 q2 q3 => hm2 b j q1 q2 q3
    have e180 : M1 180 (3 + which) = M 180 (3 + which) := hm1 180 _ (by decide) (by decide) (by omega)
    have goal := sp_made_g (d := d) (f := f) (M0 := am_up M1 152 46 0) (which := which) (to := M 181 (3 + which)) (x := x) (a := pu_ask (ro M r) (M 174 3).toNat k (M 176 (4 + a))) hwh (fun j j0 j1 => ⟨?_, hal j⟩) (hE 181 _ (by decide) (by decide) (by omega)) o3 (fun M' q => h M' ?_) cs (M 180 (3 + which)) (am_up M1 152 46 0) [] (fun _ _ _ _ => rfl) ⟨am_up_at, by simp, fun i hi => by simp at hi⟩ (fun z hz => by simp at hz) o2 o4 (fun i hi => by rw [hE 182 _ (by decide) (by decide) (by omega)]; exact o5 i hi) hx
    · rw [← hM] at goal e180
      exact goal
    · rw [am_up_el (by omega), ← hM]
      rcases (show j = 0 ∨ j = 1 ∨ j = 2 ∨ j = 3 ∨ j = 4 ∨ j = 5 by omega) with rfl | rfl | rfl | rfl | rfl | rfl <;> rfl
    · exact rf_mf_tr hm2 (fun b j q1 q2 q3 => q b j q1 q3)
