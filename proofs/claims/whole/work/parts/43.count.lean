/-! RUNS THAT ARE COUNTED OUT: what the constructors make -/
def am_obb (S : am_S) (ci : Nat) (a : Int) : Bool := decide (0 ≤ a) && decide (a < 1000000) && (match S[a.toNat]? with
  | some (0, c, _) => decide (c = ci)
  | _ => false)
def am_owb (S : am_S) (kd : Nat) (a i : Int) : Bool := decide (0 ≤ a) && decide (a < 1000000) && decide (0 ≤ i) && (match S[a.toNat]? with
  | some (k, _, n) => decide (k = kd) && decide (i < (n : Int))
  | none => false)
def am_cmpb (c : ClassFile.Cond) (x y : Int) : Bool := match c with
  | .eq => decide (x = y)
  | .ne => decide (¬ x = y)
  | .lt => decide (x < y)
  | .ge => decide (y ≤ x)
  | .gt => decide (y < x)
  | .le => decide (x ≤ y)
theorem am_obb_ok {S : am_S} {ci : Nat} {a : Int} (h : am_obb S ci a = true) : am_ob S ci a := by
  unfold am_obb at h
  simp only [Bool.and_eq_true, decide_eq_true_eq] at h
  obtain ⟨⟨h1, h2⟩, h3⟩ := h
  split at h3
  · rename_i c n hs
    have : c = ci := by simpa using h3
    subst this
    exact ⟨h1, h2, n, hs⟩
  · cases h3
theorem am_owb_ok {S : am_S} {kd : Nat} {a i : Int} (h : am_owb S kd a i = true) : am_own S kd a i := by
  unfold am_owb at h
  simp only [Bool.and_eq_true, decide_eq_true_eq] at h
  obtain ⟨⟨⟨h1, h2⟩, h3⟩, h4⟩ := h
  split at h4
  · rename_i k c n hs
    simp only [Bool.and_eq_true, decide_eq_true_eq] at h4
    obtain ⟨rfl, h5⟩ := h4
    exact ⟨h1, h2, h3, c, n, hs, h5⟩
  · cases h4
theorem am_cmpb_ok {c : ClassFile.Cond} {x y : Int} : (am_cmpb c x y = true) ↔ am_cmp c x y := by
  unfold am_cmpb am_cmp
  cases c <;> simp
/-- a memory as data: a row for each cell: what stands where nothing was laid (0: 0, 1: -1, from 2 on: as an object of that class is born), and what was laid, the newest first -/
abbrev am_D : Type := List (Nat × List (Int × Int))
def am_dc (P : am_P) (c : Nat) (f : Int) : Int := if c = 0 then 0 else if c = 1 then -1 else if P.2.2.1 (c - 2) f = 2 then -1 else 0
def am_dn (P : am_P) (D : am_D) : am_M := fun a f => if a < 0 then 0 else match D[a.toNat]? with
  | some (c, us) => match us.lookup f with
    | some v => v
    | none => am_dc P c f
  | none => 0
def am_du (D : am_D) (a f v : Int) : am_D := match D[a.toNat]? with
  | some (c, us) => D.set a.toNat (c, (f, v) :: us)
  | none => D
theorem am_du_ok {P : am_P} {D : am_D} {a f v : Int} (h0 : 0 ≤ a) (h : a.toNat < D.length) : am_up (am_dn P D) a f v = am_dn P (am_du D a f v) := by
  funext b j
  unfold am_up am_du am_dn
  obtain ⟨⟨c, us⟩, hr⟩ : ∃ r, D[a.toNat]? = some r := ⟨_, List.getElem?_eq_getElem h⟩
  rw [hr]
  dsimp only
  by_cases hb : b = a
  · by_cases hj : j = f
    · rw [if_pos ⟨hb, hj⟩, hb, if_neg (by omega), List.getElem?_set_self h, hj]
      dsimp only
      rw [List.lookup_cons]
      simp
    · rw [if_neg (fun q => hj q.2), hb, if_neg (by omega), if_neg (by omega), hr, List.getElem?_set_self h]
      dsimp only
      rw [List.lookup_cons]
      have : (j == f) = false := by simp [hj]
      rw [this]
  · rw [if_neg (fun q => hb q.1)]
    by_cases h1 : b < 0
    · rw [if_pos h1, if_pos h1]
    · rw [if_neg h1, if_neg h1, List.getElem?_set_ne (by omega)]
theorem am_dp_ok {P : am_P} {D : am_D} {n c : Nat} (h : D.length = n) : am_row (am_dn P D) (n : Int) (am_dc P c) = am_dn P (D ++ [(c, [])]) := by
  subst h
  funext b j
  unfold am_row am_dn
  by_cases hb : b = (D.length : Int)
  · subst hb
    rw [if_pos rfl, if_neg (by omega), Int.toNat_natCast, List.getElem?_append_right (Nat.le_refl _), Nat.sub_self]
    rfl
  · rw [if_neg hb]
    by_cases h1 : b < 0
    · rw [if_pos h1, if_pos h1]
    · rw [if_neg h1, if_neg h1]
      by_cases h2 : b.toNat < D.length
      · rw [List.getElem?_append_left h2]
      · rw [List.getElem?_eq_none (by omega), List.getElem?_eq_none (by rw [List.length_append]; simp; omega)]
theorem am_dp_0 {P : am_P} {D : am_D} {n : Nat} (h : D.length = n) : am_row (am_dn P D) (n : Int) (fun _ => 0) = am_dn P (D ++ [(0, [])]) := am_dp_ok (c := 0) h
theorem am_dp_1 {P : am_P} {D : am_D} {n : Nat} (h : D.length = n) : am_row (am_dn P D) (n : Int) (fun _ => -1) = am_dn P (D ++ [(1, [])]) := am_dp_ok (c := 1) h
theorem am_dp_2 {P : am_P} {D : am_D} {n ci : Nat} (h : D.length = n) : am_row (am_dn P D) (n : Int) (fun f => if P.2.2.1 ci f = 2 then -1 else 0) = am_dn P (D ++ [(ci + 2, [])]) := am_dp_ok (c := ci + 2) h
abbrev am_X : Type := Nat × List am_V × List am_V × am_S × am_D
def am_putb (tag : Nat) (v : am_V) : Bool := match tag, v with
  | 0, (0, _) => true
  | 1, (1, _) => true
  | 2, (2, _) => true
  | 5, (0, x) => decide (x = 0 ∨ x = 1)
  | _, _ => false
theorem am_putb_ok {tag : Nat} {v : am_V} {f : Int → Prop} (h : am_putb tag v = true) (hf : f v.2) : am_put tag v f := by
  unfold am_putb at h
  split at h
  · exact hf
  · exact hf
  · exact hf
  · exact ⟨by simpa using h, hf⟩
  · cases h
def am_s0 (nx : Nat) (L st : List am_V) (S : am_S) (M : am_D) : Instr → Option am_X
  | .iconst n => some (nx, L, (0, n) :: st, S, M)
  | .bipush n => some (nx, L, (0, n) :: st, S, M)
  | .sipush n => some (nx, L, (0, n) :: st, S, M)
  | .lconst n => some (nx, L, (1, ((n : Nat) : Int)) :: st, S, M)
  | .aconst_null => some (nx, L, (2, -1) :: st, S, M)
  | .iload_n k => match L[(k : Nat)]? with
    | some (0, x) => some (nx, L, (0, x) :: st, S, M)
    | _ => none
  | .aload_n k => match L[(k : Nat)]? with
    | some (2, x) => some (nx, L, (2, x) :: st, S, M)
    | _ => none
  | .istore_n k => match st with
    | (0, x) :: t => some (nx, am_st L k (0, x), t, S, M)
    | _ => none
  | .astore_n k => match st with
    | (2, x) :: t => some (nx, am_st L k (2, x), t, S, M)
    | _ => none
  | .iinc k n => match L[(k : Nat)]? with
    | some (0, x) => some (nx, am_st L k (0, am_w (x + n)), st, S, M)
    | _ => none
  | .dup => match st with
    | (2, x) :: t => some (nx, L, (2, x) :: (2, x) :: t, S, M)
    | _ => none
  | _ => none
def am_s1 (pc nx : Nat) (L st : List am_V) (S : am_S) (M : am_D) : Instr → Option am_X
  | .goto off => some (am_to pc off, L, st, S, M)
  | .ifCond c off => match st with
    | (0, x) :: t => some (if am_cmpb c x 0 = true then am_to pc off else nx, L, t, S, M)
    | _ => none
  | .if_icmp c off => match st with
    | (0, y) :: (0, x) :: t => some (if am_cmpb c x y = true then am_to pc off else nx, L, t, S, M)
    | _ => none
  | .iastore => match st with
    | (0, v) :: (0, i) :: (2, a) :: t => if am_owb S 1 a i = true ∧ a.toNat < M.length then some (nx, L, t, S, am_du M a i v) else none
    | _ => none
  | .castore => match st with
    | (0, v) :: (0, i) :: (2, a) :: t => if (am_owb S 2 a i = true ∧ a.toNat < M.length) ∧ 0 ≤ v ∧ v ≤ 65535 then some (nx, L, t, S, am_du M a i v) else none
    | _ => none
  | _ => none
def am_s2 (P : am_P) (own ret nx : Nat) (L st : List am_V) (S : am_S) (M : am_D) : Instr → Option am_X
  | .getfield k => match P.1 own k with
    | some (11, ci, f) => match st with
      | (2, a) :: t => if am_obb S ci a = true ∧ P.2.2.2.2.2.2.1 ci f = none then some (nx, L, (am_tag (P.2.2.1 ci f), am_dn P M a f) :: t, S, M) else none
      | _ => none
    | some (1, ci, f) => match st with
      | (2, a) :: t => if am_obb S ci a = true then some (nx, L, (am_tag (P.2.2.1 ci f), am_dn P M a f) :: t, S, M) else none
      | _ => none
    | _ => none
  | .putfield k => match P.1 own k with
    | some (1, ci, f) => match st with
      | v :: (2, a) :: t => if (am_obb S ci a = true ∧ a.toNat < M.length) ∧ am_putb (P.2.2.1 ci f) v = true then some (nx, L, t, S, am_du M a f v.2) else none
      | _ => none
    | some (11, ci, f) => match st with
      | v :: (2, a) :: t => if (ret = 8 ∧ P.2.2.2.2.2.2.2 = false) ∧ (am_obb S ci a = true ∧ a.toNat < M.length) ∧ am_putb (P.2.2.1 ci f) v = true then some (nx, L, t, S, am_du M a f v.2) else none
      | _ => none
    | _ => none
  | .aastore => match st with
    | (2, v) :: (0, i) :: (2, a) :: t => match S[a.toNat]? with
      | some (4, ci, _) => if ((am_owb S 4 a i = true ∧ a.toNat < M.length) ∧ P.2.2.2.2.2.2.2 = false) ∧ am_obb S ci v = true then some (nx, L, t, S, am_du M a i v) else none
      | _ => none
    | _ => none
  | .arraylength => match st with
    | (2, a) :: t => match am_alen P S a with
      | some n => some (nx, L, (0, (n : Int)) :: t, S, M)
      | none => none
    | _ => none
  | .invokespecial k => match P.1 own k with
    | some (9, _, _) => match st with
      | (2, a) :: t => if 0 ≤ a ∧ am_cats t ≤ 8 then some (nx, L, t, S, M) else none
      | _ => none
    | _ => none
  | _ => none
def am_s3 (P : am_P) (own nx : Nat) (L st : List am_V) (S : am_S) (M : am_D) : Instr → Option am_X
  | .newarray ty => match st with
    | (0, n) :: t => if (0 ≤ n ∧ n ≤ 65536) ∧ (S.length < 1000000 ∧ P.2.2.2.2.2.2.2 = false ∧ M.length = S.length) then (match ty with
      | .int => some (nx, L, (2, (S.length : Int)) :: t, S ++ [(1, 0, n.toNat)], M ++ [(0, [])])
      | .char => some (nx, L, (2, (S.length : Int)) :: t, S ++ [(2, 0, n.toNat)], M ++ [(0, [])])
      | .long => some (nx, L, (2, (S.length : Int)) :: t, S ++ [(3, 0, n.toNat)], M ++ [(0, [])])
      | _ => none) else none
    | _ => none
  | .anewarray k => match P.1 own k with
    | some (14, ci, _) => match st with
      | (0, n) :: t => if (0 ≤ n ∧ n ≤ 65536) ∧ (S.length < 1000000 ∧ P.2.2.2.2.2.2.2 = false ∧ M.length = S.length) then some (nx, L, (2, (S.length : Int)) :: t, S ++ [(4, ci, n.toNat)], M ++ [(1, [])]) else none
      | _ => none
    | _ => none
  | .new k => match P.1 own k with
    | some (3, ci, _) => if S.length < 1000000 ∧ P.2.2.2.2.2.2.2 = false ∧ M.length = S.length then some (nx, L, (2, (S.length : Int)) :: st, S ++ [(0, ci, P.2.2.2.1 ci)], M ++ [(ci + 2, [])]) else none
    | some (14, ci, _) => if S.length < 1000000 ∧ P.2.2.2.2.2.2.2 = false ∧ M.length = S.length then some (nx, L, (2, (S.length : Int)) :: st, S ++ [(0, ci, P.2.2.2.1 ci)], M ++ [(ci + 2, [])]) else none
    | _ => none
  | _ => none
section EV
variable {P : am_P} {own ret : Nat} {cal : am_L} {i : Instr} {pc nx : Nat} {L st : List am_V} {S : am_S} {M : am_D} {K : am_K} {Q : am_Q} {x : am_X}
theorem am_s0_ok (h : am_s0 nx L st S M i = some x) (hK : K x.1 x.2.1 x.2.2.1 x.2.2.2.1 (am_dn P x.2.2.2.2)) : am_step P own ret cal i pc nx L st S (am_dn P M) K Q := by
  unfold am_s0 at h
  split at h
  case h_1 => cases h; exact hK
  case h_2 => cases h; exact hK
  case h_3 => cases h; exact hK
  case h_4 => cases h; exact hK
  case h_5 => cases h; exact hK
  case h_6 =>
    split at h
    · rename_i hk
      cases h
      unfold am_step am_ld0; dsimp only; rw [hk]; exact hK
    · cases h
  case h_7 =>
    split at h
    · rename_i hk
      cases h
      unfold am_step am_ld2; dsimp only; rw [hk]; exact hK
    · cases h
  case h_8 =>
    split at h
    · cases h; exact hK
    · cases h
  case h_9 =>
    split at h
    · cases h; exact hK
    · cases h
  case h_10 =>
    split at h
    · rename_i hk
      cases h
      unfold am_step am_ld0; dsimp only; rw [hk]; exact hK
    · cases h
  case h_11 =>
    split at h
    · cases h; exact hK
    · cases h
  case h_12 => cases h
theorem am_s1_ok (h : am_s1 pc nx L st S M i = some x) (hK : K x.1 x.2.1 x.2.2.1 x.2.2.2.1 (am_dn P x.2.2.2.2)) : am_step P own ret cal i pc nx L st S (am_dn P M) K Q := by
  unfold am_s1 at h
  split at h
  case h_1 => cases h; exact hK
  case h_2 =>
    split at h
    · cases h
      rename_i c off v t
      unfold am_step am_un; dsimp only
      refine ⟨fun q => ?_, fun q => ?_⟩
      · dsimp only at hK
        rw [if_pos (am_cmpb_ok.mpr q)] at hK; exact hK
      · dsimp only at hK
        rw [if_neg (fun z => q (am_cmpb_ok.mp z))] at hK; exact hK
    · cases h
  case h_3 =>
    split at h
    · cases h
      rename_i c off v w t
      unfold am_step am_bin; dsimp only
      refine ⟨fun q => ?_, fun q => ?_⟩
      · dsimp only at hK
        rw [if_pos (am_cmpb_ok.mpr q)] at hK; exact hK
      · dsimp only at hK
        rw [if_neg (fun z => q (am_cmpb_ok.mp z))] at hK; exact hK
    · cases h
  case h_4 =>
    split at h
    · split at h
      · rename_i hq
        cases h
        refine ⟨am_owb_ok hq.1, ?_⟩
        rw [am_du_ok (am_owb_ok hq.1).1 hq.2]
        exact hK
      · cases h
    · cases h
  case h_5 =>
    split at h
    · split at h
      · rename_i hq
        cases h
        refine ⟨am_owb_ok hq.1.1, hq.2, ?_⟩
        rw [am_du_ok (am_owb_ok hq.1.1).1 hq.1.2]
        exact hK
      · cases h
    · cases h
  case h_6 => cases h
theorem am_s2_ok (h : am_s2 P own ret nx L st S M i = some x) (hK : K x.1 x.2.1 x.2.2.1 x.2.2.2.1 (am_dn P x.2.2.2.2)) : am_step P own ret cal i pc nx L st S (am_dn P M) K Q := by
  unfold am_s2 at h
  split at h
  case h_1 =>
    split at h
    · rename_i hp
      split at h
      · split at h
        · rename_i hq
          cases h
          unfold am_step; dsimp only; rw [hp]
          refine ⟨am_obb_ok hq.1, ?_⟩
          rw [hq.2]
          exact hK
        · cases h
      · cases h
    · rename_i hp
      split at h
      · split at h
        · rename_i hq
          cases h
          unfold am_step; dsimp only; rw [hp]
          exact ⟨am_obb_ok hq, hK⟩
        · cases h
      · cases h
    · cases h
  case h_2 =>
    split at h
    · rename_i hp
      split at h
      · split at h
        · rename_i hq
          cases h
          unfold am_step; dsimp only; rw [hp]
          refine ⟨am_obb_ok hq.1.1, am_putb_ok hq.2 ?_⟩
          rw [am_du_ok (am_obb_ok hq.1.1).1 hq.1.2]
          exact hK
        · cases h
      · cases h
    · rename_i hp
      split at h
      · split at h
        · rename_i hq
          cases h
          unfold am_step; dsimp only; rw [hp]
          refine ⟨hq.1, am_obb_ok hq.2.1.1, am_putb_ok hq.2.2 ?_⟩
          rw [am_du_ok (am_obb_ok hq.2.1.1).1 hq.2.1.2]
          exact hK
        · cases h
      · cases h
    · cases h
  case h_3 =>
    split at h
    · split at h
      · rename_i hs
        split at h
        · rename_i hq
          cases h
          refine ⟨⟨am_owb_ok hq.1.1.1, hq.1.2⟩, ⟨_, _, hs, am_obb_ok hq.2⟩, ?_⟩
          rw [am_du_ok (am_owb_ok hq.1.1.1).1 hq.1.1.2]
          exact hK
        · cases h
      · cases h
    · cases h
  case h_4 =>
    split at h
    · split at h
      · rename_i hn
        cases h
        exact ⟨_, hn, hK⟩
      · cases h
    · cases h
  case h_5 =>
    split at h
    · rename_i hp
      split at h
      · split at h
        · rename_i hq
          cases h
          unfold am_step; dsimp only; rw [hp]
          exact ⟨hq, hK⟩
        · cases h
      · cases h
    · cases h
  case h_6 => cases h
theorem am_s3_ok (h : am_s3 P own nx L st S M i = some x) (hK : K x.1 x.2.1 x.2.2.1 x.2.2.2.1 (am_dn P x.2.2.2.2)) : am_step P own ret cal i pc nx L st S (am_dn P M) K Q := by
  unfold am_s3 at h
  split at h
  case h_1 =>
    split at h
    · split at h
      · rename_i hq
        split at h
        · cases h
          refine ⟨hq.1, ⟨hq.2.1, hq.2.2.1⟩, ?_⟩
          have := am_dp_ok (P := P) (c := 0) hq.2.2.2
          rw [show am_row (am_dn P M) (S.length : Int) (fun _ => 0) = am_dn P (M ++ [(0, [])]) from this]
          exact hK
        · cases h
          refine ⟨hq.1, ⟨hq.2.1, hq.2.2.1⟩, ?_⟩
          have := am_dp_ok (P := P) (c := 0) hq.2.2.2
          rw [show am_row (am_dn P M) (S.length : Int) (fun _ => 0) = am_dn P (M ++ [(0, [])]) from this]
          exact hK
        · cases h
          refine ⟨hq.1, ⟨hq.2.1, hq.2.2.1⟩, ?_⟩
          have := am_dp_ok (P := P) (c := 0) hq.2.2.2
          rw [show am_row (am_dn P M) (S.length : Int) (fun _ => 0) = am_dn P (M ++ [(0, [])]) from this]
          exact hK
        · cases h
      · cases h
    · cases h
  case h_2 =>
    split at h
    · rename_i hp
      split at h
      · split at h
        · rename_i hq
          cases h
          unfold am_step; dsimp only; rw [hp]
          refine ⟨hq.1, ⟨hq.2.1, hq.2.2.1⟩, ?_⟩
          have := am_dp_ok (P := P) (c := 1) hq.2.2.2
          rw [show am_row (am_dn P M) (S.length : Int) (fun _ => -1) = am_dn P (M ++ [(1, [])]) from this]
          exact hK
        · cases h
      · cases h
    · cases h
  case h_3 =>
    split at h
    · rename_i hp
      split at h
      · rename_i hq
        cases h
        unfold am_step; dsimp only; rw [hp]
        refine ⟨⟨hq.1, hq.2.1⟩, ?_⟩
        rw [am_dp_2 hq.2.2]
        exact hK
      · cases h
    · rename_i hp
      split at h
      · rename_i hq
        cases h
        unfold am_step; dsimp only; rw [hp]
        refine ⟨⟨hq.1, hq.2.1⟩, ?_⟩
        rw [am_dp_2 hq.2.2]
        exact hK
      · cases h
    · cases h
  case h_4 => cases h
end EV
def am_so (P : am_P) (own ret pc nx : Nat) (L st : List am_V) (S : am_S) (M : am_D) (i : Instr) : Option am_X :=
  match am_s0 nx L st S M i with
  | some x => some x
  | none => match am_s1 pc nx L st S M i with
    | some x => some x
    | none => match am_s2 P own ret nx L st S M i with
      | some x => some x
      | none => am_s3 P own nx L st S M i
theorem am_so_ok {P : am_P} {own ret : Nat} {cal : am_L} {i : Instr} {pc nx : Nat} {L st : List am_V} {S : am_S} {M : am_D} {K : am_K} {Q : am_Q} {x : am_X} (h : am_so P own ret pc nx L st S M i = some x) (hK : K x.1 x.2.1 x.2.2.1 x.2.2.2.1 (am_dn P x.2.2.2.2)) : am_step P own ret cal i pc nx L st S (am_dn P M) K Q := by
  unfold am_so at h
  split at h
  · rename_i q; cases h; exact am_s0_ok q hK
  · split at h
    · rename_i q; cases h; exact am_s1_ok q hK
    · split at h
      · rename_i q; cases h; exact am_s2_ok q hK
      · exact am_s3_ok h hK
/-- a call: of whom, of how many values -/
def am_who (P : am_P) (own : Nat) (st : List am_V) : Instr → Option (Nat × Nat)
  | .invokespecial k => match P.1 own k with
    | some (13, mid, n) => match (st.take n.toNat).reverse with
      | (2, a) :: _ => if 0 ≤ a then some (mid, n.toNat) else none
      | _ => none
    | _ => none
  | .invokestatic k => match P.1 own k with
    | some (12, mid, n) => some (mid, n.toNat)
    | _ => none
  | _ => none
theorem am_who_ok {P : am_P} {own ret : Nat} {cal : am_L} {i : Instr} {pc nx : Nat} {L st : List am_V} {S : am_S} {M : am_M} {K : am_K} {Q : am_Q} {mid n : Nat} (h : am_who P own st i = some (mid, n)) (hK : am_call cal mid n nx L st S M K) : am_step P own ret cal i pc nx L st S M K Q := by
  unfold am_who at h
  split at h
  · split at h
    · rename_i hp
      split at h
      · rename_i hs
        split at h
        · rename_i ha
          cases h
          unfold am_step; simp only [hp, hs]
          exact ⟨ha, hK⟩
        · cases h
      · cases h
    · cases h
  · split at h
    · rename_i hp
      cases h
      unfold am_step; dsimp only; rw [hp]
      exact hK
    · cases h
  · cases h
abbrev am_Y : Type := Option am_V × am_S × am_D
def am_yr (P : am_P) (r : am_Y) : am_R := (r.1, r.2.1, am_dn P r.2.2)
def am_end (ret : Nat) (st : List am_V) (S : am_S) (M : am_D) : Instr → Option am_Y
  | .return_ => match st with
    | [] => if ret = 8 ∨ ret = 9 then some (none, S, M) else none
    | _ => none
  | .areturn => match st with
    | [(2, x)] => if ret = 2 then some (some (2, x), S, M) else none
    | _ => none
  | _ => none
theorem am_end_ok {P : am_P} {own ret : Nat} {cal : am_L} {i : Instr} {pc nx : Nat} {L st : List am_V} {S : am_S} {M : am_D} {K : am_K} {Q : am_Q} {r : am_Y} (h : am_end ret st S M i = some r) (hQ : Q (am_yr P r)) : am_step P own ret cal i pc nx L st S (am_dn P M) K Q := by
  unfold am_end at h
  split at h
  · split at h
    · split at h
      · rename_i hr
        cases h
        rcases hr with rfl | rfl
        · exact hQ
        · exact hQ
      · cases h
    · cases h
  · split at h
    · split at h
      · rename_i hr
        cases h
        subst hr
        exact hQ
      · cases h
    · cases h
  · cases h
/-- a run counted out -/
def am_ex (P : am_P) : Nat → Nat → Nat → Nat → am_C → Nat → List am_V → List am_V → am_S → am_D → Option am_Y
  | 0, _, _, _, _, _, _, _, _, _ => none
  | n + 1, d, own, ret, code, pc, L, st, S, M => match am_at code pc with
    | none => none
    | some (len, i) => match am_end ret st S M i with
      | some r => some r
      | none => match am_so P own ret pc (pc + len) L st S M i with
        | some x => am_ex P n d own ret code x.1 x.2.1 x.2.2.1 x.2.2.2.1 x.2.2.2.2
        | none => match am_who P own st i with
          | none => none
          | some (mid, k) => match d with
            | 0 => none
            | d + 1 => match P.2.1 mid with
              | none => none
              | some (own', n', ret', mx', code') => if (st.take k).reverse.length = n' ∧ (am_args (st.take k).reverse).length ≤ mx' ∧ (Nat.ble k st.length && Nat.ble (am_cats (st.drop k)) 8) = true then (match am_ex P n d own' ret' code' 0 (am_init mx' (st.take k).reverse) [] S M with
                | none => none
                | some r => am_ex P n (d + 1) own ret code (pc + len) L (r.1.toList ++ st.drop k) r.2.1 r.2.2) else none
theorem am_ex_ok {P : am_P} : ∀ (n d own ret : Nat) (code : am_C) (pc : Nat) (L st : List am_V) (S : am_S) (M : am_D) (r : am_Y), am_ex P n d own ret code pc L st S M = some r → am_W P own ret code (am_cal P d) (fun r' => r' = am_yr P r) pc L st S (am_dn P M) := by
  intro n
  induction n with
  | zero => intro d own ret code pc L st S M r h; cases h
  | succ n ih =>
    intro d own ret code pc L st S M r h
    unfold am_ex at h
    split at h
    · cases h
    · rename_i len i ha
      split at h
      · rename_i he
        cases h
        exact am_W_step (am_Cc_cal P d) ha (am_end_ok he rfl)
      · split at h
        · rename_i hs
          exact am_W_step (am_Cc_cal P d) ha (am_so_ok hs (ih _ _ _ _ _ _ _ _ _ _ h))
        · split at h
          · cases h
          · rename_i mid k hw
            split at h
            · cases h
            · split at h
              · cases h
              · rename_i d own' n' ret' mx' code' hm
                split at h
                · rename_i hq
                  split at h
                  · cases h
                  · rename_i r1 h1
                    refine am_W_step (am_Cc_cal P _) ha (am_who_ok hw ?_)
                    unfold am_call
                    rw [hq.2.2]
                    dsimp only
                    unfold am_cal
                    rw [hm]
                    refine ⟨⟨hq.1, hq.2.1⟩, am_yr P r1, ih _ _ _ _ _ _ _ _ _ _ h1, ?_⟩
                    have h2 := ih _ _ _ _ _ _ _ _ _ _ h
                    obtain ⟨v, S', M'⟩ := r1
                    cases v with
                    | none => exact h2
                    | some v => exact h2
                · cases h
theorem am_ex_cal {P : am_P} {n d mid own n' ret mx : Nat} {code : am_C} {vs : List am_V} {S : am_S} {M : am_D} {r : am_Y} (hm : P.2.1 mid = some (own, n', ret, mx, code)) (hv : vs.length = n' ∧ (am_args vs).length ≤ mx) (h : am_ex P n d own ret code 0 (am_init mx vs) [] S M = some r) : am_cal P (d + 1) mid vs S (am_dn P M) (fun r' => r' = am_yr P r) := by
  unfold am_cal
  rw [hm]
  exact ⟨hv, am_yr P r, am_ex_ok _ _ _ _ _ _ _ _ _ _ _ h, rfl⟩
