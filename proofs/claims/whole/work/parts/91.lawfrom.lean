/-! THE CLAIM FROM WHAT IS WANTED OF EACH PAIR OF METHODS: the law's prefix counted out, the program changed once all cells are made, the loop -/
section LF
variable {P : am_P} {D : va_G} {cl : List vw_C} {A : Nat → Prop} {sa : Int → Nat} {sc : Int → Int → Int} {a0 : List Nat} {own ret nL c0 s0 mc ms : Nat} {p : Program} {l : Launch} {e : Env} {R : Room} {s : State} {m : MethodId} {args : Array Value} {below : List Frame} {meth : Method} {c : Code} {cc : ByteArray} {Ts : List Cond} {oc : String} {code : am_C} {d : Nat} {Qc : Array Value → State → Outcome → State → Prop} {rf : am_R}
theorem am_At_so (X : am_Cx P D cl A sa sc a0 own ret nL c0 s0 mc ms p l e R s m args below meth c cc Ts oc code (am_cal P d) Qc rf) {pc len : Nat} {i : Instr} {L st : List am_V} {S : am_S} {M : am_D} {x : am_X} (ha : am_at code pc = some (len, i)) (hs : am_so P own ret pc (pc + len) L st S M i = some x) (hb : x.2.2.2.1.length ≤ mc + c0 ∧ am_sz x.2.2.2.1 ≤ ms + s0) (h : am_At P D cl A sa sc a0 nL c0 s0 p l e R s m args below meth c (MQ below Qc args s mc ms A) x.1 x.2.1 x.2.2.1 x.2.2.2.1 (am_dn P x.2.2.2.2)) : am_At P D cl A sa sc a0 nL c0 s0 p l e R s m args below meth c (MQ below Qc args s mc ms A) pc L st S (am_dn P M) := by
  have hdec := X.2.2.2.2.2.2.2.2.1 pc len i ha
  exact am_snd X (am_Cc_cal P d) hdec.1 hdec.2 (am_so_ok hs ⟨hb, h⟩)
theorem am_At_who (X : am_Cx P D cl A sa sc a0 own ret nL c0 s0 mc ms p l e R s m args below meth c cc Ts oc code (am_cal P d) Qc rf) {pc len mid n : Nat} {i : Instr} {L st vs rest : List am_V} {S : am_S} {M : am_M} {r : am_R} (ha : am_at code pc = some (len, i)) (hw : am_who P own st i = some (mid, n)) (hv : (st.take n).reverse = vs) (hr : st.drop n = rest) (hb8 : (Nat.ble n st.length && Nat.ble (am_cats rest) 8) = true) (hc : am_cal P d mid vs S M (fun r' => r' = r)) (hb : r.2.1.length ≤ mc + c0 ∧ am_sz r.2.1 ≤ ms + s0) (h : am_At P D cl A sa sc a0 nL c0 s0 p l e R s m args below meth c (MQ below Qc args s mc ms A) (pc + len) L (r.1.toList ++ rest) r.2.1 r.2.2) : am_At P D cl A sa sc a0 nL c0 s0 p l e R s m args below meth c (MQ below Qc args s mc ms A) pc L st S M := by
  have hdec := X.2.2.2.2.2.2.2.2.1 pc len i ha
  subst hv; subst hr
  refine am_snd X (am_Cc_cal P d) hdec.1 hdec.2 (am_who_ok hw ?_)
  unfold am_call
  rw [hb8]
  refine am_Cc_use (am_Cc_cal P d) hc fun r' e => ?_
  subst e
  obtain ⟨v, S', M'⟩ := r'
  cases v with
  | none => exact ⟨hb, h⟩
  | some v => exact ⟨hb, h⟩
/-- a walk whose calls are another program's -/
theorem am_wp_ax {P1 : am_P} (X : am_Cx P D cl A sa sc a0 own ret nL c0 s0 mc ms p l e R s m args below meth c cc Ts oc code (am_cal P1 d) Qc rf) : ∀ (n pc : Nat) (L st : List am_V) (S : am_S) (M : am_M), am_wp P own ret code (am_cal P1 d) n pc L st S M (fun r => r = rf) → am_At P D cl A sa sc a0 nL c0 s0 p l e R s m args below meth c (MQ below Qc args s mc ms A) pc L st S M := by
  have hdec := X.2.2.2.2.2.2.2.2.1
  have hroom := X.2.2.2.2.2.2.2.2.2.2.2.2.2.1
  intro n
  induction n with
  | zero => intro pc L st S M h; exact h.elim
  | succ n ih =>
    intro pc L st S M h
    unfold am_wp at h
    split at h
    · rename_i len i hat
      obtain ⟨hd, hk⟩ := hdec _ _ _ hat
      refine am_snd X (am_Cc_cal P1 d) hd hk (am_step_mono (am_Cc_cal P1 d) h (fun pc' L' st' S' M' h1 => ⟨?_, ih _ _ _ _ _ h1⟩) (fun _ h1 => h1))
      exact am_wp_gr (good := fun S => S.length ≤ mc + c0 ∧ am_sz S ≤ ms + s0) (am_good_down _ _) (am_cal_gr (am_good_down _ _) P1 d) (fun r hr => by rw [hr]; exact ⟨Nat.le_of_eq hroom.2.1.symm, Nat.le_of_eq hroom.2.2.symm⟩) n _ _ _ _ _ h1
    · exact h.elim
end LF
/-- the memory once all cells are made: the rows that are given, and what the constructors made -/
def lw_M (f : Int → Int) : am_M := fun a j => if 1000000 ≤ a then tb_sc f a j else am_dn P0 dt a (if j < 0 then 0 else j)
def lw_c1 (i : Nat) : Bool := match sh_T[i]? with
  | some (0, ci, _) => (List.range 94).all (fun k => match pg_off ci ((k : Nat) : Int) with
    | some o => decide (am_dn P0 dt (i : Int) ((k : Nat) : Int) = (i : Int) + o)
    | none => true)
  | _ => true
theorem lw_c1_ok : (List.range 215).all lw_c1 = true := by decide +kernel
theorem lw_Fx1 (i : Nat) (hi : i < 215) (ci n : Nat) (hs : sh_T[i]? = some (0, ci, n)) (k : Nat) (hk : k < 94) (o : Int) (ho : pg_off ci (k : Int) = some o) : am_dn P0 dt (i : Int) (k : Int) = (i : Int) + o := by
  have h1 := List.all_eq_true.mp lw_c1_ok i (List.mem_range.mpr hi)
  unfold lw_c1 at h1
  rw [hs] at h1
  have h2 := List.all_eq_true.mp h1 k (List.mem_range.mpr hk)
  rw [ho] at h2
  simpa using h2
theorem lw_off : ∀ (ci : Nat) (k : Nat), 94 ≤ k → pg_off ci (k : Nat) = none := by
  intro ci k hk
  unfold pg_off
  rw [Int.toNat_natCast]
  have h : ∀ l ∈ pg_offs, l.length ≤ 94 := by decide +kernel
  rw [List.getD_eq_getElem?_getD, List.getElem?_eq_none]
  · rfl
  · refine Nat.le_trans ?_ hk
    by_cases q : ci < pg_offs.length
    · rw [List.getD_eq_getElem?_getD, List.getElem?_eq_getElem q]
      exact h _ (List.getElem_mem q)
    · rw [List.getD_eq_getElem?_getD, List.getElem?_eq_none (by omega)]
      exact Nat.zero_le _
def lw_c4 (i : Nat) : Bool := match sh_T[i]? with
  | some (4, _, n) => (List.range n).all (fun k => decide (am_dn P0 dt (i : Int) ((k : Nat) : Int) = (i : Int) + 1 + 2 * ((k : Nat) : Int)))
  | _ => true
theorem lw_c4_ok : (List.range 215).all lw_c4 = true := by decide +kernel
theorem lw_Fx4 (i : Nat) (hi : i < 215) (c n : Nat) (hs : sh_T[i]? = some (4, c, n)) (k : Nat) (hk : k < n) : am_dn P0 dt (i : Int) (k : Int) = (i : Int) + 1 + 2 * (k : Int) := by
  have h1 := List.all_eq_true.mp lw_c4_ok i (List.mem_range.mpr hi)
  unfold lw_c4 at h1
  rw [hs] at h1
  have h2 := List.all_eq_true.mp h1 k (List.mem_range.mpr hk)
  simpa using h2
theorem lw_shl : sh_T.length = 215 := by decide +kernel
theorem lw_ssz : am_sz sh_T = 25144 := by decide +kernel
theorem lw_Fx (f : Int → Int) (N : Nat) : am_Fx (pgL N) sh_T (lw_M f) := by
  refine ⟨fun i ci n hs k o ho => ?_, fun _ i c n hs j h0 h1 => ?_⟩
  · have ho : pg_off ci k = some o := ho
    have hi : i < 215 := by
      have := (List.getElem?_eq_some_iff.mp hs).1
      rw [lw_shl] at this
      exact this
    unfold lw_M
    rw [if_neg (by omega)]
    have hk : ∃ q : Nat, (if k < 0 then 0 else k) = (q : Int) ∧ pg_off ci (q : Nat) = some o := by
      by_cases h : k < 0
      · refine ⟨0, by rw [if_pos h]; rfl, ?_⟩
        rw [← ho]
        unfold pg_off
        rw [show k.toNat = 0 by omega]
        rfl
      · refine ⟨k.toNat, by rw [if_neg h]; omega, ?_⟩
        rw [show ((k.toNat : Nat) : Int) = k by omega]
        exact ho
    obtain ⟨q, e1, e2⟩ := hk
    rw [e1]
    by_cases hq : q < 94
    · exact lw_Fx1 i hi ci n hs q hq o e2
    · rw [lw_off ci q (by omega)] at e2
      cases e2
  · have hi : i < 215 := by
      have := (List.getElem?_eq_some_iff.mp hs).1
      rw [lw_shl] at this
      exact this
    unfold lw_M
    rw [if_neg (by omega), if_neg (by omega)]
    have := lw_Fx4 i hi c n hs j.toNat (by omega)
    rw [show ((j.toNat : Nat) : Int) = j by omega] at this
    exact this
/-- from the program of the making to that behind it -/
theorem lw_turn {D : va_G} {cl : List vw_C} {A : Nat → Prop} {sa : Int → Nat} {a0 : List Nat} {s : State} {ad : List Nat} {tys : List (ClassId × FieldType)} {ws : va_W} {H : Heap} {locs : List Loc} (f : Int → Int) (N : Nat) (h : am_Wd P0 D cl A sa (fun _ _ => 0) a0 s ad tys ws sh_T (am_dn P0 dt) H locs) : am_Wd (pgL N) D cl A sa (tb_sc f) a0 s ad tys ws sh_T (lw_M f) H locs := by
  obtain ⟨h1, h2, h3, h4, h5, h6, h7, h8, h9, h10⟩ := h
  refine ⟨h1, h2, h3, h4, h5, h6, fun i sh hs => ?_, fun a j ha => ?_, h9, lw_Fx f N⟩
  · obtain ⟨q, hq, hc⟩ := h7 i sh hs
    have hi : i < 215 := by
      have := (List.getElem?_eq_some_iff.mp hs).1
      rw [lw_shl] at this
      exact this
    refine ⟨q, hq, ?_⟩
    have e : ∀ k : Nat, lw_M f i (k : Nat) = am_dn P0 dt i (k : Nat) := by
      intro k
      unfold lw_M
      rw [if_neg (by omega), if_neg (by omega)]
    obtain ⟨kd, ci, n⟩ := sh
    unfold am_cell at hc ⊢
    split at hc
    · rename_i heq
      cases heq
      obtain ⟨fs, C, T, b1, b2, b3, b4⟩ := hc
      refine ⟨fs, C, T, b1, b2, b3, fun k hk => ?_⟩
      rw [e k]
      exact b4 k hk
    · rename_i heq
      cases heq
      obtain ⟨cA, g, t0, b1, b2, b3, b4⟩ := hc
      exact ⟨cA, g, t0, b1, b2, b3, fun j hj => by rw [e j]; exact b4 j hj⟩
    · rename_i heq
      cases heq
      obtain ⟨cA, g, t0, b1, b2, b3, b4⟩ := hc
      exact ⟨cA, g, t0, b1, b2, b3, fun j hj => by rw [e j]; exact b4 j hj⟩
    · rename_i heq
      cases heq
      obtain ⟨cA, g, t0, b1, b2, b3, b4⟩ := hc
      exact ⟨cA, g, t0, b1, b2, b3, fun j hj => by rw [e j]; exact b4 j hj⟩
    · rename_i heq
      cases heq
      obtain ⟨cA, g, t0, C, T, N', b1, b2, b3, b4, b5⟩ := hc
      exact ⟨cA, g, t0, C, T, N', b1, b2, b3, b4, fun j hj => by rw [e j]; exact b5 j hj⟩
    · exact hc.elim
  · unfold lw_M
    rw [if_pos ha]
theorem pgL_Stat {A : Nat → Prop} {sa : Int → Nat} {s : State} {L b : Nat} {xs : Nat → Int32} (hL : L ≤ 3072) (hE : tb_En A sa s) (hX : va_X b L xs s s.heap) (hb : ¬ A b) (hsb : sa 2000003 = b) : am_Stat (pgL L) A sa (tb_sc fun j => (xs j.toNat).toInt) s := by
  intro a n h
  have h : pgL_len L a = some n := h
  unfold pgL_len at h
  by_cases h0 : a = 2000003
  · subst h0
    rw [if_pos rfl] at h
    cases h
    obtain ⟨scr, h1, h2, h3, h4, h5⟩ := hX
    refine ⟨by omega, by omega, xs, ⟨scr, by rw [hsb]; exact h1, h2, h3, by omega, by rw [h4] <;> rfl, h5, by rw [hsb]; exact hb⟩, fun j hj => ?_⟩
    unfold tb_sc
    rw [if_pos rfl]
    rfl
  · rw [if_neg h0] at h
    exact tb_Stat (off := pg_off) (fx := true) hE a n h
theorem lw_end {below : List Frame} {s : State} {a : Array Value} {A : Nat → Prop} (hA : A = fun q => s.heap.size ≤ q) {t : State} (h : MQ below (fun _ _ o _ => o = .returned (some (.int 1))) a s 215 25144 A t) : lw_Z below a s t := by
  obtain ⟨o, h1, h2, h3, Lc, h4, h5⟩ := h
  subst hA
  exact ⟨o, h1, h2, h3, h4.1, h4.2.1, h4.2.2.weaken (fun y hy hlt => absurd hlt (Nat.not_lt.mpr (h5 y hy))) (by omega) (by omega)⟩
theorem lw_known {args : Array Value} {s : State} (hts : ∀ w ∈ tb_TT, w.before args s = true) (hin : ∀ ci, ci < 13 → ∀ C T N, tb_cl[ci]? = some (C, T, N) → (∀ w ∈ u_ws C T N, w ∈ tb_TT) ∧ Cond.instantiable C N ∈ tb_TT) : ∃ D : va_G, va_K D tb_cl [] s := by
  have h : ∀ k : Nat, ∃ q : ClassId × (Nat → Nat), ∀ C T N, tb_cl[k]? = some (C, T, N) → u_Kn s C T N q.1 q.2 := by
    intro k
    by_cases hk : k < 13
    · obtain ⟨⟨C, T, N⟩, hq⟩ : ∃ q, tb_cl[k]? = some q := ⟨_, List.getElem?_eq_getElem hk⟩
      obtain ⟨h1, h2⟩ := hin k hk C T N hq
      obtain ⟨cC, iS, h3⟩ := u_known (C := C) (T := T) (N := N) (n := N) hts h1 (hts _ h2)
      refine ⟨(cC, iS), fun C' T' N' e => ?_⟩
      rw [hq] at e
      cases e
      exact h3
    · refine ⟨(0, fun _ => 0), fun C T N e => ?_⟩
      exact absurd (List.getElem?_eq_some_iff.mp e).1 hk
  obtain ⟨g, hg⟩ := Classical.axiomOfChoice h
  exact ⟨(fun k => (g k).1, fun k => (g k).2), fun k q hq => hg k q.1 q.2.1 q.2.2 hq, fun k q h => by simp at h⟩
theorem lw_ins : ∀ ci, ci < 13 → ∀ C T N, tb_cl[ci]? = some (C, T, N) → (∀ w ∈ u_ws C T N, w ∈ tb_TT) ∧ Cond.instantiable C N ∈ tb_TT := by
  intro ci hci C T N e
  match ci, hci with
  | 0, _ => cases e; exact ⟨uw_0, tg tw_221 rfl⟩
  | 1, _ => cases e; exact ⟨uw_1, tg tw_239 rfl⟩
  | 2, _ => cases e; exact ⟨uw_2, tg tw_144 rfl⟩
  | 3, _ => cases e; exact ⟨uw_3, tg tw_84 rfl⟩
  | 4, _ => cases e; exact ⟨uw_4, tg tw_321 rfl⟩
  | 5, _ => cases e; exact ⟨uw_5, tg tw_97 rfl⟩
  | 6, _ => cases e; exact ⟨uw_6, tg tw_103 rfl⟩
  | 7, _ => cases e; exact ⟨uw_7, tg tw_199 rfl⟩
  | 8, _ => cases e; exact ⟨uw_8, tg tw_68 rfl⟩
  | 9, _ => cases e; exact ⟨uw_9, tg tw_30 rfl⟩
  | 10, _ => cases e; exact ⟨uw_10, tg tw_270 rfl⟩
  | 11, _ => cases e; exact ⟨uw_11, tg tw_22 rfl⟩
  | 12, _ => cases e; exact ⟨uw_12, tg tw_1198 rfl⟩
set_option maxHeartbeats 4000000 in
set_option maxRecDepth 100000 in
theorem law_from {p : Program} {e : Env} {s : State} {m : MethodId} {below : List Frame} {meth : Method} {c : Code} (l : Launch) {b L : Nat} {xs : Nat → Int32} (hL : L ≤ 3072) (C0 : lw_At p s m meth c b L xs) {Inv : Nat → am_M → Prop} {d : Nat} (hd : d ≤ 1000) (hS : lw_Sim (d + 1) Inv) (hsc : ∀ n M, Inv n M → ∀ j, am_r (M 2000003 j)) (h0 : Inv 0 (lw_M fun j => (xs j.toNat).toInt)) : W p l e room_1 s m #[Value.ref b] below meth c s.heap [] 0 0 (lw_Z below #[Value.ref b] s) (entryFrame m ([Value.ref b] : List Value).toArray 4) := by
  obtain ⟨hx, hb, hr, hml, hown, hts, hX, hbl, hlocks, hgv⟩ := C0
  generalize hAe : (fun q : Nat => s.heap.size ≤ q) = A
  have hA : ∀ q, s.heap.size ≤ q → A q := fun q h => by rw [← hAe]; exact h
  have hA0 : ∀ a : Nat, a < s.heap.size → ¬ A a := fun a h => by rw [← hAe]; exact Nat.not_le.mpr h
  obtain ⟨sa, hsb, hE⟩ := lw_En hts hgv hA0 b
  have hTT : ∀ w ∈ tb_TT, w.before #[Value.ref b] s = true := fun w hw => hts w (List.mem_filter.mp hw).1
  obtain ⟨D, hK⟩ := lw_known hTT lw_ins
  obtain ⟨n, hn⟩ := law_loop (N := L) hS hsc hL 4001 0 (by omega) (by omega) (by omega) 0 _ (by omega) h0
  obtain ⟨rf, ⟨M', rfl⟩, hn⟩ := am_wp_ch (am_Cc_cal pg (d + 1)) n _ _ _ _ _ hn
  have hown' : s.vm.findClass RL = some m.cls := hown
  have Y0 : am_All P0 D tb_cl A sa (fun _ _ => 0) l tb_nmf tb_ym tb_bm tb_rt tb_TT (tb_En A sa) := tb_All D (Or.inl fun _ _ => rfl) (fun _ _ _ => rfl) (fun s hE a n h => by cases h)
  have Y1 : am_All pg D tb_cl A sa (tb_sc fun j => (xs j.toNat).toInt) l tb_nmf tb_ym tb_bm tb_rt tb_TT (tb_En A sa) := tb_All D (off := pg_off) (ln := pg_len) (fx := true) (Or.inr rfl) (fun h => by cases h) (fun s hE => tb_Stat hE)
  have hend : ∀ (ad : List Nat) (w : Option Value) (t : State), am_res ad sa (some (0, 1)) w → (fun (_ : Array Value) (_ : State) (o : Outcome) (_ : State) => o = .returned (some (.int 1))) #[Value.ref b] s (.returned w) t := by
    intro ad w t h
    unfold am_res at h
    split at h
    · rename_i heq; cases heq
    · rename_i heq
      cases heq
      obtain ⟨z, rfl, hz⟩ := h
      have : z = 1 := Int32.toInt_inj.mp (by rw [hz]; rfl)
      subst this
      rfl
    · exact h.elim
  have X0 : am_Cx P0 D tb_cl A sa (fun _ _ => 0) [] 13 5 4 0 0 215 25144 p l e room_1 s m #[Value.ref b] below meth c cL_law tb_TT RL co_L_law (am_cal P0 7) (fun _ _ o _ => o = .returned (some (.int 1))) (some (0, 1), sh_T, M') := by
    refine ⟨hx, hb, hml, hown', hTT, hA, hlocks, ⟨fun a n h => (by cases h), fun _ _ _ => rfl⟩, am_ckc_ok ck_L_law, ?_, ?_, by decide, by decide, ⟨⟨by decide, by decide⟩, lw_shl.symm, lw_ssz.symm⟩, hr, ?_, ?_, ?_⟩
    · intro ix kd a n h
      exact tb_pk (off := fun _ _ => none) (ln := fun _ => none) (fx := false) (own := 13) (Or.inl fun _ _ => rfl) hTT hE (show pg_pool 13 ix = some (kd, a, n) from h)
    · intro t h
      exact hTT _ (Y0.2.2.2.2.2.2.2.2.2.1 t h)
    · intro ad tys ws H locs w hW hres t ht hWt
      exact hend ad w t hres
    · intro ix mid kd n hp pc i L st S M hk hd' v S' M' hb8 hcal hcap kk
      exact am_calls Y0 (am_met Y0 6) hx hml hown' hTT hE hA (by decide) (by decide) (by decide) (by decide) ix mid kd n hp pc i L st S M hk (by rw [hb]; exact hd') v S' M' hb8 hcal hcap kk
    · intro ix kd a n hp pc i hi hd' L st S M hcap hext
      exact Y0.2.2.2.2.2.2.2.2.2.2 13 ix kd a n hp pc i hi p e room_1 s m #[Value.ref b] below meth c 4 0 0 215 25144 [] _ hx hml hown' hTT hE (by decide) (by decide) ⟨by decide, by decide⟩ hA (by rw [hb]; exact hd') L st S M hcap hext
  have X1 : am_Cx (pgL L) D tb_cl A sa (tb_sc fun j => (xs j.toNat).toInt) [] 13 5 4 0 0 215 25144 p l e room_1 s m #[Value.ref b] below meth c cL_law tb_TT RL co_L_law (am_cal pg (d + 1)) (fun _ _ o _ => o = .returned (some (.int 1))) (some (0, 1), sh_T, M') := by
    refine ⟨hx, hb, hml, hown', hTT, hA, hlocks, ⟨pgL_Stat hL hE hX (hA0 b hbl) hsb, fun h => (by cases h)⟩, am_ckc_ok ck_L_law, ?_, ?_, by decide, by decide, ⟨⟨by decide, by decide⟩, lw_shl.symm, lw_ssz.symm⟩, hr, ?_, ?_, ?_⟩
    · intro ix kd a n h
      exact tb_pk (off := pg_off) (ln := pgL_len L) (fx := true) (own := 13) (Or.inr rfl) hTT hE (show pg_pool 13 ix = some (kd, a, n) from h)
    · intro t h
      exact hTT _ (Y0.2.2.2.2.2.2.2.2.2.1 t h)
    · intro ad tys ws H locs w hW hres t ht hWt
      exact hend ad w t hres
    · intro ix mid kd n hp pc i L st S M hk hd' v S' M' hb8 hcal hcap kk
      exact am_calls Y1 (am_met Y1 d) hx hml hown' hTT hE hA (Nat.le_trans (by omega) (show 1009 ≤ room_1.frames by decide)) (Nat.le_trans (by omega) (show 64576 ≤ room_1.locals by decide)) (by decide) (by decide) ix mid kd n hp pc i L st S M hk (by rw [hb]; exact hd') v S' M' hb8 hcal hcap kk
    · intro ix kd a n hp pc i hi hd' L' st S M hcap hext
      exact tb_Ex D (off := pg_off) (ln := pgL_len L) (fx := true) 13 ix kd a n hp pc i hi p e room_1 s m #[Value.ref b] below meth c 4 0 0 215 25144 [] _ hx hml hown' hTT hE (by decide) (by decide) ⟨by decide, by decide⟩ hA (by rw [hb]; exact hd') L' st S M hcap hext
  have cap : ∀ (k : Nat), k ≤ 152 → (sh_T.take k).length ≤ 215 + 0 ∧ am_sz (sh_T.take k) ≤ 25144 + 0 := by decide +kernel
  have fin : am_At P0 D tb_cl A sa (fun _ _ => 0) [] 4 0 0 p l e room_1 s m #[Value.ref b] below meth c (MQ below (fun _ _ o _ => o = .returned (some (.int 1))) #[Value.ref b] s 215 25144 A) 18 [(2, 2000003), (2, 0), (2, 152), (0, 0)] [] sh_T (am_dn P0 dt) := by
    intro ad tys ws H locs cells slots ls stv hW hst hlo h1 h2
    exact am_wp_ax X1 n 18 _ _ _ _ hn ad tys ws H locs cells slots ls stv (lw_turn _ L hW) hst hlo h1 h2
  have p17 := am_At_so X0 (pc := 17) (M := dt) (x := (18, [(2, 2000003), (2, 0), (2, 152), (0, 0)], [], sh_T, dt)) (L := [(2, 2000003), (2, 0), (2, 152), (3, 0)]) (st := [(0, 0)]) (S := sh_T) (len := 1) (i := .istore_n 3) (by decide +kernel) (@of_decide_eq_true _ (am_dqa _ _) (by decide +kernel)) (by decide +kernel) fin
  have p16 := am_At_so X0 (pc := 16) (M := dt) (x := (17, [(2, 2000003), (2, 0), (2, 152), (3, 0)], [(0, 0)], sh_T, dt)) (L := [(2, 2000003), (2, 0), (2, 152), (3, 0)]) (st := []) (S := sh_T) (len := 1) (i := .iconst 0) (by decide +kernel) (@of_decide_eq_true _ (am_dqa _ _) (by decide +kernel)) (by decide +kernel) p17
  have p15 := am_At_so X0 (pc := 15) (M := dt) (x := (16, [(2, 2000003), (2, 0), (2, 152), (3, 0)], [], sh_T, dt)) (L := [(2, 2000003), (2, 0), (3, 0), (3, 0)]) (st := [(2, 152)]) (S := sh_T) (len := 1) (i := .astore_n 2) (by decide +kernel) (@of_decide_eq_true _ (am_dqa _ _) (by decide +kernel)) (by decide +kernel) p16
  have p12 := am_At_who X0 (pc := 12) (len := 3) (i := .invokespecial 12) (L := [(2, 2000003), (2, 0), (3, 0), (3, 0)]) (st := [(2, 152), (2, 152)]) (vs := [(2, 152)]) (rest := [(2, 152)]) (n := 1) (r := (none, sh_T, am_dn P0 dt)) (by decide +kernel) (by decide +kernel) rfl rfl (by decide +kernel) cx_2 (by decide +kernel) p15
  have p11 := am_At_so X0 (pc := 11) (M := dt_1 ++ [(14, [])]) (x := (12, [(2, 2000003), (2, 0), (3, 0), (3, 0)], [(2, 152), (2, 152)], sh_T.take 152 ++ [(0, 12, 94)], dt_1 ++ [(14, [])])) (L := [(2, 2000003), (2, 0), (3, 0), (3, 0)]) (st := [(2, 152)]) (S := sh_T.take 152 ++ [(0, 12, 94)]) (len := 1) (i := .dup) (by decide +kernel) (@of_decide_eq_true _ (am_dqa _ _) (by decide +kernel)) (by decide +kernel) p12
  have p8 := am_At_so X0 (pc := 8) (M := dt_1) (x := (11, [(2, 2000003), (2, 0), (3, 0), (3, 0)], [(2, 152)], sh_T.take 152 ++ [(0, 12, 94)], dt_1 ++ [(14, [])])) (L := [(2, 2000003), (2, 0), (3, 0), (3, 0)]) (st := []) (S := sh_T.take 152) (len := 3) (i := .new 10) (by decide +kernel) (@of_decide_eq_true _ (am_dqa _ _) (by decide +kernel)) (by decide +kernel) p11
  have p7 := am_At_so X0 (pc := 7) (M := dt_1) (x := (8, [(2, 2000003), (2, 0), (3, 0), (3, 0)], [], sh_T.take 152, dt_1)) (L := [(2, 2000003), (3, 0), (3, 0), (3, 0)]) (st := [(2, 0)]) (S := sh_T.take 152) (len := 1) (i := .astore_n 1) (by decide +kernel) (@of_decide_eq_true _ (am_dqa _ _) (by decide +kernel)) (by decide +kernel) p8
  have p4 := am_At_who X0 (pc := 4) (len := 3) (i := .invokespecial 9) (L := [(2, 2000003), (3, 0), (3, 0), (3, 0)]) (st := [(2, 0), (2, 0)]) (vs := [(2, 0)]) (rest := [(2, 0)]) (n := 1) (by decide +kernel) (by decide +kernel) rfl rfl (by decide +kernel) (am_ex_cal pm_X11_init (by decide +kernel) cx_1) (by decide +kernel) p7
  have p3 := am_At_so X0 (pc := 3) (M := [(13, [])]) (x := (4, [(2, 2000003), (3, 0), (3, 0), (3, 0)], [(2, 0), (2, 0)], [(0, 11, 18)], [(13, [])])) (L := [(2, 2000003), (3, 0), (3, 0), (3, 0)]) (st := [(2, 0)]) (S := [(0, 11, 18)]) (len := 1) (i := .dup) (by decide +kernel) (@of_decide_eq_true _ (am_dqa _ _) (by decide +kernel)) (by decide +kernel) p4
  have p0 := am_At_so X0 (pc := 0) (M := []) (x := (3, [(2, 2000003), (3, 0), (3, 0), (3, 0)], [(2, 0)], [(0, 11, 18)], [(13, [])])) (L := [(2, 2000003), (3, 0), (3, 0), (3, 0)]) (st := []) (S := []) (len := 3) (i := .new 7) (by decide +kernel) (@of_decide_eq_true _ (am_dqa _ _) (by decide +kernel)) (by decide +kernel) p3
  have hv : am_vals [] sa [(2, 2000003)] [.ref b] := by
    refine ⟨⟨fun h => absurd h (by decide), ?_⟩, trivial⟩
    unfold am_rf am_ad
    rw [if_neg (by decide), if_neg (by decide), hsb]
  have hW0 : am_Wd P0 D tb_cl A sa (fun _ _ => 0) [] s [] [] [] [] (am_dn P0 []) s.heap [] := by
    refine ⟨hK, fun k q h => (by simp at h), ⟨fun i j p q h => (by simp at h), fun k q h => (by simp at h)⟩, va_S.rf, rfl, rfl, fun i sh h => (by simp at h), fun a j h => ?_, List.prefix_refl _, am_Fx_of rfl (fun _ _ _ => rfl) _ _⟩
    unfold am_dn
    rw [if_neg (by omega)]
    rfl
  have go := p0 [] [] [] s.heap [] 0 0 _ [] hW0 trivial (am_entry_lo hv (mx := 4) (by decide)) rfl rfl
  rw [lg_entry_eq]
  intro T hT X
  obtain ⟨t, a1, b1⟩ := go T hT X
  exact ⟨t, a1, lw_end hAe.symm b1⟩
