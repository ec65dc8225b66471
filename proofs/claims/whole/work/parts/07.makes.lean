/-! makings, answers, Object's own constructor -/
def am_Ck (P : am_P) (cl : List vw_C) (Ts : List Cond) (oc : String) (args : Array Value) (s : State) (ix ci : Nat) : Prop :=
  ∃ (C : String) (T : u_T) (N : Nat) (t : Nat → FieldType), cl[ci]? = some (C, T, N) ∧ P.2.2.2.1 ci = N ∧ (∀ w ∈ u_ws C T N, w ∈ Ts) ∧ (∀ k, k < N → parseFieldDescriptor (T k).2.2.1 = some (t k)) ∧ (∀ k : Nat, k < N → am_ty (P.2.2.1 ci k) (t k)) ∧
    (Cond.classLink oc ix C).before args s = true ∧ (Cond.instantiable C N).before args s = true ∧ (Cond.initialized C).before args s = true
def am_Ak (cl : List vw_C) (oc : String) (args : Array Value) (s : State) (ix ci : Nat) : Prop :=
  ∃ (C : String) (T : u_T) (N : Nat), cl[ci]? = some (C, T, N) ∧ (Cond.classLink oc ix C).before args s = true ∧ va_AO C s
def am_Ok (oc : String) (args : Array Value) (s : State) (ix : Nat) : Prop := (Cond.methodLink oc ix objectInit).before args s = true ∧ (Cond.instanceMethod objectInit).before args s = true ∧ (Cond.code objectInit ⟨#[0xb1]⟩ 1 none).before args s = true
theorem am_cats_eq {ad : List Nat} {sa : Int → Nat} : ∀ (st : List am_V) (stv : List Value), am_vals ad sa st stv → (stv.map fun v => v.category).sum = am_cats st
  | [], [], _ => rfl
  | v :: l, w :: m, h => by
    obtain ⟨h1, h2⟩ := h
    have ih := am_cats_eq l m h2
    simp only [List.map_cons, List.sum_cons, am_cats, ih]
    congr 1
    unfold am_val at h1
    unfold am_cat
    split at h1
    · rename_i h3
      obtain ⟨z, rfl, -⟩ := h1
      rw [h3]; rfl
    · rename_i h3
      obtain ⟨z, rfl, -⟩ := h1
      rw [h3]; rfl
    · rename_i h3
      obtain ⟨-, rfl⟩ := h1
      rw [h3, am_rf_cat]; rfl
    · exact h1.elim
  | [], _ :: _, h => h.elim
  | _ :: _, [], h => h.elim
theorem am_dflt {tag : Nat} {ty : FieldType} (h : am_ty tag ty) (ad : List Nat) (sa : Int → Nat) : am_val ad sa (am_tag tag, if tag = 2 then -1 else 0) (defaultValue ty) := by
  unfold am_ty at h
  split at h
  · subst h; exact ⟨0, rfl, rfl⟩
  · subst h; exact ⟨0, rfl, rfl⟩
  · have h9 : am_rf ad sa (-1) = .null := by unfold am_rf; rw [if_pos (by decide)]
    rcases h with ⟨n, rfl⟩ | ⟨n, rfl⟩
    · exact ⟨fun _ => by show (-1 : Int) < _; omega, h9.symm⟩
    · exact ⟨fun _ => by show (-1 : Int) < _; omega, h9.symm⟩
  · subst h; exact ⟨0, rfl, rfl⟩
  · exact h.elim
section AMN
variable {P : am_P} {D : va_G} {cl : List vw_C} {A : Nat → Prop} {sa : Int → Nat} {sc : Int → Int → Int} {a0 : List Nat} {nL c0 s0 : Nat} {p : Program} {l : Launch} {e : Env} {R : Room} {s : State} {m : MethodId} {args : Array Value} {below : List Frame} {meth : Method} {c : Code} {Q : State → Prop} {cc : ByteArray} {pc : Nat} {L st : List am_V} {S : am_S} {M : am_M} {Ts : List Cond} {oc : String}
theorem am_r_new (hx : p.tables.exec = Jvm.exec) (hb : c.code = cc) (hts : ∀ w ∈ Ts, w.before args s = true) (hown : s.vm.findClass oc = some m.cls) (hA : ∀ q, s.heap.size ≤ q → A q) {ix ci : Nat} (hfx : P.2.2.2.2.2.2.2 = false) (hof : P.2.2.2.2.2.2.2 = false → ∀ ci f, P.2.2.2.2.2.2.1 ci f = none) (hC : am_Ck P cl Ts oc args s ix ci) (hn : S.length < 1000000) (hd : decode cc pc = .ok (.new ix, 3)) (hcap : (S ++ [(0, ci, P.2.2.2.1 ci)]).length ≤ R.cells + c0) (hcas : am_sz (S ++ [(0, ci, P.2.2.2.1 ci)]) ≤ R.slots + s0)
    (h : am_At P D cl A sa sc a0 nL c0 s0 p l e R s m args below meth c Q (pc + 3) L ((2, S.length) :: st) (S ++ [(0, ci, P.2.2.2.1 ci)]) (am_row M S.length fun f => if P.2.2.1 ci f = 2 then -1 else 0)) : am_At P D cl A sa sc a0 nL c0 s0 p l e R s m args below meth c Q pc L st S M := by
  intro ad tys ws H locs cells slots ls stv hW hst hlo h1 h2
  obtain ⟨C, T, N, t, hc, rfl, hin, hty, htag, hcl, hinst, hini⟩ := hC
  rw [List.length_append] at hcap
  rw [am_sz_app] at hcas
  simp only [List.length_cons, List.length_nil, am_sz] at hcap hcas
  have hlen : ws.length = S.length := hW.2.2.2.2.2.1
  have had : ws.map Prod.fst = ad := hW.2.2.2.2.1
  have hadl : ad.length = S.length := by rw [← had, List.length_map, hlen]
  refine va_new (fs := (List.range (P.2.2.2.1 ci)).map fun k => defaultValue (t k)) hx hb hts hin t hty hown hcl hinst hini hW.1 hW.2.1 hW.2.2.1 hW.2.2.2.1 hA hc (fun j hj => ?_) (by omega) (by omega) hd fun q H1 hP1 hD1 hS1 => ?_
  · unfold vp_V
    rw [List.getD_eq_getElem?_getD, List.getElem?_map, List.getElem?_range hj]; rfl
  · have hW1 := am_Wd_push (sh := (0, ci, P.2.2.2.1 ci)) (f := fun f => if P.2.2.1 ci f = 2 then -1 else 0) (tys1 := []) hW (by rw [List.append_nil]; exact hW.1) hP1 hD1 hS1 ⟨_, C, T, rfl, hc, by simp, fun k hk => ⟨defaultValue (t k), by rw [List.getElem?_map, List.getElem?_range hk]; rfl, am_dflt (htag k hk) _ _⟩⟩ (by omega) (am_Fx_of hfx hof _ _)
    have hrok : am_rok (ad ++ [q]) (S.length : Int) := fun _ => by rw [List.length_append, hadl]; simp only [List.length_cons, List.length_nil]; omega
    have hrf : am_rf (ad ++ [q]) sa (S.length : Int) = .ref q := by
      unfold am_rf am_ad
      rw [if_neg (by omega), if_pos (by omega), Int.toNat_natCast, List.getD_eq_getElem?_getD, ← hadl, List.getElem?_append_right (Nat.le_refl _), Nat.sub_self]; rfl
    have hst1 := am_i2 hrok (am_vals_app [q] _ _ hst) (sa := sa)
    rw [hrf] at hst1
    exact h _ _ _ H1 locs (cells + 1) (slots + P.2.2.2.1 ci) ls _ hW1 hst1 (am_lo_app hlo _) (by rw [List.length_append]; simp; omega) (by rw [am_sz_app]; simp only [am_sz]; omega)
theorem am_r_newa (hx : p.tables.exec = Jvm.exec) (hb : c.code = cc) (hA : ∀ q, s.heap.size ≤ q → A q) {at0 : ArrayType} (hfx : P.2.2.2.2.2.2.2 = false) (hof : P.2.2.2.2.2.2.2 = false → ∀ ci f, P.2.2.2.2.2.2.1 ci f = none) (harr : (Cond.arrayClass (newarray.typeOf at0)).before args s = true) {n : Int} (hn0 : 0 ≤ n) (hn1 : n ≤ 65536) (hn : S.length < 1000000) (hd : decode cc pc = .ok (.newarray at0, 2)) {kd : Nat} (hkd : (at0 = .int ∧ kd = 1) ∨ (at0 = .char ∧ kd = 2) ∨ (at0 = .long ∧ kd = 3)) (hcap : (S ++ [(kd, 0, n.toNat)]).length ≤ R.cells + c0) (hcas : am_sz (S ++ [(kd, 0, n.toNat)]) ≤ R.slots + s0)
    (h : am_At P D cl A sa sc a0 nL c0 s0 p l e R s m args below meth c Q (pc + 2) L ((2, S.length) :: st) (S ++ [(kd, 0, n.toNat)]) (am_row M S.length fun _ => 0)) : am_At P D cl A sa sc a0 nL c0 s0 p l e R s m args below meth c Q pc L ((0, n) :: st) S M := by
  intro ad tys ws H locs cells slots ls stv hW hst hlo h1 h2
  obtain ⟨z, t', rfl, hz, ht⟩ := am_v0 hst
  rw [List.length_append] at hcap
  rw [am_sz_app] at hcas
  simp only [List.length_cons, List.length_nil, am_sz] at hcap hcas
  have hlen : ws.length = S.length := hW.2.2.2.2.2.1
  have had : ws.map Prod.fst = ad := hW.2.2.2.2.1
  have hadl : ad.length = S.length := by rw [← had, List.length_map, hlen]
  have hz0 : ¬ z < 0 := fun q => by
    have := Int32.lt_iff_toInt_lt.mp q
    rw [hz] at this
    have e : (0 : Int32).toInt = 0 := rfl
    omega
  have hzn : z.toNatClampNeg = n.toNat := by
    have : z.toNatClampNeg = z.toInt.toNat := rfl
    rw [this, hz]
  have go : ∀ (q : Nat) (cA : ClassId) (ty : FieldType) (a0 : vp_A) (H1 : Heap), va_K D cl (tys ++ [(cA, ty)]) s → va_P D cl (ws ++ [(q, .inl (cA, a0))]) H1 → va_D A (ws ++ [(q, .inl (cA, a0))]) → va_S A s.heap H1 locs → am_cell P cl (tys ++ [(cA, ty)]) (ad ++ [q]) sa (kd, 0, n.toNat) (fun _ => 0) (.inl (cA, a0)) → W p l e R s m args below meth c H1 locs (cells + 1) (slots + n.toNat) Q (F0 m (pc + 2) ls (.ref q :: t')) := by
    intro q cA ty a0 H1 hK1 hP1 hD1 hS1 hc1
    have hW1 := am_Wd_push (sh := (kd, 0, n.toNat)) (f := fun _ => 0) hW hK1 hP1 hD1 hS1 hc1 (by omega) (am_Fx_of hfx hof _ _)
    have hrok : am_rok (ad ++ [q]) (S.length : Int) := fun _ => by rw [List.length_append, hadl]; simp only [List.length_cons, List.length_nil]; omega
    have hrf : am_rf (ad ++ [q]) sa (S.length : Int) = .ref q := by
      unfold am_rf am_ad
      rw [if_neg (by omega), if_pos (by omega), Int.toNat_natCast, List.getD_eq_getElem?_getD, ← hadl, List.getElem?_append_right (Nat.le_refl _), Nat.sub_self]; rfl
    have hst1 := am_i2 hrok (am_vals_app [q] _ _ ht) (sa := sa)
    rw [hrf] at hst1
    exact h _ _ _ H1 locs (cells + 1) (slots + n.toNat) ls _ hW1 hst1 (am_lo_app hlo _) (by rw [List.length_append]; simp; omega) (by rw [am_sz_app]; simp only [am_sz]; omega)
  have ht0 : ∀ (cA : ClassId) (ty : FieldType), (tys ++ [(cA, ty)])[tys.length]? = some (cA, ty) := fun cA ty => by rw [List.getElem?_append_right (Nat.le_refl _), Nat.sub_self]; rfl
  rcases hkd with ⟨rfl, rfl⟩ | ⟨rfl, rfl⟩ | ⟨rfl, rfl⟩
  · exact va_newa (a0 := (n.toNat, .inl fun _ => 0)) (ty := .int) hx hb harr rfl hW.1 hW.2.1 hW.2.2.1 hW.2.2.2.1 hA (fun _ => rfl) hz0 hzn (by show n.toNat * 4 ≤ _; omega) (by omega) (by omega) hd fun q cA H1 hK1 hP1 hD1 hS1 => go q cA .int _ H1 hK1 hP1 hD1 hS1 ⟨cA, _, tys.length, rfl, ht0 _ _, by omega, fun _ _ => rfl⟩
  · exact va_newa (a0 := (n.toNat, .inl fun _ => 0)) (ty := .char) hx hb harr rfl hW.1 hW.2.1 hW.2.2.1 hW.2.2.2.1 hA (fun _ => rfl) hz0 hzn (by show n.toNat * 2 ≤ _; omega) (by omega) (by omega) hd fun q cA H1 hK1 hP1 hD1 hS1 => go q cA .char _ H1 hK1 hP1 hD1 hS1 ⟨cA, _, tys.length, rfl, ht0 _ _, by omega, fun _ _ => rfl⟩
  · exact va_newa (a0 := (n.toNat, .inr (.inl fun _ => 0))) (ty := .long) hx hb harr rfl hW.1 hW.2.1 hW.2.2.1 hW.2.2.2.1 hA (fun _ => rfl) hz0 hzn (by show n.toNat * 8 ≤ _; omega) (by omega) (by omega) hd fun q cA H1 hK1 hP1 hD1 hS1 => go q cA .long _ H1 hK1 hP1 hD1 hS1 ⟨cA, _, tys.length, rfl, ht0 _ _, by omega, fun _ _ => rfl⟩
theorem am_r_newq (hx : p.tables.exec = Jvm.exec) (hb : c.code = cc) (hown : s.vm.findClass oc = some m.cls) (hA : ∀ q, s.heap.size ≤ q → A q) {ix ci : Nat} (hfx : P.2.2.2.2.2.2.2 = false) (hof : P.2.2.2.2.2.2.2 = false → ∀ ci f, P.2.2.2.2.2.2.1 ci f = none) (hC : am_Ak cl oc args s ix ci) {n : Int} (hn0 : 0 ≤ n) (hn1 : n ≤ 65536) (hn : S.length < 1000000) (hd : decode cc pc = .ok (.anewarray ix, 3)) (hcap : (S ++ [(4, ci, n.toNat)]).length ≤ R.cells + c0) (hcas : am_sz (S ++ [(4, ci, n.toNat)]) ≤ R.slots + s0)
    (h : am_At P D cl A sa sc a0 nL c0 s0 p l e R s m args below meth c Q (pc + 3) L ((2, S.length) :: st) (S ++ [(4, ci, n.toNat)]) (am_row M S.length fun _ => -1)) : am_At P D cl A sa sc a0 nL c0 s0 p l e R s m args below meth c Q pc L ((0, n) :: st) S M := by
  intro ad tys ws H locs cells slots ls stv hW hst hlo h1 h2
  obtain ⟨z, t', rfl, hz, ht⟩ := am_v0 hst
  obtain ⟨C, T, N, hc, hlink, hover⟩ := hC
  rw [List.length_append] at hcap
  rw [am_sz_app] at hcas
  simp only [List.length_cons, List.length_nil, am_sz] at hcap hcas
  have hlen : ws.length = S.length := hW.2.2.2.2.2.1
  have had : ws.map Prod.fst = ad := hW.2.2.2.2.1
  have hadl : ad.length = S.length := by rw [← had, List.length_map, hlen]
  have hz0 : ¬ z < 0 := fun q => by
    have := Int32.lt_iff_toInt_lt.mp q
    rw [hz] at this
    have e : (0 : Int32).toInt = 0 := rfl
    omega
  have hzn : z.toNatClampNeg = n.toNat := by
    have : z.toNatClampNeg = z.toInt.toNat := rfl
    rw [this, hz]
  refine va_newq hx hb hown hlink hover hW.1 hW.2.1 hW.2.2.1 hW.2.2.2.1 hA hz0 hzn (by omega) (by omega) (by omega) hd fun q cA H1 hK1 hP1 hD1 hS1 => ?_
  have ht0 : (tys ++ [(cA, FieldType.object C)])[tys.length]? = some (cA, .object C) := by rw [List.getElem?_append_right (Nat.le_refl _), Nat.sub_self]; rfl
  have h9 : am_rf (ad ++ [q]) sa (-1) = .null := by unfold am_rf; rw [if_pos (by decide)]
  have hW1 := am_Wd_push (sh := (4, ci, n.toNat)) (f := fun _ => -1) hW hK1 hP1 hD1 hS1 ⟨cA, _, tys.length, C, T, N, rfl, hc, ht0, by omega, fun _ _ => ⟨fun _ => by show (-1 : Int) < _; omega, h9.symm⟩⟩ (by omega) (am_Fx_of hfx hof _ _)
  have hrok : am_rok (ad ++ [q]) (S.length : Int) := fun _ => by rw [List.length_append, hadl]; simp only [List.length_cons, List.length_nil]; omega
  have hrf : am_rf (ad ++ [q]) sa (S.length : Int) = .ref q := by
    unfold am_rf am_ad
    rw [if_neg (by omega), if_pos (by omega), Int.toNat_natCast, List.getD_eq_getElem?_getD, ← hadl, List.getElem?_append_right (Nat.le_refl _), Nat.sub_self]; rfl
  have hst1 := am_i2 hrok (am_vals_app [q] _ _ ht) (sa := sa)
  rw [hrf] at hst1
  exact h _ _ _ H1 locs (cells + 1) (slots + n.toNat) ls _ hW1 hst1 (am_lo_app hlo _) (by rw [List.length_append]; simp; omega) (by rw [am_sz_app]; simp only [am_sz]; omega)
theorem am_r_len (hx : p.tables.exec = Jvm.exec) (hb : c.code = cc) (hstat : am_Stat P A sa sc s) {a : Int} {n : Nat} (ha : am_alen P S a = some n) (hd : decode cc pc = .ok (.arraylength, 1))
    (h : am_At P D cl A sa sc a0 nL c0 s0 p l e R s m args below meth c Q (pc + 1) L ((0, (n : Int)) :: st) S M) : am_At P D cl A sa sc a0 nL c0 s0 p l e R s m args below meth c Q pc L ((2, a) :: st) S M := by
  intro ad tys ws H locs cells slots ls stv hW hst hlo h1 h2
  obtain ⟨t', rfl, -, ht⟩ := am_v2 hst
  unfold am_alen at ha
  by_cases h0 : a < 0
  · rw [if_pos h0] at ha; cases ha
  rw [if_neg h0] at ha
  by_cases h3 : a < 1000000
  · rw [if_pos h3] at ha
    have key : ∀ (kd cx : Nat), S[a.toNat]? = some (kd, cx, n) → kd ≠ 0 → W p l e R s m args below meth c H locs cells slots Q (F0 m pc ls (am_rf ad sa a :: t')) := by
      intro kd cx hs hkd
      obtain ⟨q, e, hw, hcell, hr, -⟩ := am_Wd_at hW (by omega) h3 hs
      have hlenN : n ≤ 65536 → (Int32.ofNat n).toInt = (n : Int) := fun q => nI_toInt (by omega)
      rw [hr]
      unfold am_cell at hcell
      split at hcell
      · rename_i heq; cases heq; exact absurd rfl hkd
      · rename_i heq; cases heq
        obtain ⟨cA, g, t0, rfl, ht0, hn, hg⟩ := hcell
        exact va_alen hx hb hW.1 hW.2.1 a.toNat t0 hw ht0 rfl hd (h ad tys ws H locs cells slots ls _ hW (am_i0 (hlenN hn) ht) hlo h1 h2)
      · rename_i heq; cases heq
        obtain ⟨cA, g, t0, rfl, ht0, hn, hg⟩ := hcell
        exact va_alen hx hb hW.1 hW.2.1 a.toNat t0 hw ht0 rfl hd (h ad tys ws H locs cells slots ls _ hW (am_i0 (hlenN hn) ht) hlo h1 h2)
      · rename_i heq; cases heq
        obtain ⟨cA, g, t0, rfl, ht0, hn, hg⟩ := hcell
        exact va_alen hx hb hW.1 hW.2.1 a.toNat t0 hw ht0 rfl hd (h ad tys ws H locs cells slots ls _ hW (am_i0 (hlenN hn) ht) hlo h1 h2)
      · rename_i heq; cases heq
        obtain ⟨cA, g, t0, C, T, N, rfl, hc, ht0, hn, hg⟩ := hcell
        exact va_alen hx hb hW.1 hW.2.1 a.toNat t0 hw ht0 rfl hd (h ad tys ws H locs cells slots ls _ hW (am_i0 (hlenN hn) ht) hlo h1 h2)
      · exact hcell.elim
    split at ha
    · cases ha
    · rename_i kd cx n' hn0 hs
      cases ha
      exact key kd cx hs (fun q => by subst q; first | exact hn0 rfl | exact hn0 _ rfl | exact hn0 _ _ rfl)
    · cases ha
  · rw [if_neg h3] at ha
    obtain ⟨-, hn2, f, ⟨cell, c1, c2, c3, c4, c5, c6, c7⟩, hf⟩ := hstat a n ha
    have e1 : am_rf ad sa a = .ref (sa a) := by
      unfold am_rf am_ad
      rw [if_neg h0, if_neg h3]
    have e2 : H[sa a]? = some cell := by
      rw [hW.2.2.2.1.2.1 _ (Array.getElem?_eq_some_iff.mp c1).1 c7]; exact c1
    rw [e1]
    exact W.alen hx hb e2 c2 c5 rfl rfl hd (h ad tys ws H locs cells slots ls _ hW (am_i0 (nI_toInt (by omega)) ht) hlo h1 h2)
theorem am_r_obj (hx : p.tables.exec = Jvm.exec) (hb : c.code = cc) (hml : c.maxLocals = nL) (hown : s.vm.findClass oc = some m.cls) {ix : Nat} (hO : am_Ok oc args s ix) (hR1 : 1 ≤ R.frames) (hR2 : 20 ≤ R.locals) {a : Int} (ha : 0 ≤ a) (hcat : am_cats st ≤ 8) (hd : decode cc pc = .ok (.invokespecial ix, 3))
    (h : am_At P D cl A sa sc a0 nL c0 s0 p l e R s m args below meth c Q (pc + 3) L st S M) : am_At P D cl A sa sc a0 nL c0 s0 p l e R s m args below meth c Q pc L ((2, a) :: st) S M := by
  intro ad tys ws H locs cells slots ls stv hW hst hlo h1 h2
  obtain ⟨t', rfl, -, ht⟩ := am_v2 hst
  have e1 : am_rf ad sa a = .ref (am_ad ad sa a) := by unfold am_rf; rw [if_neg (by omega)]
  rw [e1]
  have hsz : ls.size = nL := by obtain ⟨lv, q, -⟩ := hlo; exact q.1
  have hsum := am_cats_eq _ _ ht
  refine W.objInit (g := F0 m pc ls (.ref (am_ad ad sa a) :: t')) hx hb hown hO.1 hO.2.1 hO.2.2 rfl (by rw [hml]; exact hsz) rfl hd hR1 ?_ (h ad tys ws H locs cells slots ls _ hW ht hlo h1 h2)
  have := lv_room (m := m) (pc := pc) (ls := ls) (rest := .ref (am_ad ad sa a) :: t') (st := t') (by rw [hsum]; exact hcat)
  omega
end AMN
