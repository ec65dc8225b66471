/-! the rows of the heap: fields, arrays, makings, answers -/
def am_ty (tag : Nat) (ty : FieldType) : Prop := match tag with
  | 0 => ty = .int
  | 1 => ty = .long
  | 2 => (∃ n, ty = .object n) ∨ ∃ t, ty = .array t
  | 5 => ty = .boolean
  | _ => False
/-- an entry of the pool that names a field -/
def am_Fk (P : am_P) (cl : List vw_C) (Ts : List Cond) (oc : String) (args : Array Value) (s : State) (ix ci : Nat) (f : Int) (fin : Bool) : Prop :=
  ∃ (C : String) (T : u_T) (N : Nat) (t : Nat → FieldType) (j : Nat), f = (j : Int) ∧ cl[ci]? = some (C, T, N) ∧ j < N ∧ (T j).2.2.2 = fin ∧ (∀ w ∈ u_ws C T N, w ∈ Ts) ∧ (∀ k, k < N → parseFieldDescriptor (T k).2.2.1 = some (t k)) ∧ (∀ a, a < N → ∀ b, b < N → a ≠ b → (T a).2.1 ≠ (T b).2.1) ∧ (∀ k : Nat, k < N → am_ty (P.2.2.1 ci k) (t k)) ∧
    ((Cond.fieldLink oc ix (T j).1 (T j).2.1 (T j).2.2.1).before args s = true ∨ ∃ host, (Cond.fieldLinkNest oc ix (T j).1 (T j).2.1 (T j).2.2.1 host).before args s = true)
theorem am_Wd_at {P : am_P} {D : va_G} {cl : List vw_C} {A : Nat → Prop} {sa : Int → Nat} {sc : Int → Int → Int} {a0 : List Nat} {s : State} {ad : List Nat} {tys : List (ClassId × FieldType)} {ws : va_W} {S : am_S} {M : am_M} {H : Heap} {locs : List Loc} {a : Int} {sh : Nat × Nat × Nat}
    (h : am_Wd P D cl A sa sc a0 s ad tys ws S M H locs) (h0 : 0 ≤ a) (h1 : a < 1000000) (hs : S[a.toNat]? = some sh) : ∃ (q : Nat) (e : va_E), ws[a.toNat]? = some (q, e) ∧ am_cell P cl tys ad sa sh (M a) e ∧ am_rf ad sa a = .ref q ∧ am_rok ad a := by
  obtain ⟨hK, hP, hD, hS, had, hlen, hcs, hst, hpre, hfx⟩ := h
  obtain ⟨⟨q, e⟩, h2, h3⟩ := hcs _ _ hs
  have e1 : ((a.toNat : Nat) : Int) = a := Int.toNat_of_nonneg h0
  rw [e1] at h3
  have e2 : ad[a.toNat]? = some q := by rw [← had, List.getElem?_map, h2]; rfl
  refine ⟨q, e, h2, h3, ?_, fun _ => ?_⟩
  · unfold am_rf am_ad
    rw [if_neg (by omega), if_pos h1, List.getD_eq_getElem?_getD, e2]; rfl
  · have := (List.getElem?_eq_some_iff.mp e2).1
    omega
theorem am_up_same (M : am_M) (a k v j : Int) : am_up M a k v a j = if j = k then v else M a j := by
  unfold am_up; simp
theorem am_up_ne (M : am_M) {a b : Int} (h : b ≠ a) (k v : Int) : am_up M a k v b = M b := by
  funext j; unfold am_up; simp [h]
theorem am_in_of {z : Int32} {i : Int} {n : Nat} (hz : z.toInt = i) (h0 : 0 ≤ i) (h1 : i < n) : vp_in z n ∧ ((z.toNatClampNeg : Nat) : Int) = i := by
  refine ⟨vp_in_iff.mpr ⟨by omega, by omega⟩, ?_⟩
  have : z.toNatClampNeg = z.toInt.toNat := rfl
  rw [this, Int.toNat_of_nonneg (by omega), hz]
def am_res (ad : List Nat) (sa : Int → Nat) (v : Option am_V) (w : Option Value) : Prop := match v, w with
  | none, none => True
  | some v, some w => am_val ad sa v w
  | _, _ => False
section AMH
variable {P : am_P} {D : va_G} {cl : List vw_C} {A : Nat → Prop} {sa : Int → Nat} {sc : Int → Int → Int} {a0 : List Nat} {nL c0 s0 : Nat} {p : Program} {l : Launch} {e : Env} {R : Room} {s : State} {m : MethodId} {args : Array Value} {below : List Frame} {meth : Method} {c : Code} {Q : State → Prop} {cc : ByteArray} {pc : Nat} {L st : List am_V} {S : am_S} {M : am_M} {Ts : List Cond} {oc : String}
theorem am_r_get (hx : p.tables.exec = Jvm.exec) (hb : c.code = cc) (hts : ∀ w ∈ Ts, w.before args s = true) (hown : s.vm.findClass oc = some m.cls) {ix ci : Nat} {f : Int} {fin : Bool} (hF : am_Fk P cl Ts oc args s ix ci f fin) {a : Int} (ha : am_ob S ci a) (hd : decode cc pc = .ok (.getfield ix, 3))
    {w0 : am_V} (hw0 : w0 = (am_tag (P.2.2.1 ci f), M a f) ∨ ∃ o, P.2.2.2.2.2.2.1 ci f = some o ∧ am_tag (P.2.2.1 ci f) = 2 ∧ w0 = (2, a + o)) (h : am_At P D cl A sa sc a0 nL c0 s0 p l e R s m args below meth c Q (pc + 3) L (w0 :: st) S M) : am_At P D cl A sa sc a0 nL c0 s0 p l e R s m args below meth c Q pc L ((2, a) :: st) S M := by
  intro ad tys ws H locs cells slots ls stv hW hst hlo h1 h2
  obtain ⟨t', rfl, -, ht⟩ := am_v2 hst
  obtain ⟨ha0, ha1, n, hs⟩ := ha
  obtain ⟨q, e, hw, ⟨fs, C', T', rfl, hc', hfl, hv⟩, hr, -⟩ := am_Wd_at hW ha0 ha1 hs
  obtain ⟨C, T, N, t, j, rfl, hc, hj, hfin, hin, hty, hnm, htag, hlink⟩ := hF
  have hCT : (C', T', n) = (C, T, N) := Option.some.inj (hc'.symm.trans hc)
  cases hCT
  obtain ⟨w, hw1, hw2⟩ := hv j hj
  have hw0' : w0 = (am_tag (P.2.2.1 ci j), M a j) := by
    rcases hw0 with hw0 | ⟨o, ho, htg, hw0⟩
    · exact hw0
    · have e1 := hW.2.2.2.2.2.2.2.2.2.1 a.toNat ci n hs j o ho
      rw [Int.toNat_of_nonneg ha0] at e1
      rw [hw0, htg, e1]
  subst hw0'
  rw [hr]
  have kk := h ad tys ws H locs cells slots ls (w :: t') hW ⟨hw2, ht⟩ hlo h1 h2
  rcases hlink with hlink | ⟨host, hlink⟩
  · exact va_get hx hb hts hin hown hW.1 hW.2.1 a.toNat hw hc j hj hlink (fun _ h9 => h9) hw1 hd kk
  · exact va_getN hx hb hts hin hown hW.1 hW.2.1 a.toNat hw hc j hj hlink (fun _ h9 => h9) hw1 hd kk
/-- a value that is put into a field -/
theorem am_put_val {tag : Nat} {v : am_V} {F : Int → Prop} (hp : am_put tag v F) {ad : List Nat} {sa : Int → Nat} {w : Value} (hv : am_val ad sa v w) {ty : FieldType} (hty : am_ty tag ty) : F v.2 ∧ narrow ty w = w ∧ fits ty w = true ∧ am_val ad sa (am_tag tag, v.2) w := by
  unfold am_put at hp
  split at hp
  · rw [show ty = .int from hty]
    obtain ⟨z, rfl, hz⟩ := hv
    exact ⟨hp, rfl, rfl, z, rfl, hz⟩
  · rw [show ty = .long from hty]
    obtain ⟨z, rfl, hz⟩ := hv
    exact ⟨hp, rfl, rfl, z, rfl, hz⟩
  · obtain ⟨hok, rfl⟩ := hv
    refine ⟨hp, ?_, ?_, hok, rfl⟩
    · rcases hty with ⟨n, rfl⟩ | ⟨n, rfl⟩ <;> (unfold am_rf; split <;> rfl)
    · rcases hty with ⟨n, rfl⟩ | ⟨n, rfl⟩ <;> (unfold am_rf; split <;> rfl)
  · rw [show ty = .boolean from hty]
    obtain ⟨z, rfl, hz⟩ := hv
    obtain ⟨hx, hp⟩ := hp
    have hz' : z = 0 ∨ z = 1 := by
      rcases hx with hx | hx
      · exact Or.inl (Int32.toInt_inj.mp (by rw [hz, hx]; rfl))
      · exact Or.inr (Int32.toInt_inj.mp (by rw [hz, hx]; rfl))
    refine ⟨hp, ?_, ?_, z, rfl, hz⟩
    · rcases hz' with rfl | rfl <;> rfl
    · rcases hz' with rfl | rfl <;> rfl
  · exact hp.elim
theorem am_r_put (hx : p.tables.exec = Jvm.exec) (hb : c.code = cc) (hts : ∀ w ∈ Ts, w.before args s = true) (hown : s.vm.findClass oc = some m.cls) {ix ci : Nat} {f : Int} {fin : Bool} (hF : am_Fk P cl Ts oc args s ix ci f fin) (hfin : fin = true → meth.name = "<init>" ∧ ∃ C T N, cl[ci]? = some (C, T, N) ∧ ∀ j : Nat, (j : Int) = f → (T j).1 = oc ∧ (Cond.fieldLink oc ix (T j).1 (T j).2.1 (T j).2.2.1).before args s = true) {a : Int} {v : am_V} (ha : am_ob S ci a) (hoff : P.2.2.2.2.2.2.1 ci f = none) (hd : decode cc pc = .ok (.putfield ix, 3))
    (h : am_put (P.2.2.1 ci f) v fun x => am_At P D cl A sa sc a0 nL c0 s0 p l e R s m args below meth c Q (pc + 3) L st S (am_up M a f x)) : am_At P D cl A sa sc a0 nL c0 s0 p l e R s m args below meth c Q pc L (v :: (2, a) :: st) S M := by
  intro ad tys ws H locs cells slots ls stv hW hst hlo h1 h2
  cases stv with
  | nil => exact hst.elim
  | cons w stv =>
  obtain ⟨hvw, hst⟩ := hst
  obtain ⟨t', rfl, -, ht⟩ := am_v2 hst
  obtain ⟨ha0, ha1, n, hs⟩ := ha
  obtain ⟨q, e, hw, ⟨fs, C', T', rfl, hc', hfl, hv⟩, hr, -⟩ := am_Wd_at hW ha0 ha1 hs
  obtain ⟨C, T, N, t, j, rfl, hc, hj, hfin', hin, hty, hnm, htag, hlink⟩ := hF
  have hCT : (C', T', n) = (C, T, N) := Option.some.inj (hc'.symm.trans hc)
  cases hCT
  obtain ⟨hk, hn, hft, hval⟩ := am_put_val h hvw (htag j hj)
  rw [hr]
  have hae : ((a.toNat : Nat) : Int) = a := Int.toNat_of_nonneg ha0
  have kk : ∀ (H1 : Heap) (locs1 : List Loc), va_P D cl (ws.set a.toNat (q, .inr (ci, fs.set j w))) H1 → va_D A (ws.set a.toNat (q, .inr (ci, fs.set j w))) → va_S A s.heap H1 locs1 → W p l e R s m args below meth c H1 locs1 cells slots Q (F0 m (pc + 3) ls t') := by
    intro H1 locs1 hP1 hD1 hS1
    refine hk ad tys _ H1 locs1 cells slots ls t' (am_Wd_set (M' := am_up M a j v.2) hW hs hw hP1 hD1 hS1 ?_ (by omega) (fun b hb => am_up_ne M (by omega) _ _) (am_Fx_up hW.2.2.2.2.2.2.2.2.2 hs (fun q => by cases q) (fun _ => hoff) hae.symm)) ht hlo h1 h2
    refine ⟨_, _, _, rfl, hc, by rw [List.length_set]; exact hfl, fun k hkN => ?_⟩
    rw [hae, am_up_same]
    by_cases hkj : k = j
    · subst hkj
      refine ⟨w, by rw [List.getElem?_set_self (by omega)], ?_⟩
      rw [if_pos rfl]
      exact hval
    · obtain ⟨w', h5, h6⟩ := hv k hkN
      refine ⟨w', by rw [List.getElem?_set_ne (fun z => hkj z.symm)]; exact h5, ?_⟩
      rw [if_neg (by omega)]
      exact h6
  cases hfb : fin with
  | false =>
    rcases hlink with hlink | ⟨host, hlink⟩
    · exact va_put hx hb hts hin t hty hnm hown hW.1 hW.2.1 hW.2.2.1 hW.2.2.2.1 a.toNat hw hc j hj hlink (fun _ h9 => h9) (by rw [hfin', hfb]) (hty j hj) hn hft (by omega) hd kk
    · exact va_putN hx hb hts hin t hty hnm hown hW.1 hW.2.1 hW.2.2.1 hW.2.2.2.1 a.toNat hw hc j hj hlink (fun _ h9 => h9) (by rw [hfin', hfb]) (hty j hj) hn hft (by omega) hd kk
  | true =>
    obtain ⟨hname, C2, T2, N2, hc2, hj2⟩ := hfin hfb
    have hCT : (C2, T2, N2) = _ := Option.some.inj (hc2.symm.trans hc)
    cases hCT
    obtain ⟨hdecl, hlink⟩ := hj2 j rfl
    exact va_putF hx hb hts hin t hty hnm hown hW.1 hW.2.1 hW.2.2.1 hW.2.2.2.1 a.toNat hw hc j hj hlink (fun _ h9 => h9) (by rw [hfin', hfb]) hname hdecl (hty j hj) hn hft (by omega) hd kk
/-- the static rows: nobody writes them -/
def am_Stat (P : am_P) (A : Nat → Prop) (sa : Int → Nat) (sc : Int → Int → Int) (s : State) : Prop := ∀ (a : Int) (n : Nat), P.2.2.2.2.1 a = some n → 1000000 ≤ a ∧ n < 2147483648 ∧ ∃ f : Nat → Int32, va_T .int (sa a) n (fun j => .int (f j)) A s s.heap ∧ ∀ j : Nat, j < n → (f j).toInt = sc a j
theorem am_len_own {kd : Nat} {a i : Int} (h : am_in P S kd a i) (h1 : a < 1000000) : 0 ≤ a ∧ ∃ c n, S[a.toNat]? = some (kd, c, n) ∧ 0 ≤ i ∧ i < (n : Int) := by
  obtain ⟨h2, h3⟩ := h
  unfold am_len at h3
  by_cases h0 : a < 0
  · rw [if_pos h0] at h3; omega
  · rw [if_neg h0, if_pos h1] at h3
    split at h3
    · rename_i k c n hs
      split at h3
      · rename_i hk
        subst hk
        exact ⟨by omega, c, n, hs, h2, h3⟩
      · omega
    · omega
theorem am_r_iald (hx : p.tables.exec = Jvm.exec) (hb : c.code = cc) (hstat : am_Stat P A sa sc s) {a i : Int} (ha : am_in P S 1 a i) (hd : decode cc pc = .ok (.iaload, 1))
    (h : am_At P D cl A sa sc a0 nL c0 s0 p l e R s m args below meth c Q (pc + 1) L ((0, M a i) :: st) S M) : am_At P D cl A sa sc a0 nL c0 s0 p l e R s m args below meth c Q pc L ((0, i) :: (2, a) :: st) S M := by
  intro ad tys ws H locs cells slots ls stv hW hst hlo h1 h2
  obtain ⟨z, t', rfl, hz, ht⟩ := am_v0 hst
  obtain ⟨t', rfl, -, ht⟩ := am_v2 ht
  by_cases h3 : a < 1000000
  · obtain ⟨ha0, cx, n, hs, hi0, hi1⟩ := am_len_own ha h3
    obtain ⟨q, e, hw, ⟨cA, g, t0, rfl, ht0, hn, hg⟩, hr, -⟩ := am_Wd_at hW ha0 h3 hs
    obtain ⟨hin, hzi⟩ := am_in_of hz hi0 hi1
    rw [hr]
    refine va_iald hx hb hW.1 hW.2.1 a.toNat t0 hw ht0 hin hd (h ad tys ws H locs cells slots ls _ hW (am_i0 ?_ ht) hlo h1 h2)
    rw [hg _ (by omega), hzi]
  · obtain ⟨hi0, hi1⟩ := ha
    unfold am_len at hi1
    rw [if_neg (by omega), if_neg h3] at hi1
    split at hi1
    · rename_i n hn
      rw [if_pos rfl] at hi1
      obtain ⟨-, hn2, f, ⟨cell, c1, c2, c3, c4, c5, c6, c7⟩, hf⟩ := hstat a n hn
      obtain ⟨hin, hzi⟩ := am_in_of hz hi0 hi1
      have e1 : am_rf ad sa a = .ref (sa a) := by
        unfold am_rf am_ad
        rw [if_neg (by omega), if_neg h3]
      have e2 : H[sa a]? = some cell := by
        rw [hW.2.2.2.1.2.1 _ (Array.getElem?_eq_some_iff.mp c1).1 c7]; exact c1
      have hlt : z.toNatClampNeg < n := by omega
      rw [e1]
      refine W.iald hx hb e2 c2 c3 (fun q => ?_) (c6 _ hlt) rfl rfl hd (h ad tys ws H locs cells slots ls _ hW (am_i0 ?_ ht) hlo h1 h2)
      · rcases q with q | q
        · exact hin (Or.inl q)
        · omega
      · rw [hf _ hlt, hzi, hW.2.2.2.2.2.2.2.1 a i (by omega)]
    · omega
theorem am_r_cald (hx : p.tables.exec = Jvm.exec) (hb : c.code = cc) {a i : Int} (ha : am_in P S 2 a i) (hd : decode cc pc = .ok (.caload, 1))
    (h : am_At P D cl A sa sc a0 nL c0 s0 p l e R s m args below meth c Q (pc + 1) L ((0, M a i) :: st) S M) : am_At P D cl A sa sc a0 nL c0 s0 p l e R s m args below meth c Q pc L ((0, i) :: (2, a) :: st) S M := by
  intro ad tys ws H locs cells slots ls stv hW hst hlo h1 h2
  obtain ⟨z, t', rfl, hz, ht⟩ := am_v0 hst
  obtain ⟨t', rfl, -, ht⟩ := am_v2 ht
  have h3 : a < 1000000 := by
    obtain ⟨hi0, hi1⟩ := ha
    unfold am_len at hi1
    by_cases q : a < 1000000
    · exact q
    · rw [if_neg (by omega), if_neg q] at hi1
      split at hi1
      · rw [if_neg (by decide)] at hi1; omega
      · omega
  obtain ⟨ha0, cx, n, hs, hi0, hi1⟩ := am_len_own ha h3
  obtain ⟨q, e, hw, ⟨cA, g, t0, rfl, ht0, hn, hg⟩, hr, -⟩ := am_Wd_at hW ha0 h3 hs
  obtain ⟨hin, hzi⟩ := am_in_of hz hi0 hi1
  rw [hr]
  refine va_cald hx hb hW.1 hW.2.1 a.toNat t0 hw ht0 hin hd (h ad tys ws H locs cells slots ls _ hW (am_i0 ?_ ht) hlo h1 h2)
  rw [hg _ (by omega), hzi]
theorem am_r_lald (hx : p.tables.exec = Jvm.exec) (hb : c.code = cc) {a i : Int} (ha : am_in P S 3 a i) (hd : decode cc pc = .ok (.laload, 1))
    (h : am_At P D cl A sa sc a0 nL c0 s0 p l e R s m args below meth c Q (pc + 1) L ((1, M a i) :: st) S M) : am_At P D cl A sa sc a0 nL c0 s0 p l e R s m args below meth c Q pc L ((0, i) :: (2, a) :: st) S M := by
  intro ad tys ws H locs cells slots ls stv hW hst hlo h1 h2
  obtain ⟨z, t', rfl, hz, ht⟩ := am_v0 hst
  obtain ⟨t', rfl, -, ht⟩ := am_v2 ht
  have h3 : a < 1000000 := by
    obtain ⟨hi0, hi1⟩ := ha
    unfold am_len at hi1
    by_cases q : a < 1000000
    · exact q
    · rw [if_neg (by omega), if_neg q] at hi1
      split at hi1
      · rw [if_neg (by decide)] at hi1; omega
      · omega
  obtain ⟨ha0, cx, n, hs, hi0, hi1⟩ := am_len_own ha h3
  obtain ⟨q, e, hw, ⟨cA, g, t0, rfl, ht0, hn, hg⟩, hr, -⟩ := am_Wd_at hW ha0 h3 hs
  obtain ⟨hin, hzi⟩ := am_in_of hz hi0 hi1
  rw [hr]
  refine va_lald hx hb hW.1 hW.2.1 a.toNat t0 hw ht0 hin hd (h ad tys ws H locs cells slots ls _ hW (am_i1 ?_ ht) hlo h1 h2)
  rw [hg _ (by omega), hzi]
theorem am_r_aald (hx : p.tables.exec = Jvm.exec) (hb : c.code = cc) {a i : Int} (ha : am_in P S 4 a i) (hd : decode cc pc = .ok (.aaload, 1))
    {w0 : Int} (hw0 : w0 = M a i ∨ P.2.2.2.2.2.2.2 = true ∧ w0 = a + 1 + 2 * i) (h : am_At P D cl A sa sc a0 nL c0 s0 p l e R s m args below meth c Q (pc + 1) L ((2, w0) :: st) S M) : am_At P D cl A sa sc a0 nL c0 s0 p l e R s m args below meth c Q pc L ((0, i) :: (2, a) :: st) S M := by
  intro ad tys ws H locs cells slots ls stv hW hst hlo h1 h2
  obtain ⟨z, t', rfl, hz, ht⟩ := am_v0 hst
  obtain ⟨t', rfl, -, ht⟩ := am_v2 ht
  have h3 : a < 1000000 := by
    obtain ⟨hi0, hi1⟩ := ha
    unfold am_len at hi1
    by_cases q : a < 1000000
    · exact q
    · rw [if_neg (by omega), if_neg q] at hi1
      split at hi1
      · rw [if_neg (by decide)] at hi1; omega
      · omega
  obtain ⟨ha0, cx, n, hs, hi0, hi1⟩ := am_len_own ha h3
  obtain ⟨q, e, hw, ⟨cA, g, t0, C, T, N, rfl, hc, ht0, hn, hg⟩, hr, -⟩ := am_Wd_at hW ha0 h3 hs
  obtain ⟨hin, hzi⟩ := am_in_of hz hi0 hi1
  rw [hr]
  obtain ⟨g1, g2⟩ := hg z.toNatClampNeg (by omega)
  rw [hzi] at g1 g2
  have hw0' : w0 = M a i := by
    rcases hw0 with hw0 | ⟨hf, hw0⟩
    · exact hw0
    · have e1 := hW.2.2.2.2.2.2.2.2.2.2 hf a.toNat cx n hs i hi0 hi1
      rw [Int.toNat_of_nonneg ha0] at e1
      rw [hw0, e1]
  subst hw0'
  refine va_aldq hx hb hW.1 hW.2.1 a.toNat t0 hw ht0 hin hd ?_
  rw [g2]
  exact h ad tys ws H locs cells slots ls _ hW (am_i2 g1 ht) hlo h1 h2
theorem am_r_iast (hx : p.tables.exec = Jvm.exec) (hb : c.code = cc) {a i v : Int} (ha : am_own S 1 a i) (hd : decode cc pc = .ok (.iastore, 1))
    (h : am_At P D cl A sa sc a0 nL c0 s0 p l e R s m args below meth c Q (pc + 1) L st S (am_up M a i v)) : am_At P D cl A sa sc a0 nL c0 s0 p l e R s m args below meth c Q pc L ((0, v) :: (0, i) :: (2, a) :: st) S M := by
  intro ad tys ws H locs cells slots ls stv hW hst hlo h1 h2
  obtain ⟨y, t', rfl, hy, ht⟩ := am_v0 hst
  obtain ⟨z, t', rfl, hz, ht⟩ := am_v0 ht
  obtain ⟨t', rfl, -, ht⟩ := am_v2 ht
  obtain ⟨ha0, ha1, hi0, cx, n, hs, hi1⟩ := ha
  obtain ⟨q, e, hw, ⟨cA, g, t0, rfl, ht0, hn, hg⟩, hr, -⟩ := am_Wd_at hW ha0 ha1 hs
  obtain ⟨hin, hzi⟩ := am_in_of hz hi0 hi1
  have hae : ((a.toNat : Nat) : Int) = a := Int.toNat_of_nonneg ha0
  rw [hr]
  refine va_iast hx hb hW.1 hW.2.1 hW.2.2.1 hW.2.2.2.1 a.toNat t0 hw ht0 hin hd fun H1 locs1 hP1 hD1 hS1 => ?_
  refine h ad tys _ H1 locs1 cells slots ls t' (am_Wd_set (M' := am_up M a i v) hW hs hw hP1 hD1 hS1 ?_ (by omega) (fun b hb => am_up_ne M (by omega) _ _) (am_Fx_up hW.2.2.2.2.2.2.2.2.2 hs (fun q => by first | exact hfx4 | cases q) (fun q => by cases q) hae.symm)) ht hlo h1 h2
  refine ⟨cA, _, t0, rfl, ht0, hn, fun j hj => ?_⟩
  rw [hae, am_up_same]
  unfold upd
  by_cases hjz : j = z.toNatClampNeg
  · rw [if_pos hjz, if_pos (by omega), hy]
  · rw [if_neg hjz, if_neg (by omega), hg j hj]
theorem am_nar_c {y : Int32} {v : Int} (hy : y.toInt = v) (h0 : 0 ≤ v) (h1 : v ≤ 65535) : (vp_nar .char y).toInt = v := by
  obtain ⟨k, hk, rfl⟩ := nI_of (x := y) (fun q => by
    have := Int32.lt_iff_toInt_lt.mp q
    rw [hy] at this
    have e : (0 : Int32).toInt = 0 := rfl
    omega)
  have hk2 : k < 65536 := by
    have := nI_toInt hk
    omega
  unfold vp_nar
  rw [(pk_charN hk2).1]
  exact hy
theorem am_r_cast (hx : p.tables.exec = Jvm.exec) (hb : c.code = cc) {a i v : Int} (ha : am_own S 2 a i) (hv0 : 0 ≤ v) (hv1 : v ≤ 65535) (hd : decode cc pc = .ok (.castore, 1))
    (h : am_At P D cl A sa sc a0 nL c0 s0 p l e R s m args below meth c Q (pc + 1) L st S (am_up M a i v)) : am_At P D cl A sa sc a0 nL c0 s0 p l e R s m args below meth c Q pc L ((0, v) :: (0, i) :: (2, a) :: st) S M := by
  intro ad tys ws H locs cells slots ls stv hW hst hlo h1 h2
  obtain ⟨y, t', rfl, hy, ht⟩ := am_v0 hst
  obtain ⟨z, t', rfl, hz, ht⟩ := am_v0 ht
  obtain ⟨t', rfl, -, ht⟩ := am_v2 ht
  obtain ⟨ha0, ha1, hi0, cx, n, hs, hi1⟩ := ha
  obtain ⟨q, e, hw, ⟨cA, g, t0, rfl, ht0, hn, hg⟩, hr, -⟩ := am_Wd_at hW ha0 ha1 hs
  obtain ⟨hin, hzi⟩ := am_in_of hz hi0 hi1
  have hae : ((a.toNat : Nat) : Int) = a := Int.toNat_of_nonneg ha0
  rw [hr]
  refine va_cast hx hb hW.1 hW.2.1 hW.2.2.1 hW.2.2.2.1 a.toNat t0 hw ht0 hin hd fun H1 locs1 hP1 hD1 hS1 => ?_
  refine h ad tys _ H1 locs1 cells slots ls t' (am_Wd_set (M' := am_up M a i v) hW hs hw hP1 hD1 hS1 ?_ (by omega) (fun b hb => am_up_ne M (by omega) _ _) (am_Fx_up hW.2.2.2.2.2.2.2.2.2 hs (fun q => by first | exact hfx4 | cases q) (fun q => by cases q) hae.symm)) ht hlo h1 h2
  refine ⟨cA, _, t0, rfl, ht0, hn, fun j hj => ?_⟩
  rw [hae, am_up_same]
  unfold upd
  by_cases hjz : j = z.toNatClampNeg
  · rw [if_pos hjz, if_pos (by omega)]
    exact am_nar_c hy hv0 hv1
  · rw [if_neg hjz, if_neg (by omega), hg j hj]
theorem am_r_last (hx : p.tables.exec = Jvm.exec) (hb : c.code = cc) {a i v : Int} (ha : am_own S 3 a i) (hd : decode cc pc = .ok (.lastore, 1))
    (h : am_At P D cl A sa sc a0 nL c0 s0 p l e R s m args below meth c Q (pc + 1) L st S (am_up M a i v)) : am_At P D cl A sa sc a0 nL c0 s0 p l e R s m args below meth c Q pc L ((1, v) :: (0, i) :: (2, a) :: st) S M := by
  intro ad tys ws H locs cells slots ls stv hW hst hlo h1 h2
  obtain ⟨y, t', rfl, hy, ht⟩ := am_v1 hst
  obtain ⟨z, t', rfl, hz, ht⟩ := am_v0 ht
  obtain ⟨t', rfl, -, ht⟩ := am_v2 ht
  obtain ⟨ha0, ha1, hi0, cx, n, hs, hi1⟩ := ha
  obtain ⟨q, e, hw, ⟨cA, g, t0, rfl, ht0, hn, hg⟩, hr, -⟩ := am_Wd_at hW ha0 ha1 hs
  obtain ⟨hin, hzi⟩ := am_in_of hz hi0 hi1
  have hae : ((a.toNat : Nat) : Int) = a := Int.toNat_of_nonneg ha0
  rw [hr]
  refine va_last hx hb hW.1 hW.2.1 hW.2.2.1 hW.2.2.2.1 a.toNat t0 hw ht0 hin hd fun H1 locs1 hP1 hD1 hS1 => ?_
  refine h ad tys _ H1 locs1 cells slots ls t' (am_Wd_set (M' := am_up M a i v) hW hs hw hP1 hD1 hS1 ?_ (by omega) (fun b hb => am_up_ne M (by omega) _ _) (am_Fx_up hW.2.2.2.2.2.2.2.2.2 hs (fun q => by first | exact hfx4 | cases q) (fun q => by cases q) hae.symm)) ht hlo h1 h2
  refine ⟨cA, _, t0, rfl, ht0, hn, fun j hj => ?_⟩
  rw [hae, am_up_same]
  unfold vp_updL
  by_cases hjz : j = z.toNatClampNeg
  · rw [if_pos hjz, if_pos (by omega), hy]
  · rw [if_neg hjz, if_neg (by omega), hg j hj]
theorem am_r_aast (hx : p.tables.exec = Jvm.exec) (hb : c.code = cc) {a i v : Int} (hfx4 : P.2.2.2.2.2.2.2 = false) (ha : am_own S 4 a i) (hv : ∃ ci n, S[a.toNat]? = some (4, ci, n) ∧ am_ob S ci v) (hd : decode cc pc = .ok (.aastore, 1))
    (h : am_At P D cl A sa sc a0 nL c0 s0 p l e R s m args below meth c Q (pc + 1) L st S (am_up M a i v)) : am_At P D cl A sa sc a0 nL c0 s0 p l e R s m args below meth c Q pc L ((2, v) :: (0, i) :: (2, a) :: st) S M := by
  intro ad tys ws H locs cells slots ls stv hW hst hlo h1 h2
  obtain ⟨t', rfl, hvok, ht⟩ := am_v2 hst
  obtain ⟨z, t', rfl, hz, ht⟩ := am_v0 ht
  obtain ⟨t', rfl, -, ht⟩ := am_v2 ht
  obtain ⟨ha0, ha1, hi0, cx, n, hs, hi1⟩ := ha
  obtain ⟨ci, n2, hs2, hv0, hv1, n3, hs3⟩ := hv
  cases hs.symm.trans hs2
  obtain ⟨q, e, hw, ⟨cA, g, t0, C, T, N, rfl, hc, ht0, hn, hg⟩, hr, -⟩ := am_Wd_at hW ha0 ha1 hs
  obtain ⟨qv, ev, hwv, ⟨fs, C', T', rfl, hc', -, -⟩, hrv, -⟩ := am_Wd_at hW hv0 hv1 hs3
  have hCT : (C', T', n3) = (C, T, N) := Option.some.inj (hc'.symm.trans hc)
  cases hCT
  obtain ⟨hin, hzi⟩ := am_in_of hz hi0 hi1
  have hae : ((a.toNat : Nat) : Int) = a := Int.toNat_of_nonneg ha0
  rw [hr, hrv]
  refine va_astq hx hb hW.1 hW.2.1 hW.2.2.1 hW.2.2.2.1 a.toNat t0 v.toNat _ hw ht0 hwv hc hin hd fun H1 locs1 hP1 hD1 hS1 => ?_
  refine h ad tys _ H1 locs1 cells slots ls t' (am_Wd_set (M' := am_up M a i v) hW hs hw hP1 hD1 hS1 ?_ (by omega) (fun b hb => am_up_ne M (by omega) _ _) (am_Fx_up hW.2.2.2.2.2.2.2.2.2 hs (fun q => by first | exact hfx4 | cases q) (fun q => by cases q) hae.symm)) ht hlo h1 h2
  refine ⟨cA, _, t0, _, _, _, rfl, hc, ht0, hn, fun j hj => ?_⟩
  rw [hae, am_up_same]
  unfold va_up
  by_cases hjz : j = z.toNatClampNeg
  · rw [if_pos hjz, if_pos (by omega)]
    exact ⟨hvok, by rw [hrv]; rfl⟩
  · rw [if_neg hjz, if_neg (by omega)]
    exact hg j hj
end AMH
