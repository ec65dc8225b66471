/-! THE CONTRACT OF EVERY METHOD, from its call in the small machine; what it stands on is said of the program's tables -/
def am_rty (ret : Nat) (rt : Option FieldType) (name : String) : Prop := match ret with
  | 0 => rt = some .int
  | 5 => rt = some .boolean
  | 1 => rt = some .long
  | 2 => ∃ ty, rt = some ty ∧ ((∃ n, ty = .object n) ∨ ∃ t, ty = .array t)
  | 8 => rt = none ∧ name = "<init>"
  | 9 => rt = none
  | _ => False
theorem am_rty_ret {ret : Nat} {rt : Option FieldType} {name : String} {meth : Method} (h : am_rty ret rt name) (h1 : meth.sig.returnType = rt) (h2 : meth.name = name) : am_Ret ret meth := by
  unfold am_rty at h
  unfold am_Ret
  split at h
  · exact h1.trans h
  · exact h1.trans h
  · exact h1.trans h
  · obtain ⟨ty, h, h3⟩ := h; exact ⟨ty, by rw [h1, h], h3⟩
  · exact ⟨by rw [h1, h.1], by rw [h2, h.2]⟩
  · exact h1.trans h
  · exact h.elim
theorem Met_ofF {l : Launch} {y : MethodName} {ws ws' : List Cond} {rm : Room} {Pc : Array Value → State → Prop} {Qc : Array Value → State → Outcome → State → Prop} {mc ms : Nat} {free : Addr → Prop} {cc : ByteArray} {maxL : Nat} {ret : Option FieldType}
    (hy : plainFor y = true) (hw : ws = Cond.code y cc maxL ret :: ws')
    (body : ∀ p e s m args below meth c s₁, BodyLoose p l y (headSpec ws rm) cc maxL ret e s m args below meth c s₁ → c.maxLocals = maxL → Pc args s →
      W p l e (headSpec ws rm).room s m args below meth c s.heap [] 0 0 (MQ below Qc args s mc ms free) (entryFrame m args maxL)) : Met l y ws rm Pc Qc mc ms free := by
  refine MetFree.of_bodySF (code := cc) (maxLocals := maxL) (ret := ret) hy ?_ ?_
  · intro args s m h hn
    obtain ⟨meth, c, h1, h2, h3, h4, h5, h6, -, -⟩ := Cond.code_spec hn (atoms_spec (ws := ws) h _ (by rw [hw]; exact List.mem_cons_self))
    exact ⟨meth, c, h1, h2, h3, h4, h5, h6⟩
  · intro p e s m args below meth c s₁ B hml hP _
    have hh0 : s₁.heap = s.heap := by rw [B.state]; rfl
    obtain ⟨t, a1, o, b1, b2, b3⟩ := body p e s m args below meth c s₁ B hml hP s₁ hh0 (Stand.of_body B)
    exact ⟨t, o, a1, b1, b2, ⟨b3.1, b3.2⟩⟩
def am_Pg (P : am_P) (nm : Nat → String) (ym : Nat → MethodName) (bm : Nat → ByteArray) (rt : Nat → Option FieldType) (TT : List Cond) : Prop :=
  ∀ (mid own n ret mx : Nat) (code : am_C), P.2.1 mid = some (own, n, ret, mx, code) → plainFor (ym mid) = true ∧ (ym mid).cls = nm own ∧ Cond.code (ym mid) (bm mid) mx (rt mid) ∈ TT ∧ mx ≤ 40 ∧ (∀ pc len i, am_at code pc = some (len, i) → decode (bm mid) pc = .ok (i, len) ∧ am_okI mx pc i len = true) ∧ am_rty ret (rt mid) (ym mid).name
def am_Lk (P : am_P) (nm : Nat → String) (ym : Nat → MethodName) (rt : Nat → Option FieldType) (TT : List Cond) (En : State → Prop) : Prop :=
  ∀ (own ix mid kd : Nat) (n : Int), P.1 own ix = some (kd, mid, n) → kd = 2 ∨ kd = 12 ∨ kd = 13 → ∃ (ow n' ret mx : Nat) (code : am_C), P.2.1 mid = some (ow, n', ret, mx, code) ∧ n = (n' : Int) ∧ ((ym mid).cls ≠ "java/lang/invoke/MethodHandle" ∧ (ym mid).cls ≠ "java/lang/invoke/VarHandle") ∧ (parseMethodDescriptor (ym mid).desc).map (fun d => d.parameters.length) = some (if kd = 12 then n' else n' - 1) ∧ (kd = 12 ∨ 1 ≤ n') ∧ Cond.initialized (ym mid).cls ∈ TT ∧
    (Cond.methodLink (nm own) ix (ym mid) ∈ TT ∨ ∃ host, ∀ s, En s → va_Nw (.methodLinkNest (nm own) ix (ym mid) host) s) ∧ (kd = 2 → Cond.instanceMethod (ym mid) ∈ TT ∧ Cond.selects (ym mid).cls (ym mid) (ym mid) ∈ TT) ∧ (kd = 12 → Cond.static (ym mid) ∈ TT) ∧ (kd = 13 → (ym mid).name = "<init>" ∧ Cond.instanceMethod (ym mid) ∈ TT ∧ rt mid = none)
def am_Ex (P : am_P) (D : va_G) (cl : List vw_C) (A : Nat → Prop) (sa : Int → Nat) (sc : Int → Int → Int) (nm : Nat → String) (TT : List Cond) (En : State → Prop) (l : Launch) : Prop :=
  ∀ (own ix kd a : Nat) (n : Int), P.1 own ix = some (kd, a, n) → ∀ (pc : Nat) (i : Instr), ((kd = 20 ∧ i = .invokestatic ix) ∨ ((kd = 21 ∨ kd = 22) ∧ i = .invokevirtual ix)) → ∀ (p : Program) (e : Env) (R : Room) (s : State) (m : MethodId) (args : Array Value) (below : List Frame) (meth : Method) (c : Code) (nL c0 s0 mc ms : Nat) (a0 : List Nat) (Q : State → Prop), p.tables.exec = Jvm.exec → c.maxLocals = nL → s.vm.findClass (nm own) = some m.cls → (∀ w ∈ TT, w.before args s = true) → En s → 8 ≤ R.frames → 512 ≤ R.locals → (mc ≤ R.cells ∧ ms ≤ R.slots) → (∀ q, s.heap.size ≤ q → A q) → decode c.code pc = .ok (i, 3) → ∀ (L st : List am_V) (S : am_S) (M : am_M), (S.length ≤ mc + c0 ∧ am_sz S ≤ ms + s0) →
    am_ext P kd st S M (fun st' M' => am_At P D cl A sa sc a0 nL c0 s0 p l e R s m args below meth c Q (pc + 3) L st' S M') → am_At P D cl A sa sc a0 nL c0 s0 p l e R s m args below meth c Q pc L st S M
def am_rm (d mc ms : Nat) : Room := { frames := d + 8, cells := mc, slots := ms, locals := 64 * (d + 8) }
theorem am_rm_f (d mc ms : Nat) : (am_rm d mc ms).frames = d + 8 := rfl
theorem am_room_ok {d mx F L : Nat} (h1 : d + 9 ≤ F) (h2 : 64 * (d + 9) ≤ L) (h : mx ≤ 40) : d + 8 + 1 ≤ F ∧ 8 + (mx + 11) + 64 * (d + 8) ≤ L := by
  constructor
  · omega
  · have : 64 * (d + 9) = 64 * (d + 8) + 64 := by rw [Nat.mul_add, Nat.mul_add]
    generalize 64 * (d + 8) = X at *
    omega
theorem am_rm_l (d mc ms : Nat) : (am_rm d mc ms).locals = 64 * (d + 8) := rfl
section AMM
variable {P : am_P} {D : va_G} {cl : List vw_C} {A : Nat → Prop} {sa : Int → Nat} {sc : Int → Int → Int} {l : Launch} {nm : Nat → String} {ym : Nat → MethodName} {bm : Nat → ByteArray} {rt : Nat → Option FieldType} {TT : List Cond} {En : State → Prop}
/-- all that the tables must say -/
def am_All (P : am_P) (D : va_G) (cl : List vw_C) (A : Nat → Prop) (sa : Int → Nat) (sc : Int → Int → Int) (l : Launch) (nm : Nat → String) (ym : Nat → MethodName) (bm : Nat → ByteArray) (rt : Nat → Option FieldType) (TT : List Cond) (En : State → Prop) : Prop :=
  (∀ w ∈ TT, goodWord w = true) ∧ am_Pg P nm ym bm rt TT ∧ am_Lk P nm ym rt TT En ∧ (∀ (ci : Nat) (C : String) (T : u_T) (N : Nat), cl[ci]? = some (C, T, N) → C = nm ci) ∧
  (∀ (own : Nat) (s : State) (args : Array Value), En s → (∀ w ∈ TT, w.before args s = true) → am_Pool P cl A sa TT (nm own) own args s) ∧ (∀ s, En s → am_Stat P A sa sc s) ∧
  (∀ (s U : State) (locs : List Loc), En s → s.WarmedH U.vm → va_S A s.heap U.heap locs → En U) ∧ (∀ (a : Array Value) (U : State) (g : JFrame) (mk : MethodId), En U → En (U.calling g mk a)) ∧
  (P.2.2.2.2.2.2.2 = false → ∀ ci f, P.2.2.2.2.2.2.1 ci f = none) ∧ (∀ t : ArrayType, t = .int ∨ t = .char ∨ t = .long → Cond.arrayClass (newarray.typeOf t) ∈ TT) ∧ am_Ex P D cl A sa sc nm TT En l
/-- the rows of calls of a walk at depth d + 1, from the contracts at depth d -/
theorem am_calls {d : Nat} (Y : am_All P D cl A sa sc l nm ym bm rt TT En)
    (ih : ∀ (mid own n ret mx : Nat) (code : am_C), P.2.1 mid = some (own, n, ret, mx, code) → ∀ (vs : List am_V) (S : am_S) (M : am_M) (v : Option am_V) (S' : am_S) (M' : am_M), am_cal P (d + 1) mid vs S M (fun r => r = (v, S', M')) → ∀ (ad : List Nat) (tys : List (ClassId × FieldType)) (ws : va_W) (wv : List Value), am_vals ad sa vs wv → Met l (ym mid) (Cond.code (ym mid) (bm mid) mx (rt mid) :: TT) (am_rm d (S'.length - S.length) (am_sz S' - am_sz S)) (am_Pre P D cl A sa sc En ad tys ws S M wv) (am_Post P D cl A sa sc ad v S' M') (S'.length - S.length) (am_sz S' - am_sz S) A)
    {own nL c0 s0 mc ms : Nat} {a0 : List Nat} {p : Program} {e : Env} {R : Room} {s : State} {m : MethodId} {args : Array Value} {below : List Frame} {meth : Method} {c : Code} {Q : State → Prop} (hx : p.tables.exec = Jvm.exec) (hml : c.maxLocals = nL) (hown : s.vm.findClass (nm own) = some m.cls) (hts : ∀ w ∈ TT, w.before args s = true) (hEn : En s) (hA : ∀ q, s.heap.size ≤ q → A q) (hR1 : d + 9 ≤ R.frames) (hR2 : 64 * (d + 9) ≤ R.locals) (hmc : mc ≤ R.cells) (hms : ms ≤ R.slots)
    (ix mid kd : Nat) (n : Int) (hp : P.1 own ix = some (kd, mid, n)) (pc : Nat) (i : Instr) (L st : List am_V) (S : am_S) (M : am_M) (hk : am_Ckind P S kd ix mid i (st.take n.toNat).reverse) (hd : decode c.code pc = .ok (i, 3)) (v : Option am_V) (S' : am_S) (M' : am_M) (hb : (Nat.ble n.toNat st.length && Nat.ble (am_cats (st.drop n.toNat)) 8) = true) (hcal : am_cal P (d + 1) mid (st.take n.toNat).reverse S M (fun r => r = (v, S', M'))) (hcap : S'.length ≤ mc + c0 ∧ am_sz S' ≤ ms + s0)
    (kk : am_At P D cl A sa sc a0 nL c0 s0 p l e R s m args below meth c Q (pc + 3) L (v.toList ++ st.drop n.toNat) S' M') : am_At P D cl A sa sc a0 nL c0 s0 p l e R s m args below meth c Q pc L st S M := by
  obtain ⟨hgood, hPg, hLk, hcl, hpool, hstat, hmove, hbl, hof, harr, hex⟩ := Y
  have hkd : kd = 2 ∨ kd = 12 ∨ kd = 13 := by
    rcases hk with h | h | h
    · exact Or.inl h.1
    · exact Or.inr (Or.inl h.1)
    · exact Or.inr (Or.inr h.1)
  obtain ⟨ow, n', ret, mx, code, hm, hn, hMH, hdesc, hn1, hini, hlink, hk2, hk12, hk13⟩ := hLk own ix mid kd n hp hkd
  obtain ⟨hplain, hcls, hcode, hmx, -, hrty⟩ := hPg mid ow n' ret mx code hm
  subst hn
  rw [Int.toNat_natCast] at hk hb hcal kk
  simp only [Bool.and_eq_true, Nat.ble_eq] at hb
  obtain ⟨hb1, hb2⟩ := hb
  have hgrow : S.length ≤ S'.length ∧ am_sz S ≤ am_sz S' := am_cal_gr (good := fun T => T.length ≤ S'.length ∧ am_sz T ≤ am_sz S') (am_good_down _ _) P (d + 1) _ _ _ _ _ hcal (fun r hr => by rw [hr]; exact ⟨Nat.le_refl _, Nat.le_refl _⟩)
  intro ad tys ws H locs cells slots ls stv hW hst hlo h1 h2
  obtain ⟨ht1, ht2⟩ := am_vals_take n' st stv hst
  have hM := ih mid ow n' ret mx code hm _ S M v S' M' hcal ad tys ws _ (am_vals_rev _ _ ht1)
  have hlen := am_vals_len _ _ hst
  have hG : GoodIn TT (Cond.code (ym mid) (bm mid) mx (rt mid) :: TT) := by
    intro w hw
    rcases List.mem_cons.mp hw with rfl | hw
    · exact ⟨hcode, good_of_word (hgood _ hcode)⟩
    · exact ⟨hw, good_of_word (hgood _ hw)⟩
  have hroom : (am_rm d (S'.length - S.length) (am_sz S' - am_sz S)).frames + 1 ≤ R.frames ∧ 8 + (mx + 11) + (am_rm d (S'.length - S.length) (am_sz S' - am_sz S)).locals ≤ R.locals := by
    exact am_room_ok hR1 hR2 hmx
  have hcm : cells + (S'.length - S.length) ≤ R.cells ∧ slots + (am_sz S' - am_sz S) ≤ R.slots := ⟨by omega, by omega⟩
  have hdrop : (stv.drop n').length = (st.drop n').length := by rw [List.length_drop, List.length_drop, hlen]
  have hroom8 : 2 * (F0 m pc ls stv).monitorRoom + ((stv.drop n').map fun v => v.category).sum ≤ 8 := lv_room (by rw [am_cats_eq _ _ ht2]; exact hb2)
  have hsz : ls.size = nL := by obtain ⟨lv, q, -⟩ := hlo; exact q.1
  have hPre : ∀ U : State, U.heap = H → s.WarmedH U.vm → am_Pre P D cl A sa sc En ad tys ws S M (stv.take n').reverse (stv.take n').reverse.toArray U := by
    intro U hU hWm
    have hS := hW.2.2.2.1
    refine ⟨rfl, hmove s U locs hEn hWm (by rw [hU]; exact hS), fun q hq => hA q (Nat.le_trans hS.1 (by rw [← hU]; exact hq)), ?_⟩
    obtain ⟨w1, w2, w3, w4, w5, w6, w7, w8, w9⟩ := am_Wd_moved hW hWm.alike hU
    exact ⟨w1, w2, w3, w4, w5, w6, w7, w8, List.prefix_refl _, w9.2⟩
  have hfix : CallFix p m c c.code nL s args TT (nm own) := ⟨hx, rfl, hml, hown, hts⟩
  have hstk : (F0 m pc ls stv).stack = ((stv.take n').reverse).reverse ++ stv.drop n' := by
    rw [List.reverse_reverse, List.take_append_drop]
  have hargs : (stv.take n').reverse.length = n' := by rw [List.length_reverse, List.length_take, ← hlen]; omega
  have hret1 : cells + (S'.length - S.length) + c0 = S'.length := by omega
  have hret2 : slots + (am_sz S' - am_sz S) + s0 = am_sz S' := by omega
  rcases hk with ⟨rfl, rfl, a, t, he, hob⟩ | ⟨rfl, rfl⟩ | ⟨rfl, rfl, a, t, he, ha0⟩
  · obtain ⟨hi, hs⟩ := hk2 rfl
    have hv1 := am_vals_rev _ _ ht1
    rw [he] at hv1
    cases hwv : (stv.take n').reverse with
    | nil => rw [hwv] at hv1; exact hv1.elim
    | cons w As =>
    rw [hwv] at hv1 hstk hPre hM
    obtain ⟨⟨hok, hw⟩, hAs⟩ := hv1
    obtain ⟨ha0, ha1, nn, hs0⟩ := hob
    obtain ⟨q, e0, hwq, ⟨fs, C', T', rfl, hc', hfl, hvv⟩, hr, -⟩ := am_Wd_at hW ha0 ha1 hs0
    have hw' : w = .ref q := by rw [← hr]; exact hw
    subst hw'
    have hC : C' = (ym mid).cls := by
      have e1 := hcl _ _ _ _ hc'
      have e2 : am_mc P mid = ow := by unfold am_mc; rw [hm]
      rw [e1, e2, hcls]
    have hAl : As.length = n' - 1 := by
      rw [hwv] at hargs
      simp only [List.length_cons] at hargs
      omega
    have hdesc' : (parseMethodDescriptor (ym mid).desc).map (fun d => d.parameters.length) = some (n' - 1) := by rw [hdesc, if_neg (by decide)]
    have hstk' : (F0 m pc ls stv).stack = As.reverse ++ .ref q :: stv.drop n' := by rw [hstk]; simp
    have hrecv := va_recv hW.1 hW.2.1 hc' hwq
    rcases hlink with hl | ⟨host, hl⟩
    · have cw : CallW R s args (nm own) (ym mid).cls ix (ym mid) (bm mid) mx (rt mid) (Cond.code (ym mid) (bm mid) mx (rt mid) :: TT) (am_rm d (S'.length - S.length) (am_sz S' - am_sz S)) (S'.length - S.length) (am_sz S' - am_sz S) (n' - 1) :=
        ⟨callB_of (n' - 1) hts hG rfl rfl rfl (hts _ hini) (hts _ hl) ⟨hMH.1, hMH.2, hdesc'⟩ hroom, hts _ hi, hts _ hs⟩
      exact am_back_of (va_runV hfix hM cw ⟨am_Pre_blind hbl, by rw [← hC]; exact hrecv, hPre⟩ rfl hAl hsz hstk' hroom8 hd hcm) hW ht2 hlo hret1 hret2 kk
    · have cw : va_CN R s args (nm own) ix (ym mid) host (bm mid) mx (rt mid) (Cond.code (ym mid) (bm mid) mx (rt mid) :: TT) (am_rm d (S'.length - S.length) (am_sz S' - am_sz S)) (S'.length - S.length) (am_sz S' - am_sz S) (n' - 1) :=
        va_cnB (n' - 1) hts hG rfl rfl rfl (hl s hEn) (hts _ hini) ⟨hMH.1, hMH.2, hdesc'⟩ hroom
      exact am_back_of (va_runVN hfix hM ⟨cw, hts _ hi, hts _ hs⟩ ⟨am_Pre_blind hbl, by rw [← hC]; exact hrecv, hPre⟩ rfl hAl hsz hstk' hroom8 hd hcm) hW ht2 hlo hret1 hret2 kk
  · have hs := hk12 rfl
    have hdesc' : (parseMethodDescriptor (ym mid).desc).map (fun d => d.parameters.length) = some n' := by rw [hdesc, if_pos rfl]
    rcases hlink with hl | ⟨host, hl⟩
    · have cw : CallB R s args (nm own) ix (ym mid) (bm mid) mx (rt mid) (Cond.code (ym mid) (bm mid) mx (rt mid) :: TT) (am_rm d (S'.length - S.length) (am_sz S' - am_sz S)) (S'.length - S.length) (am_sz S' - am_sz S) n' :=
        callB_of n' hts hG rfl rfl rfl (hts _ hini) (hts _ hl) ⟨hMH.1, hMH.2, hdesc'⟩ hroom
      exact am_back_of (va_runS hfix hM ⟨cw, hts _ hs⟩ ⟨am_Pre_blind hbl, hPre⟩ rfl hargs hsz hstk hroom8 hd hcm) hW ht2 hlo hret1 hret2 kk
    · have cw : va_CN R s args (nm own) ix (ym mid) host (bm mid) mx (rt mid) (Cond.code (ym mid) (bm mid) mx (rt mid) :: TT) (am_rm d (S'.length - S.length) (am_sz S' - am_sz S)) (S'.length - S.length) (am_sz S' - am_sz S) n' :=
        va_cnB n' hts hG rfl rfl rfl (hl s hEn) (hts _ hini) ⟨hMH.1, hMH.2, hdesc'⟩ hroom
      exact am_back_of (va_runSN hfix hM ⟨cw, hts _ hs, trivial⟩ ⟨am_Pre_blind hbl, hPre⟩ rfl hargs hsz hstk hroom8 hd hcm) hW ht2 hlo hret1 hret2 kk
  · obtain ⟨hnm, hi, hrt0⟩ := hk13 rfl
    have hv1 := am_vals_rev _ _ ht1
    rw [he] at hv1
    cases hwv : (stv.take n').reverse with
    | nil => rw [hwv] at hv1; exact hv1.elim
    | cons w As =>
    rw [hwv] at hv1 hstk hPre hM
    obtain ⟨⟨hok, hw⟩, hAs⟩ := hv1
    have hw' : w = .ref (am_ad ad sa a) := by
      have hw2 : w = am_rf ad sa a := hw
      rw [hw2]; unfold am_rf; rw [if_neg (by omega)]
    subst hw'
    have hAl : As.length = n' - 1 := by
      rw [hwv] at hargs
      simp only [List.length_cons] at hargs
      omega
    have hdesc' : (parseMethodDescriptor (ym mid).desc).map (fun d => d.parameters.length) = some (n' - 1) := by rw [hdesc, if_neg (by decide)]
    have hstk' : (F0 m pc ls stv).stack = As.reverse ++ .ref (am_ad ad sa a) :: stv.drop n' := by rw [hstk]; simp
    rw [hrt0] at hM hG hcode
    rcases hlink with hl | ⟨host, hl⟩
    · have cw : CallB R s args (nm own) ix (ym mid) (bm mid) mx none (Cond.code (ym mid) (bm mid) mx none :: TT) (am_rm d (S'.length - S.length) (am_sz S' - am_sz S)) (S'.length - S.length) (am_sz S' - am_sz S) (n' - 1) :=
        callB_of (n' - 1) hts hG rfl rfl rfl (hts _ hini) (hts _ hl) ⟨hMH.1, hMH.2, hdesc'⟩ hroom
      exact am_back_of (va_runI hfix hM ⟨cw, hnm, hts _ hi⟩ ⟨am_Pre_blind hbl, hPre⟩ rfl hAl hsz hstk' hroom8 hd hcm) hW ht2 hlo hret1 hret2 kk
    · have cw : va_CN R s args (nm own) ix (ym mid) host (bm mid) mx none (Cond.code (ym mid) (bm mid) mx none :: TT) (am_rm d (S'.length - S.length) (am_sz S' - am_sz S)) (S'.length - S.length) (am_sz S' - am_sz S) (n' - 1) :=
        va_cnB (n' - 1) hts hG rfl rfl rfl (hl s hEn) (hts _ hini) ⟨hMH.1, hMH.2, hdesc'⟩ hroom
      exact am_back_of (va_runIN hfix hM ⟨cw, hnm, hts _ hi⟩ ⟨am_Pre_blind hbl, hPre⟩ rfl hAl hsz hstk' hroom8 hd hcm) hW ht2 hlo hret1 hret2 kk
/-- THE CONTRACT -/
theorem am_met (Y : am_All P D cl A sa sc l nm ym bm rt TT En) : ∀ (d mid own n ret mx : Nat) (code : am_C), P.2.1 mid = some (own, n, ret, mx, code) → ∀ (vs : List am_V) (S : am_S) (M : am_M) (v : Option am_V) (S' : am_S) (M' : am_M), am_cal P (d + 1) mid vs S M (fun r => r = (v, S', M')) → ∀ (ad : List Nat) (tys : List (ClassId × FieldType)) (ws : va_W) (wv : List Value), am_vals ad sa vs wv → Met l (ym mid) (Cond.code (ym mid) (bm mid) mx (rt mid) :: TT) (am_rm d (S'.length - S.length) (am_sz S' - am_sz S)) (am_Pre P D cl A sa sc En ad tys ws S M wv) (am_Post P D cl A sa sc ad v S' M') (S'.length - S.length) (am_sz S' - am_sz S) A := by
  intro d
  induction d with
  | zero =>
    intro mid own n ret mx code hm vs S M v S' M' h ad tys ws wv hvs
    obtain ⟨hgood, hPg, hLk, hcl, hpool, hstat, hmove, hbl, hof, harr, hex⟩ := Y
    obtain ⟨hplain, hcls, hcode, hmx, hdec, hrty⟩ := hPg mid own n ret mx code hm
    unfold am_cal at h
    rw [hm] at h
    obtain ⟨⟨hn, hmx2⟩, r, ⟨k, h⟩, rfl⟩ := h
    have hgrow : S.length ≤ S'.length ∧ am_sz S ≤ am_sz S' := am_wp_gr (good := fun T => T.length ≤ S'.length ∧ am_sz T ≤ am_sz S') (am_good_down _ _) (am_cal_gr (am_good_down _ _) P 0) (fun r hr => by rw [hr]; exact ⟨Nat.le_refl _, Nat.le_refl _⟩) k _ _ _ _ _ h
    refine Met_ofF (cc := bm mid) (maxL := mx) (ret := rt mid) hplain rfl ?_
    intro p e s m args below meth c s₁ B hml hv
    obtain ⟨rfl, hEn, hA, hW⟩ := hv
    have hts0 := atoms_spec (ws := Cond.code (ym mid) (bm mid) mx (rt mid) :: TT) B.pre
    have hts : ∀ w ∈ TT, w.before wv.toArray s = true := fun w hw => hts0 w (List.mem_cons_of_mem _ hw)
    have hown : s.vm.findClass (nm own) = some m.cls := by rw [← hcls]; exact findClass_of_methodNamed B.named
    have hbb := B.bytes
    have hname : meth.name = (ym mid).name := (name_of_methodNamed B.named B.method).1
    have X : am_Cx P D cl A sa sc ad own ret mx S.length (am_sz S) (S'.length - S.length) (am_sz S' - am_sz S) p l e (am_rm 0 (S'.length - S.length) (am_sz S' - am_sz S)) s m wv.toArray below meth c (bm mid) TT (nm own) code (am_cal P 0) (am_Post P D cl A sa sc ad v S' M') (v, S', M') := by
      refine ⟨B.exec, hbb, hml, hown, hts, hA, B.notSynchronized, ⟨hstat s hEn, hof⟩, hdec, hpool own s _ hEn hts, fun t ht => hts _ (harr t ht), by rw [am_rm_f]; omega, by rw [am_rm_l]; omega, ⟨⟨Nat.le_refl _, Nat.le_refl _⟩, by show S'.length - S.length + S.length = S'.length; omega, by show am_sz S' - am_sz S + am_sz S = am_sz S'; omega⟩, am_rty_ret hrty B.returns hname, ?_, ?_, ?_⟩
      · intro ad' tys' ws' H locs w hW' hres t ht hWt
        obtain ⟨x, rfl⟩ := hW'.2.2.2.2.2.2.2.2.1
        exact ⟨w, x, tys', ws', rfl, hres, am_Wd_moved hW' hWt.alike ht, hW'.2.2.2.1.F ht⟩
      · intro ix mid' kd n2 hp pc i L st S1 M1 hk hd v2 S2 M2 hb hcal
        exact hcal.elim
      · intro ix kd a n2 hp pc i hi hd L st S1 M1 hcap hext
        exact hex own ix kd a n2 hp pc i hi p e _ s m _ below meth c mx _ _ (S'.length - S.length) (am_sz S' - am_sz S) ad _ B.exec hml hown hts hEn (by rw [am_rm_f]; omega) (by rw [am_rm_l]; omega) ⟨Nat.le_refl _, Nat.le_refl _⟩ hA (by rw [hbb]; exact hd) L st S1 M1 hcap hext
    have := am_wp_at X k _ _ _ _ _ h ad tys ws s.heap [] 0 0 _ [] hW trivial (am_entry_lo hvs hmx2) (by omega) (by omega)
    rw [lg_entry_eq]
    exact this
  | succ d ih =>
    intro mid own n ret mx code hm vs S M v S' M' h ad tys ws wv hvs
    have Y0 := Y
    obtain ⟨hgood, hPg, hLk, hcl, hpool, hstat, hmove, hbl, hof, harr, hex⟩ := Y
    obtain ⟨hplain, hcls, hcode, hmx, hdec, hrty⟩ := hPg mid own n ret mx code hm
    unfold am_cal at h
    rw [hm] at h
    obtain ⟨⟨hn, hmx2⟩, r, ⟨k, h⟩, rfl⟩ := h
    have hgrow : S.length ≤ S'.length ∧ am_sz S ≤ am_sz S' := am_wp_gr (good := fun T => T.length ≤ S'.length ∧ am_sz T ≤ am_sz S') (am_good_down _ _) (am_cal_gr (am_good_down _ _) P (d + 1)) (fun r hr => by rw [hr]; exact ⟨Nat.le_refl _, Nat.le_refl _⟩) k _ _ _ _ _ h
    refine Met_ofF (cc := bm mid) (maxL := mx) (ret := rt mid) hplain rfl ?_
    intro p e s m args below meth c s₁ B hml hv
    obtain ⟨rfl, hEn, hA, hW⟩ := hv
    have hts0 := atoms_spec (ws := Cond.code (ym mid) (bm mid) mx (rt mid) :: TT) B.pre
    have hts : ∀ w ∈ TT, w.before wv.toArray s = true := fun w hw => hts0 w (List.mem_cons_of_mem _ hw)
    have hown : s.vm.findClass (nm own) = some m.cls := by rw [← hcls]; exact findClass_of_methodNamed B.named
    have hbb := B.bytes
    have hname : meth.name = (ym mid).name := (name_of_methodNamed B.named B.method).1
    have X : am_Cx P D cl A sa sc ad own ret mx S.length (am_sz S) (S'.length - S.length) (am_sz S' - am_sz S) p l e (am_rm (d + 1) (S'.length - S.length) (am_sz S' - am_sz S)) s m wv.toArray below meth c (bm mid) TT (nm own) code (am_cal P (d + 1)) (am_Post P D cl A sa sc ad v S' M') (v, S', M') := by
      refine ⟨B.exec, hbb, hml, hown, hts, hA, B.notSynchronized, ⟨hstat s hEn, hof⟩, hdec, hpool own s _ hEn hts, fun t ht => hts _ (harr t ht), by rw [am_rm_f]; omega, by rw [am_rm_l]; omega, ⟨⟨Nat.le_refl _, Nat.le_refl _⟩, by show S'.length - S.length + S.length = S'.length; omega, by show am_sz S' - am_sz S + am_sz S = am_sz S'; omega⟩, am_rty_ret hrty B.returns hname, ?_, ?_, ?_⟩
      · intro ad' tys' ws' H locs w hW' hres t ht hWt
        obtain ⟨x, rfl⟩ := hW'.2.2.2.2.2.2.2.2.1
        exact ⟨w, x, tys', ws', rfl, hres, am_Wd_moved hW' hWt.alike ht, hW'.2.2.2.1.F ht⟩
      · intro ix mid' kd n2 hp pc i L st S1 M1 hk hd v2 S2 M2 hb hcal hcap kk
        exact am_calls Y0 ih B.exec hml hown hts hEn hA (by rw [am_rm_f]; omega) (by rw [am_rm_l]; omega) (Nat.le_refl _) (Nat.le_refl _) ix mid' kd n2 hp pc i L st S1 M1 hk (by rw [hbb]; exact hd) v2 S2 M2 hb hcal hcap kk
      · intro ix kd a n2 hp pc i hi hd L st S1 M1 hcap hext
        exact hex own ix kd a n2 hp pc i hi p e _ s m _ below meth c mx _ _ (S'.length - S.length) (am_sz S' - am_sz S) ad _ B.exec hml hown hts hEn (by rw [am_rm_f]; omega) (by rw [am_rm_l]; omega) ⟨Nat.le_refl _, Nat.le_refl _⟩ hA (by rw [hbb]; exact hd) L st S1 M1 hcap hext
    have := am_wp_at X k _ _ _ _ _ h ad tys ws s.heap [] 0 0 _ [] hW trivial (am_entry_lo hvs hmx2) (by omega) (by omega)
    rw [lg_entry_eq]
    exact this
end AMM
