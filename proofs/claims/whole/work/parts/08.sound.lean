/-! A STEP OF THE SMALL MACHINE IS A STEP OF THE GREAT ONE -/
def am_Pool (P : am_P) (cl : List vw_C) (A : Nat → Prop) (sa : Int → Nat) (Ts : List Cond) (oc : String) (own : Nat) (args : Array Value) (s : State) : Prop := ∀ (ix kd a : Nat) (n : Int), P.1 own ix = some (kd, a, n) → match kd with
  | 1 => am_Fk P cl Ts oc args s ix a n false ∧ P.2.2.2.2.2.2.1 a n = none
  | 8 => am_Fk P cl Ts oc args s ix a n true ∧ (∀ o, P.2.2.2.2.2.2.1 a n = some o → P.2.2.1 a n = 2)
  | 11 => am_Fk P cl Ts oc args s ix a n true ∧ (∀ o, P.2.2.2.2.2.2.1 a n = some o → P.2.2.1 a n = 2) ∧ ∃ C T N, cl[a]? = some (C, T, N) ∧ ∀ j : Nat, (j : Int) = n → (T j).1 = oc ∧ (Cond.fieldLink oc ix (T j).1 (T j).2.1 (T j).2.2.1).before args s = true
  | 3 => am_Ck P cl Ts oc args s ix a
  | 10 => am_Ak cl oc args s ix a
  | 14 => am_Ck P cl Ts oc args s ix a ∧ am_Ak cl oc args s ix a
  | 4 => ∃ v : Int32, (Cond.constant oc ix v).before args s = true ∧ v.toInt = n
  | 5 => ∃ v : Int64, (Cond.constantLong oc ix v).before args s = true ∧ v.toInt = n
  | 6 => 1000000 ≤ n ∧ ∃ tx, vk_R oc ix tx (sa n) s
  | 7 => 1000000 ≤ n ∧ ∃ C nm d, va_Z C nm d (.ref (sa n)) A s s.heap ∧ ((Cond.fieldLink oc ix C nm d).before args s = true ∨ ∃ host, (Cond.fieldLinkNest oc ix C nm d host).before args s = true)
  | 9 => am_Ok oc args s ix
  | _ => True
def am_Ret (ret : Nat) (meth : Method) : Prop := match ret with
  | 0 => meth.sig.returnType = some .int
  | 5 => meth.sig.returnType = some .boolean
  | 1 => meth.sig.returnType = some .long
  | 2 => ∃ ty, meth.sig.returnType = some ty ∧ ((∃ n, ty = .object n) ∨ ∃ t, ty = .array t)
  | 8 => meth.sig.returnType = none ∧ meth.name = "<init>"
  | 9 => meth.sig.returnType = none
  | _ => False
/-- the three ways of a call, and what they want of the one that is called upon -/
def am_Ckind (P : am_P) (S : am_S) (kd ix mid : Nat) (i : Instr) (vs : List am_V) : Prop := (kd = 2 ∧ i = .invokevirtual ix ∧ ∃ a t, vs = (2, a) :: t ∧ am_ob S (am_mc P mid) a) ∨ (kd = 12 ∧ i = .invokestatic ix) ∨ (kd = 13 ∧ i = .invokespecial ix ∧ ∃ a t, vs = (2, a) :: t ∧ 0 ≤ a)
section AMS
variable {P : am_P} {D : va_G} {cl : List vw_C} {A : Nat → Prop} {sa : Int → Nat} {sc : Int → Int → Int} {a0 : List Nat} {own ret nL c0 s0 mc ms : Nat} {p : Program} {l : Launch} {e : Env} {R : Room} {s : State} {m : MethodId} {args : Array Value} {below : List Frame} {meth : Method} {c : Code} {cc : ByteArray} {Ts : List Cond} {oc : String} {code : am_C} {cal : am_L} {Qc : Array Value → State → Outcome → State → Prop} {rf : am_R}
/-- what a walk stands on -/
def am_Cx (P : am_P) (D : va_G) (cl : List vw_C) (A : Nat → Prop) (sa : Int → Nat) (sc : Int → Int → Int) (a0 : List Nat) (own ret nL c0 s0 mc ms : Nat) (p : Program) (l : Launch) (e : Env) (R : Room) (s : State) (m : MethodId) (args : Array Value) (below : List Frame) (meth : Method) (c : Code) (cc : ByteArray) (Ts : List Cond) (oc : String) (code : am_C) (cal : am_L) (Qc : Array Value → State → Outcome → State → Prop) (rf : am_R) : Prop :=
  p.tables.exec = Jvm.exec ∧ c.code = cc ∧ c.maxLocals = nL ∧ s.vm.findClass oc = some m.cls ∧ (∀ w ∈ Ts, w.before args s = true) ∧ (∀ q, s.heap.size ≤ q → A q) ∧ meth.locks = false ∧ (am_Stat P A sa sc s ∧ (P.2.2.2.2.2.2.2 = false → ∀ ci f, P.2.2.2.2.2.2.1 ci f = none)) ∧
  (∀ pc len i, am_at code pc = some (len, i) → decode cc pc = .ok (i, len) ∧ am_okI nL pc i len = true) ∧ am_Pool P cl A sa Ts oc own args s ∧
  (∀ t : ArrayType, t = .int ∨ t = .char ∨ t = .long → (Cond.arrayClass (newarray.typeOf t)).before args s = true) ∧ 8 ≤ R.frames ∧ 512 ≤ R.locals ∧
  ((mc ≤ R.cells ∧ ms ≤ R.slots) ∧ mc + c0 = rf.2.1.length ∧ ms + s0 = am_sz rf.2.1) ∧ am_Ret ret meth ∧
  (∀ (ad : List Nat) (tys : List (ClassId × FieldType)) (ws : va_W) (H : Heap) (locs : List Loc) (w : Option Value), am_Wd P D cl A sa sc a0 s ad tys ws rf.2.1 rf.2.2 H locs → am_res ad sa rf.1 w → ∀ t : State, t.heap = H → s.WarmedH t.vm → Qc args s (.returned w) t) ∧
  (∀ (ix mid kd : Nat) (n : Int), P.1 own ix = some (kd, mid, n) → ∀ (pc : Nat) (i : Instr) (L st : List am_V) (S : am_S) (M : am_M), am_Ckind P S kd ix mid i (st.take n.toNat).reverse → decode cc pc = .ok (i, 3) → ∀ (v : Option am_V) (S' : am_S) (M' : am_M), (Nat.ble n.toNat st.length && Nat.ble (am_cats (st.drop n.toNat)) 8) = true → cal mid (st.take n.toNat).reverse S M (fun r => r = (v, S', M')) → S'.length ≤ mc + c0 ∧ am_sz S' ≤ ms + s0 →
    am_At P D cl A sa sc a0 nL c0 s0 p l e R s m args below meth c (MQ below Qc args s mc ms A) (pc + 3) L (v.toList ++ st.drop n.toNat) S' M' → am_At P D cl A sa sc a0 nL c0 s0 p l e R s m args below meth c (MQ below Qc args s mc ms A) pc L st S M) ∧
  (∀ (ix kd a : Nat) (n : Int), P.1 own ix = some (kd, a, n) → ∀ (pc : Nat) (i : Instr), ((kd = 20 ∧ i = .invokestatic ix) ∨ ((kd = 21 ∨ kd = 22) ∧ i = .invokevirtual ix)) → decode cc pc = .ok (i, 3) → ∀ (L st : List am_V) (S : am_S) (M : am_M), (S.length ≤ mc + c0 ∧ am_sz S ≤ ms + s0) → am_ext P kd st S M (fun st' M' => am_At P D cl A sa sc a0 nL c0 s0 p l e R s m args below meth c (MQ below Qc args s mc ms A) (pc + 3) L st' S M') → am_At P D cl A sa sc a0 nL c0 s0 p l e R s m args below meth c (MQ below Qc args s mc ms A) pc L st S M)
theorem am_snd (X : am_Cx P D cl A sa sc a0 own ret nL c0 s0 mc ms p l e R s m args below meth c cc Ts oc code cal Qc rf) {i : Instr} {pc len : Nat} {L st : List am_V} {S : am_S} {M : am_M} (hcc : am_Cc cal) (hd : decode cc pc = .ok (i, len)) (hk : am_okI nL pc i len = true)
    (h : am_step P own ret cal i pc (pc + len) L st S M (fun pc L st S M => (S.length ≤ mc + c0 ∧ am_sz S ≤ ms + s0) ∧ am_At P D cl A sa sc a0 nL c0 s0 p l e R s m args below meth c (MQ below Qc args s mc ms A) pc L st S M) (fun r => r = rf)) :
    am_At P D cl A sa sc a0 nL c0 s0 p l e R s m args below meth c (MQ below Qc args s mc ms A) pc L st S M := by
  obtain ⟨hx, hb, hml, hown, hts, hA, hlocks, ⟨hstat, hof⟩, -, hpool, harr, hR1, hR2, ⟨⟨hmc, hms⟩, hRc, hRs⟩, hret, hend, hcall, hext⟩ := X
  have ln1 : ∀ {j : Instr}, j = i → am_okI nL pc i len = true → True := fun _ _ => trivial
  have tgt : ∀ {off : Int}, 0 ≤ (pc : Int) + off → (pc : Int) + off = (am_to pc off : Int) := fun h => by unfold am_to; rw [Int.toNat_of_nonneg h]
  have callrow : ∀ (ix mid kd : Nat) (n : Int) (j : Instr), P.1 own ix = some (kd, mid, n) → decode cc pc = .ok (j, 3) → ∀ (G : Prop), (G → am_Ckind P S kd ix mid j (st.take n.toNat).reverse) → am_call cal mid n.toNat (pc + 3) L st S M (fun pc L st S M => (S.length ≤ mc + c0 ∧ am_sz S ≤ ms + s0) ∧ am_At P D cl A sa sc a0 nL c0 s0 p l e R s m args below meth c (MQ below Qc args s mc ms A) pc L st S M) → G → am_At P D cl A sa sc a0 nL c0 s0 p l e R s m args below meth c (MQ below Qc args s mc ms A) pc L st S M := by
    intro ix mid kd n j hp hd G hG h hg
    unfold am_call at h
    split at h
    · rename_i hb2
      obtain ⟨⟨v, S', M'⟩, h4, h5⟩ := hcc _ _ _ _ _ h
      cases v with
      | none => exact hcall ix mid kd n hp pc j L st S M (hG hg) hd none S' M' hb2 (h5 _ rfl) h4.1 h4.2
      | some v => exact hcall ix mid kd n hp pc j L st S M (hG hg) hd (some v) S' M' hb2 (h5 _ rfl) h4.1 h4.2
    · exact h.elim
  have excap : ∀ {kd : Nat} {G : Prop} {F : List am_V → am_M → Prop}, am_ext P kd st S M (fun a b => G ∧ F a b) → G := by
    intro kd G F h
    unfold am_ext at h
    split at h
    · exact h.2.1
    · exact h.2.1
    · exact h.2.1
    · exact h.elim
  have unext : ∀ {kd : Nat} {G : List am_V → am_M → Prop} {F : List am_V → am_M → Prop}, am_ext P kd st S M (fun a b => G a b ∧ F a b) → am_ext P kd st S M F := by
    intro kd G F h
    unfold am_ext at h ⊢
    split at h
    · exact ⟨h.1, h.2.2⟩
    · exact ⟨h.1, h.2.2⟩
    · exact ⟨h.1, h.2.2⟩
    · exact h.elim
  have retrow : ∀ (w : Option Value) (ad : List Nat) (tys : List (ClassId × FieldType)) (ws : va_W) (H : Heap) (locs : List Loc) (cells slots : Nat), am_Wd P D cl A sa sc a0 s ad tys ws S M H locs → cells + c0 = S.length → slots + s0 = am_sz S → ∀ v, (v, S, M) = rf → am_res ad sa v w → cells = mc ∧ slots = ms ∧ (∀ q ∈ locs, A q.base) ∧ ∀ t : State, t.heap = H → s.WarmedH t.vm → Qc args s (.returned w) t := by
    intro w ad tys ws H locs cells slots hW h1 h2 v hv hr
    subst hv
    have e1 : mc + c0 = S.length := hRc
    have e2 : ms + s0 = am_sz S := hRs
    exact ⟨by omega, by omega, hW.2.2.2.1.2.2, hend ad tys ws H locs w hW hr⟩
  cases i
  case iconst n =>
    simp only [am_okI, Bool.and_eq_true, beq_iff_eq, decide_eq_true_eq] at hk
    obtain ⟨rfl, h8, h9⟩ := hk
    exact am_push0 (am_z_of h8 h9) (fun H locs cells slots ls rest k => lv_iconst hx hb hd rfl k) h.2
  case bipush n =>
    simp only [am_okI, Bool.and_eq_true, beq_iff_eq, decide_eq_true_eq] at hk
    obtain ⟨rfl, h8, h9⟩ := hk
    exact am_push0 (am_z_b h8 h9) (fun H locs cells slots ls rest k => lv_bipush hx hb hd rfl k) h.2
  case sipush n =>
    simp only [am_okI, Bool.and_eq_true, beq_iff_eq, decide_eq_true_eq] at hk
    obtain ⟨rfl, h8, h9⟩ := hk
    exact am_push0 (am_z_s h8 h9) (fun H locs cells slots ls rest k => lv_sipush hx hb hd rfl k) h.2
  case lconst n =>
    simp only [am_okI, beq_iff_eq] at hk
    subst hk
    refine am_push1 (z := Int64.ofNat n) ?_ (fun H locs cells slots ls rest k => lv_lconst hx hb hd rfl k) h.2
    match n with
    | 0 => rfl
    | 1 => rfl
  case aconst_null =>
    simp only [am_okI, beq_iff_eq] at hk
    subst hk
    intro ad tys ws H locs cells slots ls stv hW hst hlo h1 h2
    have h9 : am_rf ad sa (-1) = .null := by unfold am_rf; rw [if_pos (by decide)]
    have hst1 := am_i2 (ad := ad) (sa := sa) (x := -1) (fun _ => by omega) hst
    rw [h9] at hst1
    exact lv_null hx hb hd (h.2 ad tys ws H locs cells slots ls _ hW hst1 hlo h1 h2)
  case ldc k =>
    simp only [am_okI, beq_iff_eq] at hk
    subst hk
    simp only [am_step] at h
    split at h
    · rename_i a n hp
      obtain ⟨v, hv1, hv2⟩ := hpool _ _ _ _ hp
      exact am_push0 hv2 (fun H locs cells slots ls rest k => lv_ldc hx hb hown hv1 hd k) h.2
    · rename_i a n hp
      obtain ⟨hn, tx, hv⟩ := hpool _ _ _ _ hp
      intro ad tys ws H locs cells slots ls stv hW hst hlo h1 h2
      have h9 : am_rf ad sa n = .ref (sa n) := by unfold am_rf am_ad; rw [if_neg (by omega), if_neg (by omega)]
      have hst1 := am_i2 (ad := ad) (sa := sa) (x := n) (fun q => by omega) hst
      rw [h9] at hst1
      exact va_ldcS hx hb hown hv hd (h.2 ad tys ws H locs cells slots ls _ hW hst1 hlo h1 h2)
    · exact h.elim
  case ldc_w k =>
    simp only [am_okI, beq_iff_eq] at hk
    subst hk
    simp only [am_step] at h
    split at h
    · rename_i a n hp
      obtain ⟨v, hv1, hv2⟩ := hpool _ _ _ _ hp
      exact am_push0 hv2 (fun H locs cells slots ls rest k => lv_ldcw hx hb hown hv1 hd k) h.2
    · exact h.elim
  case ldc2_w k =>
    simp only [am_okI, beq_iff_eq] at hk
    subst hk
    simp only [am_step] at h
    split at h
    · rename_i a n hp
      obtain ⟨v, hv1, hv2⟩ := hpool _ _ _ _ hp
      exact am_push1 hv2 (fun H locs cells slots ls rest k => lv_ldc2 hx hb hown hv1 hd k) h.2
    · exact h.elim
  case getstatic k =>
    simp only [am_okI, beq_iff_eq] at hk
    subst hk
    simp only [am_step] at h
    split at h
    · rename_i a n hp
      obtain ⟨hn, C, nm, d, hZ, hl⟩ := hpool _ _ _ _ hp
      intro ad tys ws H locs cells slots ls stv hW hst hlo h1 h2
      have h9 : am_rf ad sa n = .ref (sa n) := by unfold am_rf am_ad; rw [if_neg (by omega), if_neg (by omega)]
      have hst1 := am_i2 (ad := ad) (sa := sa) (x := n) (fun q => by omega) hst
      rw [h9] at hst1
      rcases hl with hl | ⟨host, hl⟩
      · exact va_gets hx hb hZ hW.2.2.2.1 hown hl (fun _ h9 => h9) hd (h.2 ad tys ws H locs cells slots ls _ hW hst1 hlo h1 h2)
      · exact va_getsN hx hb hZ hW.2.2.2.1 hown hl (fun _ h9 => h9) hd (h.2 ad tys ws H locs cells slots ls _ hW hst1 hlo h1 h2)
    · exact h.elim
  case iload_n k =>
    simp only [am_okI, Bool.and_eq_true, beq_iff_eq, decide_eq_true_eq] at hk
    obtain ⟨rfl, h8⟩ := hk
    simp only [am_step, am_ld0] at h
    split at h
    · rename_i x hl
      exact am_get0 hl (fun z H locs cells slots ls rest hz k => lv_iload_n hx hb hd rfl hz k) h.2
    · exact h.elim
  case iload k =>
    simp only [am_okI, Bool.and_eq_true, beq_iff_eq, decide_eq_true_eq] at hk
    obtain ⟨rfl, h8⟩ := hk
    simp only [am_step, am_ld0] at h
    split at h
    · rename_i x hl
      exact am_get0 hl (fun z H locs cells slots ls rest hz k => lv_iload hx hb hd hz k) h.2
    · exact h.elim
  case lload_n k =>
    simp only [am_okI, Bool.and_eq_true, beq_iff_eq, decide_eq_true_eq] at hk
    obtain ⟨rfl, h8⟩ := hk
    simp only [am_step, am_ld1] at h
    split at h
    · rename_i x hl
      exact am_get1 hl (fun z H locs cells slots ls rest hz k => lv_lload_n hx hb hd rfl hz k) h.2
    · exact h.elim
  case lload k =>
    simp only [am_okI, Bool.and_eq_true, beq_iff_eq, decide_eq_true_eq] at hk
    obtain ⟨rfl, h8⟩ := hk
    simp only [am_step, am_ld1] at h
    split at h
    · rename_i x hl
      exact am_get1 hl (fun z H locs cells slots ls rest hz k => lv_lload hx hb hd hz k) h.2
    · exact h.elim
  case aload_n k =>
    simp only [am_okI, Bool.and_eq_true, beq_iff_eq, decide_eq_true_eq] at hk
    obtain ⟨rfl, h8⟩ := hk
    simp only [am_step, am_ld2] at h
    split at h
    · rename_i x hl
      refine am_get2 hl (fun z H locs cells slots ls rest hzz hz k => ?_) h.2
      rcases hzz with rfl | ⟨a, rfl⟩
      · exact lv_aload_nN hx hb hd rfl hz k
      · exact lv_aload_n hx hb hd rfl hz k
    · exact h.elim
  case aload k =>
    simp only [am_okI, Bool.and_eq_true, beq_iff_eq, decide_eq_true_eq] at hk
    obtain ⟨rfl, h8⟩ := hk
    simp only [am_step, am_ld2] at h
    split at h
    · rename_i x hl
      refine am_get2 hl (fun z H locs cells slots ls rest hzz hz k => ?_) h.2
      rcases hzz with rfl | ⟨a, rfl⟩
      · exact lv_aloadN hx hb hd hz k
      · exact lv_aload hx hb hd hz k
    · exact h.elim
  case istore_n k =>
    simp only [am_okI, Bool.and_eq_true, beq_iff_eq, decide_eq_true_eq] at hk
    obtain ⟨rfl, h8⟩ := hk
    simp only [am_step] at h
    split at h
    · exact am_put0 (fun z lv lv' H locs cells slots ls rest h5 h6 k => lv_istore_n hx hb hd rfl h5 h8 h6 k) h.2
    · exact h.elim
  case istore k =>
    simp only [am_okI, Bool.and_eq_true, beq_iff_eq, decide_eq_true_eq] at hk
    obtain ⟨rfl, h8⟩ := hk
    simp only [am_step] at h
    split at h
    · exact am_put0 (fun z lv lv' H locs cells slots ls rest h5 h6 k => lv_istore hx hb hd h5 h8 h6 k) h.2
    · exact h.elim
  case astore_n k =>
    simp only [am_okI, Bool.and_eq_true, beq_iff_eq, decide_eq_true_eq] at hk
    obtain ⟨rfl, h8⟩ := hk
    simp only [am_step] at h
    split at h
    · refine am_put2 (fun z lv lv' H locs cells slots ls rest hzz h5 h6 k => ?_) h.2
      rcases hzz with rfl | ⟨a, rfl⟩
      · exact lv_astore_nN hx hb hd rfl h5 h8 h6 k
      · exact lv_astore_n hx hb hd rfl h5 h8 h6 k
    · exact h.elim
  case astore k =>
    simp only [am_okI, Bool.and_eq_true, beq_iff_eq, decide_eq_true_eq] at hk
    obtain ⟨rfl, h8⟩ := hk
    simp only [am_step] at h
    split at h
    · refine am_put2 (fun z lv lv' H locs cells slots ls rest hzz h5 h6 k => ?_) h.2
      rcases hzz with rfl | ⟨a, rfl⟩
      · exact lv_astoreN hx hb hd h5 h8 h6 k
      · exact lv_astore hx hb hd h5 h8 h6 k
    · exact h.elim
  case lstore_n k =>
    simp only [am_okI, Bool.and_eq_true, beq_iff_eq, decide_eq_true_eq] at hk
    obtain ⟨rfl, h8⟩ := hk
    simp only [am_step] at h
    split at h
    · exact am_put1 (fun z lv lv' H locs cells slots ls rest h5 h6 k => lv_lstore_n hx hb hd rfl h5 h8 h6 k) h.2
    · exact h.elim
  case lstore k =>
    simp only [am_okI, Bool.and_eq_true, beq_iff_eq, decide_eq_true_eq] at hk
    obtain ⟨rfl, h8⟩ := hk
    simp only [am_step] at h
    split at h
    · exact am_put1 (fun z lv lv' H locs cells slots ls rest h5 h6 k => lv_lstore hx hb hd h5 h8 h6 k) h.2
    · exact h.elim
  case iinc k n =>
    simp only [am_okI, Bool.and_eq_true, beq_iff_eq, decide_eq_true_eq] at hk
    obtain ⟨⟨rfl, h8⟩, h9, h10⟩ := hk
    simp only [am_step, am_ld0] at h
    split at h
    · rename_i x hl
      intro ad tys ws H locs cells slots ls stv hW hst hlo h1 h2
      have hlo0 := hlo
      obtain ⟨lv0, q1, q2, q3⟩ := hlo0
      obtain ⟨w, q4, z, rfl, hz⟩ := q3 k _ hl (Nat.lt_of_sub_eq_succ rfl)
      obtain ⟨j, hj⟩ := List.getElem?_of_mem q4
      have hz2 : (z + Int32.ofInt n).toInt = am_w (x + n) := by rw [am_z_add, hz, am_z_of h9 h10]
      have hlo1 : ∀ ls', lv_has ls' nL ((k, Value.int (z + Int32.ofInt n)) :: lv0.filter (fun q => !(q.1 == k) && !(q.1 + 1 == k && q.2.category == 2))) → am_lo ad sa nL (am_st L k (0, am_w (x + n))) ls' := by
        intro ls' hl'
        refine ⟨_, hl', by unfold am_st; rw [List.length_set, am_kill_len]; exact q2, fun j2 u hj2 hu => ?_⟩
        unfold am_st at hj2
        by_cases hjk : k = j2
        · subst hjk
          have hlt : k < (am_kill L k).length := by
            have := (List.getElem?_eq_some_iff.mp hj2).1
            rwa [List.length_set] at this
          rw [List.getElem?_set_self hlt] at hj2
          cases hj2
          exact ⟨_, List.mem_cons_self, _, rfl, hz2⟩
        · rw [List.getElem?_set_ne hjk] at hj2
          obtain ⟨h5, h6⟩ := am_kill_get hj2 hu
          obtain ⟨w', h7, h8'⟩ := q3 j2 u h5 hu
          refine ⟨w', List.mem_cons_of_mem _ (List.mem_filter.mpr ⟨h7, ?_⟩), h8'⟩
          have hcat : w'.category = 2 → u.1 = 1 := by
            intro hc
            unfold am_val at h8'
            split at h8'
            · obtain ⟨z, rfl, -⟩ := h8'; cases hc
            · assumption
            · obtain ⟨-, rfl⟩ := h8'; rw [am_rf_cat] at hc; cases hc
            · exact h8'.elim
          have hjk' : ¬ j2 = k := fun q => hjk q.symm
          by_cases hc : w'.category = 2
          · have : ¬ j2 + 1 = k := fun q => h6 ⟨q, hcat hc⟩
            simp [hjk', this]
          · simp [hjk', hc]
      exact lv_iinc hx hb hd q1 hj rfl h8 rfl fun ls' hl' => h.2 ad tys ws H locs cells slots ls' _ hW hst (hlo1 ls' hl') h1 h2
    · exact h.elim
  case iadd =>
    simp only [am_okI, beq_iff_eq] at hk
    subst hk
    simp only [am_step, am_bin] at h
    split at h
    · exact am_bin0 (f := fun a b => a + b) (fun a b ha hb => by rw [am_z_add, ha, hb]) (fun a b ha hb' H locs cells slots ls rest k => lv_iadd hx hb hd k) h.2
    · exact h.elim
  case isub =>
    simp only [am_okI, beq_iff_eq] at hk
    subst hk
    simp only [am_step, am_bin] at h
    split at h
    · exact am_bin0 (f := fun a b => a - b) (fun a b ha hb => by rw [am_z_sub, ha, hb]) (fun a b ha hb' H locs cells slots ls rest k => lv_isub hx hb hd k) h.2
    · exact h.elim
  case imul =>
    simp only [am_okI, beq_iff_eq] at hk
    subst hk
    simp only [am_step, am_bin] at h
    split at h
    · exact am_bin0 (f := fun a b => a * b) (fun a b ha hb => by rw [am_z_mul, ha, hb]) (fun a b ha hb' H locs cells slots ls rest k => lv_imul hx hb hd k) h.2
    · exact h.elim
  case iand =>
    simp only [am_okI, beq_iff_eq] at hk
    subst hk
    simp only [am_step, am_bin] at h
    split at h
    · exact am_bin0 (f := fun a b => a &&& b) (fun a b ha hb => by rw [← ha, ← hb]; unfold am_band; rw [am_z_i, am_z_i]) (fun a b ha hb' H locs cells slots ls rest k => lv_iand hx hb hd k) h.2
    · exact h.elim
  case ior =>
    simp only [am_okI, beq_iff_eq] at hk
    subst hk
    simp only [am_step, am_bin] at h
    split at h
    · exact am_bin0 (f := fun a b => a ||| b) (fun a b ha hb => by rw [← ha, ← hb]; unfold am_bor; rw [am_z_i, am_z_i]) (fun a b ha hb' H locs cells slots ls rest k => lv_ior hx hb hd k) h.2
    · exact h.elim
  case ixor =>
    simp only [am_okI, beq_iff_eq] at hk
    subst hk
    simp only [am_step, am_bin] at h
    split at h
    · exact am_bin0 (f := fun a b => a ^^^ b) (fun a b ha hb => by rw [← ha, ← hb]; unfold am_bxor; rw [am_z_i, am_z_i]) (fun a b ha hb' H locs cells slots ls rest k => lv_ixor hx hb hd k) h.2
    · exact h.elim
  case ishl =>
    simp only [am_okI, beq_iff_eq] at hk
    subst hk
    simp only [am_step, am_bin] at h
    split at h
    · exact am_bin0 (f := fun a b => a <<< (b &&& 31)) (fun a b ha hb => by rw [← ha, ← hb]; unfold am_shl; rw [am_z_i, am_z_i]) (fun a b ha hb' H locs cells slots ls rest k => lv_ishl hx hb hd k) h.2
    · exact h.elim
  case ishr =>
    simp only [am_okI, beq_iff_eq] at hk
    subst hk
    simp only [am_step, am_bin] at h
    split at h
    · exact am_bin0 (f := fun a b => a >>> (b &&& 31)) (fun a b ha hb => by rw [← ha, ← hb]; unfold am_shr; rw [am_z_i, am_z_i]) (fun a b ha hb' H locs cells slots ls rest k => lv_ishr hx hb hd k) h.2
    · exact h.elim
  case iushr =>
    simp only [am_okI, beq_iff_eq] at hk
    subst hk
    simp only [am_step, am_bin] at h
    split at h
    · exact am_bin0 (f := fun a b => (a.toUInt32 >>> (b.toUInt32 &&& Int32.toUInt32 31)).toInt32) (fun a b ha hb => by rw [← ha, ← hb]; unfold am_ushr; rw [am_z_i, am_z_i]) (fun a b ha hb' H locs cells slots ls rest k => lv_iushr hx hb hd rfl k) h.2
    · exact h.elim
  case idiv =>
    simp only [am_okI, beq_iff_eq] at hk
    subst hk
    simp only [am_step, am_bin] at h
    split at h
    · refine am_bin0 (f := fun a b => a / b) (fun a b ha hb => by rw [am_z_div, ha, hb]) (fun a b ha hb' H locs cells slots ls rest k => lv_idiv hx hb hd (fun q => h.1 ?_) k) h.2.2
      rw [← hb', q]; rfl
    · exact h.elim
  case irem =>
    simp only [am_okI, beq_iff_eq] at hk
    subst hk
    simp only [am_step, am_bin] at h
    split at h
    · refine am_bin0 (f := fun a b => a - a / b * b) (fun a b ha hb => by rw [am_z_rem, ha, hb]) (fun a b ha hb' H locs cells slots ls rest k => lv_irem hx hb hd (fun q => h.1 ?_) k) h.2.2
      rw [← hb', q]; rfl
    · exact h.elim
  case ladd =>
    simp only [am_okI, beq_iff_eq] at hk
    subst hk
    simp only [am_step, am_binl] at h
    split at h
    · exact am_bin1 (f := fun a b => a + b) (fun a b ha hb => by rw [am_z_addl, ha, hb]) (fun a b ha hb' H locs cells slots ls rest k => lv_ladd hx hb hd k) h.2
    · exact h.elim
  case lsub =>
    simp only [am_okI, beq_iff_eq] at hk
    subst hk
    simp only [am_step, am_binl] at h
    split at h
    · exact am_bin1 (f := fun a b => a - b) (fun a b ha hb => by rw [am_z_subl, ha, hb]) (fun a b ha hb' H locs cells slots ls rest k => lv_lsub hx hb hd k) h.2
    · exact h.elim
  case lmul =>
    simp only [am_okI, beq_iff_eq] at hk
    subst hk
    simp only [am_step, am_binl] at h
    split at h
    · exact am_bin1 (f := fun a b => a * b) (fun a b ha hb => by rw [am_z_mull, ha, hb]) (fun a b ha hb' H locs cells slots ls rest k => lv_lmul hx hb hd k) h.2
    · exact h.elim
  case land =>
    simp only [am_okI, beq_iff_eq] at hk
    subst hk
    simp only [am_step, am_binl] at h
    split at h
    · exact am_bin1 (f := fun a b => a &&& b) (fun a b ha hb => by rw [← ha, ← hb]; unfold am_land; rw [am_z_il, am_z_il]) (fun a b ha hb' H locs cells slots ls rest k => lv_land hx hb hd k) h.2
    · exact h.elim
  case ldiv =>
    simp only [am_okI, beq_iff_eq] at hk
    subst hk
    simp only [am_step, am_binl] at h
    split at h
    · refine am_bin1 (f := fun a b => a / b) (fun a b ha hb => by rw [am_z_divl, ha, hb]) (fun a b ha hb' H locs cells slots ls rest k => lv_ldiv hx hb hd (fun q => h.1 ?_) k) h.2.2
      rw [← hb', q]; rfl
    · exact h.elim
  case lrem =>
    simp only [am_okI, beq_iff_eq] at hk
    subst hk
    simp only [am_step, am_binl] at h
    split at h
    · refine am_bin1 (f := fun a b => a - a / b * b) (fun a b ha hb => by rw [am_z_reml, ha, hb]) (fun a b ha hb' H locs cells slots ls rest k => lv_lrem hx hb hd (fun q => h.1 ?_) k) h.2.2
      rw [← hb', q]; rfl
    · exact h.elim
  case lcmp =>
    simp only [am_okI, beq_iff_eq] at hk
    subst hk
    simp only [am_step, am_binl] at h
    split at h
    · intro ad tys ws H locs cells slots ls stv hW hst hlo h1 h2
      obtain ⟨b, t', rfl, hb1, ht⟩ := am_v1 hst
      obtain ⟨a, t'', rfl, ha1, ht⟩ := am_v1 ht
      exact W.lcmp hx hb hd (h.2 ad tys ws H locs cells slots ls _ hW (am_i0 (by rw [am_z_cmp, ha1, hb1]) ht) hlo h1 h2)
    · exact h.elim
  case i2l =>
    simp only [am_okI, beq_iff_eq] at hk
    subst hk
    simp only [am_step, am_un] at h
    split at h
    · intro ad tys ws H locs cells slots ls stv hW hst hlo h1 h2
      obtain ⟨b, t', rfl, hb1, ht⟩ := am_v0 hst
      exact lv_i2l hx hb hd rfl (h.2 ad tys ws H locs cells slots ls _ hW (am_i1 (by rw [am_z_i2l, hb1]) ht) hlo h1 h2)
    · exact h.elim
  case l2i =>
    simp only [am_okI, beq_iff_eq] at hk
    subst hk
    simp only [am_step] at h
    split at h
    · intro ad tys ws H locs cells slots ls stv hW hst hlo h1 h2
      obtain ⟨b, t', rfl, hb1, ht⟩ := am_v1 hst
      exact lv_l2i hx hb hd rfl (h.2 ad tys ws H locs cells slots ls _ hW (am_i0 (by rw [am_z_l2i, hb1]) ht) hlo h1 h2)
    · exact h.elim
  case ifCond cd off =>
    simp only [am_okI, Bool.and_eq_true, beq_iff_eq, decide_eq_true_eq] at hk
    obtain ⟨rfl, h8⟩ := hk
    simp only [am_step, am_un] at h
    split at h
    · have h' := (⟨fun q => (h.1 q).2, fun q => (h.2 q).2⟩ : am_if _ _ _)
      have e0 : (0 : Int32).toInt = 0 := rfl
      cases cd with
      | eq => exact am_br1 (fun z hz H locs cells slots ls rest k1 k2 => lv_if_eq hx hb hd (tgt h8) (fun q => k1 ((am_z_eq hz e0).mp q)) (fun q => k2 fun q2 => q ((am_z_eq hz e0).mpr q2))) h'
      | ne => exact am_br1 (fun z hz H locs cells slots ls rest k1 k2 => lv_if_ne hx hb hd (tgt h8) (fun q => k1 fun q2 => q ((am_z_eq hz e0).mpr q2)) (fun q => k2 fun q2 => q2 ((am_z_eq hz e0).mp q))) h'
      | lt => exact am_br1 (fun z hz H locs cells slots ls rest k1 k2 => lv_if_lt hx hb hd (tgt h8) (fun q => k1 ((am_z_lt hz e0).mp q)) (fun q => k2 fun q2 => q ((am_z_lt hz e0).mpr q2))) h'
      | ge => exact am_br1 (fun z hz H locs cells slots ls rest k1 k2 => lv_if_ge hx hb hd (tgt h8) (fun q => k1 ((am_z_le e0 hz).mp q)) (fun q => k2 fun q2 => q ((am_z_le e0 hz).mpr q2))) h'
      | gt => exact am_br1 (fun z hz H locs cells slots ls rest k1 k2 => lv_if_gt hx hb hd (tgt h8) (fun q => k1 ((am_z_lt e0 hz).mp q)) (fun q => k2 fun q2 => q ((am_z_lt e0 hz).mpr q2))) h'
      | le => exact am_br1 (fun z hz H locs cells slots ls rest k1 k2 => lv_if_le hx hb hd (tgt h8) (fun q => k1 ((am_z_le hz e0).mp q)) (fun q => k2 fun q2 => q ((am_z_le hz e0).mpr q2))) h'
    · exact h.elim
  case if_icmp cd off =>
    simp only [am_okI, Bool.and_eq_true, beq_iff_eq, decide_eq_true_eq] at hk
    obtain ⟨rfl, h8⟩ := hk
    simp only [am_step, am_bin] at h
    split at h
    · have h' := (⟨fun q => (h.1 q).2, fun q => (h.2 q).2⟩ : am_if _ _ _)
      cases cd with
      | eq => exact am_br2 (fun z w hz hw H locs cells slots ls rest k1 k2 => lv_icmp_eq hx hb hd (tgt h8) (fun q => k1 ((am_z_eq hz hw).mp q)) (fun q => k2 fun q2 => q ((am_z_eq hz hw).mpr q2))) h'
      | ne => exact am_br2 (fun z w hz hw H locs cells slots ls rest k1 k2 => lv_icmp_ne hx hb hd (tgt h8) (fun q => k1 fun q2 => q ((am_z_eq hz hw).mpr q2)) (fun q => k2 fun q2 => q2 ((am_z_eq hz hw).mp q))) h'
      | lt => exact am_br2 (fun z w hz hw H locs cells slots ls rest k1 k2 => lv_icmp_lt hx hb hd (tgt h8) (fun q => k1 ((am_z_lt hz hw).mp q)) (fun q => k2 fun q2 => q ((am_z_lt hz hw).mpr q2))) h'
      | ge => exact am_br2 (fun z w hz hw H locs cells slots ls rest k1 k2 => lv_icmp_ge hx hb hd (tgt h8) (fun q => k1 ((am_z_le hw hz).mp q)) (fun q => k2 fun q2 => q ((am_z_le hw hz).mpr q2))) h'
      | gt => exact am_br2 (fun z w hz hw H locs cells slots ls rest k1 k2 => lv_icmp_gt hx hb hd (tgt h8) (fun q => k1 ((am_z_lt hw hz).mp q)) (fun q => k2 fun q2 => q ((am_z_lt hw hz).mpr q2))) h'
      | le => exact am_br2 (fun z w hz hw H locs cells slots ls rest k1 k2 => lv_icmp_le hx hb hd (tgt h8) (fun q => k1 ((am_z_le hz hw).mp q)) (fun q => k2 fun q2 => q ((am_z_le hz hw).mpr q2))) h'
    · exact h.elim
  case ifnull off =>
    simp only [am_okI, Bool.and_eq_true, beq_iff_eq, decide_eq_true_eq] at hk
    obtain ⟨rfl, h8⟩ := hk
    simp only [am_step] at h
    split at h
    · intro ad tys ws H locs cells slots ls stv hW hst hlo h1 h2
      obtain ⟨t', rfl, -, ht⟩ := am_v2 hst
      rename_i a t
      by_cases ha : a < 0
      · have e1 : am_rf ad sa a = .null := by unfold am_rf; rw [if_pos ha]
        rw [e1]
        exact lv_ifnullN hx hb hd (tgt h8) ((h.1 ha).2 ad tys ws H locs cells slots ls _ hW ht hlo h1 h2)
      · have e1 : am_rf ad sa a = .ref (am_ad ad sa a) := by unfold am_rf; rw [if_neg ha]
        rw [e1]
        exact lv_ifnull hx hb hd ((h.2 ha).2 ad tys ws H locs cells slots ls _ hW ht hlo h1 h2)
    · exact h.elim
  case ifnonnull off =>
    simp only [am_okI, Bool.and_eq_true, beq_iff_eq, decide_eq_true_eq] at hk
    obtain ⟨rfl, h8⟩ := hk
    simp only [am_step] at h
    split at h
    · intro ad tys ws H locs cells slots ls stv hW hst hlo h1 h2
      obtain ⟨t', rfl, -, ht⟩ := am_v2 hst
      rename_i a t
      by_cases ha : a < 0
      · have e1 : am_rf ad sa a = .null := by unfold am_rf; rw [if_pos ha]
        rw [e1]
        exact lv_ifnonnullN hx hb hd ((h.1 ha).2 ad tys ws H locs cells slots ls _ hW ht hlo h1 h2)
      · have e1 : am_rf ad sa a = .ref (am_ad ad sa a) := by unfold am_rf; rw [if_neg ha]
        rw [e1]
        exact lv_ifnonnull hx hb hd (tgt h8) ((h.2 ha).2 ad tys ws H locs cells slots ls _ hW ht hlo h1 h2)
    · exact h.elim
  case goto off =>
    simp only [am_okI, Bool.and_eq_true, beq_iff_eq, decide_eq_true_eq] at hk
    obtain ⟨rfl, h8⟩ := hk
    intro ad tys ws H locs cells slots ls stv hW hst hlo h1 h2
    exact lv_goto hx hb hd (tgt h8) (h.2 ad tys ws H locs cells slots ls _ hW hst hlo h1 h2)
  case tableswitch d lo hi offs =>
    simp only [am_okI, Bool.and_eq_true, decide_eq_true_eq, List.all_eq_true] at hk
    obtain ⟨h8, h9⟩ := hk
    simp only [am_step, am_un] at h
    split at h
    · rename_i x t
      intro ad tys ws H locs cells slots ls stv hW hst hlo h1 h2
      obtain ⟨z, t', rfl, hz, ht⟩ := am_v0 hst
      by_cases hq : x < lo ∨ hi < x
      · exact lv_tableOut hx hb hd (by rw [hz]; exact hq) (tgt h8) ((h.1 hq).2 ad tys ws H locs cells slots ls _ hW ht hlo h1 h2)
      · have h3 := h.2 hq
        split at h3
        · rename_i o ho
          have ho2 : 0 ≤ (pc : Int) + o := h9 o (Array.mem_toList_iff.mpr (Array.mem_of_getElem? ho))
          exact lv_tableIn hx hb hd (by rw [hz]; omega) (by rw [hz]; omega) (by rw [hz]; exact ho) (tgt ho2) (h3.2 ad tys ws H locs cells slots ls _ hW ht hlo h1 h2)
        · exact h3.elim
    · exact h.elim
  case lookupswitch d ps =>
    simp only [am_okI, Bool.and_eq_true, decide_eq_true_eq, List.all_eq_true] at hk
    obtain ⟨⟨h8, h9⟩, h10⟩ := hk
    simp only [am_step, am_un] at h
    split at h
    · rename_i x t
      intro ad tys ws H locs cells slots ls stv hW hst hlo h1 h2
      obtain ⟨z, t', rfl, hz, ht⟩ := am_v0 hst
      have hoff : ∀ (l : List (Int × Int)), (∀ q ∈ l, 0 ≤ (pc : Int) + q.2) → 0 ≤ (pc : Int) + Op.lookupswitch.offset l d x := by
        intro l
        induction l with
        | nil => intro _; exact h8
        | cons q l ih =>
          intro hl
          obtain ⟨k, o⟩ := q
          rw [Op.lookupswitch.offset_cons]
          split
          · exact hl (k, o) List.mem_cons_self
          · exact ih fun q hq => hl q (List.mem_cons_of_mem _ hq)
      exact lv_lookup hx hb hd (List.all_eq_true.mpr fun q hq => by simpa using h10 q hq) (by rw [hz]) (tgt (hoff _ fun q hq => h9 q hq)) (h.2 ad tys ws H locs cells slots ls _ hW ht hlo h1 h2)
    · exact h.elim
  case getfield k =>
    simp only [am_okI, beq_iff_eq] at hk
    subst hk
    simp only [am_step] at h
    split at h
    · rename_i ci f hp
      split at h
      · exact am_r_get hx hb hts hown (hpool _ _ _ _ hp).1 h.1 hd (Or.inl rfl) h.2.2
      · exact h.elim
    · rename_i ci f hp
      split at h
      · obtain ⟨h1, h⟩ := h
        have hq := (hpool _ _ _ _ hp).2
        split at h
        · rename_i o ho
          exact am_r_get hx hb hts hown (hpool _ _ _ _ hp).1 h1 hd (Or.inr ⟨o, ho, by rw [hq o ho]; rfl, rfl⟩) h.2
        · exact am_r_get hx hb hts hown (hpool _ _ _ _ hp).1 h1 hd (Or.inl rfl) h.2
      · exact h.elim
    · rename_i ci f hp
      split at h
      · obtain ⟨h1, h⟩ := h
        have hq := (hpool _ _ _ _ hp).2.1
        split at h
        · rename_i o ho
          exact am_r_get hx hb hts hown (hpool _ _ _ _ hp).1 h1 hd (Or.inr ⟨o, ho, by rw [hq o ho]; rfl, rfl⟩) h.2
        · exact am_r_get hx hb hts hown (hpool _ _ _ _ hp).1 h1 hd (Or.inl rfl) h.2
      · exact h.elim
    · exact h.elim
  case putfield k =>
    simp only [am_okI, beq_iff_eq] at hk
    subst hk
    have unput : ∀ {tg : Nat} {v : am_V} {G : Prop} {F : Int → Prop}, am_put tg v (fun x => G ∧ F x) → am_put tg v F := by
      intro tg v G F h
      unfold am_put at h ⊢
      split at h
      · exact h.2
      · exact h.2
      · exact h.2
      · exact ⟨h.1, h.2.2⟩
      · exact h.elim
    simp only [am_step] at h
    split at h
    · rename_i ci f hp
      split at h
      · exact am_r_put hx hb hts hown (hpool _ _ _ _ hp).1 (fun q => by cases q) h.1 (hpool _ _ _ _ hp).2 hd (unput h.2)
      · exact h.elim
    · rename_i ci f hp
      split at h
      · obtain ⟨⟨hr8, hfx⟩, h⟩ := h
        subst hr8
        exact am_r_put hx hb hts hown (hpool _ _ _ _ hp).1 (fun _ => ⟨hret.2, (hpool _ _ _ _ hp).2.2⟩) h.1 (hof hfx _ _) hd (unput h.2)
      · exact h.elim
    · exact h.elim
  case iaload =>
    simp only [am_okI, beq_iff_eq] at hk
    subst hk
    simp only [am_step] at h
    split at h
    · exact am_r_iald hx hb hstat h.1 hd h.2.2
    · exact h.elim
  case caload =>
    simp only [am_okI, beq_iff_eq] at hk
    subst hk
    simp only [am_step] at h
    split at h
    · exact am_r_cald hx hb h.1 hd h.2.2
    · exact h.elim
  case laload =>
    simp only [am_okI, beq_iff_eq] at hk
    subst hk
    simp only [am_step] at h
    split at h
    · exact am_r_lald hx hb h.1 hd h.2.2
    · exact h.elim
  case aaload =>
    simp only [am_okI, beq_iff_eq] at hk
    subst hk
    simp only [am_step] at h
    split at h
    · obtain ⟨h1, h⟩ := h
      split at h
      · rename_i hf
        exact am_r_aald hx hb h1 hd (Or.inr ⟨hf, rfl⟩) h.2
      · exact am_r_aald hx hb h1 hd (Or.inl rfl) h.2
    · exact h.elim
  case iastore =>
    simp only [am_okI, beq_iff_eq] at hk
    subst hk
    simp only [am_step] at h
    split at h
    · exact am_r_iast hx hb h.1 hd h.2.2
    · exact h.elim
  case castore =>
    simp only [am_okI, beq_iff_eq] at hk
    subst hk
    simp only [am_step] at h
    split at h
    · exact am_r_cast hx hb h.1 h.2.1.1 h.2.1.2 hd h.2.2.2
    · exact h.elim
  case lastore =>
    simp only [am_okI, beq_iff_eq] at hk
    subst hk
    simp only [am_step] at h
    split at h
    · exact am_r_last hx hb h.1 hd h.2.2
    · exact h.elim
  case aastore =>
    simp only [am_okI, beq_iff_eq] at hk
    subst hk
    simp only [am_step] at h
    split at h
    · exact am_r_aast hx hb h.1.2 h.1.1 h.2.1 hd h.2.2.2
    · exact h.elim
  case arraylength =>
    simp only [am_okI, beq_iff_eq] at hk
    subst hk
    simp only [am_step] at h
    split at h
    · obtain ⟨n, hn, h⟩ := h
      exact am_r_len hx hb hstat hn hd h.2
    · exact h.elim
  case newarray ty =>
    simp only [am_okI, beq_iff_eq] at hk
    subst hk
    simp only [am_step] at h
    split at h
    · obtain ⟨⟨g1, g2⟩, ⟨g3, hfx⟩, h⟩ := h
      split at h
      · exact am_r_newa hx hb hA hfx hof (harr .int (Or.inl rfl)) g1 g2 g3 hd (Or.inl ⟨rfl, rfl⟩) (by omega) (by omega) h.2
      · exact am_r_newa hx hb hA hfx hof (harr .char (Or.inr (Or.inl rfl))) g1 g2 g3 hd (Or.inr (Or.inl ⟨rfl, rfl⟩)) (by omega) (by omega) h.2
      · exact am_r_newa hx hb hA hfx hof (harr .long (Or.inr (Or.inr rfl))) g1 g2 g3 hd (Or.inr (Or.inr ⟨rfl, rfl⟩)) (by omega) (by omega) h.2
      · exact h.elim
    · exact h.elim
  case anewarray k =>
    simp only [am_okI, beq_iff_eq] at hk
    subst hk
    simp only [am_step] at h
    split at h
    · rename_i ci f hp
      split at h
      · obtain ⟨⟨g1, g2⟩, ⟨g3, hfx⟩, h⟩ := h
        exact am_r_newq hx hb hown hA hfx hof (hpool _ _ _ _ hp) g1 g2 g3 hd (by omega) (by omega) h.2
      · exact h.elim
    · rename_i ci f hp
      split at h
      · obtain ⟨⟨g1, g2⟩, ⟨g3, hfx⟩, h⟩ := h
        exact am_r_newq hx hb hown hA hfx hof (hpool _ _ _ _ hp).2 g1 g2 g3 hd (by omega) (by omega) h.2
      · exact h.elim
    · exact h.elim
  case new k =>
    simp only [am_okI, beq_iff_eq] at hk
    subst hk
    simp only [am_step] at h
    split at h
    · rename_i ci f hp
      exact am_r_new hx hb hts hown hA h.1.2 hof (hpool _ _ _ _ hp) h.1.1 hd (by omega) (by omega) h.2.2
    · rename_i ci f hp
      exact am_r_new hx hb hts hown hA h.1.2 hof (hpool _ _ _ _ hp).1 h.1.1 hd (by omega) (by omega) h.2.2
    · exact h.elim
  case dup =>
    simp only [am_okI, beq_iff_eq] at hk
    subst hk
    simp only [am_step] at h
    split at h
    · intro ad tys ws H locs cells slots ls stv hW hst hlo h1 h2
      obtain ⟨z, t', rfl, hz, ht⟩ := am_v0 hst
      exact lv_dup hx hb hd rfl (h.2 ad tys ws H locs cells slots ls _ hW (am_i0 hz (am_i0 hz ht)) hlo h1 h2)
    · intro ad tys ws H locs cells slots ls stv hW hst hlo h1 h2
      obtain ⟨t', rfl, hz, ht⟩ := am_v2 hst
      exact lv_dup hx hb hd am_rf_cat (h.2 ad tys ws H locs cells slots ls _ hW (am_i2 hz (am_i2 hz ht)) hlo h1 h2)
    · exact h.elim
  case pop =>
    simp only [am_okI, beq_iff_eq] at hk
    subst hk
    simp only [am_step] at h
    split at h
    · intro ad tys ws H locs cells slots ls stv hW hst hlo h1 h2
      obtain ⟨z, t', rfl, hz, ht⟩ := am_v0 hst
      exact lv_pop hx hb hd rfl (h.2 ad tys ws H locs cells slots ls _ hW ht hlo h1 h2)
    · intro ad tys ws H locs cells slots ls stv hW hst hlo h1 h2
      obtain ⟨t', rfl, hz, ht⟩ := am_v2 hst
      exact lv_pop hx hb hd am_rf_cat (h.2 ad tys ws H locs cells slots ls _ hW ht hlo h1 h2)
    · exact h.elim
  case dup2 =>
    simp only [am_okI, beq_iff_eq] at hk
    subst hk
    simp only [am_step] at h
    split at h
    · intro ad tys ws H locs cells slots ls stv hW hst hlo h1 h2
      obtain ⟨z, t', rfl, hz, ht⟩ := am_v0 hst
      obtain ⟨t', rfl, hz2, ht⟩ := am_v2 ht
      exact lv_dup2_11 hx hb hd rfl am_rf_cat (h.2 ad tys ws H locs cells slots ls _ hW (am_i0 hz (am_i2 hz2 (am_i0 hz (am_i2 hz2 ht)))) hlo h1 h2)
    · exact h.elim
  case invokevirtual k =>
    simp only [am_okI, beq_iff_eq] at hk
    subst hk
    simp only [am_step] at h
    split at h
    · rename_i mid n hp
      split at h
      · rename_i a t he
        exact callrow k mid 2 n _ hp hd _ (fun hg => Or.inl ⟨rfl, rfl, a, t, he, hg⟩) h.2 h.1
      · exact h.elim
    · rename_i a n hp
      exact hext k 21 _ _ hp pc _ (Or.inr ⟨Or.inl rfl, rfl⟩) hd L st S M (excap h) (unext (G := fun _ _ => S.length ≤ mc + c0 ∧ am_sz S ≤ ms + s0) h)
    · rename_i a n hp
      exact hext k 22 _ _ hp pc _ (Or.inr ⟨Or.inr rfl, rfl⟩) hd L st S M (excap h) (unext (G := fun _ _ => S.length ≤ mc + c0 ∧ am_sz S ≤ ms + s0) h)
    · exact h.elim
  case invokestatic k =>
    simp only [am_okI, beq_iff_eq] at hk
    subst hk
    simp only [am_step] at h
    split at h
    · rename_i mid n hp
      exact callrow k mid 12 n _ hp hd True (fun _ => Or.inr (Or.inl ⟨rfl, rfl⟩)) h trivial
    · rename_i a n hp
      exact hext k 20 _ _ hp pc _ (Or.inl ⟨rfl, rfl⟩) hd L st S M (excap h) (unext (G := fun _ _ => S.length ≤ mc + c0 ∧ am_sz S ≤ ms + s0) h)
    · exact h.elim
  case invokespecial k =>
    simp only [am_okI, beq_iff_eq] at hk
    subst hk
    simp only [am_step] at h
    split at h
    · rename_i mid n hp
      split at h
      · rename_i a t he
        exact callrow k mid 13 n _ hp hd _ (fun hg => Or.inr (Or.inr ⟨rfl, rfl, a, t, he, hg⟩)) h.2 h.1
      · exact h.elim
    · rename_i a n hp
      split at h
      · exact am_r_obj hx hb hml hown (hpool _ _ _ _ hp) (by omega) (by omega) h.1.1 h.1.2 hd h.2.2
      · exact h.elim
    · exact h.elim
  case ireturn =>
    simp only [am_okI, beq_iff_eq] at hk
    subst hk
    simp only [am_step] at h
    split at h
    · rename_i x
      intro ad tys ws H locs cells slots ls stv hW hst hlo h1 h2
      obtain ⟨z, t', rfl, hz, ht⟩ := am_v0 hst
      cases t' with
      | cons => exact ht.elim
      | nil =>
      obtain ⟨rfl, rfl, hf, hq⟩ := retrow (some (.int z)) ad tys ws H locs cells slots hW h1 h2 _ h ⟨z, rfl, hz⟩
      exact W.iret hx hb hret hq hf hd hlocks
    · rename_i x
      intro ad tys ws H locs cells slots ls stv hW hst hlo h1 h2
      obtain ⟨z, t', rfl, hz, ht⟩ := am_v0 hst
      cases t' with
      | cons => exact ht.elim
      | nil =>
      obtain ⟨rfl, rfl, hf, hq⟩ := retrow (some (.int z)) ad tys ws H locs cells slots hW h1 h2 _ h.2 ⟨z, rfl, hz⟩
      refine W.zret hx hb hret ?_ hq hf hd hlocks
      have hz' : z = 0 ∨ z = 1 := by
        rcases h.1 with h9 | h9
        · exact Or.inl (Int32.toInt_inj.mp (by rw [hz, h9]; rfl))
        · exact Or.inr (Int32.toInt_inj.mp (by rw [hz, h9]; rfl))
      rcases hz' with rfl | rfl <;> rfl
    · exact h.elim
  case lreturn =>
    simp only [am_okI, beq_iff_eq] at hk
    subst hk
    simp only [am_step] at h
    split at h
    · rename_i x
      intro ad tys ws H locs cells slots ls stv hW hst hlo h1 h2
      obtain ⟨z, t', rfl, hz, ht⟩ := am_v1 hst
      cases t' with
      | cons => exact ht.elim
      | nil =>
      obtain ⟨rfl, rfl, hf, hq⟩ := retrow (some (.long z)) ad tys ws H locs cells slots hW h1 h2 _ h ⟨z, rfl, hz⟩
      exact W.lret hx hb hret hq hf hd hlocks
    · exact h.elim
  case areturn =>
    simp only [am_okI, beq_iff_eq] at hk
    subst hk
    simp only [am_step] at h
    split at h
    · rename_i x
      intro ad tys ws H locs cells slots ls stv hW hst hlo h1 h2
      obtain ⟨t', rfl, hok, ht⟩ := am_v2 hst
      cases t' with
      | cons => exact ht.elim
      | nil =>
      obtain ⟨rfl, rfl, hf, hq⟩ := retrow (some (am_rf ad sa x)) ad tys ws H locs cells slots hW h1 h2 _ h ⟨hok, rfl⟩
      obtain ⟨ty, hty, hob⟩ := hret
      refine W.aret hx hb hty hob ?_ hq hf hd hlocks
      unfold am_rf
      split
      · exact Or.inl rfl
      · exact Or.inr ⟨_, rfl⟩
    · exact h.elim
  case return_ =>
    simp only [am_okI, beq_iff_eq] at hk
    subst hk
    simp only [am_step] at h
    split at h
    · intro ad tys ws H locs cells slots ls stv hW hst hlo h1 h2
      cases stv with
      | cons => exact hst.elim
      | nil =>
      obtain ⟨rfl, rfl, hf, hq⟩ := retrow none ad tys ws H locs cells slots hW h1 h2 _ h trivial
      exact W.vret hx hb hret.1 hq hf hd hlocks
    · intro ad tys ws H locs cells slots ls stv hW hst hlo h1 h2
      cases stv with
      | cons => exact hst.elim
      | nil =>
      obtain ⟨rfl, rfl, hf, hq⟩ := retrow none ad tys ws H locs cells slots hW h1 h2 _ h trivial
      exact W.vret hx hb hret hq hf hd hlocks
    · exact h.elim
  all_goals exact h.elim
end AMS
