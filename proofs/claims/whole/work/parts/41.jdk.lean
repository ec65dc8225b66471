/-! THE JDK'S OWN: a text's length and its signs (String.length, charAt and what they call): nothing is written there -/
def RJ0 : String := "java/lang/String"
def RJ1 : String := "java/lang/StringLatin1"
def RJ3 : String := "jdk/internal/util/Preconditions"
abbrev jc_coder : ByteArray := prog_17_method_152_code
def jy_coder : MethodName := ⟨RJ0, "coder", "()B"⟩
theorem jd_coder_0 : decode jc_coder 0 = .ok (.getstatic 38, 3) := by decide +kernel
theorem jd_coder_3 : decode jc_coder 3 = .ok (.ifCond .eq 10, 3) := by decide +kernel
theorem jd_coder_6 : decode jc_coder 6 = .ok (.aload_n 0, 1) := by decide +kernel
theorem jd_coder_7 : decode jc_coder 7 = .ok (.getfield 15, 3) := by decide +kernel
theorem jd_coder_10 : decode jc_coder 10 = .ok (.goto 4, 3) := by decide +kernel
theorem jd_coder_13 : decode jc_coder 13 = .ok (.iconst 1, 1) := by decide +kernel
theorem jd_coder_14 : decode jc_coder 14 = .ok (.ireturn, 1) := by decide +kernel
abbrev jc_isLatin1 : ByteArray := prog_17_method_154_code
def jy_isLatin1 : MethodName := ⟨RJ0, "isLatin1", "()Z"⟩
theorem jd_isLatin1_0 : decode jc_isLatin1 0 = .ok (.getstatic 38, 3) := by decide +kernel
theorem jd_isLatin1_3 : decode jc_isLatin1 3 = .ok (.ifCond .eq 14, 3) := by decide +kernel
theorem jd_isLatin1_6 : decode jc_isLatin1 6 = .ok (.aload_n 0, 1) := by decide +kernel
theorem jd_isLatin1_7 : decode jc_isLatin1 7 = .ok (.getfield 15, 3) := by decide +kernel
theorem jd_isLatin1_10 : decode jc_isLatin1 10 = .ok (.ifCond .ne 7, 3) := by decide +kernel
theorem jd_isLatin1_13 : decode jc_isLatin1 13 = .ok (.iconst 1, 1) := by decide +kernel
theorem jd_isLatin1_14 : decode jc_isLatin1 14 = .ok (.goto 4, 3) := by decide +kernel
theorem jd_isLatin1_17 : decode jc_isLatin1 17 = .ok (.iconst 0, 1) := by decide +kernel
theorem jd_isLatin1_18 : decode jc_isLatin1 18 = .ok (.ireturn, 1) := by decide +kernel
abbrev jc_length : ByteArray := prog_17_method_54_code
def jy_length : MethodName := ⟨RJ0, "length", "()I"⟩
theorem jd_length_0 : decode jc_length 0 = .ok (.aload_n 0, 1) := by decide +kernel
theorem jd_length_1 : decode jc_length 1 = .ok (.getfield 9, 3) := by decide +kernel
theorem jd_length_4 : decode jc_length 4 = .ok (.arraylength, 1) := by decide +kernel
theorem jd_length_5 : decode jc_length 5 = .ok (.aload_n 0, 1) := by decide +kernel
theorem jd_length_6 : decode jc_length 6 = .ok (.invokevirtual 335, 3) := by decide +kernel
theorem jd_length_9 : decode jc_length 9 = .ok (.ishr, 1) := by decide +kernel
theorem jd_length_10 : decode jc_length 10 = .ok (.ireturn, 1) := by decide +kernel
abbrev jc_charAt : ByteArray := prog_17_method_56_code
def jy_charAt : MethodName := ⟨RJ0, "charAt", "(I)C"⟩
theorem jd_charAt_0 : decode jc_charAt 0 = .ok (.aload_n 0, 1) := by decide +kernel
theorem jd_charAt_1 : decode jc_charAt 1 = .ok (.invokevirtual 492, 3) := by decide +kernel
theorem jd_charAt_4 : decode jc_charAt 4 = .ok (.ifCond .eq 12, 3) := by decide +kernel
theorem jd_charAt_7 : decode jc_charAt 7 = .ok (.aload_n 0, 1) := by decide +kernel
theorem jd_charAt_8 : decode jc_charAt 8 = .ok (.getfield 9, 3) := by decide +kernel
theorem jd_charAt_11 : decode jc_charAt 11 = .ok (.iload_n 1, 1) := by decide +kernel
theorem jd_charAt_12 : decode jc_charAt 12 = .ok (.invokestatic 495, 3) := by decide +kernel
theorem jd_charAt_15 : decode jc_charAt 15 = .ok (.ireturn, 1) := by decide +kernel
theorem jd_charAt_16 : decode jc_charAt 16 = .ok (.aload_n 0, 1) := by decide +kernel
theorem jd_charAt_17 : decode jc_charAt 17 = .ok (.getfield 9, 3) := by decide +kernel
theorem jd_charAt_20 : decode jc_charAt 20 = .ok (.iload_n 1, 1) := by decide +kernel
theorem jd_charAt_21 : decode jc_charAt 21 = .ok (.invokestatic 498, 3) := by decide +kernel
theorem jd_charAt_24 : decode jc_charAt 24 = .ok (.ireturn, 1) := by decide +kernel
abbrev jc_checkIndex : ByteArray := prog_17_method_155_code
def jy_checkIndex : MethodName := ⟨RJ0, "checkIndex", "(II)V"⟩
theorem jd_checkIndex_0 : decode jc_checkIndex 0 = .ok (.iload_n 0, 1) := by decide +kernel
theorem jd_checkIndex_1 : decode jc_checkIndex 1 = .ok (.iload_n 1, 1) := by decide +kernel
theorem jd_checkIndex_2 : decode jc_checkIndex 2 = .ok (.getstatic 1053, 3) := by decide +kernel
theorem jd_checkIndex_5 : decode jc_checkIndex 5 = .ok (.invokestatic 1059, 3) := by decide +kernel
theorem jd_checkIndex_8 : decode jc_checkIndex 8 = .ok (.pop, 1) := by decide +kernel
theorem jd_checkIndex_9 : decode jc_checkIndex 9 = .ok (.return_, 1) := by decide +kernel
abbrev jc_lcharAt : ByteArray := prog_18_method_2_code
def jy_lcharAt : MethodName := ⟨RJ1, "charAt", "([BI)C"⟩
theorem jd_lcharAt_0 : decode jc_lcharAt 0 = .ok (.iload_n 1, 1) := by decide +kernel
theorem jd_lcharAt_1 : decode jc_lcharAt 1 = .ok (.aload_n 0, 1) := by decide +kernel
theorem jd_lcharAt_2 : decode jc_lcharAt 2 = .ok (.arraylength, 1) := by decide +kernel
theorem jd_lcharAt_3 : decode jc_lcharAt 3 = .ok (.invokestatic 9, 3) := by decide +kernel
theorem jd_lcharAt_6 : decode jc_lcharAt 6 = .ok (.aload_n 0, 1) := by decide +kernel
theorem jd_lcharAt_7 : decode jc_lcharAt 7 = .ok (.iload_n 1, 1) := by decide +kernel
theorem jd_lcharAt_8 : decode jc_lcharAt 8 = .ok (.baload, 1) := by decide +kernel
theorem jd_lcharAt_9 : decode jc_lcharAt 9 = .ok (.sipush 255, 3) := by decide +kernel
theorem jd_lcharAt_12 : decode jc_lcharAt 12 = .ok (.iand, 1) := by decide +kernel
theorem jd_lcharAt_13 : decode jc_lcharAt 13 = .ok (.i2c, 1) := by decide +kernel
theorem jd_lcharAt_14 : decode jc_lcharAt 14 = .ok (.ireturn, 1) := by decide +kernel
abbrev jc_pcheck : ByteArray := prog_21_method_11_code
def jy_pcheck : MethodName := ⟨RJ3, "checkIndex", "(IILjava/util/function/BiFunction;)I"⟩
theorem jd_pcheck_0 : decode jc_pcheck 0 = .ok (.iload_n 0, 1) := by decide +kernel
theorem jd_pcheck_1 : decode jc_pcheck 1 = .ok (.ifCond .lt 8, 3) := by decide +kernel
theorem jd_pcheck_4 : decode jc_pcheck 4 = .ok (.iload_n 0, 1) := by decide +kernel
theorem jd_pcheck_5 : decode jc_pcheck 5 = .ok (.iload_n 1, 1) := by decide +kernel
theorem jd_pcheck_6 : decode jc_pcheck 6 = .ok (.if_icmp .lt 10, 3) := by decide +kernel
theorem jd_pcheck_9 : decode jc_pcheck 9 = .ok (.aload_n 2, 1) := by decide +kernel
theorem jd_pcheck_10 : decode jc_pcheck 10 = .ok (.iload_n 0, 1) := by decide +kernel
theorem jd_pcheck_11 : decode jc_pcheck 11 = .ok (.iload_n 1, 1) := by decide +kernel
theorem jd_pcheck_12 : decode jc_pcheck 12 = .ok (.invokestatic 95, 3) := by decide +kernel
theorem jd_pcheck_15 : decode jc_pcheck 15 = .ok (.athrow, 1) := by decide +kernel
theorem jd_pcheck_16 : decode jc_pcheck 16 = .ok (.iload_n 0, 1) := by decide +kernel
theorem jd_pcheck_17 : decode jc_pcheck 17 = .ok (.ireturn, 1) := by decide +kernel
def jk_rm (f lo : Nat) : Room := { frames := f, cells := 0, slots := 0, locals := lo }
def jk_Pre (A : Nat → Prop) (sa : Int → Nat) (wv : List Value) : Array Value → State → Prop := fun a U => a = wv.toArray ∧ tb_En A sa U ∧ (∀ q, U.heap.size ≤ q → A q)
def jk_Post (v : Option Value) : Array Value → State → Outcome → State → Prop := fun _ st o t => o = .returned v ∧ t.heap = st.heap
/-- what holds moves along -/
theorem tb_En_move {A : Nat → Prop} {sa : Int → Nat} {s U : State} {locs : List Loc} (h : tb_En A sa s) (hW : s.WarmedH U.vm) (hS : va_S A s.heap U.heap locs) : tb_En A sa U := by
  obtain ⟨h1, h2, h3, h4, h5, h6, h7, h8⟩ := h
  refine ⟨fun w hw => ?_, fun q hq => vk_R.warm hW (h2 q hq), fun q hq => (va_Z.moved hW.alike (h3 q hq)).kept hS.2.1, fun k hk => (va_T.moved hW.alike (h4 k hk)).kept hS.2.1, va_AO.moved hW.alike h5, (va_Z.moved hW.alike h6).kept hS.2.1, (va_Zq.moved hW.alike h7).kept hS.2.1, (vk_S.moved hW.alike h8).kept hS.2.1⟩
  have hn := (List.mem_filter.mp hw).2
  have h0 := h1 w hw
  cases w <;> first | exact va_Nw.warmF hW h0 | exact va_Nw.warmM hW h0 | (simp [tb_isN] at hn; done)
theorem tb_En_call {A : Nat → Prop} {sa : Int → Nat} (a : Array Value) (U : State) (g : JFrame) (mk : MethodId) (h : tb_En A sa U) : tb_En A sa (U.calling g mk a) := by
  obtain ⟨h1, h2, h3, h4, h5, h6, h7, h8⟩ := h
  refine ⟨fun w hw => ?_, fun q hq => vk_R.same rfl (h2 q hq), fun q hq => va_Z.moved (Vm.Alike.refl U.vm) (h3 q hq), fun k hk => va_T.moved (Vm.Alike.refl U.vm) (h4 k hk), va_AO.moved (u := U) (Vm.Alike.refl U.vm) h5, va_Z.moved (Vm.Alike.refl U.vm) h6, va_Zq.moved (Vm.Alike.refl U.vm) h7, vk_S.moved (Vm.Alike.refl U.vm) h8⟩
  have hn := (List.mem_filter.mp hw).2
  have h0 := h1 w hw
  cases w <;> first | exact va_Nw.same rfl rfl h0 | (simp [tb_isN] at hn; done)
theorem jk_blind {A : Nat → Prop} {sa : Int → Nat} {wv : List Value} : FrameBlind (jk_Pre A sa wv) := by
  intro a U g mk h
  exact ⟨h.1, tb_En_call a U g mk h.2.1, h.2.2⟩
theorem jk_good {w : Cond} (hw : goodWord w = true) (hm : w ∈ tb_TT) : GoodIn tb_TT (w :: tb_TT) := by
  intro v hv
  rcases List.mem_cons.mp hv with rfl | hv
  · exact ⟨hm, good_of_word hw⟩
  · exact ⟨hv, good_of_word (List.mem_filter.mp hv).2⟩
section JK
variable {p : Program} {l : Launch} {e : Env} {R : Room} {s : State} {m : MethodId} {args : Array Value} {below : List Frame} {meth : Method} {c : Code} {H : Heap} {locs : List Loc} {cells slots : Nat} {Q : State → Prop} {A : Nat → Prop} {sa : Int → Nat}
/-- behind a call that writes nothing -/
theorem jk_go {pc : Nat} {ls : Array Slot} {st0 rest : List Value} {a : Array Value} {v : Option Value} (hr : va_Run p l e R s m args below meth c H locs cells slots 0 0 (F0 m pc ls st0) rest (jk_Post v a) A)
    (kk : ∀ L : List Loc, (∀ q ∈ L, A q.base) → W p l e R s m args below meth c H (locs ++ L) cells slots Q (F0 m (pc + 3) ls (v.toList ++ rest))) : W p l e R s m args below meth c H locs cells slots Q (F0 m pc ls st0) := by
  intro T hT X
  obtain ⟨v0, st₀, t, T', L', h0, X', hL, e1, e2, ⟨hv, hz⟩, hst⟩ := hr T hT X
  cases hv
  obtain ⟨t2, a1, b1⟩ := kk L' hL T' (by rw [e1, hz, h0]) X'
  exact ⟨t2, hst t2 a1, b1⟩
theorem jk_pre {wv : List Value} (hE : tb_En A sa s) (hA : ∀ q, s.heap.size ≤ q → A q) (hS : va_S A s.heap H locs) : ∀ U : State, U.heap = H → s.WarmedH U.vm → jk_Pre A sa wv wv.toArray U := by
  intro U hU hW
  exact ⟨rfl, tb_En_move hE hW (by rw [hU]; exact hS), fun q hq => hA q (Nat.le_trans hS.1 (by rw [← hU]; exact hq))⟩
theorem jk_S (hS : va_S A s.heap H locs) {L : List Loc} (hL : ∀ q ∈ L, A q.base) : va_S A s.heap H (locs ++ L) := ⟨hS.1, hS.2.1, fun q hq => by
  rcases List.mem_append.mp hq with h | h
  · exact hS.2.2 q h
  · exact hL q h⟩
end JK
set_option maxHeartbeats 2000000 in
theorem jk_coder (l : Launch) {A : Nat → Prop} {sa : Int → Nat} {i : Nat} (hi : i < 11) : Met l jy_coder (Cond.code jy_coder jc_coder 1 (some .byte) :: tb_TT) (jk_rm 1 16) (jk_Pre A sa [.ref (sa (1000000 + (i : Int)))]) (jk_Post (some (.int 0))) 0 0 A := by
  refine Met.ofW (cc := jc_coder) (maxL := 1) (ret := (some .byte)) (by decide) rfl ?_
  intro p e s m args below meth c s₁ B hml hv
  obtain ⟨rfl, hE, hA⟩ := hv
  have hx := B.exec
  have hb := B.bytes
  have hr := B.returns
  have hts0 := atoms_spec (ws := Cond.code jy_coder jc_coder 1 (some .byte) :: tb_TT) B.pre
  have hts : ∀ w ∈ tb_TT, w.before [.ref (sa (1000000 + (i : Int)))].toArray s = true := fun w hw => hts0 w (List.mem_cons_of_mem _ hw)
  have hown : s.vm.findClass RJ0 = some m.cls := findClass_of_methodNamed B.named
  have hlocks := B.notSynchronized
  have hS : va_S A s.heap s.heap [] := va_S.rf
  have hK := hE.2.2.2.2.2.2.2
  have hCS := hE.2.2.2.2.2.1
  have hl := lv_entry ([.ref (sa (1000000 + (i : Int)))]) (n := 1) (Nat.le_of_ble_eq_true rfl)
  rw [lg_entry_eq]
  generalize (lg_sl ([.ref (sa (1000000 + (i : Int)))]) ++ List.replicate (1 - (lg_sl ([.ref (sa (1000000 + (i : Int)))])).length) Slot.unset).toArray = ls at hl ⊢
  have hfix : CallFix p m c c.code 1 s ([.ref (sa (1000000 + (i : Int)))] : List Value).toArray tb_TT RJ0 := ⟨hx, rfl, hml, hown, hts⟩
  have hl : lv_has ls 1 [(0, .ref (sa (1000000 + (i : Int))))] := hl
  refine va_gets hx hb hCS hS hown (hts _ (tg tw_472 rfl)) (fun _ h => h) jd_coder_0 ?_
  refine lv_if_eq (tgt := 13) hx hb jd_coder_3 rfl (fun h => absurd h (by decide)) (fun _ => ?_)
  refine lv_aload_n hx hb jd_coder_6 rfl (lv_at hl 0 rfl) ?_
  refine vk_getf hx hb (hK.1 i hi).2.1 hS hown (hts _ (tg tw_2081 rfl)) (fun _ h => h) jd_coder_7 ?_
  refine lv_goto (tgt := 14) hx hb jd_coder_10 rfl ?_
  exact W.zret hx hb hr rfl (fun t ht hW => ⟨rfl, ht⟩) hS.2.2 jd_coder_14 hlocks
set_option maxHeartbeats 2000000 in
theorem jk_isLatin1 (l : Launch) {A : Nat → Prop} {sa : Int → Nat} {i : Nat} (hi : i < 11) : Met l jy_isLatin1 (Cond.code jy_isLatin1 jc_isLatin1 1 (some .boolean) :: tb_TT) (jk_rm 1 16) (jk_Pre A sa [.ref (sa (1000000 + (i : Int)))]) (jk_Post (some (.int 1))) 0 0 A := by
  refine Met.ofW (cc := jc_isLatin1) (maxL := 1) (ret := (some .boolean)) (by decide) rfl ?_
  intro p e s m args below meth c s₁ B hml hv
  obtain ⟨rfl, hE, hA⟩ := hv
  have hx := B.exec
  have hb := B.bytes
  have hr := B.returns
  have hts0 := atoms_spec (ws := Cond.code jy_isLatin1 jc_isLatin1 1 (some .boolean) :: tb_TT) B.pre
  have hts : ∀ w ∈ tb_TT, w.before [.ref (sa (1000000 + (i : Int)))].toArray s = true := fun w hw => hts0 w (List.mem_cons_of_mem _ hw)
  have hown : s.vm.findClass RJ0 = some m.cls := findClass_of_methodNamed B.named
  have hlocks := B.notSynchronized
  have hS : va_S A s.heap s.heap [] := va_S.rf
  have hK := hE.2.2.2.2.2.2.2
  have hCS := hE.2.2.2.2.2.1
  have hl := lv_entry ([.ref (sa (1000000 + (i : Int)))]) (n := 1) (Nat.le_of_ble_eq_true rfl)
  rw [lg_entry_eq]
  generalize (lg_sl ([.ref (sa (1000000 + (i : Int)))]) ++ List.replicate (1 - (lg_sl ([.ref (sa (1000000 + (i : Int)))])).length) Slot.unset).toArray = ls at hl ⊢
  have hfix : CallFix p m c c.code 1 s ([.ref (sa (1000000 + (i : Int)))] : List Value).toArray tb_TT RJ0 := ⟨hx, rfl, hml, hown, hts⟩
  have hl : lv_has ls 1 [(0, .ref (sa (1000000 + (i : Int))))] := hl
  refine va_gets hx hb hCS hS hown (hts _ (tg tw_472 rfl)) (fun _ h => h) jd_isLatin1_0 ?_
  refine lv_if_eq (tgt := 17) hx hb jd_isLatin1_3 rfl (fun h => absurd h (by decide)) (fun _ => ?_)
  refine lv_aload_n hx hb jd_isLatin1_6 rfl (lv_at hl 0 rfl) ?_
  refine vk_getf hx hb (hK.1 i hi).2.1 hS hown (hts _ (tg tw_2081 rfl)) (fun _ h => h) jd_isLatin1_7 ?_
  refine lv_if_ne (tgt := 17) hx hb jd_isLatin1_10 rfl (fun h => absurd rfl h) (fun _ => ?_)
  refine lv_iconst (v := 1) hx hb jd_isLatin1_13 (by decide) ?_
  refine lv_goto (tgt := 18) hx hb jd_isLatin1_14 rfl ?_
  exact W.zret hx hb hr rfl (fun t ht hW => ⟨rfl, ht⟩) hS.2.2 jd_isLatin1_18 hlocks
set_option maxHeartbeats 2000000 in
theorem jk_pcheckN (l : Launch) {A : Nat → Prop} {sa : Int → Nat} {k n : Int32} (h1 : ¬ k < 0) (h2 : k < n) : Met l jy_pcheck (Cond.code jy_pcheck jc_pcheck 3 (some .int) :: tb_TT) (jk_rm 1 24) (jk_Pre A sa [.int k, .int n, .null]) (jk_Post (some (.int k))) 0 0 A := by
  refine Met.ofW (cc := jc_pcheck) (maxL := 3) (ret := (some .int)) (by decide) rfl ?_
  intro p e s m args below meth c s₁ B hml hv
  obtain ⟨rfl, hE, hA⟩ := hv
  have hx := B.exec
  have hb := B.bytes
  have hr := B.returns
  have hts0 := atoms_spec (ws := Cond.code jy_pcheck jc_pcheck 3 (some .int) :: tb_TT) B.pre
  have hts : ∀ w ∈ tb_TT, w.before [.int k, .int n, .null].toArray s = true := fun w hw => hts0 w (List.mem_cons_of_mem _ hw)
  have hown : s.vm.findClass RJ3 = some m.cls := findClass_of_methodNamed B.named
  have hlocks := B.notSynchronized
  have hS : va_S A s.heap s.heap [] := va_S.rf
  have hK := hE.2.2.2.2.2.2.2
  have hCS := hE.2.2.2.2.2.1
  have hl := lv_entry ([.int k, .int n, .null]) (n := 3) (Nat.le_of_ble_eq_true rfl)
  rw [lg_entry_eq]
  generalize (lg_sl ([.int k, .int n, .null]) ++ List.replicate (3 - (lg_sl ([.int k, .int n, .null])).length) Slot.unset).toArray = ls at hl ⊢
  have hfix : CallFix p m c c.code 3 s ([.int k, .int n, .null] : List Value).toArray tb_TT RJ3 := ⟨hx, rfl, hml, hown, hts⟩
  have hl : lv_has ls 3 [(0, .int k), (1, .int n), (2, .null)] := hl
  refine lv_iload_n hx hb jd_pcheck_0 rfl (lv_at hl 0 rfl) ?_
  refine lv_if_lt (tgt := 9) hx hb jd_pcheck_1 rfl (fun h => absurd h h1) (fun _ => ?_)
  refine lv_iload_n hx hb jd_pcheck_4 rfl (lv_at hl 0 rfl) ?_
  refine lv_iload_n hx hb jd_pcheck_5 rfl (lv_at hl 1 rfl) ?_
  refine lv_icmp_lt (tgt := 16) hx hb jd_pcheck_6 rfl (fun _ => ?_) (fun h => absurd h2 h)
  refine lv_iload_n hx hb jd_pcheck_16 rfl (lv_at hl 0 rfl) ?_
  exact W.iret hx hb hr (fun t ht hW => ⟨rfl, ht⟩) hS.2.2 jd_pcheck_17 hlocks
set_option maxHeartbeats 2000000 in
theorem jk_pcheckR (l : Launch) {A : Nat → Prop} {sa : Int → Nat} {k n : Int32} {q : Nat} (h1 : ¬ k < 0) (h2 : k < n) : Met l jy_pcheck (Cond.code jy_pcheck jc_pcheck 3 (some .int) :: tb_TT) (jk_rm 1 24) (jk_Pre A sa [.int k, .int n, .ref q]) (jk_Post (some (.int k))) 0 0 A := by
  refine Met.ofW (cc := jc_pcheck) (maxL := 3) (ret := (some .int)) (by decide) rfl ?_
  intro p e s m args below meth c s₁ B hml hv
  obtain ⟨rfl, hE, hA⟩ := hv
  have hx := B.exec
  have hb := B.bytes
  have hr := B.returns
  have hts0 := atoms_spec (ws := Cond.code jy_pcheck jc_pcheck 3 (some .int) :: tb_TT) B.pre
  have hts : ∀ w ∈ tb_TT, w.before [.int k, .int n, .ref q].toArray s = true := fun w hw => hts0 w (List.mem_cons_of_mem _ hw)
  have hown : s.vm.findClass RJ3 = some m.cls := findClass_of_methodNamed B.named
  have hlocks := B.notSynchronized
  have hS : va_S A s.heap s.heap [] := va_S.rf
  have hK := hE.2.2.2.2.2.2.2
  have hCS := hE.2.2.2.2.2.1
  have hl := lv_entry ([.int k, .int n, .ref q]) (n := 3) (Nat.le_of_ble_eq_true rfl)
  rw [lg_entry_eq]
  generalize (lg_sl ([.int k, .int n, .ref q]) ++ List.replicate (3 - (lg_sl ([.int k, .int n, .ref q])).length) Slot.unset).toArray = ls at hl ⊢
  have hfix : CallFix p m c c.code 3 s ([.int k, .int n, .ref q] : List Value).toArray tb_TT RJ3 := ⟨hx, rfl, hml, hown, hts⟩
  have hl : lv_has ls 3 [(0, .int k), (1, .int n), (2, .ref q)] := hl
  refine lv_iload_n hx hb jd_pcheck_0 rfl (lv_at hl 0 rfl) ?_
  refine lv_if_lt (tgt := 9) hx hb jd_pcheck_1 rfl (fun h => absurd h h1) (fun _ => ?_)
  refine lv_iload_n hx hb jd_pcheck_4 rfl (lv_at hl 0 rfl) ?_
  refine lv_iload_n hx hb jd_pcheck_5 rfl (lv_at hl 1 rfl) ?_
  refine lv_icmp_lt (tgt := 16) hx hb jd_pcheck_6 rfl (fun _ => ?_) (fun h => absurd h2 h)
  refine lv_iload_n hx hb jd_pcheck_16 rfl (lv_at hl 0 rfl) ?_
  exact W.iret hx hb hr (fun t ht hW => ⟨rfl, ht⟩) hS.2.2 jd_pcheck_17 hlocks
theorem jk_cwS {R : Room} {s : State} {args : Array Value} {own : String} {ix : Nat} {y : MethodName} {b : ByteArray} {mx f lo : Nat} {rt : Option FieldType} (n : Nat) (hts : ∀ w ∈ tb_TT, w.before args s = true) (hc : Cond.code y b mx rt ∈ tb_TT) (hi : Cond.initialized y.cls ∈ tb_TT) (hl : Cond.methodLink own ix y ∈ tb_TT) (hne : y.cls ≠ "java/lang/invoke/MethodHandle" ∧ y.cls ≠ "java/lang/invoke/VarHandle") (hd : (parseMethodDescriptor y.desc).map (fun d => d.parameters.length) = some n) (h1 : f + 1 ≤ R.frames) (h2 : 8 + (mx + 11) + lo ≤ R.locals) :
    CallB R s args own ix y b mx rt (Cond.code y b mx rt :: tb_TT) (jk_rm f lo) 0 0 n := callB_of n hts (jk_good rfl hc) rfl rfl rfl (hts _ hi) (hts _ hl) ⟨hne.1, hne.2, hd⟩ ⟨h1, h2⟩
set_option maxHeartbeats 2000000 in
theorem jk_checkIndex (l : Launch) {A : Nat → Prop} {sa : Int → Nat} {k n : Int32} (h1 : ¬ k < 0) (h2 : k < n) : Met l jy_checkIndex (Cond.code jy_checkIndex jc_checkIndex 2 none :: tb_TT) (jk_rm 2 48) (jk_Pre A sa [.int k, .int n]) (jk_Post none) 0 0 A := by
  refine Met.ofW (cc := jc_checkIndex) (maxL := 2) (ret := none) (by decide) rfl ?_
  intro p e s m args below meth c s₁ B hml hv
  obtain ⟨rfl, hE, hA⟩ := hv
  have hx := B.exec
  have hb := B.bytes
  have hr := B.returns
  have hts0 := atoms_spec (ws := Cond.code jy_checkIndex jc_checkIndex 2 none :: tb_TT) B.pre
  have hts : ∀ w ∈ tb_TT, w.before [.int k, .int n].toArray s = true := fun w hw => hts0 w (List.mem_cons_of_mem _ hw)
  have hown : s.vm.findClass RJ0 = some m.cls := findClass_of_methodNamed B.named
  have hlocks := B.notSynchronized
  have hS : va_S A s.heap s.heap [] := va_S.rf
  have hK := hE.2.2.2.2.2.2.2
  have hCS := hE.2.2.2.2.2.1
  have hl := lv_entry ([.int k, .int n]) (n := 2) (Nat.le_of_ble_eq_true rfl)
  rw [lg_entry_eq]
  generalize (lg_sl ([.int k, .int n]) ++ List.replicate (2 - (lg_sl ([.int k, .int n])).length) Slot.unset).toArray = ls at hl ⊢
  have hfix : CallFix p m c c.code 2 s ([.int k, .int n] : List Value).toArray tb_TT RJ0 := ⟨hx, rfl, hml, hown, hts⟩
  have hl : lv_has ls 2 [(0, .int k), (1, .int n)] := hl
  refine lv_iload_n hx hb jd_checkIndex_0 rfl (lv_at hl 0 rfl) ?_
  refine lv_iload_n hx hb jd_checkIndex_1 rfl (lv_at hl 1 rfl) ?_
  rcases hE.2.2.2.2.2.2.1 with hz | ⟨q, hz⟩
  ·
    refine va_gets hx hb hz hS hown (hts _ (tg tw_488 rfl)) (fun _ h => h) jd_checkIndex_2 ?_
    refine jk_go (va_runS (As := [.int k, .int n, .null]) (rest := []) hfix (jk_pcheckN l (sa := sa) (A := A) h1 h2) ⟨(jk_cwS 3 hts (tg tw_492 rfl) (tg tw_16 rfl) (tg tw_490 rfl) (by decide +kernel) (by decide +kernel) (Nat.le_of_ble_eq_true rfl) (Nat.le_of_ble_eq_true rfl)), hts _ (tg tw_491 rfl)⟩ ⟨jk_blind, jk_pre hE hA hS⟩ rfl rfl hl.1 rfl (lv_room (Nat.le_of_ble_eq_true rfl)) (by rw [hb]; exact jd_checkIndex_5) ⟨Nat.le_of_ble_eq_true rfl, Nat.le_of_ble_eq_true rfl⟩) (fun L hL => ?_)
    refine lv_pop hx hb jd_checkIndex_8 rfl ?_
    exact W.vret hx hb hr (fun t ht hW => ⟨rfl, ht⟩) (jk_S hS hL).2.2 jd_checkIndex_9 hlocks
  ·
    refine va_gets hx hb hz hS hown (hts _ (tg tw_488 rfl)) (fun _ h => h) jd_checkIndex_2 ?_
    refine jk_go (va_runS (As := [.int k, .int n, .ref q]) (rest := []) hfix (jk_pcheckR l (sa := sa) (A := A) h1 h2) ⟨(jk_cwS 3 hts (tg tw_492 rfl) (tg tw_16 rfl) (tg tw_490 rfl) (by decide +kernel) (by decide +kernel) (Nat.le_of_ble_eq_true rfl) (Nat.le_of_ble_eq_true rfl)), hts _ (tg tw_491 rfl)⟩ ⟨jk_blind, jk_pre hE hA hS⟩ rfl rfl hl.1 rfl (lv_room (Nat.le_of_ble_eq_true rfl)) (by rw [hb]; exact jd_checkIndex_5) ⟨Nat.le_of_ble_eq_true rfl, Nat.le_of_ble_eq_true rfl⟩) (fun L hL => ?_)
    refine lv_pop hx hb jd_checkIndex_8 rfl ?_
    exact W.vret hx hb hr (fun t ht hW => ⟨rfl, ht⟩) (jk_S hS hL).2.2 jd_checkIndex_9 hlocks
theorem jk_byt : ∀ i, i < 11 → tb_len.getD i 0 = (tb_byt.getD i []).length ∧ tb_len.getD i 0 < 2 ^ 31 ∧ ∀ k, k < tb_len.getD i 0 → 0 ≤ ((tb_byt.getD i []).getD k 0).toInt ∧ ((tb_byt.getD i []).getD k 0).toInt < 256 := by decide +kernel
theorem jk_char {v : Int32} (h0 : 0 ≤ v.toInt) (h1 : v.toInt < 256) : narrow .char (.int v) = .int v := by
  have e2 : v.toBitVec.toNat < 256 := by
    have e3 := BitVec.toInt_eq_toNat_cond v.toBitVec
    rw [Int32.toInt_toBitVec] at e3
    split at e3 <;> omega
  have e : v.toUInt32.toUInt16.toUInt32.toInt32 = v := by
    apply Int32.toBitVec_inj.mp
    apply BitVec.eq_of_toNat_eq
    have h3 : v.toUInt32.toBitVec = v.toBitVec := rfl
    have h4 : v.toUInt32.toUInt16.toUInt32.toInt32.toBitVec = v.toUInt32.toUInt16.toUInt32.toBitVec := rfl
    rw [h4]
    have h5 : v.toUInt32.toUInt16.toUInt32.toBitVec.toNat = v.toUInt32.toBitVec.toNat % 65536 := by
      show v.toUInt32.toUInt16.toUInt32.toNat = v.toUInt32.toNat % 65536
      rw [UInt16.toNat_toUInt32, UInt32.toNat_toUInt16]
    rw [h5, h3]
    omega
  show Value.int _ = _
  rw [e]
set_option maxHeartbeats 2000000 in
theorem jk_lcharAt (l : Launch) {A : Nat → Prop} {sa : Int → Nat} {i : Nat} (hi : i < 11) {k : Int32} (h1 : 0 ≤ k.toInt) (h2 : k.toInt < (tb_len.getD i 0 : Nat)) : Met l jy_lcharAt (Cond.code jy_lcharAt jc_lcharAt 2 (some .char) :: tb_TT) (jk_rm 3 80) (jk_Pre A sa [.ref (sa (1500000 + (i : Int))), .int k]) (jk_Post (some (.int ((tb_byt.getD i []).getD k.toInt.toNat 0)))) 0 0 A := by
  refine Met.ofW (cc := jc_lcharAt) (maxL := 2) (ret := (some .char)) (by decide) rfl ?_
  intro p e s m args below meth c s₁ B hml hv
  obtain ⟨rfl, hE, hA⟩ := hv
  have hx := B.exec
  have hb := B.bytes
  have hr := B.returns
  have hts0 := atoms_spec (ws := Cond.code jy_lcharAt jc_lcharAt 2 (some .char) :: tb_TT) B.pre
  have hts : ∀ w ∈ tb_TT, w.before [.ref (sa (1500000 + (i : Int))), .int k].toArray s = true := fun w hw => hts0 w (List.mem_cons_of_mem _ hw)
  have hown : s.vm.findClass RJ1 = some m.cls := findClass_of_methodNamed B.named
  have hlocks := B.notSynchronized
  have hS : va_S A s.heap s.heap [] := va_S.rf
  have hK := hE.2.2.2.2.2.2.2
  have hCS := hE.2.2.2.2.2.1
  have hl := lv_entry ([.ref (sa (1500000 + (i : Int))), .int k]) (n := 2) (Nat.le_of_ble_eq_true rfl)
  rw [lg_entry_eq]
  generalize (lg_sl ([.ref (sa (1500000 + (i : Int))), .int k]) ++ List.replicate (2 - (lg_sl ([.ref (sa (1500000 + (i : Int))), .int k])).length) Slot.unset).toArray = ls at hl ⊢
  have hfix : CallFix p m c c.code 2 s ([.ref (sa (1500000 + (i : Int))), .int k] : List Value).toArray tb_TT RJ1 := ⟨hx, rfl, hml, hown, hts⟩
  have hl : lv_has ls 2 [(0, .ref (sa (1500000 + (i : Int)))), (1, .int k)] := hl
  have hq := jk_byt i hi
  have hk2 : k.toInt.toNat < tb_len.getD i 0 := by omega
  have hv0 := (hq.2.2 _ hk2).1
  have hv1 := (hq.2.2 _ hk2).2
  have hN := hq.2.1
  have hT0 := (hK.1 i hi).2.2.2
  generalize tb_len.getD i 0 = N at *
  generalize hgv : (tb_byt.getD i []).getD k.toInt.toNat 0 = v at *
  have hkn : ¬ k < 0 := Int32.not_lt.mpr (Int32.le_iff_toInt_le.mpr h1)
  have eN : (Int32.ofNat N).toInt = (N : Int) := by
    rw [Int32.toInt_ofNat']; exact Int.bmod_eq_of_le (by simp only [Int32.size]; omega) (by simp only [Int32.size]; omega)
  have hkN : k < Int32.ofNat N := Int32.lt_iff_toInt_lt.mpr (by rw [eN]; exact h2)
  refine lv_iload_n hx hb jd_lcharAt_0 rfl (lv_at hl 1 rfl) ?_
  refine lv_aload_n hx hb jd_lcharAt_1 rfl (lv_at hl 0 rfl) ?_
  refine va_tlen hx hb hT0 hS rfl jd_lcharAt_2 ?_
  refine jk_go (va_runS (As := [.int k, .int (Int32.ofNat N)]) (rest := []) hfix (jk_checkIndex l (sa := sa) (A := A) hkn hkN) ⟨(jk_cwS 2 hts (tg tw_487 rfl) (tg tw_14 rfl) (tg tw_485 rfl) (by decide +kernel) (by decide +kernel) (Nat.le_of_ble_eq_true rfl) (Nat.le_of_ble_eq_true rfl)), hts _ (tg tw_486 rfl)⟩ ⟨jk_blind, jk_pre hE hA hS⟩ rfl rfl hl.1 rfl (lv_room (Nat.le_of_ble_eq_true rfl)) (by rw [hb]; exact jd_lcharAt_3) ⟨Nat.le_of_ble_eq_true rfl, Nat.le_of_ble_eq_true rfl⟩) (fun L hL => ?_)
  have hS := jk_S hS hL
  refine lv_aload_n hx hb jd_lcharAt_6 rfl (lv_at hl 0 rfl) ?_
  refine lv_iload_n hx hb jd_lcharAt_7 rfl (lv_at hl 1 rfl) ?_
  have hz : vp_in k N ∧ ((k.toNatClampNeg : Nat) : Int) = k.toInt := am_in_of rfl h1 h2
  refine va_tb hx hb hT0 hS hz.1 (v := .int v) (by show Value.int ((tb_byt.getD i []).getD k.toInt.toNat 0) = _; rw [hgv]) jd_lcharAt_8 ?_
  refine lv_sipush (v := 255) hx hb jd_lcharAt_9 (by decide) ?_
  refine lv_iand hx hb jd_lcharAt_12 ?_
  have e1 : v &&& 255 = v := by
    apply Int32.toBitVec_inj.mp
    have e2 : v.toBitVec.toNat < 256 := by
      have := Int32.toInt_toBitVec v
      have e3 := BitVec.toInt_eq_toNat_cond v.toBitVec
      rw [Int32.toInt_toBitVec] at e3
      split at e3 <;> omega
    rw [Int32.toBitVec_and]
    apply BitVec.eq_of_toNat_eq
    rw [BitVec.toNat_and]
    show v.toBitVec.toNat &&& 255 = _
    rw [show (255 : Nat) = 2 ^ 8 - 1 from rfl, Nat.and_two_pow_sub_one_eq_mod]
    exact Nat.mod_eq_of_lt e2
  rw [e1]
  have e4 : (v.toUInt32 % 65536).toInt32 = v := by
    apply Int32.toBitVec_inj.mp
    apply BitVec.eq_of_toNat_eq
    have e2 : v.toBitVec.toNat < 256 := by
      have e3 := BitVec.toInt_eq_toNat_cond v.toBitVec
      rw [Int32.toInt_toBitVec] at e3
      split at e3 <;> omega
    show (v.toBitVec.toNat % 65536) = _
    omega
  refine lv_i2c (v := v) hx hb jd_lcharAt_13 e4 ?_
  exact W.zret hx hb hr (jk_char hv0 hv1) (fun t ht hW => ⟨rfl, ht⟩) hS.2.2 jd_lcharAt_14 hlocks
set_option maxHeartbeats 2000000 in
theorem jk_length (l : Launch) {A : Nat → Prop} {sa : Int → Nat} {i : Nat} (hi : i < 11) : Met l jy_length (Cond.code jy_length jc_length 1 (some .int) :: tb_TT) (jk_rm 2 48) (jk_Pre A sa [.ref (sa (1000000 + (i : Int)))]) (jk_Post (some (.int (Int32.ofNat (tb_len.getD i 0))))) 0 0 A := by
  refine Met.ofW (cc := jc_length) (maxL := 1) (ret := (some .int)) (by decide) rfl ?_
  intro p e s m args below meth c s₁ B hml hv
  obtain ⟨rfl, hE, hA⟩ := hv
  have hx := B.exec
  have hb := B.bytes
  have hr := B.returns
  have hts0 := atoms_spec (ws := Cond.code jy_length jc_length 1 (some .int) :: tb_TT) B.pre
  have hts : ∀ w ∈ tb_TT, w.before [.ref (sa (1000000 + (i : Int)))].toArray s = true := fun w hw => hts0 w (List.mem_cons_of_mem _ hw)
  have hown : s.vm.findClass RJ0 = some m.cls := findClass_of_methodNamed B.named
  have hlocks := B.notSynchronized
  have hS : va_S A s.heap s.heap [] := va_S.rf
  have hK := hE.2.2.2.2.2.2.2
  have hCS := hE.2.2.2.2.2.1
  have hl := lv_entry ([.ref (sa (1000000 + (i : Int)))]) (n := 1) (Nat.le_of_ble_eq_true rfl)
  rw [lg_entry_eq]
  generalize (lg_sl ([.ref (sa (1000000 + (i : Int)))]) ++ List.replicate (1 - (lg_sl ([.ref (sa (1000000 + (i : Int)))])).length) Slot.unset).toArray = ls at hl ⊢
  have hfix : CallFix p m c c.code 1 s ([.ref (sa (1000000 + (i : Int)))] : List Value).toArray tb_TT RJ0 := ⟨hx, rfl, hml, hown, hts⟩
  have hl : lv_has ls 1 [(0, .ref (sa (1000000 + (i : Int))))] := hl
  refine lv_aload_n hx hb jd_length_0 rfl (lv_at hl 0 rfl) ?_
  refine vk_getf hx hb (hK.1 i hi).2.2.1 hS hown (hts _ (tg tw_2080 rfl)) (fun _ h => h) jd_length_1 ?_
  refine va_tlen hx hb (hK.1 i hi).2.2.2 hS rfl jd_length_4 ?_
  refine lv_aload_n hx hb jd_length_5 rfl (lv_at hl 0 rfl) ?_
  refine jk_go (va_runV (As := []) (rest := [.int (Int32.ofNat (tb_len.getD i 0))]) hfix (jk_coder l (sa := sa) (A := A) hi) ⟨(jk_cwS 0 hts (tg tw_471 rfl) (tg tw_14 rfl) (tg tw_468 rfl) (by decide +kernel) (by decide +kernel) (Nat.le_of_ble_eq_true rfl) (Nat.le_of_ble_eq_true rfl)), hts _ (tg tw_469 rfl), hts _ (tg tw_470 rfl)⟩ ⟨jk_blind, vk_recv hK hi hS, jk_pre hE hA hS⟩ rfl rfl hl.1 rfl (lv_room (Nat.le_of_ble_eq_true rfl)) (by rw [hb]; exact jd_length_6) ⟨Nat.le_of_ble_eq_true rfl, Nat.le_of_ble_eq_true rfl⟩) (fun L hL => ?_)
  have hS := jk_S hS hL
  refine lv_ishr hx hb jd_length_9 ?_
  have e1 : Int32.ofNat (tb_len.getD i 0) >>> ((0 : Int32) &&& 31) = Int32.ofNat (tb_len.getD i 0) := by
    generalize Int32.ofNat (tb_len.getD i 0) = z
    apply Int32.toInt_inj.mp
    simp
  rw [e1]
  exact W.iret hx hb hr (fun t ht hW => ⟨rfl, ht⟩) hS.2.2 jd_length_10 hlocks
set_option maxHeartbeats 2000000 in
theorem jk_charAt (l : Launch) {A : Nat → Prop} {sa : Int → Nat} {i : Nat} (hi : i < 11) {k : Int32} (h1 : 0 ≤ k.toInt) (h2 : k.toInt < (tb_len.getD i 0 : Nat)) : Met l jy_charAt (Cond.code jy_charAt jc_charAt 2 (some .char) :: tb_TT) (jk_rm 4 128) (jk_Pre A sa [.ref (sa (1000000 + (i : Int))), .int k]) (jk_Post (some (.int ((tb_byt.getD i []).getD k.toInt.toNat 0)))) 0 0 A := by
  refine Met.ofW (cc := jc_charAt) (maxL := 2) (ret := (some .char)) (by decide) rfl ?_
  intro p e s m args below meth c s₁ B hml hv
  obtain ⟨rfl, hE, hA⟩ := hv
  have hx := B.exec
  have hb := B.bytes
  have hr := B.returns
  have hts0 := atoms_spec (ws := Cond.code jy_charAt jc_charAt 2 (some .char) :: tb_TT) B.pre
  have hts : ∀ w ∈ tb_TT, w.before [.ref (sa (1000000 + (i : Int))), .int k].toArray s = true := fun w hw => hts0 w (List.mem_cons_of_mem _ hw)
  have hown : s.vm.findClass RJ0 = some m.cls := findClass_of_methodNamed B.named
  have hlocks := B.notSynchronized
  have hS : va_S A s.heap s.heap [] := va_S.rf
  have hK := hE.2.2.2.2.2.2.2
  have hCS := hE.2.2.2.2.2.1
  have hl := lv_entry ([.ref (sa (1000000 + (i : Int))), .int k]) (n := 2) (Nat.le_of_ble_eq_true rfl)
  rw [lg_entry_eq]
  generalize (lg_sl ([.ref (sa (1000000 + (i : Int))), .int k]) ++ List.replicate (2 - (lg_sl ([.ref (sa (1000000 + (i : Int))), .int k])).length) Slot.unset).toArray = ls at hl ⊢
  have hfix : CallFix p m c c.code 2 s ([.ref (sa (1000000 + (i : Int))), .int k] : List Value).toArray tb_TT RJ0 := ⟨hx, rfl, hml, hown, hts⟩
  have hl : lv_has ls 2 [(0, .ref (sa (1000000 + (i : Int)))), (1, .int k)] := hl
  refine lv_aload_n hx hb jd_charAt_0 rfl (lv_at hl 0 rfl) ?_
  refine jk_go (va_runV (As := []) (rest := []) hfix (jk_isLatin1 l (sa := sa) (A := A) hi) ⟨(jk_cwS 0 hts (tg tw_481 rfl) (tg tw_14 rfl) (tg tw_478 rfl) (by decide +kernel) (by decide +kernel) (Nat.le_of_ble_eq_true rfl) (Nat.le_of_ble_eq_true rfl)), hts _ (tg tw_479 rfl), hts _ (tg tw_480 rfl)⟩ ⟨jk_blind, vk_recv hK hi hS, jk_pre hE hA hS⟩ rfl rfl hl.1 rfl (lv_room (Nat.le_of_ble_eq_true rfl)) (by rw [hb]; exact jd_charAt_1) ⟨Nat.le_of_ble_eq_true rfl, Nat.le_of_ble_eq_true rfl⟩) (fun L hL => ?_)
  have hS := jk_S hS hL
  refine lv_if_eq (tgt := 16) hx hb jd_charAt_4 rfl (fun h => absurd h (by decide)) (fun _ => ?_)
  refine lv_aload_n hx hb jd_charAt_7 rfl (lv_at hl 0 rfl) ?_
  refine vk_getf hx hb (hK.1 i hi).2.2.1 hS hown (hts _ (tg tw_2080 rfl)) (fun _ h => h) jd_charAt_8 ?_
  refine lv_iload_n hx hb jd_charAt_11 rfl (lv_at hl 1 rfl) ?_
  refine jk_go (va_runS (As := [.ref (sa (1500000 + (i : Int))), .int k]) (rest := []) hfix (jk_lcharAt l (sa := sa) (A := A) hi h1 h2) ⟨(jk_cwS 2 hts (tg tw_484 rfl) (tg tw_15 rfl) (tg tw_482 rfl) (by decide +kernel) (by decide +kernel) (Nat.le_of_ble_eq_true rfl) (Nat.le_of_ble_eq_true rfl)), hts _ (tg tw_483 rfl)⟩ ⟨jk_blind, jk_pre hE hA hS⟩ rfl rfl hl.1 rfl (lv_room (Nat.le_of_ble_eq_true rfl)) (by rw [hb]; exact jd_charAt_12) ⟨Nat.le_of_ble_eq_true rfl, Nat.le_of_ble_eq_true rfl⟩) (fun L hL => ?_)
  have hS := jk_S hS hL
  have hq := (jk_byt i hi).2.2 k.toInt.toNat (by omega)
  exact W.zret hx hb hr (jk_char hq.1 hq.2) (fun t ht hW => ⟨rfl, ht⟩) hS.2.2 jd_charAt_15 hlocks
