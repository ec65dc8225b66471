/-! EACH ROW OF THE SMALL MACHINE IS ONE OF THE GREAT ONE'S: numbers, locals, the stack, branches -/
/-- what the code says beside its instructions: lengths, ranges, places -/
def am_okI (nL pc : Nat) (i : Instr) (len : Nat) : Bool := match i with
  | .iconst n => len == 1 && decide (-2147483648 ≤ n ∧ n < 2147483648)
  | .bipush n => len == 2 && decide (-128 ≤ n ∧ n < 128)
  | .sipush n => len == 3 && decide (-32768 ≤ n ∧ n < 32768)
  | .iload_n k | .lload_n k | .aload_n k => len == 1 && decide ((k : Nat) < nL)
  | .iload k | .lload k | .aload k => len == 2 && decide (k < nL)
  | .istore_n k | .astore_n k => len == 1 && decide ((k : Nat) < nL)
  | .istore k | .astore k => len == 2 && decide (k < nL)
  | .lstore_n k => len == 1 && decide ((k : Nat) + 1 < nL)
  | .lstore k => len == 2 && decide (k + 1 < nL)
  | .iinc k n => len == 3 && decide (k < nL) && decide (-2147483648 ≤ n ∧ n < 2147483648)
  | .ifCond _ o | .if_icmp _ o | .ifnull o | .ifnonnull o | .goto o => len == 3 && decide (0 ≤ (pc : Int) + o)
  | .ldc _ | .newarray _ => len == 2
  | .ldc_w _ | .ldc2_w _ | .getstatic _ | .getfield _ | .putfield _ | .anewarray _ | .new _ | .invokevirtual _ | .invokestatic _ | .invokespecial _ => len == 3
  | .tableswitch d _ _ offs => decide (0 ≤ (pc : Int) + d) && offs.toList.all (fun o => decide (0 ≤ (pc : Int) + o))
  | .lookupswitch d ps => decide (0 ≤ (pc : Int) + d) && ps.toList.all (fun q => decide (0 ≤ (pc : Int) + q.2)) && (ps.toList.zip (ps.toList.drop 1)).all (fun (a, next) => a.1 < next.1)
  | _ => len == 1
def am_At (P : am_P) (D : va_G) (cl : List vw_C) (A : Nat → Prop) (sa : Int → Nat) (sc : Int → Int → Int) (a0 : List Nat) (nL c0 s0 : Nat) (p : Program) (l : Launch) (e : Env) (R : Room) (s : State) (m : MethodId) (args : Array Value) (below : List Frame) (meth : Method) (c : Code) (Q : State → Prop) (pc : Nat) (L st : List am_V) (S : am_S) (M : am_M) : Prop :=
  ∀ (ad : List Nat) (tys : List (ClassId × FieldType)) (ws : va_W) (H : Heap) (locs : List Loc) (cells slots : Nat) (ls : Array Slot) (stv : List Value), am_Wd P D cl A sa sc a0 s ad tys ws S M H locs → am_vals ad sa st stv → am_lo ad sa nL L ls → cells + c0 = S.length → slots + s0 = am_sz S → W p l e R s m args below meth c H locs cells slots Q (F0 m pc ls stv)
theorem am_v0 {ad : List Nat} {sa : Int → Nat} {x : Int} {t : List am_V} {stv : List Value} (h : am_vals ad sa ((0, x) :: t) stv) : ∃ (z : Int32) (t' : List Value), stv = .int z :: t' ∧ z.toInt = x ∧ am_vals ad sa t t' := by
  cases stv with
  | nil => exact h.elim
  | cons w t' =>
    obtain ⟨⟨z, h1, h2⟩, h3⟩ := h
    exact ⟨z, t', by rw [h1], h2, h3⟩
theorem am_v1 {ad : List Nat} {sa : Int → Nat} {x : Int} {t : List am_V} {stv : List Value} (h : am_vals ad sa ((1, x) :: t) stv) : ∃ (z : Int64) (t' : List Value), stv = .long z :: t' ∧ z.toInt = x ∧ am_vals ad sa t t' := by
  cases stv with
  | nil => exact h.elim
  | cons w t' =>
    obtain ⟨⟨z, h1, h2⟩, h3⟩ := h
    exact ⟨z, t', by rw [h1], h2, h3⟩
theorem am_v2 {ad : List Nat} {sa : Int → Nat} {x : Int} {t : List am_V} {stv : List Value} (h : am_vals ad sa ((2, x) :: t) stv) : ∃ (t' : List Value), stv = am_rf ad sa x :: t' ∧ am_rok ad x ∧ am_vals ad sa t t' := by
  cases stv with
  | nil => exact h.elim
  | cons w t' =>
    obtain ⟨⟨h1, h2⟩, h3⟩ := h
    exact ⟨t', by rw [h2], h1, h3⟩
theorem am_i0 {ad : List Nat} {sa : Int → Nat} {z : Int32} {x : Int} {t : List am_V} {t' : List Value} (h : z.toInt = x) (ht : am_vals ad sa t t') : am_vals ad sa ((0, x) :: t) (.int z :: t') := ⟨⟨z, rfl, h⟩, ht⟩
theorem am_i1 {ad : List Nat} {sa : Int → Nat} {z : Int64} {x : Int} {t : List am_V} {t' : List Value} (h : z.toInt = x) (ht : am_vals ad sa t t') : am_vals ad sa ((1, x) :: t) (.long z :: t') := ⟨⟨z, rfl, h⟩, ht⟩
theorem am_i2 {ad : List Nat} {sa : Int → Nat} {x : Int} {t : List am_V} {t' : List Value} (h : am_rok ad x) (ht : am_vals ad sa t t') : am_vals ad sa ((2, x) :: t) (am_rf ad sa x :: t') := ⟨⟨h, rfl⟩, ht⟩
theorem am_rf_cat {ad : List Nat} {sa : Int → Nat} {a : Int} : (am_rf ad sa a).category = 1 := by
  unfold am_rf; split <;> rfl
theorem am_lo_get {ad : List Nat} {sa : Int → Nat} {nL : Nat} {L : List am_V} {ls : Array Slot} {k : Nat} {v : am_V} (h : am_lo ad sa nL L ls) (hk : L[k]? = some v) (hv : v.1 < 3) : ∃ w, ls[k]? = some (.val w) ∧ am_val ad sa v w := by
  obtain ⟨lv, h1, h2, h3⟩ := h
  obtain ⟨w, h4, h5⟩ := h3 k v hk hv
  exact ⟨w, h1.2.2 _ h4, h5⟩
theorem am_kill_len (L : List am_V) (k : Nat) : (am_kill L k).length = L.length := by
  unfold am_kill
  split
  · rfl
  · split
    · simp
    · rfl
/-- what stays in the locals when the k-th is written -/
theorem am_kill_get {L : List am_V} {k j : Nat} {v : am_V} (h : (am_kill L k)[j]? = some v) (hv : v.1 < 3) : L[j]? = some v ∧ ¬ (j + 1 = k ∧ v.1 = 1) := by
  unfold am_kill at h
  split at h
  · exact ⟨h, fun q => by omega⟩
  · rename_i k'
    split at h
    · rename_i y hy
      by_cases hj : k' = j
      · subst hj
        rw [List.getElem?_set_self (List.getElem?_eq_some_iff.mp hy).1] at h
        cases h
        exact absurd hv (by decide)
      · rw [List.getElem?_set_ne hj] at h
        exact ⟨h, fun q => hj (by omega)⟩
    · rename_i hn
      refine ⟨h, fun q => ?_⟩
      have e1 : j = k' := by omega
      subst e1
      obtain ⟨v1, v2⟩ := v
      have e2 : v1 = 1 := q.2
      subst e2
      exact hn v2 h
theorem am_lo_st1 {ad : List Nat} {sa : Int → Nat} {nL : Nat} {L : List am_V} {ls : Array Slot} {k : Nat} {v : am_V} {w : Value} (h : am_lo ad sa nL L ls) (hv : am_val ad sa v w) : ∃ lv, lv_has ls nL lv ∧ ∀ ls', lv_has ls' nL ((k, w) :: lv.filter (fun q => !(q.1 == k) && !(q.1 + 1 == k && q.2.category == 2))) → am_lo ad sa nL (am_st L k v) ls' := by
  obtain ⟨lv, h1, h2, h3⟩ := h
  refine ⟨lv, h1, fun ls' h4 => ⟨_, h4, by unfold am_st; rw [List.length_set, am_kill_len]; exact h2, fun j u hj hu => ?_⟩⟩
  unfold am_st at hj
  by_cases hjk : k = j
  · subst hjk
    have hlt : k < (am_kill L k).length := by
      have := (List.getElem?_eq_some_iff.mp hj).1
      rwa [List.length_set] at this
    rw [List.getElem?_set_self hlt] at hj
    cases hj
    exact ⟨w, List.mem_cons_self, hv⟩
  · rw [List.getElem?_set_ne hjk] at hj
    obtain ⟨h5, h6⟩ := am_kill_get hj hu
    obtain ⟨w', h7, h8⟩ := h3 j u h5 hu
    refine ⟨w', List.mem_cons_of_mem _ (List.mem_filter.mpr ⟨h7, ?_⟩), h8⟩
    have hcat : w'.category = 2 → u.1 = 1 := by
      intro hc
      unfold am_val at h8
      split at h8
      · obtain ⟨z, rfl, -⟩ := h8; cases hc
      · assumption
      · obtain ⟨-, rfl⟩ := h8; rw [am_rf_cat] at hc; cases hc
      · exact h8.elim
    have hjk' : ¬ j = k := fun q => hjk q.symm
    by_cases hc : w'.category = 2
    · have : ¬ j + 1 = k := fun q => h6 ⟨q, hcat hc⟩
      simp [hjk', this]
    · simp [hjk', hc]
theorem am_lo_st2 {ad : List Nat} {sa : Int → Nat} {nL : Nat} {L : List am_V} {ls : Array Slot} {k : Nat} {v : am_V} {w : Value} (h : am_lo ad sa nL L ls) (hv : am_val ad sa v w) : ∃ lv, lv_has ls nL lv ∧ ∀ ls', lv_has ls' nL ((k, w) :: lv.filter (fun q => !(q.1 == k) && (!(q.1 == k + 1) && !(q.1 + 1 == k && q.2.category == 2)))) → am_lo ad sa nL (am_st2 L k v) ls' := by
  obtain ⟨lv, h1, h2, h3⟩ := h
  refine ⟨lv, h1, fun ls' h4 => ⟨_, h4, by unfold am_st2; rw [List.length_set, List.length_set, am_kill_len]; exact h2, fun j u hj hu => ?_⟩⟩
  unfold am_st2 at hj
  have hjk1 : ¬ k + 1 = j := by
    intro q
    subst q
    have hlt := (List.getElem?_eq_some_iff.mp hj).1
    rw [List.length_set] at hlt
    rw [List.getElem?_set_self hlt] at hj
    cases hj
    exact absurd hu (by decide)
  rw [List.getElem?_set_ne hjk1] at hj
  by_cases hjk : k = j
  · subst hjk
    have hlt : k < (am_kill L k).length := by
      have := (List.getElem?_eq_some_iff.mp hj).1
      rwa [List.length_set] at this
    rw [List.getElem?_set_self hlt] at hj
    cases hj
    exact ⟨w, List.mem_cons_self, hv⟩
  · rw [List.getElem?_set_ne hjk] at hj
    obtain ⟨h5, h6⟩ := am_kill_get hj hu
    obtain ⟨w', h7, h8⟩ := h3 j u h5 hu
    refine ⟨w', List.mem_cons_of_mem _ (List.mem_filter.mpr ⟨h7, ?_⟩), h8⟩
    have hcat : w'.category = 2 → u.1 = 1 := by
      intro hc
      unfold am_val at h8
      split at h8
      · obtain ⟨z, rfl, -⟩ := h8; cases hc
      · assumption
      · obtain ⟨-, rfl⟩ := h8; rw [am_rf_cat] at hc; cases hc
      · exact h8.elim
    have hjk' : ¬ j = k := fun q => hjk q.symm
    have hjk2 : ¬ j = k + 1 := fun q => hjk1 q.symm
    by_cases hc : w'.category = 2
    · have : ¬ j + 1 = k := fun q => h6 ⟨q, hcat hc⟩
      simp [hjk', hjk2, this]
    · simp [hjk', hjk2, hc]
section AMR
variable {P : am_P} {D : va_G} {cl : List vw_C} {A : Nat → Prop} {sa : Int → Nat} {sc : Int → Int → Int} {a0 : List Nat} {nL c0 s0 : Nat} {p : Program} {l : Launch} {e : Env} {R : Room} {s : State} {m : MethodId} {args : Array Value} {below : List Frame} {meth : Method} {c : Code} {Q : State → Prop} {cc : ByteArray} {pc len : Nat} {L st : List am_V} {S : am_S} {M : am_M}
/-- a number of one slot is put on the stack -/
theorem am_push0 {x : Int} {z : Int32} (hz : z.toInt = x) (row : ∀ (H : Heap) (locs : List Loc) (cells slots : Nat) (ls : Array Slot) (rest : List Value), W p l e R s m args below meth c H locs cells slots Q (F0 m (pc + len) ls (.int z :: rest)) → W p l e R s m args below meth c H locs cells slots Q (F0 m pc ls rest))
    (h : am_At P D cl A sa sc a0 nL c0 s0 p l e R s m args below meth c Q (pc + len) L ((0, x) :: st) S M) : am_At P D cl A sa sc a0 nL c0 s0 p l e R s m args below meth c Q pc L st S M :=
  fun ad tys ws H locs cells slots ls stv hW hst hlo h1 h2 => row _ _ _ _ _ _ (h ad tys ws H locs cells slots ls _ hW (am_i0 hz hst) hlo h1 h2)
theorem am_push1 {x : Int} {z : Int64} (hz : z.toInt = x) (row : ∀ (H : Heap) (locs : List Loc) (cells slots : Nat) (ls : Array Slot) (rest : List Value), W p l e R s m args below meth c H locs cells slots Q (F0 m (pc + len) ls (.long z :: rest)) → W p l e R s m args below meth c H locs cells slots Q (F0 m pc ls rest))
    (h : am_At P D cl A sa sc a0 nL c0 s0 p l e R s m args below meth c Q (pc + len) L ((1, x) :: st) S M) : am_At P D cl A sa sc a0 nL c0 s0 p l e R s m args below meth c Q pc L st S M :=
  fun ad tys ws H locs cells slots ls stv hW hst hlo h1 h2 => row _ _ _ _ _ _ (h ad tys ws H locs cells slots ls _ hW (am_i1 hz hst) hlo h1 h2)
/-- two numbers are made one -/
theorem am_bin0 {x y v : Int} {f : Int32 → Int32 → Int32} (hf : ∀ a b : Int32, a.toInt = x → b.toInt = y → (f a b).toInt = v) (row : ∀ (a b : Int32), a.toInt = x → b.toInt = y → ∀ (H : Heap) (locs : List Loc) (cells slots : Nat) (ls : Array Slot) (rest : List Value), W p l e R s m args below meth c H locs cells slots Q (F0 m (pc + 1) ls (.int (f a b) :: rest)) → W p l e R s m args below meth c H locs cells slots Q (F0 m pc ls (.int b :: .int a :: rest)))
    (h : am_At P D cl A sa sc a0 nL c0 s0 p l e R s m args below meth c Q (pc + 1) L ((0, v) :: st) S M) : am_At P D cl A sa sc a0 nL c0 s0 p l e R s m args below meth c Q pc L ((0, y) :: (0, x) :: st) S M := by
  intro ad tys ws H locs cells slots ls stv hW hst hlo h1 h2
  obtain ⟨b, t', rfl, hb, ht⟩ := am_v0 hst
  obtain ⟨a, t'', rfl, ha, ht⟩ := am_v0 ht
  exact row a b ha hb _ _ _ _ _ _ (h ad tys ws H locs cells slots ls _ hW (am_i0 (hf a b ha hb) ht) hlo h1 h2)
theorem am_bin1 {x y v : Int} {f : Int64 → Int64 → Int64} (hf : ∀ a b : Int64, a.toInt = x → b.toInt = y → (f a b).toInt = v) (row : ∀ (a b : Int64), a.toInt = x → b.toInt = y → ∀ (H : Heap) (locs : List Loc) (cells slots : Nat) (ls : Array Slot) (rest : List Value), W p l e R s m args below meth c H locs cells slots Q (F0 m (pc + 1) ls (.long (f a b) :: rest)) → W p l e R s m args below meth c H locs cells slots Q (F0 m pc ls (.long b :: .long a :: rest)))
    (h : am_At P D cl A sa sc a0 nL c0 s0 p l e R s m args below meth c Q (pc + 1) L ((1, v) :: st) S M) : am_At P D cl A sa sc a0 nL c0 s0 p l e R s m args below meth c Q pc L ((1, y) :: (1, x) :: st) S M := by
  intro ad tys ws H locs cells slots ls stv hW hst hlo h1 h2
  obtain ⟨b, t', rfl, hb, ht⟩ := am_v1 hst
  obtain ⟨a, t'', rfl, ha, ht⟩ := am_v1 ht
  exact row a b ha hb _ _ _ _ _ _ (h ad tys ws H locs cells slots ls _ hW (am_i1 (hf a b ha hb) ht) hlo h1 h2)
/-- a local is read -/
theorem am_get0 {k : Nat} {x : Int} (hk : L[k]? = some (0, x)) (row : ∀ (z : Int32) (H : Heap) (locs : List Loc) (cells slots : Nat) (ls : Array Slot) (rest : List Value), ls[k]? = some (.val (.int z)) → W p l e R s m args below meth c H locs cells slots Q (F0 m (pc + len) ls (.int z :: rest)) → W p l e R s m args below meth c H locs cells slots Q (F0 m pc ls rest))
    (h : am_At P D cl A sa sc a0 nL c0 s0 p l e R s m args below meth c Q (pc + len) L ((0, x) :: st) S M) : am_At P D cl A sa sc a0 nL c0 s0 p l e R s m args below meth c Q pc L st S M := by
  intro ad tys ws H locs cells slots ls stv hW hst hlo h1 h2
  obtain ⟨w, hw, z, rfl, hz⟩ := am_lo_get hlo hk (Nat.lt_of_sub_eq_succ rfl)
  exact row z _ _ _ _ _ _ hw (h ad tys ws H locs cells slots ls _ hW (am_i0 hz hst) hlo h1 h2)
theorem am_get1 {k : Nat} {x : Int} (hk : L[k]? = some (1, x)) (row : ∀ (z : Int64) (H : Heap) (locs : List Loc) (cells slots : Nat) (ls : Array Slot) (rest : List Value), ls[k]? = some (.val (.long z)) → W p l e R s m args below meth c H locs cells slots Q (F0 m (pc + len) ls (.long z :: rest)) → W p l e R s m args below meth c H locs cells slots Q (F0 m pc ls rest))
    (h : am_At P D cl A sa sc a0 nL c0 s0 p l e R s m args below meth c Q (pc + len) L ((1, x) :: st) S M) : am_At P D cl A sa sc a0 nL c0 s0 p l e R s m args below meth c Q pc L st S M := by
  intro ad tys ws H locs cells slots ls stv hW hst hlo h1 h2
  obtain ⟨w, hw, z, rfl, hz⟩ := am_lo_get hlo hk (Nat.lt_of_sub_eq_succ rfl)
  exact row z _ _ _ _ _ _ hw (h ad tys ws H locs cells slots ls _ hW (am_i1 hz hst) hlo h1 h2)
theorem am_get2 {k : Nat} {x : Int} (hk : L[k]? = some (2, x)) (row : ∀ (z : Value) (H : Heap) (locs : List Loc) (cells slots : Nat) (ls : Array Slot) (rest : List Value), (z = .null ∨ ∃ a, z = .ref a) → ls[k]? = some (.val z) → W p l e R s m args below meth c H locs cells slots Q (F0 m (pc + len) ls (z :: rest)) → W p l e R s m args below meth c H locs cells slots Q (F0 m pc ls rest))
    (h : am_At P D cl A sa sc a0 nL c0 s0 p l e R s m args below meth c Q (pc + len) L ((2, x) :: st) S M) : am_At P D cl A sa sc a0 nL c0 s0 p l e R s m args below meth c Q pc L st S M := by
  intro ad tys ws H locs cells slots ls stv hW hst hlo h1 h2
  obtain ⟨w, hw, hok, rfl⟩ := am_lo_get hlo hk (Nat.lt_of_sub_eq_succ rfl)
  refine row _ _ _ _ _ _ _ ?_ hw (h ad tys ws H locs cells slots ls _ hW (am_i2 hok hst) hlo h1 h2)
  unfold am_rf
  split
  · exact Or.inl rfl
  · exact Or.inr ⟨_, rfl⟩
/-- a local is written -/
theorem am_put0 {k : Nat} {x : Int} (row : ∀ (z : Int32) (lv lv' : List (Nat × Value)) (H : Heap) (locs : List Loc) (cells slots : Nat) (ls : Array Slot) (rest : List Value), lv_has ls nL lv → (k, Value.int z) :: lv.filter (fun q => !(q.1 == k) && !(q.1 + 1 == k && q.2.category == 2)) = lv' → (∀ ls' : Array Slot, lv_has ls' nL lv' → W p l e R s m args below meth c H locs cells slots Q (F0 m (pc + len) ls' rest)) → W p l e R s m args below meth c H locs cells slots Q (F0 m pc ls (.int z :: rest)))
    (h : am_At P D cl A sa sc a0 nL c0 s0 p l e R s m args below meth c Q (pc + len) (am_st L k (0, x)) st S M) : am_At P D cl A sa sc a0 nL c0 s0 p l e R s m args below meth c Q pc L ((0, x) :: st) S M := by
  intro ad tys ws H locs cells slots ls stv hW hst hlo h1 h2
  obtain ⟨z, t', rfl, hz, ht⟩ := am_v0 hst
  obtain ⟨lv, hl, hl'⟩ := am_lo_st1 (k := k) (v := (0, x)) (w := .int z) hlo ⟨z, rfl, hz⟩
  exact row z lv _ _ _ _ _ _ _ hl rfl fun ls' h3 => h ad tys ws H locs cells slots ls' _ hW ht (hl' ls' h3) h1 h2
theorem am_put1 {k : Nat} {x : Int} (row : ∀ (z : Int64) (lv lv' : List (Nat × Value)) (H : Heap) (locs : List Loc) (cells slots : Nat) (ls : Array Slot) (rest : List Value), lv_has ls nL lv → (k, Value.long z) :: lv.filter (fun q => !(q.1 == k) && (!(q.1 == k + 1) && !(q.1 + 1 == k && q.2.category == 2))) = lv' → (∀ ls' : Array Slot, lv_has ls' nL lv' → W p l e R s m args below meth c H locs cells slots Q (F0 m (pc + len) ls' rest)) → W p l e R s m args below meth c H locs cells slots Q (F0 m pc ls (.long z :: rest)))
    (h : am_At P D cl A sa sc a0 nL c0 s0 p l e R s m args below meth c Q (pc + len) (am_st2 L k (1, x)) st S M) : am_At P D cl A sa sc a0 nL c0 s0 p l e R s m args below meth c Q pc L ((1, x) :: st) S M := by
  intro ad tys ws H locs cells slots ls stv hW hst hlo h1 h2
  obtain ⟨z, t', rfl, hz, ht⟩ := am_v1 hst
  obtain ⟨lv, hl, hl'⟩ := am_lo_st2 (k := k) (v := (1, x)) (w := .long z) hlo ⟨z, rfl, hz⟩
  exact row z lv _ _ _ _ _ _ _ hl rfl fun ls' h3 => h ad tys ws H locs cells slots ls' _ hW ht (hl' ls' h3) h1 h2
theorem am_put2 {k : Nat} {x : Int} (row : ∀ (z : Value) (lv lv' : List (Nat × Value)) (H : Heap) (locs : List Loc) (cells slots : Nat) (ls : Array Slot) (rest : List Value), (z = .null ∨ ∃ a, z = .ref a) → lv_has ls nL lv → (k, z) :: lv.filter (fun q => !(q.1 == k) && !(q.1 + 1 == k && q.2.category == 2)) = lv' → (∀ ls' : Array Slot, lv_has ls' nL lv' → W p l e R s m args below meth c H locs cells slots Q (F0 m (pc + len) ls' rest)) → W p l e R s m args below meth c H locs cells slots Q (F0 m pc ls (z :: rest)))
    (h : am_At P D cl A sa sc a0 nL c0 s0 p l e R s m args below meth c Q (pc + len) (am_st L k (2, x)) st S M) : am_At P D cl A sa sc a0 nL c0 s0 p l e R s m args below meth c Q pc L ((2, x) :: st) S M := by
  intro ad tys ws H locs cells slots ls stv hW hst hlo h1 h2
  obtain ⟨t', rfl, hok, ht⟩ := am_v2 hst
  obtain ⟨lv, hl, hl'⟩ := am_lo_st1 (k := k) (v := (2, x)) (w := am_rf ad sa x) hlo ⟨hok, rfl⟩
  refine row _ lv _ _ _ _ _ _ _ ?_ hl rfl fun ls' h3 => h ad tys ws H locs cells slots ls' _ hW ht (hl' ls' h3) h1 h2
  unfold am_rf
  split
  · exact Or.inl rfl
  · exact Or.inr ⟨_, rfl⟩
/-- a branch -/
theorem am_br1 {x : Int} {b : Prop} {tgt : Nat} (row : ∀ (z : Int32), z.toInt = x → ∀ (H : Heap) (locs : List Loc) (cells slots : Nat) (ls : Array Slot) (rest : List Value), (b → W p l e R s m args below meth c H locs cells slots Q (F0 m tgt ls rest)) → (¬ b → W p l e R s m args below meth c H locs cells slots Q (F0 m (pc + 3) ls rest)) → W p l e R s m args below meth c H locs cells slots Q (F0 m pc ls (.int z :: rest)))
    (h : am_if b (am_At P D cl A sa sc a0 nL c0 s0 p l e R s m args below meth c Q tgt L st S M) (am_At P D cl A sa sc a0 nL c0 s0 p l e R s m args below meth c Q (pc + 3) L st S M)) : am_At P D cl A sa sc a0 nL c0 s0 p l e R s m args below meth c Q pc L ((0, x) :: st) S M := by
  intro ad tys ws H locs cells slots ls stv hW hst hlo h1 h2
  obtain ⟨z, t', rfl, hz, ht⟩ := am_v0 hst
  exact row z hz _ _ _ _ _ _ (fun q => h.1 q ad tys ws H locs cells slots ls _ hW ht hlo h1 h2) (fun q => h.2 q ad tys ws H locs cells slots ls _ hW ht hlo h1 h2)
theorem am_br2 {x y : Int} {b : Prop} {tgt : Nat} (row : ∀ (z w : Int32), z.toInt = x → w.toInt = y → ∀ (H : Heap) (locs : List Loc) (cells slots : Nat) (ls : Array Slot) (rest : List Value), (b → W p l e R s m args below meth c H locs cells slots Q (F0 m tgt ls rest)) → (¬ b → W p l e R s m args below meth c H locs cells slots Q (F0 m (pc + 3) ls rest)) → W p l e R s m args below meth c H locs cells slots Q (F0 m pc ls (.int w :: .int z :: rest)))
    (h : am_if b (am_At P D cl A sa sc a0 nL c0 s0 p l e R s m args below meth c Q tgt L st S M) (am_At P D cl A sa sc a0 nL c0 s0 p l e R s m args below meth c Q (pc + 3) L st S M)) : am_At P D cl A sa sc a0 nL c0 s0 p l e R s m args below meth c Q pc L ((0, y) :: (0, x) :: st) S M := by
  intro ad tys ws H locs cells slots ls stv hW hst hlo h1 h2
  obtain ⟨w, t', rfl, hw, ht⟩ := am_v0 hst
  obtain ⟨z, t'', rfl, hz, ht⟩ := am_v0 ht
  exact row z w hz hw _ _ _ _ _ _ (fun q => h.1 q ad tys ws H locs cells slots ls _ hW ht hlo h1 h2) (fun q => h.2 q ad tys ws H locs cells slots ls _ hW ht hlo h1 h2)
end AMR
