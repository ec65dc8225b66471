/-! METHODS: a call of the small machine is a contract of the great one -/
theorem am_vals_len {ad : List Nat} {sa : Int → Nat} : ∀ (l : List am_V) (m : List Value), am_vals ad sa l m → l.length = m.length
  | [], [], _ => rfl
  | _ :: l, _ :: m, h => by simp only [List.length_cons]; rw [am_vals_len l m h.2]
  | [], _ :: _, h => h.elim
  | _ :: _, [], h => h.elim
theorem am_vals_take {ad : List Nat} {sa : Int → Nat} : ∀ (n : Nat) (l : List am_V) (m : List Value), am_vals ad sa l m → am_vals ad sa (l.take n) (m.take n) ∧ am_vals ad sa (l.drop n) (m.drop n)
  | 0, l, m, h => ⟨by simp only [List.take_zero]; exact trivial, by simp only [List.drop_zero]; exact h⟩
  | n + 1, [], [], _ => ⟨trivial, trivial⟩
  | n + 1, v :: l, w :: m, h => by
    obtain ⟨h1, h2⟩ := am_vals_take n l m h.2
    exact ⟨⟨h.1, h1⟩, h2⟩
  | _ + 1, [], _ :: _, h => h.elim
  | _ + 1, _ :: _, [], h => h.elim
theorem am_vals_append {ad : List Nat} {sa : Int → Nat} : ∀ (l : List am_V) (m : List Value) (l' : List am_V) (m' : List Value), am_vals ad sa l m → am_vals ad sa l' m' → am_vals ad sa (l ++ l') (m ++ m')
  | [], [], _, _, _, h => h
  | _ :: l, _ :: m, l', m', h, h' => ⟨h.1, am_vals_append l m l' m' h.2 h'⟩
  | [], _ :: _, _, _, h, _ => h.elim
  | _ :: _, [], _, _, h, _ => h.elim
theorem am_vals_rev {ad : List Nat} {sa : Int → Nat} : ∀ (l : List am_V) (m : List Value), am_vals ad sa l m → am_vals ad sa l.reverse m.reverse
  | [], [], _ => trivial
  | v :: l, w :: m, h => by
    rw [List.reverse_cons, List.reverse_cons]
    exact am_vals_append _ _ _ _ (am_vals_rev l m h.2) ⟨h.1, trivial⟩
  | [], _ :: _, h => h.elim
  | _ :: _, [], h => h.elim
theorem am_val_cat {ad : List Nat} {sa : Int → Nat} {v : am_V} {w : Value} (h : am_val ad sa v w) : w.category = am_cat v ∧ v.1 < 3 := by
  unfold am_val at h
  unfold am_cat
  split at h
  · rename_i h3
    obtain ⟨z, rfl, -⟩ := h
    rw [h3]; exact ⟨rfl, by decide⟩
  · rename_i h3
    obtain ⟨z, rfl, -⟩ := h
    rw [h3]; exact ⟨rfl, by decide⟩
  · rename_i h3
    obtain ⟨-, rfl⟩ := h
    rw [h3, am_rf_cat]; exact ⟨rfl, by decide⟩
  · exact h.elim
theorem am_args_cons (v : am_V) (l : List am_V) : am_args (v :: l) = if v.1 = 1 then v :: (3, 0) :: am_args l else v :: am_args l := by
  obtain ⟨t, x⟩ := v
  by_cases h : t = 1
  · subst h; rfl
  · rw [if_neg h]
    generalize hr : am_args l = r
    unfold am_args
    split
    · rename_i heq; cases heq
    · rename_i heq; cases heq; exact absurd rfl h
    · rename_i heq; cases heq; rw [hr]
/-- the values given lie in the locals -/
theorem am_entry {ad : List Nat} {sa : Int → Nat} : ∀ (vs : List am_V) (wv : List Value) (i : Nat), am_vals ad sa vs wv → (am_args vs).length = (lg_sl wv).length ∧ ∀ (k : Nat) (v : am_V), (am_args vs)[k]? = some v → v.1 < 3 → ∃ w, (i + k, w) ∈ lv_args i wv ∧ am_val ad sa v w
  | [], [], i, _ => ⟨rfl, fun k v h _ => by simp [am_args] at h⟩
  | v :: l, w :: m, i, h => by
    obtain ⟨hv, hl⟩ := h
    obtain ⟨hc, hv3⟩ := am_val_cat hv
    rw [am_args_cons]
    unfold lv_args
    by_cases h1 : v.1 = 1
    · have hc2 : w.category = 2 := by rw [hc]; unfold am_cat; rw [if_pos h1]
      obtain ⟨e1, e2⟩ := am_entry l m (i + 2) hl
      rw [if_pos h1, if_pos hc2]
      refine ⟨?_, fun k u hk hu => ?_⟩
      · simp only [List.length_cons, lg_sl, List.flatMap_cons, hc2, if_true, List.length_append, List.length_nil]
        have e3 : (List.flatMap (fun v : Value => if v.category = 2 then [Slot.val v, Slot.second] else [Slot.val v]) m).length = (lg_sl m).length := rfl
        omega
      · match k with
        | 0 => cases hk; exact ⟨w, List.mem_cons_self, hv⟩
        | 1 => cases hk; exact absurd hu (by decide)
        | k + 2 =>
          obtain ⟨w', h5, h6⟩ := e2 k u hk hu
          exact ⟨w', List.mem_cons_of_mem _ (by rw [show i + (k + 2) = i + 2 + k by omega]; exact h5), h6⟩
    · have hc2 : ¬ w.category = 2 := by rw [hc]; unfold am_cat; rw [if_neg h1]; decide
      obtain ⟨e1, e2⟩ := am_entry l m (i + 1) hl
      rw [if_neg h1, if_neg hc2]
      refine ⟨?_, fun k u hk hu => ?_⟩
      · simp only [List.length_cons, lg_sl, List.flatMap_cons, hc2, if_false, List.length_append, List.length_nil]
        have e3 : (List.flatMap (fun v : Value => if v.category = 2 then [Slot.val v, Slot.second] else [Slot.val v]) m).length = (lg_sl m).length := rfl
        omega
      · match k with
        | 0 => cases hk; exact ⟨w, List.mem_cons_self, hv⟩
        | k + 1 =>
          obtain ⟨w', h5, h6⟩ := e2 k u hk hu
          exact ⟨w', List.mem_cons_of_mem _ (by rw [show i + (k + 1) = i + 1 + k by omega]; exact h5), h6⟩
  | [], _ :: _, _, h => h.elim
  | _ :: _, [], _, h => h.elim
theorem am_entry_lo {ad : List Nat} {sa : Int → Nat} {vs : List am_V} {wv : List Value} {mx : Nat} (h : am_vals ad sa vs wv) (hm : (am_args vs).length ≤ mx) : am_lo ad sa mx (am_init mx vs) ((lg_sl wv ++ List.replicate (mx - (lg_sl wv).length) Slot.unset).toArray) := by
  obtain ⟨e1, e2⟩ := am_entry vs wv 0 h
  refine ⟨lv_args 0 wv, lv_entry wv (by omega), ?_, fun k v hk hv => ?_⟩
  · unfold am_init
    rw [List.length_append, List.length_replicate]
    omega
  · unfold am_init at hk
    by_cases hkl : k < (am_args vs).length
    · rw [List.getElem?_append_left hkl] at hk
      obtain ⟨w, h1, h2⟩ := e2 k v hk hv
      exact ⟨w, by rw [Nat.zero_add] at h1; exact h1, h2⟩
    · rw [List.getElem?_append_right (by omega)] at hk
      have := List.eq_of_mem_replicate (List.mem_of_getElem? hk)
      subst this
      exact absurd hv (by decide)
theorem am_Wd_moved {P : am_P} {D : va_G} {cl : List vw_C} {A : Nat → Prop} {sa : Int → Nat} {sc : Int → Int → Int} {a0 : List Nat} {s U : State} {ad : List Nat} {tys : List (ClassId × FieldType)} {ws : va_W} {S : am_S} {M : am_M} {H : Heap} {locs : List Loc} (h : am_Wd P D cl A sa sc a0 s ad tys ws S M H locs) (hvm : s.vm.Alike U.vm) (hU : U.heap = H) : am_Wd P D cl A sa sc a0 U ad tys ws S M U.heap [] := by
  obtain ⟨hK, hP, hD, hS, hr⟩ := h
  exact ⟨va_K.moved hvm hK, by rw [hU]; exact hP, hD, va_S.rf, hr⟩
/-- a contract's start and end -/
def am_Pre (P : am_P) (D : va_G) (cl : List vw_C) (A : Nat → Prop) (sa : Int → Nat) (sc : Int → Int → Int) (En : State → Prop) (ad : List Nat) (tys : List (ClassId × FieldType)) (ws : va_W) (S : am_S) (M : am_M) (wv : List Value) : Array Value → State → Prop := fun a U => a = wv.toArray ∧ En U ∧ (∀ q, U.heap.size ≤ q → A q) ∧ am_Wd P D cl A sa sc ad U ad tys ws S M U.heap []
def am_Post (P : am_P) (D : va_G) (cl : List vw_C) (A : Nat → Prop) (sa : Int → Nat) (sc : Int → Int → Int) (ad : List Nat) (v : Option am_V) (S' : am_S) (M' : am_M) : Array Value → State → Outcome → State → Prop := fun _ st o t =>
  ∃ (w : Option Value) (x : List Nat) (tys' : List (ClassId × FieldType)) (ws' : va_W), o = .returned w ∧ am_res (ad ++ x) sa v w ∧ am_Wd P D cl A sa sc ad t (ad ++ x) tys' ws' S' M' t.heap [] ∧ va_F A st t
theorem am_Pre_blind {P : am_P} {D : va_G} {cl : List vw_C} {A : Nat → Prop} {sa : Int → Nat} {sc : Int → Int → Int} {En : State → Prop} (hbl : ∀ (a : Array Value) (U : State) (g : JFrame) (mk : MethodId), En U → En (U.calling g mk a)) {ad : List Nat} {tys : List (ClassId × FieldType)} {ws : va_W} {S : am_S} {M : am_M} {wv : List Value} : FrameBlind (am_Pre P D cl A sa sc En ad tys ws S M wv) := by
  intro a U g mk h
  obtain ⟨h1, h2, h3, h4⟩ := h
  exact ⟨h1, hbl a U g mk h2, h3, am_Wd_moved (U := U.calling g mk a) h4 (Vm.Alike.refl U.vm) rfl⟩
section AMC
variable {P : am_P} {D : va_G} {cl : List vw_C} {A : Nat → Prop} {sa : Int → Nat} {sc : Int → Int → Int} {a0 : List Nat} {nL c0 s0 : Nat} {p : Program} {l : Launch} {e : Env} {R : Room} {s : State} {m : MethodId} {args : Array Value} {below : List Frame} {meth : Method} {c : Code} {Q : State → Prop} {pc : Nat} {L st : List am_V} {S : am_S} {M : am_M}
/-- behind a call -/
theorem am_back_of {ad : List Nat} {tys : List (ClassId × FieldType)} {ws : va_W} {H : Heap} {locs : List Loc} {cells slots mc ms : Nat} {ls : Array Slot} {st0 rest : List Value} {a : Array Value} {v : Option am_V} {rst : List am_V} {S' : am_S} {M' : am_M}
    (hr : va_Run p l e R s m args below meth c H locs cells slots mc ms (F0 m pc ls st0) rest (am_Post P D cl A sa sc ad v S' M' a) A) (hW : am_Wd P D cl A sa sc a0 s ad tys ws S M H locs) (hrest : am_vals ad sa rst rest) (hlo : am_lo ad sa nL L ls) (h1 : cells + mc + c0 = S'.length) (h2 : slots + ms + s0 = am_sz S')
    (kk : am_At P D cl A sa sc a0 nL c0 s0 p l e R s m args below meth c Q (pc + 3) L (v.toList ++ rst) S' M') : W p l e R s m args below meth c H locs cells slots Q (F0 m pc ls st0) := by
  intro T hT X
  obtain ⟨v0, st₀, t, T', L', h0, X', hL, e1, e2, ⟨w, x, tys', ws', hv, hres, hWt, hz, hk⟩, hst⟩ := hr T hT X
  cases hv
  rw [h0] at hz hk
  obtain ⟨hKt, hPt, hDt, -, hr1, hr2, hr3, hr4, hr5⟩ := hWt
  have hS := hW.2.2.2.1
  have hWs : am_Wd P D cl A sa sc a0 s (ad ++ x) tys' ws' S' M' T'.heap (locs ++ L') := by
    refine ⟨va_K.moved (by rw [← e2]; exact X'.warmed.alike.symm) hKt, by rw [e1]; exact hPt, hDt, ⟨Nat.le_trans hS.1 (by rw [e1]; exact hz), fun q q1 q2 => ?_, fun q hq => ?_⟩, hr1, hr2, hr3, hr4, hW.2.2.2.2.2.2.2.2.1.trans hr5.1, hr5.2⟩
    · rw [e1, hk q (Nat.lt_of_lt_of_le q1 hS.1) q2]
      exact hS.2.1 q q1 q2
    · rcases List.mem_append.mp hq with h | h
      · exact hS.2.2 q h
      · exact hL q h
  have hvals : am_vals (ad ++ x) sa (v.toList ++ rst) (v0.toList ++ rest) := by
    unfold am_res at hres
    split at hres
    · exact am_vals_app x _ _ hrest
    · exact ⟨hres, am_vals_app x _ _ hrest⟩
    · exact hres.elim
  obtain ⟨t2, a1, b1⟩ := kk (ad ++ x) tys' ws' T'.heap (locs ++ L') (cells + mc) (slots + ms) ls (v0.toList ++ rest) hWs hvals (am_lo_app hlo x) h1 h2 T' rfl X'
  exact ⟨t2, hst t2 a1, b1⟩
end AMC
