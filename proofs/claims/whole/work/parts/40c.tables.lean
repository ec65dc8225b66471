/-! pools (printed) -/
def tb_strs : List (String × Nat × String × Int) := [(RX3, 59, "dread dreamer fears guide meet shun byday home laugh spite", 1000000), (RX3, 110, "brave", 1000001), (RX3, 126, "of", 1000002), (RX5, 44, "first last often total most least", 1000003), (RX5, 73, "or", 1000004), (RX5, 85, "and", 1000005), (RX5, 87, "not", 1000006), (RX5, 104, "all", 1000007), (RX8, 75, "room dread worst sum many weigh min max", 1000008), (RX8, 77, "weigh worst sum many number brave min max", 1000009), (RX9, 87, "dread dreamer brave fears guide of meet shun byday home laugh spite weigh worst sum many number min max", 1000010)]
def tb_sts : List (String × String × String × Int) := [("NightDoors", "FIRST_NAME", "[I", 2000000), ("NightDoors", "DREAM_STEPS", "[I", 2000001), ("NightDoors", "QUESTION_STEPS", "[I", 2000002)]
def tb_rows : List (List Int32) := [[0, 6, 10, 14], [(-20), (-21), (-22), (-23), (-24), (-25), (-5), (-6)], [(-26), (-24), (-21), (-22), (-23), (-13), (-5), (-6)]]
def tb_len : List Nat := [58, 5, 2, 33, 2, 3, 3, 3, 39, 41, 103]
def tb_byt : List (List Int32) := [[100, 114, 101, 97, 100, 32, 100, 114, 101, 97, 109, 101, 114, 32, 102, 101, 97, 114, 115, 32, 103, 117, 105, 100, 101, 32, 109, 101, 101, 116, 32, 115, 104, 117, 110, 32, 98, 121, 100, 97, 121, 32, 104, 111, 109, 101, 32, 108, 97, 117, 103, 104, 32, 115, 112, 105, 116, 101],
  [98, 114, 97, 118, 101],
  [111, 102],
  [102, 105, 114, 115, 116, 32, 108, 97, 115, 116, 32, 111, 102, 116, 101, 110, 32, 116, 111, 116, 97, 108, 32, 109, 111, 115, 116, 32, 108, 101, 97, 115, 116],
  [111, 114],
  [97, 110, 100],
  [110, 111, 116],
  [97, 108, 108],
  [114, 111, 111, 109, 32, 100, 114, 101, 97, 100, 32, 119, 111, 114, 115, 116, 32, 115, 117, 109, 32, 109, 97, 110, 121, 32, 119, 101, 105, 103, 104, 32, 109, 105, 110, 32, 109, 97, 120],
  [119, 101, 105, 103, 104, 32, 119, 111, 114, 115, 116, 32, 115, 117, 109, 32, 109, 97, 110, 121, 32, 110, 117, 109, 98, 101, 114, 32, 98, 114, 97, 118, 101, 32, 109, 105, 110, 32, 109, 97, 120],
  [100, 114, 101, 97, 100, 32, 100, 114, 101, 97, 109, 101, 114, 32, 98, 114, 97, 118, 101, 32, 102, 101, 97, 114, 115, 32, 103, 117, 105, 100, 101, 32, 111, 102, 32, 109, 101, 101, 116, 32, 115, 104, 117, 110, 32, 98, 121, 100, 97, 121, 32, 104, 111, 109, 101, 32, 108, 97, 117, 103, 104, 32, 115, 112, 105, 116, 101, 32, 119, 101, 105, 103, 104, 32, 119, 111, 114, 115, 116, 32, 115, 117, 109, 32, 109, 97, 110, 121, 32, 110, 117, 109, 98, 101, 114, 32, 109, 105, 110, 32, 109, 97, 120]]
def tb_En (A : Nat → Prop) (sa : Int → Nat) (s : State) : Prop := (∀ w ∈ tb_nw, va_Nw w s) ∧ (∀ q ∈ tb_strs, vk_R q.1 q.2.1 q.2.2.1 (sa q.2.2.2) s) ∧ (∀ q ∈ tb_sts, va_Z q.1 q.2.1 q.2.2.1 (.ref (sa q.2.2.2)) A s s.heap) ∧ (∀ k : Nat, k < 3 → va_T .int (sa (2000000 + (k : Int))) (tb_rows.getD k []).length (fun j => .int ((tb_rows.getD k []).getD j 0)) A s s.heap) ∧ va_AO RX7 s ∧ va_Z "java/lang/String" "COMPACT_STRINGS" "Z" (.int 1) A s s.heap ∧ va_Zq "jdk/internal/util/Preconditions" "SIOOBE_FORMATTER" "Ljava/util/function/BiFunction;" A s s.heap ∧ vk_S 11 tb_len tb_byt (fun i => sa (1000000 + (i : Int))) (fun i => sa (1500000 + (i : Int))) A s s.heap
def tb_Le (own : Nat) : Nat × Nat × Nat × Int → Prop := fun (ix, kd, mid, n) => (kd = 2 ∨ kd = 12 ∨ kd = 13) → tb_Lf kd mid n ∧ (Cond.methodLink (tb_nmf own) ix (tb_ym mid) ∈ tb_TT ∨ ∃ host, Cond.methodLinkNest (tb_nmf own) ix (tb_ym mid) host ∈ tb_nw)
def tb_G (off : Nat → Int → Option Int) (ln : Int → Option Nat) (fx : Bool) (A : Nat → Prop) (sa : Int → Nat) (oc : String) (args : Array Value) (s : State) : Nat × Nat × Nat × Int → Prop := fun (ix, kd, a, n) => match kd with
  | 1 => am_Fk (tb_P off ln fx) tb_cl tb_TT oc args s ix a n false ∧ off a n = none
  | 8 => am_Fk (tb_P off ln fx) tb_cl tb_TT oc args s ix a n true ∧ (∀ o, off a n = some o → pg_tag a n = 2)
  | 11 => am_Fk (tb_P off ln fx) tb_cl tb_TT oc args s ix a n true ∧ (∀ o, off a n = some o → pg_tag a n = 2) ∧ ∃ C T N, tb_cl[a]? = some (C, T, N) ∧ ∀ j : Nat, (j : Int) = n → (T j).1 = oc ∧ (Cond.fieldLink oc ix (T j).1 (T j).2.1 (T j).2.2.1).before args s = true
  | 3 => am_Ck (tb_P off ln fx) tb_cl tb_TT oc args s ix a
  | 10 => am_Ak tb_cl oc args s ix a
  | 14 => am_Ck (tb_P off ln fx) tb_cl tb_TT oc args s ix a ∧ am_Ak tb_cl oc args s ix a
  | 4 => ∃ v : Int32, (Cond.constant oc ix v).before args s = true ∧ v.toInt = n
  | 5 => ∃ v : Int64, (Cond.constantLong oc ix v).before args s = true ∧ v.toInt = n
  | 6 => 1000000 ≤ n ∧ ∃ tx, vk_R oc ix tx (sa n) s
  | 7 => 1000000 ≤ n ∧ ∃ C nm d, va_Z C nm d (.ref (sa n)) A s s.heap ∧ ((Cond.fieldLink oc ix C nm d).before args s = true ∨ ∃ host, (Cond.fieldLinkNest oc ix C nm d host).before args s = true)
  | 9 => am_Ok oc args s ix
  | _ => True
/-- where nothing lies in a place of its own, or where all does -/
def tb_of (off : Nat → Int → Option Int) : Prop := (∀ ci f, off ci f = none) ∨ off = pg_off
theorem of_none {off : Nat → Int → Option Int} (h : tb_of off) {a : Nat} {n : Int} (q : pg_off a n = none) : off a n = none := by
  rcases h with h | h
  · exact h a n
  · rw [h]; exact q
theorem of_tag {off : Nat → Int → Option Int} (h : tb_of off) {a : Nat} {n : Int} (q : pg_off a n = none ∨ pg_tag a n = 2) : ∀ o, off a n = some o → pg_tag a n = 2 := by
  intro o ho
  rcases q with q | q
  · rw [of_none h q] at ho; cases ho
  · exact q
theorem nw_use {A : Nat → Prop} {sa : Int → Nat} {s : State} {args : Array Value} (hE : tb_En A sa s) {w : Cond} (h : w ∈ tb_nw) (ho : w.onTables = true) : w.before args s = true := va_Nw.use ho (hE.1 w h)
theorem le_0_3 : tb_Le 0 (3, 9, 0, 0) := fun h => absurd h (by decide)
set_option maxRecDepth 20000 in
theorem pk_0_3 {off : Nat → Int → Option Int} {ln : Int → Option Nat} {fx : Bool} {A : Nat → Prop} {sa : Int → Nat} {args : Array Value} {s : State} (ho : tb_of off) (hts : ∀ w ∈ tb_TT, w.before args s = true) (hE : tb_En A sa s) : tb_G off ln fx A sa RX0 args s (3, 9, 0, 0) := ⟨hts _ (tg tw_225 rfl), hts _ (tg tw_27 rfl), hts _ (tg tw_28 rfl)⟩
theorem le_0_9 : tb_Le 0 (9, 12, 167, 1) := fun _ => ⟨lf_12_167, Or.inr ⟨_, tn tw_226 rfl⟩⟩
set_option maxRecDepth 20000 in
theorem pk_0_9 {off : Nat → Int → Option Int} {ln : Int → Option Nat} {fx : Bool} {A : Nat → Prop} {sa : Int → Nat} {args : Array Value} {s : State} (ho : tb_of off) (hts : ∀ w ∈ tb_TT, w.before args s = true) (hE : tb_En A sa s) : tb_G off ln fx A sa RX0 args s (9, 12, 167, 1) := trivial
theorem le_0_13 : tb_Le 0 (13, 11, 0, 0) := fun h => absurd h (by decide)
set_option maxRecDepth 20000 in
theorem pk_0_13 {off : Nat → Int → Option Int} {ln : Int → Option Nat} {fx : Bool} {A : Nat → Prop} {sa : Int → Nat} {args : Array Value} {s : State} (ho : tb_of off) (hts : ∀ w ∈ tb_TT, w.before args s = true) (hE : tb_En A sa s) : tb_G off ln fx A sa RX0 args s (13, 11, 0, 0) := ⟨fk_0 0 (by decide) rfl (Or.inl (hts _ (tg tw_227 rfl))), of_tag ho (Or.inr rfl), _, _, _, rfl, fun j hj => by
    have : j = 0 := by omega
    subst this
    exact ⟨rfl, hts _ (tg tw_227 rfl)⟩⟩
theorem le_0_19 : tb_Le 0 (19, 1, 0, 1) := fun h => absurd h (by decide)
set_option maxRecDepth 20000 in
theorem pk_0_19 {off : Nat → Int → Option Int} {ln : Int → Option Nat} {fx : Bool} {A : Nat → Prop} {sa : Int → Nat} {args : Array Value} {s : State} (ho : tb_of off) (hts : ∀ w ∈ tb_TT, w.before args s = true) (hE : tb_En A sa s) : tb_G off ln fx A sa RX0 args s (19, 1, 0, 1) := ⟨fk_0 1 (by decide) rfl (Or.inl (hts _ (tg tw_228 rfl))), of_none ho rfl⟩
theorem le_0_23 : tb_Le 0 (23, 1, 0, 2) := fun h => absurd h (by decide)
set_option maxRecDepth 20000 in
theorem pk_0_23 {off : Nat → Int → Option Int} {ln : Int → Option Nat} {fx : Bool} {A : Nat → Prop} {sa : Int → Nat} {args : Array Value} {s : State} (ho : tb_of off) (hts : ∀ w ∈ tb_TT, w.before args s = true) (hE : tb_En A sa s) : tb_G off ln fx A sa RX0 args s (23, 1, 0, 2) := ⟨fk_0 2 (by decide) rfl (Or.inl (hts _ (tg tw_229 rfl))), of_none ho rfl⟩
theorem le_0_26 : tb_Le 0 (26, 2, 71, 2) := fun _ => ⟨lf_2_71, Or.inl (tg tw_1056 rfl)⟩
set_option maxRecDepth 20000 in
theorem pk_0_26 {off : Nat → Int → Option Int} {ln : Int → Option Nat} {fx : Bool} {A : Nat → Prop} {sa : Int → Nat} {args : Array Value} {s : State} (ho : tb_of off) (hts : ∀ w ∈ tb_TT, w.before args s = true) (hE : tb_En A sa s) : tb_G off ln fx A sa RX0 args s (26, 2, 71, 2) := trivial
theorem le_0_32 : tb_Le 0 (32, 12, 318, 2) := fun _ => ⟨lf_12_318, Or.inl (tg tw_1057 rfl)⟩
set_option maxRecDepth 20000 in
theorem pk_0_32 {off : Nat → Int → Option Int} {ln : Int → Option Nat} {fx : Bool} {A : Nat → Prop} {sa : Int → Nat} {args : Array Value} {s : State} (ho : tb_of off) (hts : ∀ w ∈ tb_TT, w.before args s = true) (hE : tb_En A sa s) : tb_G off ln fx A sa RX0 args s (32, 12, 318, 2) := trivial
theorem le_0_38 : tb_Le 0 (38, 12, 316, 2) := fun _ => ⟨lf_12_316, Or.inl (tg tw_1093 rfl)⟩
set_option maxRecDepth 20000 in
theorem pk_0_38 {off : Nat → Int → Option Int} {ln : Int → Option Nat} {fx : Bool} {A : Nat → Prop} {sa : Int → Nat} {args : Array Value} {s : State} (ho : tb_of off) (hts : ∀ w ∈ tb_TT, w.before args s = true) (hE : tb_En A sa s) : tb_G off ln fx A sa RX0 args s (38, 12, 316, 2) := trivial
theorem le_0_41 : tb_Le 0 (41, 1, 7, 1) := fun h => absurd h (by decide)
set_option maxRecDepth 20000 in
theorem pk_0_41 {off : Nat → Int → Option Int} {ln : Int → Option Nat} {fx : Bool} {A : Nat → Prop} {sa : Int → Nat} {args : Array Value} {s : State} (ho : tb_of off) (hts : ∀ w ∈ tb_TT, w.before args s = true) (hE : tb_En A sa s) : tb_G off ln fx A sa RX0 args s (41, 1, 7, 1) := ⟨fk_7 1 (by decide) rfl (Or.inr ⟨_, nw_use hE (tn tw_207 rfl) rfl⟩), of_none ho rfl⟩
set_option maxRecDepth 20000 in
theorem le_0 : ∀ e ∈ pl_0, tb_Le 0 e := List.forall_mem_cons.mpr ⟨le_0_3, List.forall_mem_cons.mpr ⟨le_0_9, List.forall_mem_cons.mpr ⟨le_0_13, List.forall_mem_cons.mpr ⟨le_0_19, List.forall_mem_cons.mpr ⟨le_0_23, List.forall_mem_cons.mpr ⟨le_0_26, List.forall_mem_cons.mpr ⟨le_0_32, List.forall_mem_cons.mpr ⟨le_0_38, List.forall_mem_cons.mpr ⟨le_0_41, (fun _ h => absurd h (by simp))⟩⟩⟩⟩⟩⟩⟩⟩⟩
set_option maxRecDepth 20000 in
theorem pk_0 {off : Nat → Int → Option Int} {ln : Int → Option Nat} {fx : Bool} {A : Nat → Prop} {sa : Int → Nat} {args : Array Value} {s : State} (ho : tb_of off) (hts : ∀ w ∈ tb_TT, w.before args s = true) (hE : tb_En A sa s) : ∀ e ∈ pl_0, tb_G off ln fx A sa RX0 args s e := List.forall_mem_cons.mpr ⟨pk_0_3 ho hts hE, List.forall_mem_cons.mpr ⟨pk_0_9 ho hts hE, List.forall_mem_cons.mpr ⟨pk_0_13 ho hts hE, List.forall_mem_cons.mpr ⟨pk_0_19 ho hts hE, List.forall_mem_cons.mpr ⟨pk_0_23 ho hts hE, List.forall_mem_cons.mpr ⟨pk_0_26 ho hts hE, List.forall_mem_cons.mpr ⟨pk_0_32 ho hts hE, List.forall_mem_cons.mpr ⟨pk_0_38 ho hts hE, List.forall_mem_cons.mpr ⟨pk_0_41 ho hts hE, (fun _ h => absurd h (by simp))⟩⟩⟩⟩⟩⟩⟩⟩⟩
theorem le_1_3 : tb_Le 1 (3, 9, 0, 0) := fun h => absurd h (by decide)
set_option maxRecDepth 20000 in
theorem pk_1_3 {off : Nat → Int → Option Int} {ln : Int → Option Nat} {fx : Bool} {A : Nat → Prop} {sa : Int → Nat} {args : Array Value} {s : State} (ho : tb_of off) (hts : ∀ w ∈ tb_TT, w.before args s = true) (hE : tb_En A sa s) : tb_G off ln fx A sa RX1 args s (3, 9, 0, 0) := ⟨hts _ (tg tw_243 rfl), hts _ (tg tw_27 rfl), hts _ (tg tw_28 rfl)⟩
theorem le_1_9 : tb_Le 1 (9, 11, 1, 0) := fun h => absurd h (by decide)
set_option maxRecDepth 20000 in
theorem pk_1_9 {off : Nat → Int → Option Int} {ln : Int → Option Nat} {fx : Bool} {A : Nat → Prop} {sa : Int → Nat} {args : Array Value} {s : State} (ho : tb_of off) (hts : ∀ w ∈ tb_TT, w.before args s = true) (hE : tb_En A sa s) : tb_G off ln fx A sa RX1 args s (9, 11, 1, 0) := ⟨fk_1 0 (by decide) rfl (Or.inl (hts _ (tg tw_246 rfl))), of_tag ho (Or.inr rfl), _, _, _, rfl, fun j hj => by
    have : j = 0 := by omega
    subst this
    exact ⟨rfl, hts _ (tg tw_246 rfl)⟩⟩
theorem le_1_15 : tb_Le 1 (15, 11, 1, 1) := fun h => absurd h (by decide)
set_option maxRecDepth 20000 in
theorem pk_1_15 {off : Nat → Int → Option Int} {ln : Int → Option Nat} {fx : Bool} {A : Nat → Prop} {sa : Int → Nat} {args : Array Value} {s : State} (ho : tb_of off) (hts : ∀ w ∈ tb_TT, w.before args s = true) (hE : tb_En A sa s) : tb_G off ln fx A sa RX1 args s (15, 11, 1, 1) := ⟨fk_1 1 (by decide) rfl (Or.inl (hts _ (tg tw_248 rfl))), of_tag ho (Or.inr rfl), _, _, _, rfl, fun j hj => by
    have : j = 1 := by omega
    subst this
    exact ⟨rfl, hts _ (tg tw_248 rfl)⟩⟩
theorem le_1_18 : tb_Le 1 (18, 1, 1, 2) := fun h => absurd h (by decide)
set_option maxRecDepth 20000 in
theorem pk_1_18 {off : Nat → Int → Option Int} {ln : Int → Option Nat} {fx : Bool} {A : Nat → Prop} {sa : Int → Nat} {args : Array Value} {s : State} (ho : tb_of off) (hts : ∀ w ∈ tb_TT, w.before args s = true) (hE : tb_En A sa s) : tb_G off ln fx A sa RX1 args s (18, 1, 1, 2) := ⟨fk_1 2 (by decide) rfl (Or.inl (hts _ (tg tw_249 rfl))), of_none ho rfl⟩
theorem le_1_22 : tb_Le 1 (22, 1, 1, 3) := fun h => absurd h (by decide)
set_option maxRecDepth 20000 in
theorem pk_1_22 {off : Nat → Int → Option Int} {ln : Int → Option Nat} {fx : Bool} {A : Nat → Prop} {sa : Int → Nat} {args : Array Value} {s : State} (ho : tb_of off) (hts : ∀ w ∈ tb_TT, w.before args s = true) (hE : tb_En A sa s) : tb_G off ln fx A sa RX1 args s (22, 1, 1, 3) := ⟨fk_1 3 (by decide) rfl (Or.inl (hts _ (tg tw_252 rfl))), of_none ho rfl⟩
theorem le_1_26 : tb_Le 1 (26, 3, 7, 0) := fun h => absurd h (by decide)
set_option maxRecDepth 20000 in
theorem pk_1_26 {off : Nat → Int → Option Int} {ln : Int → Option Nat} {fx : Bool} {A : Nat → Prop} {sa : Int → Nat} {args : Array Value} {s : State} (ho : tb_of off) (hts : ∀ w ∈ tb_TT, w.before args s = true) (hE : tb_En A sa s) : tb_G off ln fx A sa RX1 args s (26, 3, 7, 0) := ⟨RX7, TX7, 3, tyX7, rfl, rfl, uw_7, tyX7_ok, at_7, hts _ (tg tw_244 rfl), hts _ (tg tw_199 rfl), hts _ (tg tw_8 rfl)⟩
theorem le_1_28 : tb_Le 1 (28, 13, 70, 1) := fun _ => ⟨lf_13_70, Or.inr ⟨_, tn tw_245 rfl⟩⟩
set_option maxRecDepth 20000 in
theorem pk_1_28 {off : Nat → Int → Option Int} {ln : Int → Option Nat} {fx : Bool} {A : Nat → Prop} {sa : Int → Nat} {args : Array Value} {s : State} (ho : tb_of off) (hts : ∀ w ∈ tb_TT, w.before args s = true) (hE : tb_En A sa s) : tb_G off ln fx A sa RX1 args s (28, 13, 70, 1) := trivial
theorem le_1_29 : tb_Le 1 (29, 11, 1, 4) := fun h => absurd h (by decide)
set_option maxRecDepth 20000 in
theorem pk_1_29 {off : Nat → Int → Option Int} {ln : Int → Option Nat} {fx : Bool} {A : Nat → Prop} {sa : Int → Nat} {args : Array Value} {s : State} (ho : tb_of off) (hts : ∀ w ∈ tb_TT, w.before args s = true) (hE : tb_En A sa s) : tb_G off ln fx A sa RX1 args s (29, 11, 1, 4) := ⟨fk_1 4 (by decide) rfl (Or.inl (hts _ (tg tw_254 rfl))), of_tag ho (Or.inr rfl), _, _, _, rfl, fun j hj => by
    have : j = 4 := by omega
    subst this
    exact ⟨rfl, hts _ (tg tw_254 rfl)⟩⟩
theorem le_1_33 : tb_Le 1 (33, 11, 1, 5) := fun h => absurd h (by decide)
set_option maxRecDepth 20000 in
theorem pk_1_33 {off : Nat → Int → Option Int} {ln : Int → Option Nat} {fx : Bool} {A : Nat → Prop} {sa : Int → Nat} {args : Array Value} {s : State} (ho : tb_of off) (hts : ∀ w ∈ tb_TT, w.before args s = true) (hE : tb_En A sa s) : tb_G off ln fx A sa RX1 args s (33, 11, 1, 5) := ⟨fk_1 5 (by decide) rfl (Or.inl (hts _ (tg tw_255 rfl))), of_tag ho (Or.inr rfl), _, _, _, rfl, fun j hj => by
    have : j = 5 := by omega
    subst this
    exact ⟨rfl, hts _ (tg tw_255 rfl)⟩⟩
theorem le_1_36 : tb_Le 1 (36, 2, 71, 2) := fun _ => ⟨lf_2_71, Or.inl (tg tw_854 rfl)⟩
set_option maxRecDepth 20000 in
theorem pk_1_36 {off : Nat → Int → Option Int} {ln : Int → Option Nat} {fx : Bool} {A : Nat → Prop} {sa : Int → Nat} {args : Array Value} {s : State} (ho : tb_of off) (hts : ∀ w ∈ tb_TT, w.before args s = true) (hE : tb_En A sa s) : tb_G off ln fx A sa RX1 args s (36, 2, 71, 2) := trivial
theorem le_1_40 : tb_Le 1 (40, 2, 79, 3) := fun _ => ⟨lf_2_79, Or.inl (tg tw_858 rfl)⟩
set_option maxRecDepth 20000 in
theorem pk_1_40 {off : Nat → Int → Option Int} {ln : Int → Option Nat} {fx : Bool} {A : Nat → Prop} {sa : Int → Nat} {args : Array Value} {s : State} (ho : tb_of off) (hts : ∀ w ∈ tb_TT, w.before args s = true) (hE : tb_En A sa s) : tb_G off ln fx A sa RX1 args s (40, 2, 79, 3) := trivial
theorem le_1_44 : tb_Le 1 (44, 2, 31, 2) := fun _ => ⟨lf_2_31, Or.inl (tg tw_862 rfl)⟩
set_option maxRecDepth 20000 in
theorem pk_1_44 {off : Nat → Int → Option Int} {ln : Int → Option Nat} {fx : Bool} {A : Nat → Prop} {sa : Int → Nat} {args : Array Value} {s : State} (ho : tb_of off) (hts : ∀ w ∈ tb_TT, w.before args s = true) (hE : tb_En A sa s) : tb_G off ln fx A sa RX1 args s (44, 2, 31, 2) := trivial
theorem le_1_49 : tb_Le 1 (49, 2, 34, 3) := fun _ => ⟨lf_2_34, Or.inl (tg tw_863 rfl)⟩
set_option maxRecDepth 20000 in
theorem pk_1_49 {off : Nat → Int → Option Int} {ln : Int → Option Nat} {fx : Bool} {A : Nat → Prop} {sa : Int → Nat} {args : Array Value} {s : State} (ho : tb_of off) (hts : ∀ w ∈ tb_TT, w.before args s = true) (hE : tb_En A sa s) : tb_G off ln fx A sa RX1 args s (49, 2, 34, 3) := trivial
theorem le_1_53 : tb_Le 1 (53, 2, 7, 3) := fun _ => ⟨lf_2_7, Or.inl (tg tw_899 rfl)⟩
set_option maxRecDepth 20000 in
theorem pk_1_53 {off : Nat → Int → Option Int} {ln : Int → Option Nat} {fx : Bool} {A : Nat → Prop} {sa : Int → Nat} {args : Array Value} {s : State} (ho : tb_of off) (hts : ∀ w ∈ tb_TT, w.before args s = true) (hE : tb_En A sa s) : tb_G off ln fx A sa RX1 args s (53, 2, 7, 3) := trivial
theorem le_1_57 : tb_Le 1 (57, 2, 10, 2) := fun _ => ⟨lf_2_10, Or.inl (tg tw_998 rfl)⟩
set_option maxRecDepth 20000 in
theorem pk_1_57 {off : Nat → Int → Option Int} {ln : Int → Option Nat} {fx : Bool} {A : Nat → Prop} {sa : Int → Nat} {args : Array Value} {s : State} (ho : tb_of off) (hts : ∀ w ∈ tb_TT, w.before args s = true) (hE : tb_En A sa s) : tb_G off ln fx A sa RX1 args s (57, 2, 10, 2) := trivial
theorem le_1_61 : tb_Le 1 (61, 2, 32, 4) := fun _ => ⟨lf_2_32, Or.inl (tg tw_1004 rfl)⟩
set_option maxRecDepth 20000 in
theorem pk_1_61 {off : Nat → Int → Option Int} {ln : Int → Option Nat} {fx : Bool} {A : Nat → Prop} {sa : Int → Nat} {args : Array Value} {s : State} (ho : tb_of off) (hts : ∀ w ∈ tb_TT, w.before args s = true) (hE : tb_En A sa s) : tb_G off ln fx A sa RX1 args s (61, 2, 32, 4) := trivial
theorem le_1_65 : tb_Le 1 (65, 2, 73, 3) := fun _ => ⟨lf_2_73, Or.inl (tg tw_1005 rfl)⟩
set_option maxRecDepth 20000 in
theorem pk_1_65 {off : Nat → Int → Option Int} {ln : Int → Option Nat} {fx : Bool} {A : Nat → Prop} {sa : Int → Nat} {args : Array Value} {s : State} (ho : tb_of off) (hts : ∀ w ∈ tb_TT, w.before args s = true) (hE : tb_En A sa s) : tb_G off ln fx A sa RX1 args s (65, 2, 73, 3) := trivial
theorem le_1_69 : tb_Le 1 (69, 2, 14, 2) := fun _ => ⟨lf_2_14, Or.inl (tg tw_1002 rfl)⟩
set_option maxRecDepth 20000 in
theorem pk_1_69 {off : Nat → Int → Option Int} {ln : Int → Option Nat} {fx : Bool} {A : Nat → Prop} {sa : Int → Nat} {args : Array Value} {s : State} (ho : tb_of off) (hts : ∀ w ∈ tb_TT, w.before args s = true) (hE : tb_En A sa s) : tb_G off ln fx A sa RX1 args s (69, 2, 14, 2) := trivial
theorem le_1_72 : tb_Le 1 (72, 2, 72, 2) := fun _ => ⟨lf_2_72, Or.inl (tg tw_1003 rfl)⟩
set_option maxRecDepth 20000 in
theorem pk_1_72 {off : Nat → Int → Option Int} {ln : Int → Option Nat} {fx : Bool} {A : Nat → Prop} {sa : Int → Nat} {args : Array Value} {s : State} (ho : tb_of off) (hts : ∀ w ∈ tb_TT, w.before args s = true) (hE : tb_En A sa s) : tb_G off ln fx A sa RX1 args s (72, 2, 72, 2) := trivial
set_option maxRecDepth 20000 in
theorem le_1 : ∀ e ∈ pl_1, tb_Le 1 e := List.forall_mem_cons.mpr ⟨le_1_3, List.forall_mem_cons.mpr ⟨le_1_9, List.forall_mem_cons.mpr ⟨le_1_15, List.forall_mem_cons.mpr ⟨le_1_18, List.forall_mem_cons.mpr ⟨le_1_22, List.forall_mem_cons.mpr ⟨le_1_26, List.forall_mem_cons.mpr ⟨le_1_28, List.forall_mem_cons.mpr ⟨le_1_29, List.forall_mem_cons.mpr ⟨le_1_33, List.forall_mem_cons.mpr ⟨le_1_36, List.forall_mem_cons.mpr ⟨le_1_40, List.forall_mem_cons.mpr ⟨le_1_44, List.forall_mem_cons.mpr ⟨le_1_49, List.forall_mem_cons.mpr ⟨le_1_53, List.forall_mem_cons.mpr ⟨le_1_57, List.forall_mem_cons.mpr ⟨le_1_61, List.forall_mem_cons.mpr ⟨le_1_65, List.forall_mem_cons.mpr ⟨le_1_69, List.forall_mem_cons.mpr ⟨le_1_72, (fun _ h => absurd h (by simp))⟩⟩⟩⟩⟩⟩⟩⟩⟩⟩⟩⟩⟩⟩⟩⟩⟩⟩⟩
set_option maxRecDepth 20000 in
theorem pk_1 {off : Nat → Int → Option Int} {ln : Int → Option Nat} {fx : Bool} {A : Nat → Prop} {sa : Int → Nat} {args : Array Value} {s : State} (ho : tb_of off) (hts : ∀ w ∈ tb_TT, w.before args s = true) (hE : tb_En A sa s) : ∀ e ∈ pl_1, tb_G off ln fx A sa RX1 args s e := List.forall_mem_cons.mpr ⟨pk_1_3 ho hts hE, List.forall_mem_cons.mpr ⟨pk_1_9 ho hts hE, List.forall_mem_cons.mpr ⟨pk_1_15 ho hts hE, List.forall_mem_cons.mpr ⟨pk_1_18 ho hts hE, List.forall_mem_cons.mpr ⟨pk_1_22 ho hts hE, List.forall_mem_cons.mpr ⟨pk_1_26 ho hts hE, List.forall_mem_cons.mpr ⟨pk_1_28 ho hts hE, List.forall_mem_cons.mpr ⟨pk_1_29 ho hts hE, List.forall_mem_cons.mpr ⟨pk_1_33 ho hts hE, List.forall_mem_cons.mpr ⟨pk_1_36 ho hts hE, List.forall_mem_cons.mpr ⟨pk_1_40 ho hts hE, List.forall_mem_cons.mpr ⟨pk_1_44 ho hts hE, List.forall_mem_cons.mpr ⟨pk_1_49 ho hts hE, List.forall_mem_cons.mpr ⟨pk_1_53 ho hts hE, List.forall_mem_cons.mpr ⟨pk_1_57 ho hts hE, List.forall_mem_cons.mpr ⟨pk_1_61 ho hts hE, List.forall_mem_cons.mpr ⟨pk_1_65 ho hts hE, List.forall_mem_cons.mpr ⟨pk_1_69 ho hts hE, List.forall_mem_cons.mpr ⟨pk_1_72 ho hts hE, (fun _ h => absurd h (by simp))⟩⟩⟩⟩⟩⟩⟩⟩⟩⟩⟩⟩⟩⟩⟩⟩⟩⟩⟩
theorem le_2_3 : tb_Le 2 (3, 9, 0, 0) := fun h => absurd h (by decide)
set_option maxRecDepth 20000 in
theorem pk_2_3 {off : Nat → Int → Option Int} {ln : Int → Option Nat} {fx : Bool} {A : Nat → Prop} {sa : Int → Nat} {args : Array Value} {s : State} (ho : tb_of off) (hts : ∀ w ∈ tb_TT, w.before args s = true) (hE : tb_En A sa s) : tb_G off ln fx A sa RX2 args s (3, 9, 0, 0) := ⟨hts _ (tg tw_148 rfl), hts _ (tg tw_27 rfl), hts _ (tg tw_28 rfl)⟩
theorem le_2_9 : tb_Le 2 (9, 11, 2, 0) := fun h => absurd h (by decide)
set_option maxRecDepth 20000 in
theorem pk_2_9 {off : Nat → Int → Option Int} {ln : Int → Option Nat} {fx : Bool} {A : Nat → Prop} {sa : Int → Nat} {args : Array Value} {s : State} (ho : tb_of off) (hts : ∀ w ∈ tb_TT, w.before args s = true) (hE : tb_En A sa s) : tb_G off ln fx A sa RX2 args s (9, 11, 2, 0) := ⟨fk_2 0 (by decide) rfl (Or.inl (hts _ (tg tw_151 rfl))), of_tag ho (Or.inr rfl), _, _, _, rfl, fun j hj => by
    have : j = 0 := by omega
    subst this
    exact ⟨rfl, hts _ (tg tw_151 rfl)⟩⟩
theorem le_2_15 : tb_Le 2 (15, 11, 2, 1) := fun h => absurd h (by decide)
set_option maxRecDepth 20000 in
theorem pk_2_15 {off : Nat → Int → Option Int} {ln : Int → Option Nat} {fx : Bool} {A : Nat → Prop} {sa : Int → Nat} {args : Array Value} {s : State} (ho : tb_of off) (hts : ∀ w ∈ tb_TT, w.before args s = true) (hE : tb_En A sa s) : tb_G off ln fx A sa RX2 args s (15, 11, 2, 1) := ⟨fk_2 1 (by decide) rfl (Or.inl (hts _ (tg tw_152 rfl))), of_tag ho (Or.inr rfl), _, _, _, rfl, fun j hj => by
    have : j = 1 := by omega
    subst this
    exact ⟨rfl, hts _ (tg tw_152 rfl)⟩⟩
theorem le_2_18 : tb_Le 2 (18, 11, 2, 2) := fun h => absurd h (by decide)
set_option maxRecDepth 20000 in
theorem pk_2_18 {off : Nat → Int → Option Int} {ln : Int → Option Nat} {fx : Bool} {A : Nat → Prop} {sa : Int → Nat} {args : Array Value} {s : State} (ho : tb_of off) (hts : ∀ w ∈ tb_TT, w.before args s = true) (hE : tb_En A sa s) : tb_G off ln fx A sa RX2 args s (18, 11, 2, 2) := ⟨fk_2 2 (by decide) rfl (Or.inl (hts _ (tg tw_153 rfl))), of_tag ho (Or.inr rfl), _, _, _, rfl, fun j hj => by
    have : j = 2 := by omega
    subst this
    exact ⟨rfl, hts _ (tg tw_153 rfl)⟩⟩
theorem le_2_21 : tb_Le 2 (21, 11, 2, 3) := fun h => absurd h (by decide)
set_option maxRecDepth 20000 in
theorem pk_2_21 {off : Nat → Int → Option Int} {ln : Int → Option Nat} {fx : Bool} {A : Nat → Prop} {sa : Int → Nat} {args : Array Value} {s : State} (ho : tb_of off) (hts : ∀ w ∈ tb_TT, w.before args s = true) (hE : tb_En A sa s) : tb_G off ln fx A sa RX2 args s (21, 11, 2, 3) := ⟨fk_2 3 (by decide) rfl (Or.inl (hts _ (tg tw_154 rfl))), of_tag ho (Or.inr rfl), _, _, _, rfl, fun j hj => by
    have : j = 3 := by omega
    subst this
    exact ⟨rfl, hts _ (tg tw_154 rfl)⟩⟩
theorem le_2_24 : tb_Le 2 (24, 11, 2, 4) := fun h => absurd h (by decide)
set_option maxRecDepth 20000 in
theorem pk_2_24 {off : Nat → Int → Option Int} {ln : Int → Option Nat} {fx : Bool} {A : Nat → Prop} {sa : Int → Nat} {args : Array Value} {s : State} (ho : tb_of off) (hts : ∀ w ∈ tb_TT, w.before args s = true) (hE : tb_En A sa s) : tb_G off ln fx A sa RX2 args s (24, 11, 2, 4) := ⟨fk_2 4 (by decide) rfl (Or.inl (hts _ (tg tw_155 rfl))), of_tag ho (Or.inr rfl), _, _, _, rfl, fun j hj => by
    have : j = 4 := by omega
    subst this
    exact ⟨rfl, hts _ (tg tw_155 rfl)⟩⟩
theorem le_2_27 : tb_Le 2 (27, 1, 2, 5) := fun h => absurd h (by decide)
set_option maxRecDepth 20000 in
theorem pk_2_27 {off : Nat → Int → Option Int} {ln : Int → Option Nat} {fx : Bool} {A : Nat → Prop} {sa : Int → Nat} {args : Array Value} {s : State} (ho : tb_of off) (hts : ∀ w ∈ tb_TT, w.before args s = true) (hE : tb_En A sa s) : tb_G off ln fx A sa RX2 args s (27, 1, 2, 5) := ⟨fk_2 5 (by decide) rfl (Or.inl (hts _ (tg tw_156 rfl))), of_none ho rfl⟩
theorem le_2_31 : tb_Le 2 (31, 1, 2, 6) := fun h => absurd h (by decide)
set_option maxRecDepth 20000 in
theorem pk_2_31 {off : Nat → Int → Option Int} {ln : Int → Option Nat} {fx : Bool} {A : Nat → Prop} {sa : Int → Nat} {args : Array Value} {s : State} (ho : tb_of off) (hts : ∀ w ∈ tb_TT, w.before args s = true) (hE : tb_En A sa s) : tb_G off ln fx A sa RX2 args s (31, 1, 2, 6) := ⟨fk_2 6 (by decide) rfl (Or.inl (hts _ (tg tw_159 rfl))), of_none ho rfl⟩
theorem le_2_34 : tb_Le 2 (34, 1, 2, 7) := fun h => absurd h (by decide)
set_option maxRecDepth 20000 in
theorem pk_2_34 {off : Nat → Int → Option Int} {ln : Int → Option Nat} {fx : Bool} {A : Nat → Prop} {sa : Int → Nat} {args : Array Value} {s : State} (ho : tb_of off) (hts : ∀ w ∈ tb_TT, w.before args s = true) (hE : tb_En A sa s) : tb_G off ln fx A sa RX2 args s (34, 1, 2, 7) := ⟨fk_2 7 (by decide) rfl (Or.inl (hts _ (tg tw_163 rfl))), of_none ho rfl⟩
theorem le_2_37 : tb_Le 2 (37, 3, 6, 0) := fun h => absurd h (by decide)
set_option maxRecDepth 20000 in
theorem pk_2_37 {off : Nat → Int → Option Int} {ln : Int → Option Nat} {fx : Bool} {A : Nat → Prop} {sa : Int → Nat} {args : Array Value} {s : State} (ho : tb_of off) (hts : ∀ w ∈ tb_TT, w.before args s = true) (hE : tb_En A sa s) : tb_G off ln fx A sa RX2 args s (37, 3, 6, 0) := ⟨RX6, TX6, 6, tyX6, rfl, rfl, uw_6, tyX6_ok, at_6, hts _ (tg tw_149 rfl), hts _ (tg tw_103 rfl), hts _ (tg tw_6 rfl)⟩
theorem le_2_39 : tb_Le 2 (39, 13, 59, 1) := fun _ => ⟨lf_13_59, Or.inr ⟨_, tn tw_150 rfl⟩⟩
set_option maxRecDepth 20000 in
theorem pk_2_39 {off : Nat → Int → Option Int} {ln : Int → Option Nat} {fx : Bool} {A : Nat → Prop} {sa : Int → Nat} {args : Array Value} {s : State} (ho : tb_of off) (hts : ∀ w ∈ tb_TT, w.before args s = true) (hE : tb_En A sa s) : tb_G off ln fx A sa RX2 args s (39, 13, 59, 1) := trivial
theorem le_2_40 : tb_Le 2 (40, 11, 2, 8) := fun h => absurd h (by decide)
set_option maxRecDepth 20000 in
theorem pk_2_40 {off : Nat → Int → Option Int} {ln : Int → Option Nat} {fx : Bool} {A : Nat → Prop} {sa : Int → Nat} {args : Array Value} {s : State} (ho : tb_of off) (hts : ∀ w ∈ tb_TT, w.before args s = true) (hE : tb_En A sa s) : tb_G off ln fx A sa RX2 args s (40, 11, 2, 8) := ⟨fk_2 8 (by decide) rfl (Or.inl (hts _ (tg tw_167 rfl))), of_tag ho (Or.inr rfl), _, _, _, rfl, fun j hj => by
    have : j = 8 := by omega
    subst this
    exact ⟨rfl, hts _ (tg tw_167 rfl)⟩⟩
theorem le_2_44 : tb_Le 2 (44, 11, 2, 9) := fun h => absurd h (by decide)
set_option maxRecDepth 20000 in
theorem pk_2_44 {off : Nat → Int → Option Int} {ln : Int → Option Nat} {fx : Bool} {A : Nat → Prop} {sa : Int → Nat} {args : Array Value} {s : State} (ho : tb_of off) (hts : ∀ w ∈ tb_TT, w.before args s = true) (hE : tb_En A sa s) : tb_G off ln fx A sa RX2 args s (44, 11, 2, 9) := ⟨fk_2 9 (by decide) rfl (Or.inl (hts _ (tg tw_169 rfl))), of_tag ho (Or.inr rfl), _, _, _, rfl, fun j hj => by
    have : j = 9 := by omega
    subst this
    exact ⟨rfl, hts _ (tg tw_169 rfl)⟩⟩
theorem le_2_47 : tb_Le 2 (47, 11, 2, 10) := fun h => absurd h (by decide)
set_option maxRecDepth 20000 in
theorem pk_2_47 {off : Nat → Int → Option Int} {ln : Int → Option Nat} {fx : Bool} {A : Nat → Prop} {sa : Int → Nat} {args : Array Value} {s : State} (ho : tb_of off) (hts : ∀ w ∈ tb_TT, w.before args s = true) (hE : tb_En A sa s) : tb_G off ln fx A sa RX2 args s (47, 11, 2, 10) := ⟨fk_2 10 (by decide) rfl (Or.inl (hts _ (tg tw_170 rfl))), of_tag ho (Or.inr rfl), _, _, _, rfl, fun j hj => by
    have : j = 10 := by omega
    subst this
    exact ⟨rfl, hts _ (tg tw_170 rfl)⟩⟩
theorem le_2_50 : tb_Le 2 (50, 2, 60, 1) := fun _ => ⟨lf_2_60, Or.inl (tg tw_422 rfl)⟩
set_option maxRecDepth 20000 in
theorem pk_2_50 {off : Nat → Int → Option Int} {ln : Int → Option Nat} {fx : Bool} {A : Nat → Prop} {sa : Int → Nat} {args : Array Value} {s : State} (ho : tb_of off) (hts : ∀ w ∈ tb_TT, w.before args s = true) (hE : tb_En A sa s) : tb_G off ln fx A sa RX2 args s (50, 2, 60, 1) := trivial
theorem le_2_53 : tb_Le 2 (53, 2, 14, 2) := fun _ => ⟨lf_2_14, Or.inl (tg tw_523 rfl)⟩
set_option maxRecDepth 20000 in
theorem pk_2_53 {off : Nat → Int → Option Int} {ln : Int → Option Nat} {fx : Bool} {A : Nat → Prop} {sa : Int → Nat} {args : Array Value} {s : State} (ho : tb_of off) (hts : ∀ w ∈ tb_TT, w.before args s = true) (hE : tb_En A sa s) : tb_G off ln fx A sa RX2 args s (53, 2, 14, 2) := trivial
theorem le_2_57 : tb_Le 2 (57, 7, 0, 2000000) := fun h => absurd h (by decide)
set_option maxRecDepth 20000 in
theorem pk_2_57 {off : Nat → Int → Option Int} {ln : Int → Option Nat} {fx : Bool} {A : Nat → Prop} {sa : Int → Nat} {args : Array Value} {s : State} (ho : tb_of off) (hts : ∀ w ∈ tb_TT, w.before args s = true) (hE : tb_En A sa s) : tb_G off ln fx A sa RX2 args s (57, 7, 0, 2000000) := ⟨by decide, _, _, _, hE.2.2.1 ("NightDoors", "FIRST_NAME", "[I", 2000000) (List.mem_of_getElem? (i := 0) rfl), Or.inr ⟨_, nw_use hE (tn tw_527 rfl) rfl⟩⟩
theorem le_2_60 : tb_Le 2 (60, 2, 16, 2) := fun _ => ⟨lf_2_16, Or.inl (tg tw_567 rfl)⟩
set_option maxRecDepth 20000 in
theorem pk_2_60 {off : Nat → Int → Option Int} {ln : Int → Option Nat} {fx : Bool} {A : Nat → Prop} {sa : Int → Nat} {args : Array Value} {s : State} (ho : tb_of off) (hts : ∀ w ∈ tb_TT, w.before args s = true) (hE : tb_En A sa s) : tb_G off ln fx A sa RX2 args s (60, 2, 16, 2) := trivial
theorem le_2_64 : tb_Le 2 (64, 2, 17, 3) := fun _ => ⟨lf_2_17, Or.inl (tg tw_554 rfl)⟩
set_option maxRecDepth 20000 in
theorem pk_2_64 {off : Nat → Int → Option Int} {ln : Int → Option Nat} {fx : Bool} {A : Nat → Prop} {sa : Int → Nat} {args : Array Value} {s : State} (ho : tb_of off) (hts : ∀ w ∈ tb_TT, w.before args s = true) (hE : tb_En A sa s) : tb_G off ln fx A sa RX2 args s (64, 2, 17, 3) := trivial
theorem le_2_68 : tb_Le 2 (68, 1, 9, 7) := fun h => absurd h (by decide)
set_option maxRecDepth 20000 in
theorem pk_2_68 {off : Nat → Int → Option Int} {ln : Int → Option Nat} {fx : Bool} {A : Nat → Prop} {sa : Int → Nat} {args : Array Value} {s : State} (ho : tb_of off) (hts : ∀ w ∈ tb_TT, w.before args s = true) (hE : tb_En A sa s) : tb_G off ln fx A sa RX2 args s (68, 1, 9, 7) := ⟨fk_9 7 (by decide) rfl (Or.inr ⟨_, nw_use hE (tn tw_48 rfl) rfl⟩), of_none ho rfl⟩
theorem le_2_73 : tb_Le 2 (73, 1, 9, 6) := fun h => absurd h (by decide)
set_option maxRecDepth 20000 in
theorem pk_2_73 {off : Nat → Int → Option Int} {ln : Int → Option Nat} {fx : Bool} {A : Nat → Prop} {sa : Int → Nat} {args : Array Value} {s : State} (ho : tb_of off) (hts : ∀ w ∈ tb_TT, w.before args s = true) (hE : tb_En A sa s) : tb_G off ln fx A sa RX2 args s (73, 1, 9, 6) := ⟨fk_9 6 (by decide) rfl (Or.inr ⟨_, nw_use hE (tn tw_45 rfl) rfl⟩), of_none ho rfl⟩
theorem le_2_76 : tb_Le 2 (76, 2, 92, 2) := fun _ => ⟨lf_2_92, Or.inl (tg tw_553 rfl)⟩
set_option maxRecDepth 20000 in
theorem pk_2_76 {off : Nat → Int → Option Int} {ln : Int → Option Nat} {fx : Bool} {A : Nat → Prop} {sa : Int → Nat} {args : Array Value} {s : State} (ho : tb_of off) (hts : ∀ w ∈ tb_TT, w.before args s = true) (hE : tb_En A sa s) : tb_G off ln fx A sa RX2 args s (76, 2, 92, 2) := trivial
theorem le_2_79 : tb_Le 2 (79, 2, 18, 3) := fun _ => ⟨lf_2_18, Or.inl (tg tw_558 rfl)⟩
set_option maxRecDepth 20000 in
theorem pk_2_79 {off : Nat → Int → Option Int} {ln : Int → Option Nat} {fx : Bool} {A : Nat → Prop} {sa : Int → Nat} {args : Array Value} {s : State} (ho : tb_of off) (hts : ∀ w ∈ tb_TT, w.before args s = true) (hE : tb_En A sa s) : tb_G off ln fx A sa RX2 args s (79, 2, 18, 3) := trivial
theorem le_2_82 : tb_Le 2 (82, 1, 6, 1) := fun h => absurd h (by decide)
set_option maxRecDepth 20000 in
theorem pk_2_82 {off : Nat → Int → Option Int} {ln : Int → Option Nat} {fx : Bool} {A : Nat → Prop} {sa : Int → Nat} {args : Array Value} {s : State} (ho : tb_of off) (hts : ∀ w ∈ tb_TT, w.before args s = true) (hE : tb_En A sa s) : tb_G off ln fx A sa RX2 args s (82, 1, 6, 1) := ⟨fk_6 1 (by decide) rfl (Or.inr ⟨_, nw_use hE (tn tw_112 rfl) rfl⟩), of_none ho rfl⟩
theorem le_2_85 : tb_Le 2 (85, 1, 7, 1) := fun h => absurd h (by decide)
set_option maxRecDepth 20000 in
theorem pk_2_85 {off : Nat → Int → Option Int} {ln : Int → Option Nat} {fx : Bool} {A : Nat → Prop} {sa : Int → Nat} {args : Array Value} {s : State} (ho : tb_of off) (hts : ∀ w ∈ tb_TT, w.before args s = true) (hE : tb_En A sa s) : tb_G off ln fx A sa RX2 args s (85, 1, 7, 1) := ⟨fk_7 1 (by decide) rfl (Or.inr ⟨_, nw_use hE (tn tw_208 rfl) rfl⟩), of_none ho rfl⟩
theorem le_2_90 : tb_Le 2 (90, 1, 7, 2) := fun h => absurd h (by decide)
set_option maxRecDepth 20000 in
theorem pk_2_90 {off : Nat → Int → Option Int} {ln : Int → Option Nat} {fx : Bool} {A : Nat → Prop} {sa : Int → Nat} {args : Array Value} {s : State} (ho : tb_of off) (hts : ∀ w ∈ tb_TT, w.before args s = true) (hE : tb_En A sa s) : tb_G off ln fx A sa RX2 args s (90, 1, 7, 2) := ⟨fk_7 2 (by decide) rfl (Or.inr ⟨_, nw_use hE (tn tw_212 rfl) rfl⟩), of_none ho rfl⟩
theorem le_2_93 : tb_Le 2 (93, 2, 73, 3) := fun _ => ⟨lf_2_73, Or.inl (tg tw_694 rfl)⟩
set_option maxRecDepth 20000 in
theorem pk_2_93 {off : Nat → Int → Option Int} {ln : Int → Option Nat} {fx : Bool} {A : Nat → Prop} {sa : Int → Nat} {args : Array Value} {s : State} (ho : tb_of off) (hts : ∀ w ∈ tb_TT, w.before args s = true) (hE : tb_En A sa s) : tb_G off ln fx A sa RX2 args s (93, 2, 73, 3) := trivial
theorem le_2_97 : tb_Le 2 (97, 2, 72, 2) := fun _ => ⟨lf_2_72, Or.inl (tg tw_766 rfl)⟩
set_option maxRecDepth 20000 in
theorem pk_2_97 {off : Nat → Int → Option Int} {ln : Int → Option Nat} {fx : Bool} {A : Nat → Prop} {sa : Int → Nat} {args : Array Value} {s : State} (ho : tb_of off) (hts : ∀ w ∈ tb_TT, w.before args s = true) (hE : tb_En A sa s) : tb_G off ln fx A sa RX2 args s (97, 2, 72, 2) := trivial
theorem le_2_100 : tb_Le 2 (100, 2, 27, 2) := fun _ => ⟨lf_2_27, Or.inl (tg tw_770 rfl)⟩
set_option maxRecDepth 20000 in
theorem pk_2_100 {off : Nat → Int → Option Int} {ln : Int → Option Nat} {fx : Bool} {A : Nat → Prop} {sa : Int → Nat} {args : Array Value} {s : State} (ho : tb_of off) (hts : ∀ w ∈ tb_TT, w.before args s = true) (hE : tb_En A sa s) : tb_G off ln fx A sa RX2 args s (100, 2, 27, 2) := trivial
theorem le_2_103 : tb_Le 2 (103, 2, 29, 3) := fun _ => ⟨lf_2_29, Or.inl (tg tw_762 rfl)⟩
set_option maxRecDepth 20000 in
theorem pk_2_103 {off : Nat → Int → Option Int} {ln : Int → Option Nat} {fx : Bool} {A : Nat → Prop} {sa : Int → Nat} {args : Array Value} {s : State} (ho : tb_of off) (hts : ∀ w ∈ tb_TT, w.before args s = true) (hE : tb_En A sa s) : tb_G off ln fx A sa RX2 args s (103, 2, 29, 3) := trivial
theorem le_2_107 : tb_Le 2 (107, 2, 74, 1) := fun _ => ⟨lf_2_74, Or.inl (tg tw_720 rfl)⟩
set_option maxRecDepth 20000 in
theorem pk_2_107 {off : Nat → Int → Option Int} {ln : Int → Option Nat} {fx : Bool} {A : Nat → Prop} {sa : Int → Nat} {args : Array Value} {s : State} (ho : tb_of off) (hts : ∀ w ∈ tb_TT, w.before args s = true) (hE : tb_En A sa s) : tb_G off ln fx A sa RX2 args s (107, 2, 74, 1) := trivial
theorem le_2_111 : tb_Le 2 (111, 2, 24, 2) := fun _ => ⟨lf_2_24, Or.inl (tg tw_788 rfl)⟩
set_option maxRecDepth 20000 in
theorem pk_2_111 {off : Nat → Int → Option Int} {ln : Int → Option Nat} {fx : Bool} {A : Nat → Prop} {sa : Int → Nat} {args : Array Value} {s : State} (ho : tb_of off) (hts : ∀ w ∈ tb_TT, w.before args s = true) (hE : tb_En A sa s) : tb_G off ln fx A sa RX2 args s (111, 2, 24, 2) := trivial
theorem le_2_114 : tb_Le 2 (114, 8, 7, 0) := fun h => absurd h (by decide)
set_option maxRecDepth 20000 in
theorem pk_2_114 {off : Nat → Int → Option Int} {ln : Int → Option Nat} {fx : Bool} {A : Nat → Prop} {sa : Int → Nat} {args : Array Value} {s : State} (ho : tb_of off) (hts : ∀ w ∈ tb_TT, w.before args s = true) (hE : tb_En A sa s) : tb_G off ln fx A sa RX2 args s (114, 8, 7, 0) := ⟨fk_7 0 (by decide) rfl (Or.inr ⟨_, nw_use hE (tn tw_205 rfl) rfl⟩), of_tag ho (Or.inr rfl)⟩
theorem le_2_117 : tb_Le 2 (117, 2, 62, 3) := fun _ => ⟨lf_2_62, Or.inl (tg tw_789 rfl)⟩
set_option maxRecDepth 20000 in
theorem pk_2_117 {off : Nat → Int → Option Int} {ln : Int → Option Nat} {fx : Bool} {A : Nat → Prop} {sa : Int → Nat} {args : Array Value} {s : State} (ho : tb_of off) (hts : ∀ w ∈ tb_TT, w.before args s = true) (hE : tb_En A sa s) : tb_G off ln fx A sa RX2 args s (117, 2, 62, 3) := trivial
theorem le_2_121 : tb_Le 2 (121, 2, 63, 3) := fun _ => ⟨lf_2_63, Or.inl (tg tw_798 rfl)⟩
set_option maxRecDepth 20000 in
theorem pk_2_121 {off : Nat → Int → Option Int} {ln : Int → Option Nat} {fx : Bool} {A : Nat → Prop} {sa : Int → Nat} {args : Array Value} {s : State} (ho : tb_of off) (hts : ∀ w ∈ tb_TT, w.before args s = true) (hE : tb_En A sa s) : tb_G off ln fx A sa RX2 args s (121, 2, 63, 3) := trivial
theorem le_2_124 : tb_Le 2 (124, 2, 26, 2) := fun _ => ⟨lf_2_26, Or.inl (tg tw_799 rfl)⟩
set_option maxRecDepth 20000 in
theorem pk_2_124 {off : Nat → Int → Option Int} {ln : Int → Option Nat} {fx : Bool} {A : Nat → Prop} {sa : Int → Nat} {args : Array Value} {s : State} (ho : tb_of off) (hts : ∀ w ∈ tb_TT, w.before args s = true) (hE : tb_En A sa s) : tb_G off ln fx A sa RX2 args s (124, 2, 26, 2) := trivial
theorem le_2_127 : tb_Le 2 (127, 2, 64, 3) := fun _ => ⟨lf_2_64, Or.inl (tg tw_800 rfl)⟩
set_option maxRecDepth 20000 in
theorem pk_2_127 {off : Nat → Int → Option Int} {ln : Int → Option Nat} {fx : Bool} {A : Nat → Prop} {sa : Int → Nat} {args : Array Value} {s : State} (ho : tb_of off) (hts : ∀ w ∈ tb_TT, w.before args s = true) (hE : tb_En A sa s) : tb_G off ln fx A sa RX2 args s (127, 2, 64, 3) := trivial
theorem le_2_130 : tb_Le 2 (130, 12, 318, 2) := fun _ => ⟨lf_12_318, Or.inl (tg tw_839 rfl)⟩
set_option maxRecDepth 20000 in
theorem pk_2_130 {off : Nat → Int → Option Int} {ln : Int → Option Nat} {fx : Bool} {A : Nat → Prop} {sa : Int → Nat} {args : Array Value} {s : State} (ho : tb_of off) (hts : ∀ w ∈ tb_TT, w.before args s = true) (hE : tb_En A sa s) : tb_G off ln fx A sa RX2 args s (130, 12, 318, 2) := trivial
theorem le_2_135 : tb_Le 2 (135, 12, 316, 2) := fun _ => ⟨lf_12_316, Or.inl (tg tw_840 rfl)⟩
set_option maxRecDepth 20000 in
theorem pk_2_135 {off : Nat → Int → Option Int} {ln : Int → Option Nat} {fx : Bool} {A : Nat → Prop} {sa : Int → Nat} {args : Array Value} {s : State} (ho : tb_of off) (hts : ∀ w ∈ tb_TT, w.before args s = true) (hE : tb_En A sa s) : tb_G off ln fx A sa RX2 args s (135, 12, 316, 2) := trivial
theorem le_2_138 : tb_Le 2 (138, 2, 31, 2) := fun _ => ⟨lf_2_31, Or.inl (tg tw_871 rfl)⟩
set_option maxRecDepth 20000 in
theorem pk_2_138 {off : Nat → Int → Option Int} {ln : Int → Option Nat} {fx : Bool} {A : Nat → Prop} {sa : Int → Nat} {args : Array Value} {s : State} (ho : tb_of off) (hts : ∀ w ∈ tb_TT, w.before args s = true) (hE : tb_En A sa s) : tb_G off ln fx A sa RX2 args s (138, 2, 31, 2) := trivial
theorem le_2_142 : tb_Le 2 (142, 2, 33, 3) := fun _ => ⟨lf_2_33, Or.inl (tg tw_867 rfl)⟩
set_option maxRecDepth 20000 in
theorem pk_2_142 {off : Nat → Int → Option Int} {ln : Int → Option Nat} {fx : Bool} {A : Nat → Prop} {sa : Int → Nat} {args : Array Value} {s : State} (ho : tb_of off) (hts : ∀ w ∈ tb_TT, w.before args s = true) (hE : tb_En A sa s) : tb_G off ln fx A sa RX2 args s (142, 2, 33, 3) := trivial
theorem le_2_146 : tb_Le 2 (146, 2, 30, 3) := fun _ => ⟨lf_2_30, Or.inl (tg tw_872 rfl)⟩
set_option maxRecDepth 20000 in
theorem pk_2_146 {off : Nat → Int → Option Int} {ln : Int → Option Nat} {fx : Bool} {A : Nat → Prop} {sa : Int → Nat} {args : Array Value} {s : State} (ho : tb_of off) (hts : ∀ w ∈ tb_TT, w.before args s = true) (hE : tb_En A sa s) : tb_G off ln fx A sa RX2 args s (146, 2, 30, 3) := trivial
theorem le_2_149 : tb_Le 2 (149, 2, 32, 4) := fun _ => ⟨lf_2_32, Or.inl (tg tw_873 rfl)⟩
set_option maxRecDepth 20000 in
theorem pk_2_149 {off : Nat → Int → Option Int} {ln : Int → Option Nat} {fx : Bool} {A : Nat → Prop} {sa : Int → Nat} {args : Array Value} {s : State} (ho : tb_of off) (hts : ∀ w ∈ tb_TT, w.before args s = true) (hE : tb_En A sa s) : tb_G off ln fx A sa RX2 args s (149, 2, 32, 4) := trivial
set_option maxRecDepth 20000 in
theorem le_2 : ∀ e ∈ pl_2, tb_Le 2 e := List.forall_mem_cons.mpr ⟨le_2_3, List.forall_mem_cons.mpr ⟨le_2_9, List.forall_mem_cons.mpr ⟨le_2_15, List.forall_mem_cons.mpr ⟨le_2_18, List.forall_mem_cons.mpr ⟨le_2_21, List.forall_mem_cons.mpr ⟨le_2_24, List.forall_mem_cons.mpr ⟨le_2_27, List.forall_mem_cons.mpr ⟨le_2_31, List.forall_mem_cons.mpr ⟨le_2_34, List.forall_mem_cons.mpr ⟨le_2_37, List.forall_mem_cons.mpr ⟨le_2_39, List.forall_mem_cons.mpr ⟨le_2_40, List.forall_mem_cons.mpr ⟨le_2_44, List.forall_mem_cons.mpr ⟨le_2_47, List.forall_mem_cons.mpr ⟨le_2_50, List.forall_mem_cons.mpr ⟨le_2_53, List.forall_mem_cons.mpr ⟨le_2_57, List.forall_mem_cons.mpr ⟨le_2_60, List.forall_mem_cons.mpr ⟨le_2_64, List.forall_mem_cons.mpr ⟨le_2_68, List.forall_mem_cons.mpr ⟨le_2_73, List.forall_mem_cons.mpr ⟨le_2_76, List.forall_mem_cons.mpr ⟨le_2_79, List.forall_mem_cons.mpr ⟨le_2_82, List.forall_mem_cons.mpr ⟨le_2_85, List.forall_mem_cons.mpr ⟨le_2_90, List.forall_mem_cons.mpr ⟨le_2_93, List.forall_mem_cons.mpr ⟨le_2_97, List.forall_mem_cons.mpr ⟨le_2_100, List.forall_mem_cons.mpr ⟨le_2_103, List.forall_mem_cons.mpr ⟨le_2_107, List.forall_mem_cons.mpr ⟨le_2_111, List.forall_mem_cons.mpr ⟨le_2_114, List.forall_mem_cons.mpr ⟨le_2_117, List.forall_mem_cons.mpr ⟨le_2_121, List.forall_mem_cons.mpr ⟨le_2_124, List.forall_mem_cons.mpr ⟨le_2_127, List.forall_mem_cons.mpr ⟨le_2_130, List.forall_mem_cons.mpr ⟨le_2_135, List.forall_mem_cons.mpr ⟨le_2_138, List.forall_mem_cons.mpr ⟨le_2_142, List.forall_mem_cons.mpr ⟨le_2_146, List.forall_mem_cons.mpr ⟨le_2_149, (fun _ h => absurd h (by simp))⟩⟩⟩⟩⟩⟩⟩⟩⟩⟩⟩⟩⟩⟩⟩⟩⟩⟩⟩⟩⟩⟩⟩⟩⟩⟩⟩⟩⟩⟩⟩⟩⟩⟩⟩⟩⟩⟩⟩⟩⟩⟩⟩
set_option maxRecDepth 20000 in
theorem pk_2 {off : Nat → Int → Option Int} {ln : Int → Option Nat} {fx : Bool} {A : Nat → Prop} {sa : Int → Nat} {args : Array Value} {s : State} (ho : tb_of off) (hts : ∀ w ∈ tb_TT, w.before args s = true) (hE : tb_En A sa s) : ∀ e ∈ pl_2, tb_G off ln fx A sa RX2 args s e := List.forall_mem_cons.mpr ⟨pk_2_3 ho hts hE, List.forall_mem_cons.mpr ⟨pk_2_9 ho hts hE, List.forall_mem_cons.mpr ⟨pk_2_15 ho hts hE, List.forall_mem_cons.mpr ⟨pk_2_18 ho hts hE, List.forall_mem_cons.mpr ⟨pk_2_21 ho hts hE, List.forall_mem_cons.mpr ⟨pk_2_24 ho hts hE, List.forall_mem_cons.mpr ⟨pk_2_27 ho hts hE, List.forall_mem_cons.mpr ⟨pk_2_31 ho hts hE, List.forall_mem_cons.mpr ⟨pk_2_34 ho hts hE, List.forall_mem_cons.mpr ⟨pk_2_37 ho hts hE, List.forall_mem_cons.mpr ⟨pk_2_39 ho hts hE, List.forall_mem_cons.mpr ⟨pk_2_40 ho hts hE, List.forall_mem_cons.mpr ⟨pk_2_44 ho hts hE, List.forall_mem_cons.mpr ⟨pk_2_47 ho hts hE, List.forall_mem_cons.mpr ⟨pk_2_50 ho hts hE, List.forall_mem_cons.mpr ⟨pk_2_53 ho hts hE, List.forall_mem_cons.mpr ⟨pk_2_57 ho hts hE, List.forall_mem_cons.mpr ⟨pk_2_60 ho hts hE, List.forall_mem_cons.mpr ⟨pk_2_64 ho hts hE, List.forall_mem_cons.mpr ⟨pk_2_68 ho hts hE, List.forall_mem_cons.mpr ⟨pk_2_73 ho hts hE, List.forall_mem_cons.mpr ⟨pk_2_76 ho hts hE, List.forall_mem_cons.mpr ⟨pk_2_79 ho hts hE, List.forall_mem_cons.mpr ⟨pk_2_82 ho hts hE, List.forall_mem_cons.mpr ⟨pk_2_85 ho hts hE, List.forall_mem_cons.mpr ⟨pk_2_90 ho hts hE, List.forall_mem_cons.mpr ⟨pk_2_93 ho hts hE, List.forall_mem_cons.mpr ⟨pk_2_97 ho hts hE, List.forall_mem_cons.mpr ⟨pk_2_100 ho hts hE, List.forall_mem_cons.mpr ⟨pk_2_103 ho hts hE, List.forall_mem_cons.mpr ⟨pk_2_107 ho hts hE, List.forall_mem_cons.mpr ⟨pk_2_111 ho hts hE, List.forall_mem_cons.mpr ⟨pk_2_114 ho hts hE, List.forall_mem_cons.mpr ⟨pk_2_117 ho hts hE, List.forall_mem_cons.mpr ⟨pk_2_121 ho hts hE, List.forall_mem_cons.mpr ⟨pk_2_124 ho hts hE, List.forall_mem_cons.mpr ⟨pk_2_127 ho hts hE, List.forall_mem_cons.mpr ⟨pk_2_130 ho hts hE, List.forall_mem_cons.mpr ⟨pk_2_135 ho hts hE, List.forall_mem_cons.mpr ⟨pk_2_138 ho hts hE, List.forall_mem_cons.mpr ⟨pk_2_142 ho hts hE, List.forall_mem_cons.mpr ⟨pk_2_146 ho hts hE, List.forall_mem_cons.mpr ⟨pk_2_149 ho hts hE, (fun _ h => absurd h (by simp))⟩⟩⟩⟩⟩⟩⟩⟩⟩⟩⟩⟩⟩⟩⟩⟩⟩⟩⟩⟩⟩⟩⟩⟩⟩⟩⟩⟩⟩⟩⟩⟩⟩⟩⟩⟩⟩⟩⟩⟩⟩⟩⟩
theorem le_3_3 : tb_Le 3 (3, 9, 0, 0) := fun h => absurd h (by decide)
set_option maxRecDepth 20000 in
theorem pk_3_3 {off : Nat → Int → Option Int} {ln : Int → Option Nat} {fx : Bool} {A : Nat → Prop} {sa : Int → Nat} {args : Array Value} {s : State} (ho : tb_of off) (hts : ∀ w ∈ tb_TT, w.before args s = true) (hE : tb_En A sa s) : tb_G off ln fx A sa RX3 args s (3, 9, 0, 0) := ⟨hts _ (tg tw_88 rfl), hts _ (tg tw_27 rfl), hts _ (tg tw_28 rfl)⟩
theorem le_3_9 : tb_Le 3 (9, 11, 3, 0) := fun h => absurd h (by decide)
set_option maxRecDepth 20000 in
theorem pk_3_9 {off : Nat → Int → Option Int} {ln : Int → Option Nat} {fx : Bool} {A : Nat → Prop} {sa : Int → Nat} {args : Array Value} {s : State} (ho : tb_of off) (hts : ∀ w ∈ tb_TT, w.before args s = true) (hE : tb_En A sa s) : tb_G off ln fx A sa RX3 args s (9, 11, 3, 0) := ⟨fk_3 0 (by decide) rfl (Or.inl (hts _ (tg tw_89 rfl))), of_tag ho (Or.inr rfl), _, _, _, rfl, fun j hj => by
    have : j = 0 := by omega
    subst this
    exact ⟨rfl, hts _ (tg tw_89 rfl)⟩⟩
theorem le_3_15 : tb_Le 3 (15, 11, 3, 1) := fun h => absurd h (by decide)
set_option maxRecDepth 20000 in
theorem pk_3_15 {off : Nat → Int → Option Int} {ln : Int → Option Nat} {fx : Bool} {A : Nat → Prop} {sa : Int → Nat} {args : Array Value} {s : State} (ho : tb_of off) (hts : ∀ w ∈ tb_TT, w.before args s = true) (hE : tb_En A sa s) : tb_G off ln fx A sa RX3 args s (15, 11, 3, 1) := ⟨fk_3 1 (by decide) rfl (Or.inl (hts _ (tg tw_90 rfl))), of_tag ho (Or.inr rfl), _, _, _, rfl, fun j hj => by
    have : j = 1 := by omega
    subst this
    exact ⟨rfl, hts _ (tg tw_90 rfl)⟩⟩
theorem le_3_19 : tb_Le 3 (19, 2, 13, 1) := fun _ => ⟨lf_2_13, Or.inl (tg tw_418 rfl)⟩
set_option maxRecDepth 20000 in
theorem pk_3_19 {off : Nat → Int → Option Int} {ln : Int → Option Nat} {fx : Bool} {A : Nat → Prop} {sa : Int → Nat} {args : Array Value} {s : State} (ho : tb_of off) (hts : ∀ w ∈ tb_TT, w.before args s = true) (hE : tb_En A sa s) : tb_G off ln fx A sa RX3 args s (19, 2, 13, 1) := trivial
theorem le_3_24 : tb_Le 3 (24, 8, 2, 8) := fun h => absurd h (by decide)
set_option maxRecDepth 20000 in
theorem pk_3_24 {off : Nat → Int → Option Int} {ln : Int → Option Nat} {fx : Bool} {A : Nat → Prop} {sa : Int → Nat} {args : Array Value} {s : State} (ho : tb_of off) (hts : ∀ w ∈ tb_TT, w.before args s = true) (hE : tb_En A sa s) : tb_G off ln fx A sa RX3 args s (24, 8, 2, 8) := ⟨fk_2 8 (by decide) rfl (Or.inr ⟨_, nw_use hE (tn tw_168 rfl) rfl⟩), of_tag ho (Or.inr rfl)⟩
theorem le_3_28 : tb_Le 3 (28, 2, 81, 3) := fun _ => ⟨lf_2_81, Or.inl (tg tw_426 rfl)⟩
set_option maxRecDepth 20000 in
theorem pk_3_28 {off : Nat → Int → Option Int} {ln : Int → Option Nat} {fx : Bool} {A : Nat → Prop} {sa : Int → Nat} {args : Array Value} {s : State} (ho : tb_of off) (hts : ∀ w ∈ tb_TT, w.before args s = true) (hE : tb_En A sa s) : tb_G off ln fx A sa RX3 args s (28, 2, 81, 3) := trivial
theorem le_3_34 : tb_Le 3 (34, 2, 94, 1) := fun _ => ⟨lf_2_94, Or.inl (tg tw_430 rfl)⟩
set_option maxRecDepth 20000 in
theorem pk_3_34 {off : Nat → Int → Option Int} {ln : Int → Option Nat} {fx : Bool} {A : Nat → Prop} {sa : Int → Nat} {args : Array Value} {s : State} (ho : tb_of off) (hts : ∀ w ∈ tb_TT, w.before args s = true) (hE : tb_En A sa s) : tb_G off ln fx A sa RX3 args s (34, 2, 94, 1) := trivial
theorem le_3_39 : tb_Le 3 (39, 2, 95, 1) := fun _ => ⟨lf_2_95, Or.inl (tg tw_434 rfl)⟩
set_option maxRecDepth 20000 in
theorem pk_3_39 {off : Nat → Int → Option Int} {ln : Int → Option Nat} {fx : Bool} {A : Nat → Prop} {sa : Int → Nat} {args : Array Value} {s : State} (ho : tb_of off) (hts : ∀ w ∈ tb_TT, w.before args s = true) (hE : tb_En A sa s) : tb_G off ln fx A sa RX3 args s (39, 2, 95, 1) := trivial
theorem le_3_43 : tb_Le 3 (43, 2, 98, 1) := fun _ => ⟨lf_2_98, Or.inl (tg tw_438 rfl)⟩
set_option maxRecDepth 20000 in
theorem pk_3_43 {off : Nat → Int → Option Int} {ln : Int → Option Nat} {fx : Bool} {A : Nat → Prop} {sa : Int → Nat} {args : Array Value} {s : State} (ho : tb_of off) (hts : ∀ w ∈ tb_TT, w.before args s = true) (hE : tb_En A sa s) : tb_G off ln fx A sa RX3 args s (43, 2, 98, 1) := trivial
theorem le_3_47 : tb_Le 3 (47, 2, 97, 2) := fun _ => ⟨lf_2_97, Or.inl (tg tw_442 rfl)⟩
set_option maxRecDepth 20000 in
theorem pk_3_47 {off : Nat → Int → Option Int} {ln : Int → Option Nat} {fx : Bool} {A : Nat → Prop} {sa : Int → Nat} {args : Array Value} {s : State} (ho : tb_of off) (hts : ∀ w ∈ tb_TT, w.before args s = true) (hE : tb_En A sa s) : tb_G off ln fx A sa RX3 args s (47, 2, 97, 2) := trivial
theorem le_3_51 : tb_Le 3 (51, 2, 38, 2) := fun _ => ⟨lf_2_38, Or.inl (tg tw_451 rfl)⟩
set_option maxRecDepth 20000 in
theorem pk_3_51 {off : Nat → Int → Option Int} {ln : Int → Option Nat} {fx : Bool} {A : Nat → Prop} {sa : Int → Nat} {args : Array Value} {s : State} (ho : tb_of off) (hts : ∀ w ∈ tb_TT, w.before args s = true) (hE : tb_En A sa s) : tb_G off ln fx A sa RX3 args s (51, 2, 38, 2) := trivial
theorem le_3_55 : tb_Le 3 (55, 2, 101, 2) := fun _ => ⟨lf_2_101, Or.inl (tg tw_685 rfl)⟩
set_option maxRecDepth 20000 in
theorem pk_3_55 {off : Nat → Int → Option Int} {ln : Int → Option Nat} {fx : Bool} {A : Nat → Prop} {sa : Int → Nat} {args : Array Value} {s : State} (ho : tb_of off) (hts : ∀ w ∈ tb_TT, w.before args s = true) (hE : tb_En A sa s) : tb_G off ln fx A sa RX3 args s (55, 2, 101, 2) := trivial
theorem le_3_59 : tb_Le 3 (59, 6, 0, 1000000) := fun h => absurd h (by decide)
set_option maxRecDepth 20000 in
theorem pk_3_59 {off : Nat → Int → Option Int} {ln : Int → Option Nat} {fx : Bool} {A : Nat → Prop} {sa : Int → Nat} {args : Array Value} {s : State} (ho : tb_of off) (hts : ∀ w ∈ tb_TT, w.before args s = true) (hE : tb_En A sa s) : tb_G off ln fx A sa RX3 args s (59, 6, 0, 1000000) := ⟨by decide, _, hE.2.1 (RX3, 59, "dread dreamer fears guide meet shun byday home laugh spite", 1000000) (List.mem_of_getElem? (i := 0) rfl)⟩
theorem le_3_61 : tb_Le 3 (61, 2, 106, 2) := fun _ => ⟨lf_2_106, Or.inl (tg tw_456 rfl)⟩
set_option maxRecDepth 20000 in
theorem pk_3_61 {off : Nat → Int → Option Int} {ln : Int → Option Nat} {fx : Bool} {A : Nat → Prop} {sa : Int → Nat} {args : Array Value} {s : State} (ho : tb_of off) (hts : ∀ w ∈ tb_TT, w.before args s = true) (hE : tb_En A sa s) : tb_G off ln fx A sa RX3 args s (61, 2, 106, 2) := trivial
theorem le_3_65 : tb_Le 3 (65, 12, 39, 2) := fun _ => ⟨lf_12_39, Or.inl (tg tw_516 rfl)⟩
set_option maxRecDepth 20000 in
theorem pk_3_65 {off : Nat → Int → Option Int} {ln : Int → Option Nat} {fx : Bool} {A : Nat → Prop} {sa : Int → Nat} {args : Array Value} {s : State} (ho : tb_of off) (hts : ∀ w ∈ tb_TT, w.before args s = true) (hE : tb_En A sa s) : tb_G off ln fx A sa RX3 args s (65, 12, 39, 2) := trivial
theorem le_3_69 : tb_Le 3 (69, 2, 107, 1) := fun _ => ⟨lf_2_107, Or.inl (tg tw_533 rfl)⟩
set_option maxRecDepth 20000 in
theorem pk_3_69 {off : Nat → Int → Option Int} {ln : Int → Option Nat} {fx : Bool} {A : Nat → Prop} {sa : Int → Nat} {args : Array Value} {s : State} (ho : tb_of off) (hts : ∀ w ∈ tb_TT, w.before args s = true) (hE : tb_En A sa s) : tb_G off ln fx A sa RX3 args s (69, 2, 107, 1) := trivial
theorem le_3_72 : tb_Le 3 (72, 2, 44, 3) := fun _ => ⟨lf_2_44, Or.inl (tg tw_537 rfl)⟩
set_option maxRecDepth 20000 in
theorem pk_3_72 {off : Nat → Int → Option Int} {ln : Int → Option Nat} {fx : Bool} {A : Nat → Prop} {sa : Int → Nat} {args : Array Value} {s : State} (ho : tb_of off) (hts : ∀ w ∈ tb_TT, w.before args s = true) (hE : tb_En A sa s) : tb_G off ln fx A sa RX3 args s (72, 2, 44, 3) := trivial
theorem le_3_76 : tb_Le 3 (76, 2, 40, 2) := fun _ => ⟨lf_2_40, Or.inl (tg tw_568 rfl)⟩
set_option maxRecDepth 20000 in
theorem pk_3_76 {off : Nat → Int → Option Int} {ln : Int → Option Nat} {fx : Bool} {A : Nat → Prop} {sa : Int → Nat} {args : Array Value} {s : State} (ho : tb_of off) (hts : ∀ w ∈ tb_TT, w.before args s = true) (hE : tb_En A sa s) : tb_G off ln fx A sa RX3 args s (76, 2, 40, 2) := trivial
theorem le_3_79 : tb_Le 3 (79, 2, 41, 2) := fun _ => ⟨lf_2_41, Or.inl (tg tw_597 rfl)⟩
set_option maxRecDepth 20000 in
theorem pk_3_79 {off : Nat → Int → Option Int} {ln : Int → Option Nat} {fx : Bool} {A : Nat → Prop} {sa : Int → Nat} {args : Array Value} {s : State} (ho : tb_of off) (hts : ∀ w ∈ tb_TT, w.before args s = true) (hE : tb_En A sa s) : tb_G off ln fx A sa RX3 args s (79, 2, 41, 2) := trivial
theorem le_3_82 : tb_Le 3 (82, 2, 42, 2) := fun _ => ⟨lf_2_42, Or.inl (tg tw_609 rfl)⟩
set_option maxRecDepth 20000 in
theorem pk_3_82 {off : Nat → Int → Option Int} {ln : Int → Option Nat} {fx : Bool} {A : Nat → Prop} {sa : Int → Nat} {args : Array Value} {s : State} (ho : tb_of off) (hts : ∀ w ∈ tb_TT, w.before args s = true) (hE : tb_En A sa s) : tb_G off ln fx A sa RX3 args s (82, 2, 42, 2) := trivial
theorem le_3_85 : tb_Le 3 (85, 2, 43, 3) := fun _ => ⟨lf_2_43, Or.inl (tg tw_618 rfl)⟩
set_option maxRecDepth 20000 in
theorem pk_3_85 {off : Nat → Int → Option Int} {ln : Int → Option Nat} {fx : Bool} {A : Nat → Prop} {sa : Int → Nat} {args : Array Value} {s : State} (ho : tb_of off) (hts : ∀ w ∈ tb_TT, w.before args s = true) (hE : tb_En A sa s) : tb_G off ln fx A sa RX3 args s (85, 2, 43, 3) := trivial
theorem le_3_89 : tb_Le 3 (89, 2, 111, 2) := fun _ => ⟨lf_2_111, Or.inl (tg tw_582 rfl)⟩
set_option maxRecDepth 20000 in
theorem pk_3_89 {off : Nat → Int → Option Int} {ln : Int → Option Nat} {fx : Bool} {A : Nat → Prop} {sa : Int → Nat} {args : Array Value} {s : State} (ho : tb_of off) (hts : ∀ w ∈ tb_TT, w.before args s = true) (hE : tb_En A sa s) : tb_G off ln fx A sa RX3 args s (89, 2, 111, 2) := trivial
theorem le_3_93 : tb_Le 3 (93, 1, 2, 5) := fun h => absurd h (by decide)
set_option maxRecDepth 20000 in
theorem pk_3_93 {off : Nat → Int → Option Int} {ln : Int → Option Nat} {fx : Bool} {A : Nat → Prop} {sa : Int → Nat} {args : Array Value} {s : State} (ho : tb_of off) (hts : ∀ w ∈ tb_TT, w.before args s = true) (hE : tb_En A sa s) : tb_G off ln fx A sa RX3 args s (93, 1, 2, 5) := ⟨fk_2 5 (by decide) rfl (Or.inr ⟨_, nw_use hE (tn tw_157 rfl) rfl⟩), of_none ho rfl⟩
theorem le_3_97 : tb_Le 3 (97, 1, 2, 6) := fun h => absurd h (by decide)
set_option maxRecDepth 20000 in
theorem pk_3_97 {off : Nat → Int → Option Int} {ln : Int → Option Nat} {fx : Bool} {A : Nat → Prop} {sa : Int → Nat} {args : Array Value} {s : State} (ho : tb_of off) (hts : ∀ w ∈ tb_TT, w.before args s = true) (hE : tb_En A sa s) : tb_G off ln fx A sa RX3 args s (97, 1, 2, 6) := ⟨fk_2 6 (by decide) rfl (Or.inr ⟨_, nw_use hE (tn tw_160 rfl) rfl⟩), of_none ho rfl⟩
theorem le_3_100 : tb_Le 3 (100, 1, 2, 7) := fun h => absurd h (by decide)
set_option maxRecDepth 20000 in
theorem pk_3_100 {off : Nat → Int → Option Int} {ln : Int → Option Nat} {fx : Bool} {A : Nat → Prop} {sa : Int → Nat} {args : Array Value} {s : State} (ho : tb_of off) (hts : ∀ w ∈ tb_TT, w.before args s = true) (hE : tb_En A sa s) : tb_G off ln fx A sa RX3 args s (100, 1, 2, 7) := ⟨fk_2 7 (by decide) rfl (Or.inr ⟨_, nw_use hE (tn tw_164 rfl) rfl⟩), of_none ho rfl⟩
theorem le_3_103 : tb_Le 3 (103, 2, 16, 2) := fun _ => ⟨lf_2_16, Or.inl (tg tw_519 rfl)⟩
set_option maxRecDepth 20000 in
theorem pk_3_103 {off : Nat → Int → Option Int} {ln : Int → Option Nat} {fx : Bool} {A : Nat → Prop} {sa : Int → Nat} {args : Array Value} {s : State} (ho : tb_of off) (hts : ∀ w ∈ tb_TT, w.before args s = true) (hE : tb_En A sa s) : tb_G off ln fx A sa RX3 args s (103, 2, 16, 2) := trivial
theorem le_3_107 : tb_Le 3 (107, 2, 24, 2) := fun _ => ⟨lf_2_24, Or.inl (tg tw_529 rfl)⟩
set_option maxRecDepth 20000 in
theorem pk_3_107 {off : Nat → Int → Option Int} {ln : Int → Option Nat} {fx : Bool} {A : Nat → Prop} {sa : Int → Nat} {args : Array Value} {s : State} (ho : tb_of off) (hts : ∀ w ∈ tb_TT, w.before args s = true) (hE : tb_En A sa s) : tb_G off ln fx A sa RX3 args s (107, 2, 24, 2) := trivial
theorem le_3_110 : tb_Le 3 (110, 6, 0, 1000001) := fun h => absurd h (by decide)
set_option maxRecDepth 20000 in
theorem pk_3_110 {off : Nat → Int → Option Int} {ln : Int → Option Nat} {fx : Bool} {A : Nat → Prop} {sa : Int → Nat} {args : Array Value} {s : State} (ho : tb_of off) (hts : ∀ w ∈ tb_TT, w.before args s = true) (hE : tb_En A sa s) : tb_G off ln fx A sa RX3 args s (110, 6, 0, 1000001) := ⟨by decide, _, hE.2.1 (RX3, 110, "brave", 1000001) (List.mem_of_getElem? (i := 1) rfl)⟩
theorem le_3_112 : tb_Le 3 (112, 2, 109, 2) := fun _ => ⟨lf_2_109, Or.inl (tg tw_573 rfl)⟩
set_option maxRecDepth 20000 in
theorem pk_3_112 {off : Nat → Int → Option Int} {ln : Int → Option Nat} {fx : Bool} {A : Nat → Prop} {sa : Int → Nat} {args : Array Value} {s : State} (ho : tb_of off) (hts : ∀ w ∈ tb_TT, w.before args s = true) (hE : tb_En A sa s) : tb_G off ln fx A sa RX3 args s (112, 2, 109, 2) := trivial
theorem le_3_116 : tb_Le 3 (116, 2, 21, 3) := fun _ => ⟨lf_2_21, Or.inl (tg tw_593 rfl)⟩
set_option maxRecDepth 20000 in
theorem pk_3_116 {off : Nat → Int → Option Int} {ln : Int → Option Nat} {fx : Bool} {A : Nat → Prop} {sa : Int → Nat} {args : Array Value} {s : State} (ho : tb_of off) (hts : ∀ w ∈ tb_TT, w.before args s = true) (hE : tb_En A sa s) : tb_G off ln fx A sa RX3 args s (116, 2, 21, 3) := trivial
theorem le_3_119 : tb_Le 3 (119, 2, 45, 3) := fun _ => ⟨lf_2_45, Or.inl (tg tw_601 rfl)⟩
set_option maxRecDepth 20000 in
theorem pk_3_119 {off : Nat → Int → Option Int} {ln : Int → Option Nat} {fx : Bool} {A : Nat → Prop} {sa : Int → Nat} {args : Array Value} {s : State} (ho : tb_of off) (hts : ∀ w ∈ tb_TT, w.before args s = true) (hE : tb_En A sa s) : tb_G off ln fx A sa RX3 args s (119, 2, 45, 3) := trivial
theorem le_3_122 : tb_Le 3 (122, 2, 22, 4) := fun _ => ⟨lf_2_22, Or.inl (tg tw_605 rfl)⟩
set_option maxRecDepth 20000 in
theorem pk_3_122 {off : Nat → Int → Option Int} {ln : Int → Option Nat} {fx : Bool} {A : Nat → Prop} {sa : Int → Nat} {args : Array Value} {s : State} (ho : tb_of off) (hts : ∀ w ∈ tb_TT, w.before args s = true) (hE : tb_En A sa s) : tb_G off ln fx A sa RX3 args s (122, 2, 22, 4) := trivial
theorem le_3_126 : tb_Le 3 (126, 6, 0, 1000002) := fun h => absurd h (by decide)
set_option maxRecDepth 20000 in
theorem pk_3_126 {off : Nat → Int → Option Int} {ln : Int → Option Nat} {fx : Bool} {A : Nat → Prop} {sa : Int → Nat} {args : Array Value} {s : State} (ho : tb_of off) (hts : ∀ w ∈ tb_TT, w.before args s = true) (hE : tb_En A sa s) : tb_G off ln fx A sa RX3 args s (126, 6, 0, 1000002) := ⟨by decide, _, hE.2.1 (RX3, 126, "of", 1000002) (List.mem_of_getElem? (i := 2) rfl)⟩
theorem le_3_128 : tb_Le 3 (128, 2, 23, 3) := fun _ => ⟨lf_2_23, Or.inl (tg tw_614 rfl)⟩
set_option maxRecDepth 20000 in
theorem pk_3_128 {off : Nat → Int → Option Int} {ln : Int → Option Nat} {fx : Bool} {A : Nat → Prop} {sa : Int → Nat} {args : Array Value} {s : State} (ho : tb_of off) (hts : ∀ w ∈ tb_TT, w.before args s = true) (hE : tb_En A sa s) : tb_G off ln fx A sa RX3 args s (128, 2, 23, 3) := trivial
theorem le_3_131 : tb_Le 3 (131, 1, 6, 1) := fun h => absurd h (by decide)
set_option maxRecDepth 20000 in
theorem pk_3_131 {off : Nat → Int → Option Int} {ln : Int → Option Nat} {fx : Bool} {A : Nat → Prop} {sa : Int → Nat} {args : Array Value} {s : State} (ho : tb_of off) (hts : ∀ w ∈ tb_TT, w.before args s = true) (hE : tb_En A sa s) : tb_G off ln fx A sa RX3 args s (131, 1, 6, 1) := ⟨fk_6 1 (by decide) rfl (Or.inr ⟨_, nw_use hE (tn tw_111 rfl) rfl⟩), of_none ho rfl⟩
theorem le_3_136 : tb_Le 3 (136, 2, 84, 2) := fun _ => ⟨lf_2_84, Or.inr ⟨_, tn tw_622 rfl⟩⟩
set_option maxRecDepth 20000 in
theorem pk_3_136 {off : Nat → Int → Option Int} {ln : Int → Option Nat} {fx : Bool} {A : Nat → Prop} {sa : Int → Nat} {args : Array Value} {s : State} (ho : tb_of off) (hts : ∀ w ∈ tb_TT, w.before args s = true) (hE : tb_En A sa s) : tb_G off ln fx A sa RX3 args s (136, 2, 84, 2) := trivial
theorem le_3_138 : tb_Le 3 (138, 2, 25, 3) := fun _ => ⟨lf_2_25, Or.inl (tg tw_681 rfl)⟩
set_option maxRecDepth 20000 in
theorem pk_3_138 {off : Nat → Int → Option Int} {ln : Int → Option Nat} {fx : Bool} {A : Nat → Prop} {sa : Int → Nat} {args : Array Value} {s : State} (ho : tb_of off) (hts : ∀ w ∈ tb_TT, w.before args s = true) (hE : tb_En A sa s) : tb_G off ln fx A sa RX3 args s (138, 2, 25, 3) := trivial
theorem le_3_141 : tb_Le 3 (141, 2, 110, 1) := fun _ => ⟨lf_2_110, Or.inl (tg tw_541 rfl)⟩
set_option maxRecDepth 20000 in
theorem pk_3_141 {off : Nat → Int → Option Int} {ln : Int → Option Nat} {fx : Bool} {A : Nat → Prop} {sa : Int → Nat} {args : Array Value} {s : State} (ho : tb_of off) (hts : ∀ w ∈ tb_TT, w.before args s = true) (hE : tb_En A sa s) : tb_G off ln fx A sa RX3 args s (141, 2, 110, 1) := trivial
theorem le_3_144 : tb_Le 3 (144, 2, 20, 3) := fun _ => ⟨lf_2_20, Or.inl (tg tw_549 rfl)⟩
set_option maxRecDepth 20000 in
theorem pk_3_144 {off : Nat → Int → Option Int} {ln : Int → Option Nat} {fx : Bool} {A : Nat → Prop} {sa : Int → Nat} {args : Array Value} {s : State} (ho : tb_of off) (hts : ∀ w ∈ tb_TT, w.before args s = true) (hE : tb_En A sa s) : tb_G off ln fx A sa RX3 args s (144, 2, 20, 3) := trivial
theorem le_3_148 : tb_Le 3 (148, 1, 9, 6) := fun h => absurd h (by decide)
set_option maxRecDepth 20000 in
theorem pk_3_148 {off : Nat → Int → Option Int} {ln : Int → Option Nat} {fx : Bool} {A : Nat → Prop} {sa : Int → Nat} {args : Array Value} {s : State} (ho : tb_of off) (hts : ∀ w ∈ tb_TT, w.before args s = true) (hE : tb_En A sa s) : tb_G off ln fx A sa RX3 args s (148, 1, 9, 6) := ⟨fk_9 6 (by decide) rfl (Or.inr ⟨_, nw_use hE (tn tw_46 rfl) rfl⟩), of_none ho rfl⟩
theorem le_3_151 : tb_Le 3 (151, 2, 96, 3) := fun _ => ⟨lf_2_96, Or.inl (tg tw_562 rfl)⟩
set_option maxRecDepth 20000 in
theorem pk_3_151 {off : Nat → Int → Option Int} {ln : Int → Option Nat} {fx : Bool} {A : Nat → Prop} {sa : Int → Nat} {args : Array Value} {s : State} (ho : tb_of off) (hts : ∀ w ∈ tb_TT, w.before args s = true) (hE : tb_En A sa s) : tb_G off ln fx A sa RX3 args s (151, 2, 96, 3) := trivial
theorem le_3_154 : tb_Le 3 (154, 2, 19, 3) := fun _ => ⟨lf_2_19, Or.inl (tg tw_563 rfl)⟩
set_option maxRecDepth 20000 in
theorem pk_3_154 {off : Nat → Int → Option Int} {ln : Int → Option Nat} {fx : Bool} {A : Nat → Prop} {sa : Int → Nat} {args : Array Value} {s : State} (ho : tb_of off) (hts : ∀ w ∈ tb_TT, w.before args s = true) (hE : tb_En A sa s) : tb_G off ln fx A sa RX3 args s (154, 2, 19, 3) := trivial
set_option maxRecDepth 20000 in
theorem le_3 : ∀ e ∈ pl_3, tb_Le 3 e := List.forall_mem_cons.mpr ⟨le_3_3, List.forall_mem_cons.mpr ⟨le_3_9, List.forall_mem_cons.mpr ⟨le_3_15, List.forall_mem_cons.mpr ⟨le_3_19, List.forall_mem_cons.mpr ⟨le_3_24, List.forall_mem_cons.mpr ⟨le_3_28, List.forall_mem_cons.mpr ⟨le_3_34, List.forall_mem_cons.mpr ⟨le_3_39, List.forall_mem_cons.mpr ⟨le_3_43, List.forall_mem_cons.mpr ⟨le_3_47, List.forall_mem_cons.mpr ⟨le_3_51, List.forall_mem_cons.mpr ⟨le_3_55, List.forall_mem_cons.mpr ⟨le_3_59, List.forall_mem_cons.mpr ⟨le_3_61, List.forall_mem_cons.mpr ⟨le_3_65, List.forall_mem_cons.mpr ⟨le_3_69, List.forall_mem_cons.mpr ⟨le_3_72, List.forall_mem_cons.mpr ⟨le_3_76, List.forall_mem_cons.mpr ⟨le_3_79, List.forall_mem_cons.mpr ⟨le_3_82, List.forall_mem_cons.mpr ⟨le_3_85, List.forall_mem_cons.mpr ⟨le_3_89, List.forall_mem_cons.mpr ⟨le_3_93, List.forall_mem_cons.mpr ⟨le_3_97, List.forall_mem_cons.mpr ⟨le_3_100, List.forall_mem_cons.mpr ⟨le_3_103, List.forall_mem_cons.mpr ⟨le_3_107, List.forall_mem_cons.mpr ⟨le_3_110, List.forall_mem_cons.mpr ⟨le_3_112, List.forall_mem_cons.mpr ⟨le_3_116, List.forall_mem_cons.mpr ⟨le_3_119, List.forall_mem_cons.mpr ⟨le_3_122, List.forall_mem_cons.mpr ⟨le_3_126, List.forall_mem_cons.mpr ⟨le_3_128, List.forall_mem_cons.mpr ⟨le_3_131, List.forall_mem_cons.mpr ⟨le_3_136, List.forall_mem_cons.mpr ⟨le_3_138, List.forall_mem_cons.mpr ⟨le_3_141, List.forall_mem_cons.mpr ⟨le_3_144, List.forall_mem_cons.mpr ⟨le_3_148, List.forall_mem_cons.mpr ⟨le_3_151, List.forall_mem_cons.mpr ⟨le_3_154, (fun _ h => absurd h (by simp))⟩⟩⟩⟩⟩⟩⟩⟩⟩⟩⟩⟩⟩⟩⟩⟩⟩⟩⟩⟩⟩⟩⟩⟩⟩⟩⟩⟩⟩⟩⟩⟩⟩⟩⟩⟩⟩⟩⟩⟩⟩⟩
set_option maxRecDepth 20000 in
theorem pk_3 {off : Nat → Int → Option Int} {ln : Int → Option Nat} {fx : Bool} {A : Nat → Prop} {sa : Int → Nat} {args : Array Value} {s : State} (ho : tb_of off) (hts : ∀ w ∈ tb_TT, w.before args s = true) (hE : tb_En A sa s) : ∀ e ∈ pl_3, tb_G off ln fx A sa RX3 args s e := List.forall_mem_cons.mpr ⟨pk_3_3 ho hts hE, List.forall_mem_cons.mpr ⟨pk_3_9 ho hts hE, List.forall_mem_cons.mpr ⟨pk_3_15 ho hts hE, List.forall_mem_cons.mpr ⟨pk_3_19 ho hts hE, List.forall_mem_cons.mpr ⟨pk_3_24 ho hts hE, List.forall_mem_cons.mpr ⟨pk_3_28 ho hts hE, List.forall_mem_cons.mpr ⟨pk_3_34 ho hts hE, List.forall_mem_cons.mpr ⟨pk_3_39 ho hts hE, List.forall_mem_cons.mpr ⟨pk_3_43 ho hts hE, List.forall_mem_cons.mpr ⟨pk_3_47 ho hts hE, List.forall_mem_cons.mpr ⟨pk_3_51 ho hts hE, List.forall_mem_cons.mpr ⟨pk_3_55 ho hts hE, List.forall_mem_cons.mpr ⟨pk_3_59 ho hts hE, List.forall_mem_cons.mpr ⟨pk_3_61 ho hts hE, List.forall_mem_cons.mpr ⟨pk_3_65 ho hts hE, List.forall_mem_cons.mpr ⟨pk_3_69 ho hts hE, List.forall_mem_cons.mpr ⟨pk_3_72 ho hts hE, List.forall_mem_cons.mpr ⟨pk_3_76 ho hts hE, List.forall_mem_cons.mpr ⟨pk_3_79 ho hts hE, List.forall_mem_cons.mpr ⟨pk_3_82 ho hts hE, List.forall_mem_cons.mpr ⟨pk_3_85 ho hts hE, List.forall_mem_cons.mpr ⟨pk_3_89 ho hts hE, List.forall_mem_cons.mpr ⟨pk_3_93 ho hts hE, List.forall_mem_cons.mpr ⟨pk_3_97 ho hts hE, List.forall_mem_cons.mpr ⟨pk_3_100 ho hts hE, List.forall_mem_cons.mpr ⟨pk_3_103 ho hts hE, List.forall_mem_cons.mpr ⟨pk_3_107 ho hts hE, List.forall_mem_cons.mpr ⟨pk_3_110 ho hts hE, List.forall_mem_cons.mpr ⟨pk_3_112 ho hts hE, List.forall_mem_cons.mpr ⟨pk_3_116 ho hts hE, List.forall_mem_cons.mpr ⟨pk_3_119 ho hts hE, List.forall_mem_cons.mpr ⟨pk_3_122 ho hts hE, List.forall_mem_cons.mpr ⟨pk_3_126 ho hts hE, List.forall_mem_cons.mpr ⟨pk_3_128 ho hts hE, List.forall_mem_cons.mpr ⟨pk_3_131 ho hts hE, List.forall_mem_cons.mpr ⟨pk_3_136 ho hts hE, List.forall_mem_cons.mpr ⟨pk_3_138 ho hts hE, List.forall_mem_cons.mpr ⟨pk_3_141 ho hts hE, List.forall_mem_cons.mpr ⟨pk_3_144 ho hts hE, List.forall_mem_cons.mpr ⟨pk_3_148 ho hts hE, List.forall_mem_cons.mpr ⟨pk_3_151 ho hts hE, List.forall_mem_cons.mpr ⟨pk_3_154 ho hts hE, (fun _ h => absurd h (by simp))⟩⟩⟩⟩⟩⟩⟩⟩⟩⟩⟩⟩⟩⟩⟩⟩⟩⟩⟩⟩⟩⟩⟩⟩⟩⟩⟩⟩⟩⟩⟩⟩⟩⟩⟩⟩⟩⟩⟩⟩⟩⟩
theorem le_4_3 : tb_Le 4 (3, 9, 0, 0) := fun h => absurd h (by decide)
set_option maxRecDepth 20000 in
theorem pk_4_3 {off : Nat → Int → Option Int} {ln : Int → Option Nat} {fx : Bool} {A : Nat → Prop} {sa : Int → Nat} {args : Array Value} {s : State} (ho : tb_of off) (hts : ∀ w ∈ tb_TT, w.before args s = true) (hE : tb_En A sa s) : tb_G off ln fx A sa RX4 args s (3, 9, 0, 0) := ⟨hts _ (tg tw_325 rfl), hts _ (tg tw_27 rfl), hts _ (tg tw_28 rfl)⟩
theorem le_4_9 : tb_Le 4 (9, 12, 167, 1) := fun _ => ⟨lf_12_167, Or.inr ⟨_, tn tw_326 rfl⟩⟩
set_option maxRecDepth 20000 in
theorem pk_4_9 {off : Nat → Int → Option Int} {ln : Int → Option Nat} {fx : Bool} {A : Nat → Prop} {sa : Int → Nat} {args : Array Value} {s : State} (ho : tb_of off) (hts : ∀ w ∈ tb_TT, w.before args s = true) (hE : tb_En A sa s) : tb_G off ln fx A sa RX4 args s (9, 12, 167, 1) := trivial
theorem le_4_13 : tb_Le 4 (13, 11, 4, 0) := fun h => absurd h (by decide)
set_option maxRecDepth 20000 in
theorem pk_4_13 {off : Nat → Int → Option Int} {ln : Int → Option Nat} {fx : Bool} {A : Nat → Prop} {sa : Int → Nat} {args : Array Value} {s : State} (ho : tb_of off) (hts : ∀ w ∈ tb_TT, w.before args s = true) (hE : tb_En A sa s) : tb_G off ln fx A sa RX4 args s (13, 11, 4, 0) := ⟨fk_4 0 (by decide) rfl (Or.inl (hts _ (tg tw_329 rfl))), of_tag ho (Or.inr rfl), _, _, _, rfl, fun j hj => by
    have : j = 0 := by omega
    subst this
    exact ⟨rfl, hts _ (tg tw_329 rfl)⟩⟩
theorem le_4_19 : tb_Le 4 (19, 11, 4, 1) := fun h => absurd h (by decide)
set_option maxRecDepth 20000 in
theorem pk_4_19 {off : Nat → Int → Option Int} {ln : Int → Option Nat} {fx : Bool} {A : Nat → Prop} {sa : Int → Nat} {args : Array Value} {s : State} (ho : tb_of off) (hts : ∀ w ∈ tb_TT, w.before args s = true) (hE : tb_En A sa s) : tb_G off ln fx A sa RX4 args s (19, 11, 4, 1) := ⟨fk_4 1 (by decide) rfl (Or.inl (hts _ (tg tw_330 rfl))), of_tag ho (Or.inr rfl), _, _, _, rfl, fun j hj => by
    have : j = 1 := by omega
    subst this
    exact ⟨rfl, hts _ (tg tw_330 rfl)⟩⟩
theorem le_4_22 : tb_Le 4 (22, 3, 7, 0) := fun h => absurd h (by decide)
set_option maxRecDepth 20000 in
theorem pk_4_22 {off : Nat → Int → Option Int} {ln : Int → Option Nat} {fx : Bool} {A : Nat → Prop} {sa : Int → Nat} {args : Array Value} {s : State} (ho : tb_of off) (hts : ∀ w ∈ tb_TT, w.before args s = true) (hE : tb_En A sa s) : tb_G off ln fx A sa RX4 args s (22, 3, 7, 0) := ⟨RX7, TX7, 3, tyX7, rfl, rfl, uw_7, tyX7_ok, at_7, hts _ (tg tw_327 rfl), hts _ (tg tw_199 rfl), hts _ (tg tw_8 rfl)⟩
theorem le_4_24 : tb_Le 4 (24, 13, 70, 1) := fun _ => ⟨lf_13_70, Or.inr ⟨_, tn tw_328 rfl⟩⟩
set_option maxRecDepth 20000 in
theorem pk_4_24 {off : Nat → Int → Option Int} {ln : Int → Option Nat} {fx : Bool} {A : Nat → Prop} {sa : Int → Nat} {args : Array Value} {s : State} (ho : tb_of off) (hts : ∀ w ∈ tb_TT, w.before args s = true) (hE : tb_En A sa s) : tb_G off ln fx A sa RX4 args s (24, 13, 70, 1) := trivial
theorem le_4_25 : tb_Le 4 (25, 11, 4, 2) := fun h => absurd h (by decide)
set_option maxRecDepth 20000 in
theorem pk_4_25 {off : Nat → Int → Option Int} {ln : Int → Option Nat} {fx : Bool} {A : Nat → Prop} {sa : Int → Nat} {args : Array Value} {s : State} (ho : tb_of off) (hts : ∀ w ∈ tb_TT, w.before args s = true) (hE : tb_En A sa s) : tb_G off ln fx A sa RX4 args s (25, 11, 4, 2) := ⟨fk_4 2 (by decide) rfl (Or.inl (hts _ (tg tw_331 rfl))), of_tag ho (Or.inr rfl), _, _, _, rfl, fun j hj => by
    have : j = 2 := by omega
    subst this
    exact ⟨rfl, hts _ (tg tw_331 rfl)⟩⟩
theorem le_4_29 : tb_Le 4 (29, 2, 71, 2) := fun _ => ⟨lf_2_71, Or.inl (tg tw_1014 rfl)⟩
set_option maxRecDepth 20000 in
theorem pk_4_29 {off : Nat → Int → Option Int} {ln : Int → Option Nat} {fx : Bool} {A : Nat → Prop} {sa : Int → Nat} {args : Array Value} {s : State} (ho : tb_of off) (hts : ∀ w ∈ tb_TT, w.before args s = true) (hE : tb_En A sa s) : tb_G off ln fx A sa RX4 args s (29, 2, 71, 2) := trivial
theorem le_4_33 : tb_Le 4 (33, 2, 48, 4) := fun _ => ⟨lf_2_48, Or.inl (tg tw_1015 rfl)⟩
set_option maxRecDepth 20000 in
theorem pk_4_33 {off : Nat → Int → Option Int} {ln : Int → Option Nat} {fx : Bool} {A : Nat → Prop} {sa : Int → Nat} {args : Array Value} {s : State} (ho : tb_of off) (hts : ∀ w ∈ tb_TT, w.before args s = true) (hE : tb_En A sa s) : tb_G off ln fx A sa RX4 args s (33, 2, 48, 4) := trivial
theorem le_4_37 : tb_Le 4 (37, 2, 31, 2) := fun _ => ⟨lf_2_31, Or.inl (tg tw_1019 rfl)⟩
set_option maxRecDepth 20000 in
theorem pk_4_37 {off : Nat → Int → Option Int} {ln : Int → Option Nat} {fx : Bool} {A : Nat → Prop} {sa : Int → Nat} {args : Array Value} {s : State} (ho : tb_of off) (hts : ∀ w ∈ tb_TT, w.before args s = true) (hE : tb_En A sa s) : tb_G off ln fx A sa RX4 args s (37, 2, 31, 2) := trivial
theorem le_4_43 : tb_Le 4 (43, 2, 49, 5) := fun _ => ⟨lf_2_49, Or.inl (tg tw_1020 rfl)⟩
set_option maxRecDepth 20000 in
theorem pk_4_43 {off : Nat → Int → Option Int} {ln : Int → Option Nat} {fx : Bool} {A : Nat → Prop} {sa : Int → Nat} {args : Array Value} {s : State} (ho : tb_of off) (hts : ∀ w ∈ tb_TT, w.before args s = true) (hE : tb_En A sa s) : tb_G off ln fx A sa RX4 args s (43, 2, 49, 5) := trivial
theorem le_4_47 : tb_Le 4 (47, 2, 34, 3) := fun _ => ⟨lf_2_34, Or.inl (tg tw_1024 rfl)⟩
set_option maxRecDepth 20000 in
theorem pk_4_47 {off : Nat → Int → Option Int} {ln : Int → Option Nat} {fx : Bool} {A : Nat → Prop} {sa : Int → Nat} {args : Array Value} {s : State} (ho : tb_of off) (hts : ∀ w ∈ tb_TT, w.before args s = true) (hE : tb_En A sa s) : tb_G off ln fx A sa RX4 args s (47, 2, 34, 3) := trivial
theorem le_4_51 : tb_Le 4 (51, 2, 14, 2) := fun _ => ⟨lf_2_14, Or.inl (tg tw_1025 rfl)⟩
set_option maxRecDepth 20000 in
theorem pk_4_51 {off : Nat → Int → Option Int} {ln : Int → Option Nat} {fx : Bool} {A : Nat → Prop} {sa : Int → Nat} {args : Array Value} {s : State} (ho : tb_of off) (hts : ∀ w ∈ tb_TT, w.before args s = true) (hE : tb_En A sa s) : tb_G off ln fx A sa RX4 args s (51, 2, 14, 2) := trivial
theorem le_4_55 : tb_Le 4 (55, 2, 72, 2) := fun _ => ⟨lf_2_72, Or.inl (tg tw_1026 rfl)⟩
set_option maxRecDepth 20000 in
theorem pk_4_55 {off : Nat → Int → Option Int} {ln : Int → Option Nat} {fx : Bool} {A : Nat → Prop} {sa : Int → Nat} {args : Array Value} {s : State} (ho : tb_of off) (hts : ∀ w ∈ tb_TT, w.before args s = true) (hE : tb_En A sa s) : tb_G off ln fx A sa RX4 args s (55, 2, 72, 2) := trivial
theorem le_4_58 : tb_Le 4 (58, 1, 2, 7) := fun h => absurd h (by decide)
set_option maxRecDepth 20000 in
theorem pk_4_58 {off : Nat → Int → Option Int} {ln : Int → Option Nat} {fx : Bool} {A : Nat → Prop} {sa : Int → Nat} {args : Array Value} {s : State} (ho : tb_of off) (hts : ∀ w ∈ tb_TT, w.before args s = true) (hE : tb_En A sa s) : tb_G off ln fx A sa RX4 args s (58, 1, 2, 7) := ⟨fk_2 7 (by decide) rfl (Or.inr ⟨_, nw_use hE (tn tw_165 rfl) rfl⟩), of_none ho rfl⟩
theorem le_4_62 : tb_Le 4 (62, 12, 318, 2) := fun _ => ⟨lf_12_318, Or.inl (tg tw_1027 rfl)⟩
set_option maxRecDepth 20000 in
theorem pk_4_62 {off : Nat → Int → Option Int} {ln : Int → Option Nat} {fx : Bool} {A : Nat → Prop} {sa : Int → Nat} {args : Array Value} {s : State} (ho : tb_of off) (hts : ∀ w ∈ tb_TT, w.before args s = true) (hE : tb_En A sa s) : tb_G off ln fx A sa RX4 args s (62, 12, 318, 2) := trivial
theorem le_4_68 : tb_Le 4 (68, 2, 73, 3) := fun _ => ⟨lf_2_73, Or.inl (tg tw_1028 rfl)⟩
set_option maxRecDepth 20000 in
theorem pk_4_68 {off : Nat → Int → Option Int} {ln : Int → Option Nat} {fx : Bool} {A : Nat → Prop} {sa : Int → Nat} {args : Array Value} {s : State} (ho : tb_of off) (hts : ∀ w ∈ tb_TT, w.before args s = true) (hE : tb_En A sa s) : tb_G off ln fx A sa RX4 args s (68, 2, 73, 3) := trivial
theorem le_4_72 : tb_Le 4 (72, 5, 0, 100) := fun h => absurd h (by decide)
set_option maxRecDepth 20000 in
theorem pk_4_72 {off : Nat → Int → Option Int} {ln : Int → Option Nat} {fx : Bool} {A : Nat → Prop} {sa : Int → Nat} {args : Array Value} {s : State} (ho : tb_of off) (hts : ∀ w ∈ tb_TT, w.before args s = true) (hE : tb_En A sa s) : tb_G off ln fx A sa RX4 args s (72, 5, 0, 100) := ⟨100, hts _ (tg tw_1037 rfl), by decide +kernel⟩
theorem le_4_74 : tb_Le 4 (74, 2, 51, 5) := fun _ => ⟨lf_2_51, Or.inl (tg tw_1038 rfl)⟩
set_option maxRecDepth 20000 in
theorem pk_4_74 {off : Nat → Int → Option Int} {ln : Int → Option Nat} {fx : Bool} {A : Nat → Prop} {sa : Int → Nat} {args : Array Value} {s : State} (ho : tb_of off) (hts : ∀ w ∈ tb_TT, w.before args s = true) (hE : tb_En A sa s) : tb_G off ln fx A sa RX4 args s (74, 2, 51, 5) := trivial
theorem le_4_78 : tb_Le 4 (78, 5, 0, 1000) := fun h => absurd h (by decide)
set_option maxRecDepth 20000 in
theorem pk_4_78 {off : Nat → Int → Option Int} {ln : Int → Option Nat} {fx : Bool} {A : Nat → Prop} {sa : Int → Nat} {args : Array Value} {s : State} (ho : tb_of off) (hts : ∀ w ∈ tb_TT, w.before args s = true) (hE : tb_En A sa s) : tb_G off ln fx A sa RX4 args s (78, 5, 0, 1000) := ⟨1000, hts _ (tg tw_1046 rfl), by decide +kernel⟩
theorem le_4_80 : tb_Le 4 (80, 2, 77, 1) := fun _ => ⟨lf_2_77, Or.inl (tg tw_1042 rfl)⟩
set_option maxRecDepth 20000 in
theorem pk_4_80 {off : Nat → Int → Option Int} {ln : Int → Option Nat} {fx : Bool} {A : Nat → Prop} {sa : Int → Nat} {args : Array Value} {s : State} (ho : tb_of off) (hts : ∀ w ∈ tb_TT, w.before args s = true) (hE : tb_En A sa s) : tb_G off ln fx A sa RX4 args s (80, 2, 77, 1) := trivial
theorem le_4_83 : tb_Le 4 (83, 1, 2, 6) := fun h => absurd h (by decide)
set_option maxRecDepth 20000 in
theorem pk_4_83 {off : Nat → Int → Option Int} {ln : Int → Option Nat} {fx : Bool} {A : Nat → Prop} {sa : Int → Nat} {args : Array Value} {s : State} (ho : tb_of off) (hts : ∀ w ∈ tb_TT, w.before args s = true) (hE : tb_En A sa s) : tb_G off ln fx A sa RX4 args s (83, 1, 2, 6) := ⟨fk_2 6 (by decide) rfl (Or.inr ⟨_, nw_use hE (tn tw_161 rfl) rfl⟩), of_none ho rfl⟩
set_option maxRecDepth 20000 in
theorem le_4 : ∀ e ∈ pl_4, tb_Le 4 e := List.forall_mem_cons.mpr ⟨le_4_3, List.forall_mem_cons.mpr ⟨le_4_9, List.forall_mem_cons.mpr ⟨le_4_13, List.forall_mem_cons.mpr ⟨le_4_19, List.forall_mem_cons.mpr ⟨le_4_22, List.forall_mem_cons.mpr ⟨le_4_24, List.forall_mem_cons.mpr ⟨le_4_25, List.forall_mem_cons.mpr ⟨le_4_29, List.forall_mem_cons.mpr ⟨le_4_33, List.forall_mem_cons.mpr ⟨le_4_37, List.forall_mem_cons.mpr ⟨le_4_43, List.forall_mem_cons.mpr ⟨le_4_47, List.forall_mem_cons.mpr ⟨le_4_51, List.forall_mem_cons.mpr ⟨le_4_55, List.forall_mem_cons.mpr ⟨le_4_58, List.forall_mem_cons.mpr ⟨le_4_62, List.forall_mem_cons.mpr ⟨le_4_68, List.forall_mem_cons.mpr ⟨le_4_72, List.forall_mem_cons.mpr ⟨le_4_74, List.forall_mem_cons.mpr ⟨le_4_78, List.forall_mem_cons.mpr ⟨le_4_80, List.forall_mem_cons.mpr ⟨le_4_83, (fun _ h => absurd h (by simp))⟩⟩⟩⟩⟩⟩⟩⟩⟩⟩⟩⟩⟩⟩⟩⟩⟩⟩⟩⟩⟩⟩
set_option maxRecDepth 20000 in
theorem pk_4 {off : Nat → Int → Option Int} {ln : Int → Option Nat} {fx : Bool} {A : Nat → Prop} {sa : Int → Nat} {args : Array Value} {s : State} (ho : tb_of off) (hts : ∀ w ∈ tb_TT, w.before args s = true) (hE : tb_En A sa s) : ∀ e ∈ pl_4, tb_G off ln fx A sa RX4 args s e := List.forall_mem_cons.mpr ⟨pk_4_3 ho hts hE, List.forall_mem_cons.mpr ⟨pk_4_9 ho hts hE, List.forall_mem_cons.mpr ⟨pk_4_13 ho hts hE, List.forall_mem_cons.mpr ⟨pk_4_19 ho hts hE, List.forall_mem_cons.mpr ⟨pk_4_22 ho hts hE, List.forall_mem_cons.mpr ⟨pk_4_24 ho hts hE, List.forall_mem_cons.mpr ⟨pk_4_25 ho hts hE, List.forall_mem_cons.mpr ⟨pk_4_29 ho hts hE, List.forall_mem_cons.mpr ⟨pk_4_33 ho hts hE, List.forall_mem_cons.mpr ⟨pk_4_37 ho hts hE, List.forall_mem_cons.mpr ⟨pk_4_43 ho hts hE, List.forall_mem_cons.mpr ⟨pk_4_47 ho hts hE, List.forall_mem_cons.mpr ⟨pk_4_51 ho hts hE, List.forall_mem_cons.mpr ⟨pk_4_55 ho hts hE, List.forall_mem_cons.mpr ⟨pk_4_58 ho hts hE, List.forall_mem_cons.mpr ⟨pk_4_62 ho hts hE, List.forall_mem_cons.mpr ⟨pk_4_68 ho hts hE, List.forall_mem_cons.mpr ⟨pk_4_72 ho hts hE, List.forall_mem_cons.mpr ⟨pk_4_74 ho hts hE, List.forall_mem_cons.mpr ⟨pk_4_78 ho hts hE, List.forall_mem_cons.mpr ⟨pk_4_80 ho hts hE, List.forall_mem_cons.mpr ⟨pk_4_83 ho hts hE, (fun _ h => absurd h (by simp))⟩⟩⟩⟩⟩⟩⟩⟩⟩⟩⟩⟩⟩⟩⟩⟩⟩⟩⟩⟩⟩⟩
theorem le_5_3 : tb_Le 5 (3, 9, 0, 0) := fun h => absurd h (by decide)
set_option maxRecDepth 20000 in
theorem pk_5_3 {off : Nat → Int → Option Int} {ln : Int → Option Nat} {fx : Bool} {A : Nat → Prop} {sa : Int → Nat} {args : Array Value} {s : State} (ho : tb_of off) (hts : ∀ w ∈ tb_TT, w.before args s = true) (hE : tb_En A sa s) : tb_G off ln fx A sa RX5 args s (3, 9, 0, 0) := ⟨hts _ (tg tw_101 rfl), hts _ (tg tw_27 rfl), hts _ (tg tw_28 rfl)⟩
theorem le_5_9 : tb_Le 5 (9, 3, 6, 0) := fun h => absurd h (by decide)
set_option maxRecDepth 20000 in
theorem pk_5_9 {off : Nat → Int → Option Int} {ln : Int → Option Nat} {fx : Bool} {A : Nat → Prop} {sa : Int → Nat} {args : Array Value} {s : State} (ho : tb_of off) (hts : ∀ w ∈ tb_TT, w.before args s = true) (hE : tb_En A sa s) : tb_G off ln fx A sa RX5 args s (9, 3, 6, 0) := ⟨RX6, TX6, 6, tyX6, rfl, rfl, uw_6, tyX6_ok, at_6, hts _ (tg tw_102 rfl), hts _ (tg tw_103 rfl), hts _ (tg tw_6 rfl)⟩
theorem le_5_11 : tb_Le 5 (11, 13, 59, 1) := fun _ => ⟨lf_13_59, Or.inr ⟨_, tn tw_104 rfl⟩⟩
set_option maxRecDepth 20000 in
theorem pk_5_11 {off : Nat → Int → Option Int} {ln : Int → Option Nat} {fx : Bool} {A : Nat → Prop} {sa : Int → Nat} {args : Array Value} {s : State} (ho : tb_of off) (hts : ∀ w ∈ tb_TT, w.before args s = true) (hE : tb_En A sa s) : tb_G off ln fx A sa RX5 args s (11, 13, 59, 1) := trivial
theorem le_5_12 : tb_Le 5 (12, 11, 5, 2) := fun h => absurd h (by decide)
set_option maxRecDepth 20000 in
theorem pk_5_12 {off : Nat → Int → Option Int} {ln : Int → Option Nat} {fx : Bool} {A : Nat → Prop} {sa : Int → Nat} {args : Array Value} {s : State} (ho : tb_of off) (hts : ∀ w ∈ tb_TT, w.before args s = true) (hE : tb_En A sa s) : tb_G off ln fx A sa RX5 args s (12, 11, 5, 2) := ⟨fk_5 2 (by decide) rfl (Or.inl (hts _ (tg tw_132 rfl))), of_tag ho (Or.inr rfl), _, _, _, rfl, fun j hj => by
    have : j = 2 := by omega
    subst this
    exact ⟨rfl, hts _ (tg tw_132 rfl)⟩⟩
theorem le_5_18 : tb_Le 5 (18, 1, 5, 3) := fun h => absurd h (by decide)
set_option maxRecDepth 20000 in
theorem pk_5_18 {off : Nat → Int → Option Int} {ln : Int → Option Nat} {fx : Bool} {A : Nat → Prop} {sa : Int → Nat} {args : Array Value} {s : State} (ho : tb_of off) (hts : ∀ w ∈ tb_TT, w.before args s = true) (hE : tb_En A sa s) : tb_G off ln fx A sa RX5 args s (18, 1, 5, 3) := ⟨fk_5 3 (by decide) rfl (Or.inl (hts _ (tg tw_133 rfl))), of_none ho rfl⟩
theorem le_5_22 : tb_Le 5 (22, 11, 5, 0) := fun h => absurd h (by decide)
set_option maxRecDepth 20000 in
theorem pk_5_22 {off : Nat → Int → Option Int} {ln : Int → Option Nat} {fx : Bool} {A : Nat → Prop} {sa : Int → Nat} {args : Array Value} {s : State} (ho : tb_of off) (hts : ∀ w ∈ tb_TT, w.before args s = true) (hE : tb_En A sa s) : tb_G off ln fx A sa RX5 args s (22, 11, 5, 0) := ⟨fk_5 0 (by decide) rfl (Or.inl (hts _ (tg tw_130 rfl))), of_tag ho (Or.inr rfl), _, _, _, rfl, fun j hj => by
    have : j = 0 := by omega
    subst this
    exact ⟨rfl, hts _ (tg tw_130 rfl)⟩⟩
theorem le_5_26 : tb_Le 5 (26, 11, 5, 1) := fun h => absurd h (by decide)
set_option maxRecDepth 20000 in
theorem pk_5_26 {off : Nat → Int → Option Int} {ln : Int → Option Nat} {fx : Bool} {A : Nat → Prop} {sa : Int → Nat} {args : Array Value} {s : State} (ho : tb_of off) (hts : ∀ w ∈ tb_TT, w.before args s = true) (hE : tb_En A sa s) : tb_G off ln fx A sa RX5 args s (26, 11, 5, 1) := ⟨fk_5 1 (by decide) rfl (Or.inl (hts _ (tg tw_131 rfl))), of_tag ho (Or.inr rfl), _, _, _, rfl, fun j hj => by
    have : j = 1 := by omega
    subst this
    exact ⟨rfl, hts _ (tg tw_131 rfl)⟩⟩
theorem le_5_30 : tb_Le 5 (30, 2, 94, 1) := fun _ => ⟨lf_2_94, Or.inl (tg tw_1120 rfl)⟩
set_option maxRecDepth 20000 in
theorem pk_5_30 {off : Nat → Int → Option Int} {ln : Int → Option Nat} {fx : Bool} {A : Nat → Prop} {sa : Int → Nat} {args : Array Value} {s : State} (ho : tb_of off) (hts : ∀ w ∈ tb_TT, w.before args s = true) (hE : tb_En A sa s) : tb_G off ln fx A sa RX5 args s (30, 2, 94, 1) := trivial
theorem le_5_35 : tb_Le 5 (35, 2, 60, 1) := fun _ => ⟨lf_2_60, Or.inl (tg tw_1121 rfl)⟩
set_option maxRecDepth 20000 in
theorem pk_5_35 {off : Nat → Int → Option Int} {ln : Int → Option Nat} {fx : Bool} {A : Nat → Prop} {sa : Int → Nat} {args : Array Value} {s : State} (ho : tb_of off) (hts : ∀ w ∈ tb_TT, w.before args s = true) (hE : tb_En A sa s) : tb_G off ln fx A sa RX5 args s (35, 2, 60, 1) := trivial
theorem le_5_38 : tb_Le 5 (38, 2, 81, 3) := fun _ => ⟨lf_2_81, Or.inl (tg tw_1122 rfl)⟩
set_option maxRecDepth 20000 in
theorem pk_5_38 {off : Nat → Int → Option Int} {ln : Int → Option Nat} {fx : Bool} {A : Nat → Prop} {sa : Int → Nat} {args : Array Value} {s : State} (ho : tb_of off) (hts : ∀ w ∈ tb_TT, w.before args s = true) (hE : tb_En A sa s) : tb_G off ln fx A sa RX5 args s (38, 2, 81, 3) := trivial
theorem le_5_44 : tb_Le 5 (44, 6, 0, 1000003) := fun h => absurd h (by decide)
set_option maxRecDepth 20000 in
theorem pk_5_44 {off : Nat → Int → Option Int} {ln : Int → Option Nat} {fx : Bool} {A : Nat → Prop} {sa : Int → Nat} {args : Array Value} {s : State} (ho : tb_of off) (hts : ∀ w ∈ tb_TT, w.before args s = true) (hE : tb_En A sa s) : tb_G off ln fx A sa RX5 args s (44, 6, 0, 1000003) := ⟨by decide, _, hE.2.1 (RX5, 44, "first last often total most least", 1000003) (List.mem_of_getElem? (i := 3) rfl)⟩
theorem le_5_46 : tb_Le 5 (46, 2, 106, 2) := fun _ => ⟨lf_2_106, Or.inl (tg tw_1124 rfl)⟩
set_option maxRecDepth 20000 in
theorem pk_5_46 {off : Nat → Int → Option Int} {ln : Int → Option Nat} {fx : Bool} {A : Nat → Prop} {sa : Int → Nat} {args : Array Value} {s : State} (ho : tb_of off) (hts : ∀ w ∈ tb_TT, w.before args s = true) (hE : tb_En A sa s) : tb_G off ln fx A sa RX5 args s (46, 2, 106, 2) := trivial
theorem le_5_50 : tb_Le 5 (50, 2, 97, 2) := fun _ => ⟨lf_2_97, Or.inl (tg tw_1125 rfl)⟩
set_option maxRecDepth 20000 in
theorem pk_5_50 {off : Nat → Int → Option Int} {ln : Int → Option Nat} {fx : Bool} {A : Nat → Prop} {sa : Int → Nat} {args : Array Value} {s : State} (ho : tb_of off) (hts : ∀ w ∈ tb_TT, w.before args s = true) (hE : tb_En A sa s) : tb_G off ln fx A sa RX5 args s (50, 2, 97, 2) := trivial
theorem le_5_54 : tb_Le 5 (54, 2, 107, 1) := fun _ => ⟨lf_2_107, Or.inl (tg tw_1126 rfl)⟩
set_option maxRecDepth 20000 in
theorem pk_5_54 {off : Nat → Int → Option Int} {ln : Int → Option Nat} {fx : Bool} {A : Nat → Prop} {sa : Int → Nat} {args : Array Value} {s : State} (ho : tb_of off) (hts : ∀ w ∈ tb_TT, w.before args s = true) (hE : tb_En A sa s) : tb_G off ln fx A sa RX5 args s (54, 2, 107, 1) := trivial
theorem le_5_57 : tb_Le 5 (57, 2, 54, 2) := fun _ => ⟨lf_2_54, Or.inl (tg tw_1127 rfl)⟩
set_option maxRecDepth 20000 in
theorem pk_5_57 {off : Nat → Int → Option Int} {ln : Int → Option Nat} {fx : Bool} {A : Nat → Prop} {sa : Int → Nat} {args : Array Value} {s : State} (ho : tb_of off) (hts : ∀ w ∈ tb_TT, w.before args s = true) (hE : tb_En A sa s) : tb_G off ln fx A sa RX5 args s (57, 2, 54, 2) := trivial
theorem le_5_60 : tb_Le 5 (60, 2, 84, 2) := fun _ => ⟨lf_2_84, Or.inr ⟨_, tn tw_1147 rfl⟩⟩
set_option maxRecDepth 20000 in
theorem pk_5_60 {off : Nat → Int → Option Int} {ln : Int → Option Nat} {fx : Bool} {A : Nat → Prop} {sa : Int → Nat} {args : Array Value} {s : State} (ho : tb_of off) (hts : ∀ w ∈ tb_TT, w.before args s = true) (hE : tb_En A sa s) : tb_G off ln fx A sa RX5 args s (60, 2, 84, 2) := trivial
theorem le_5_63 : tb_Le 5 (63, 2, 102, 1) := fun _ => ⟨lf_2_102, Or.inl (tg tw_1151 rfl)⟩
set_option maxRecDepth 20000 in
theorem pk_5_63 {off : Nat → Int → Option Int} {ln : Int → Option Nat} {fx : Bool} {A : Nat → Prop} {sa : Int → Nat} {args : Array Value} {s : State} (ho : tb_of off) (hts : ∀ w ∈ tb_TT, w.before args s = true) (hE : tb_En A sa s) : tb_G off ln fx A sa RX5 args s (63, 2, 102, 1) := trivial
theorem le_5_66 : tb_Le 5 (66, 2, 95, 1) := fun _ => ⟨lf_2_95, Or.inl (tg tw_1148 rfl)⟩
set_option maxRecDepth 20000 in
theorem pk_5_66 {off : Nat → Int → Option Int} {ln : Int → Option Nat} {fx : Bool} {A : Nat → Prop} {sa : Int → Nat} {args : Array Value} {s : State} (ho : tb_of off) (hts : ∀ w ∈ tb_TT, w.before args s = true) (hE : tb_En A sa s) : tb_G off ln fx A sa RX5 args s (66, 2, 95, 1) := trivial
theorem le_5_70 : tb_Le 5 (70, 2, 55, 2) := fun _ => ⟨lf_2_55, Or.inl (tg tw_1131 rfl)⟩
set_option maxRecDepth 20000 in
theorem pk_5_70 {off : Nat → Int → Option Int} {ln : Int → Option Nat} {fx : Bool} {A : Nat → Prop} {sa : Int → Nat} {args : Array Value} {s : State} (ho : tb_of off) (hts : ∀ w ∈ tb_TT, w.before args s = true) (hE : tb_En A sa s) : tb_G off ln fx A sa RX5 args s (70, 2, 55, 2) := trivial
theorem le_5_73 : tb_Le 5 (73, 6, 0, 1000004) := fun h => absurd h (by decide)
set_option maxRecDepth 20000 in
theorem pk_5_73 {off : Nat → Int → Option Int} {ln : Int → Option Nat} {fx : Bool} {A : Nat → Prop} {sa : Int → Nat} {args : Array Value} {s : State} (ho : tb_of off) (hts : ∀ w ∈ tb_TT, w.before args s = true) (hE : tb_En A sa s) : tb_G off ln fx A sa RX5 args s (73, 6, 0, 1000004) := ⟨by decide, _, hE.2.1 (RX5, 73, "or", 1000004) (List.mem_of_getElem? (i := 4) rfl)⟩
theorem le_5_75 : tb_Le 5 (75, 2, 108, 2) := fun _ => ⟨lf_2_108, Or.inl (tg tw_1146 rfl)⟩
set_option maxRecDepth 20000 in
theorem pk_5_75 {off : Nat → Int → Option Int} {ln : Int → Option Nat} {fx : Bool} {A : Nat → Prop} {sa : Int → Nat} {args : Array Value} {s : State} (ho : tb_of off) (hts : ∀ w ∈ tb_TT, w.before args s = true) (hE : tb_En A sa s) : tb_G off ln fx A sa RX5 args s (75, 2, 108, 2) := trivial
theorem le_5_79 : tb_Le 5 (79, 2, 82, 2) := fun _ => ⟨lf_2_82, Or.inl (tg tw_1141 rfl)⟩
set_option maxRecDepth 20000 in
theorem pk_5_79 {off : Nat → Int → Option Int} {ln : Int → Option Nat} {fx : Bool} {A : Nat → Prop} {sa : Int → Nat} {args : Array Value} {s : State} (ho : tb_of off) (hts : ∀ w ∈ tb_TT, w.before args s = true) (hE : tb_En A sa s) : tb_G off ln fx A sa RX5 args s (79, 2, 82, 2) := trivial
theorem le_5_82 : tb_Le 5 (82, 2, 56, 2) := fun _ => ⟨lf_2_56, Or.inl (tg tw_1135 rfl)⟩
set_option maxRecDepth 20000 in
theorem pk_5_82 {off : Nat → Int → Option Int} {ln : Int → Option Nat} {fx : Bool} {A : Nat → Prop} {sa : Int → Nat} {args : Array Value} {s : State} (ho : tb_of off) (hts : ∀ w ∈ tb_TT, w.before args s = true) (hE : tb_En A sa s) : tb_G off ln fx A sa RX5 args s (82, 2, 56, 2) := trivial
theorem le_5_85 : tb_Le 5 (85, 6, 0, 1000005) := fun h => absurd h (by decide)
set_option maxRecDepth 20000 in
theorem pk_5_85 {off : Nat → Int → Option Int} {ln : Int → Option Nat} {fx : Bool} {A : Nat → Prop} {sa : Int → Nat} {args : Array Value} {s : State} (ho : tb_of off) (hts : ∀ w ∈ tb_TT, w.before args s = true) (hE : tb_En A sa s) : tb_G off ln fx A sa RX5 args s (85, 6, 0, 1000005) := ⟨by decide, _, hE.2.1 (RX5, 85, "and", 1000005) (List.mem_of_getElem? (i := 5) rfl)⟩
theorem le_5_87 : tb_Le 5 (87, 6, 0, 1000006) := fun h => absurd h (by decide)
set_option maxRecDepth 20000 in
theorem pk_5_87 {off : Nat → Int → Option Int} {ln : Int → Option Nat} {fx : Bool} {A : Nat → Prop} {sa : Int → Nat} {args : Array Value} {s : State} (ho : tb_of off) (hts : ∀ w ∈ tb_TT, w.before args s = true) (hE : tb_En A sa s) : tb_G off ln fx A sa RX5 args s (87, 6, 0, 1000006) := ⟨by decide, _, hE.2.1 (RX5, 87, "not", 1000006) (List.mem_of_getElem? (i := 6) rfl)⟩
theorem le_5_89 : tb_Le 5 (89, 2, 83, 2) := fun _ => ⟨lf_2_83, Or.inl (tg tw_1140 rfl)⟩
set_option maxRecDepth 20000 in
theorem pk_5_89 {off : Nat → Int → Option Int} {ln : Int → Option Nat} {fx : Bool} {A : Nat → Prop} {sa : Int → Nat} {args : Array Value} {s : State} (ho : tb_of off) (hts : ∀ w ∈ tb_TT, w.before args s = true) (hE : tb_En A sa s) : tb_G off ln fx A sa RX5 args s (89, 2, 83, 2) := trivial
theorem le_5_93 : tb_Le 5 (93, 2, 99, 2) := fun _ => ⟨lf_2_99, Or.inl (tg tw_1142 rfl)⟩
set_option maxRecDepth 20000 in
theorem pk_5_93 {off : Nat → Int → Option Int} {ln : Int → Option Nat} {fx : Bool} {A : Nat → Prop} {sa : Int → Nat} {args : Array Value} {s : State} (ho : tb_of off) (hts : ∀ w ∈ tb_TT, w.before args s = true) (hE : tb_En A sa s) : tb_G off ln fx A sa RX5 args s (93, 2, 99, 2) := trivial
theorem le_5_97 : tb_Le 5 (97, 2, 100, 1) := fun _ => ⟨lf_2_100, Or.inl (tg tw_1143 rfl)⟩
set_option maxRecDepth 20000 in
theorem pk_5_97 {off : Nat → Int → Option Int} {ln : Int → Option Nat} {fx : Bool} {A : Nat → Prop} {sa : Int → Nat} {args : Array Value} {s : State} (ho : tb_of off) (hts : ∀ w ∈ tb_TT, w.before args s = true) (hE : tb_En A sa s) : tb_G off ln fx A sa RX5 args s (97, 2, 100, 1) := trivial
theorem le_5_100 : tb_Le 5 (100, 2, 101, 2) := fun _ => ⟨lf_2_101, Or.inl (tg tw_1144 rfl)⟩
set_option maxRecDepth 20000 in
theorem pk_5_100 {off : Nat → Int → Option Int} {ln : Int → Option Nat} {fx : Bool} {A : Nat → Prop} {sa : Int → Nat} {args : Array Value} {s : State} (ho : tb_of off) (hts : ∀ w ∈ tb_TT, w.before args s = true) (hE : tb_En A sa s) : tb_G off ln fx A sa RX5 args s (100, 2, 101, 2) := trivial
theorem le_5_104 : tb_Le 5 (104, 6, 0, 1000007) := fun h => absurd h (by decide)
set_option maxRecDepth 20000 in
theorem pk_5_104 {off : Nat → Int → Option Int} {ln : Int → Option Nat} {fx : Bool} {A : Nat → Prop} {sa : Int → Nat} {args : Array Value} {s : State} (ho : tb_of off) (hts : ∀ w ∈ tb_TT, w.before args s = true) (hE : tb_En A sa s) : tb_G off ln fx A sa RX5 args s (104, 6, 0, 1000007) := ⟨by decide, _, hE.2.1 (RX5, 104, "all", 1000007) (List.mem_of_getElem? (i := 7) rfl)⟩
theorem le_5_106 : tb_Le 5 (106, 1, 1, 2) := fun h => absurd h (by decide)
set_option maxRecDepth 20000 in
theorem pk_5_106 {off : Nat → Int → Option Int} {ln : Int → Option Nat} {fx : Bool} {A : Nat → Prop} {sa : Int → Nat} {args : Array Value} {s : State} (ho : tb_of off) (hts : ∀ w ∈ tb_TT, w.before args s = true) (hE : tb_En A sa s) : tb_G off ln fx A sa RX5 args s (106, 1, 1, 2) := ⟨fk_1 2 (by decide) rfl (Or.inr ⟨_, nw_use hE (tn tw_250 rfl) rfl⟩), of_none ho rfl⟩
theorem le_5_111 : tb_Le 5 (111, 2, 58, 3) := fun _ => ⟨lf_2_58, Or.inl (tg tw_1159 rfl)⟩
set_option maxRecDepth 20000 in
theorem pk_5_111 {off : Nat → Int → Option Int} {ln : Int → Option Nat} {fx : Bool} {A : Nat → Prop} {sa : Int → Nat} {args : Array Value} {s : State} (ho : tb_of off) (hts : ∀ w ∈ tb_TT, w.before args s = true) (hE : tb_En A sa s) : tb_G off ln fx A sa RX5 args s (111, 2, 58, 3) := trivial
theorem le_5_115 : tb_Le 5 (115, 12, 316, 2) := fun _ => ⟨lf_12_316, Or.inl (tg tw_1167 rfl)⟩
set_option maxRecDepth 20000 in
theorem pk_5_115 {off : Nat → Int → Option Int} {ln : Int → Option Nat} {fx : Bool} {A : Nat → Prop} {sa : Int → Nat} {args : Array Value} {s : State} (ho : tb_of off) (hts : ∀ w ∈ tb_TT, w.before args s = true) (hE : tb_En A sa s) : tb_G off ln fx A sa RX5 args s (115, 12, 316, 2) := trivial
theorem le_5_121 : tb_Le 5 (121, 12, 318, 2) := fun _ => ⟨lf_12_318, Or.inl (tg tw_1168 rfl)⟩
set_option maxRecDepth 20000 in
theorem pk_5_121 {off : Nat → Int → Option Int} {ln : Int → Option Nat} {fx : Bool} {A : Nat → Prop} {sa : Int → Nat} {args : Array Value} {s : State} (ho : tb_of off) (hts : ∀ w ∈ tb_TT, w.before args s = true) (hE : tb_En A sa s) : tb_G off ln fx A sa RX5 args s (121, 12, 318, 2) := trivial
theorem le_5_124 : tb_Le 5 (124, 8, 1, 0) := fun h => absurd h (by decide)
set_option maxRecDepth 20000 in
theorem pk_5_124 {off : Nat → Int → Option Int} {ln : Int → Option Nat} {fx : Bool} {A : Nat → Prop} {sa : Int → Nat} {args : Array Value} {s : State} (ho : tb_of off) (hts : ∀ w ∈ tb_TT, w.before args s = true) (hE : tb_En A sa s) : tb_G off ln fx A sa RX5 args s (124, 8, 1, 0) := ⟨fk_1 0 (by decide) rfl (Or.inr ⟨_, nw_use hE (tn tw_247 rfl) rfl⟩), of_tag ho (Or.inr rfl)⟩
theorem le_5_128 : tb_Le 5 (128, 2, 62, 3) := fun _ => ⟨lf_2_62, Or.inl (tg tw_1163 rfl)⟩
set_option maxRecDepth 20000 in
theorem pk_5_128 {off : Nat → Int → Option Int} {ln : Int → Option Nat} {fx : Bool} {A : Nat → Prop} {sa : Int → Nat} {args : Array Value} {s : State} (ho : tb_of off) (hts : ∀ w ∈ tb_TT, w.before args s = true) (hE : tb_En A sa s) : tb_G off ln fx A sa RX5 args s (128, 2, 62, 3) := trivial
theorem le_5_132 : tb_Le 5 (132, 2, 63, 3) := fun _ => ⟨lf_2_63, Or.inl (tg tw_1164 rfl)⟩
set_option maxRecDepth 20000 in
theorem pk_5_132 {off : Nat → Int → Option Int} {ln : Int → Option Nat} {fx : Bool} {A : Nat → Prop} {sa : Int → Nat} {args : Array Value} {s : State} (ho : tb_of off) (hts : ∀ w ∈ tb_TT, w.before args s = true) (hE : tb_En A sa s) : tb_G off ln fx A sa RX5 args s (132, 2, 63, 3) := trivial
theorem le_5_136 : tb_Le 5 (136, 2, 6, 2) := fun _ => ⟨lf_2_6, Or.inl (tg tw_1165 rfl)⟩
set_option maxRecDepth 20000 in
theorem pk_5_136 {off : Nat → Int → Option Int} {ln : Int → Option Nat} {fx : Bool} {A : Nat → Prop} {sa : Int → Nat} {args : Array Value} {s : State} (ho : tb_of off) (hts : ∀ w ∈ tb_TT, w.before args s = true) (hE : tb_En A sa s) : tb_G off ln fx A sa RX5 args s (136, 2, 6, 2) := trivial
theorem le_5_140 : tb_Le 5 (140, 1, 6, 1) := fun h => absurd h (by decide)
set_option maxRecDepth 20000 in
theorem pk_5_140 {off : Nat → Int → Option Int} {ln : Int → Option Nat} {fx : Bool} {A : Nat → Prop} {sa : Int → Nat} {args : Array Value} {s : State} (ho : tb_of off) (hts : ∀ w ∈ tb_TT, w.before args s = true) (hE : tb_En A sa s) : tb_G off ln fx A sa RX5 args s (140, 1, 6, 1) := ⟨fk_6 1 (by decide) rfl (Or.inr ⟨_, nw_use hE (tn tw_110 rfl) rfl⟩), of_none ho rfl⟩
theorem le_5_143 : tb_Le 5 (143, 2, 64, 3) := fun _ => ⟨lf_2_64, Or.inl (tg tw_1166 rfl)⟩
set_option maxRecDepth 20000 in
theorem pk_5_143 {off : Nat → Int → Option Int} {ln : Int → Option Nat} {fx : Bool} {A : Nat → Prop} {sa : Int → Nat} {args : Array Value} {s : State} (ho : tb_of off) (hts : ∀ w ∈ tb_TT, w.before args s = true) (hE : tb_En A sa s) : tb_G off ln fx A sa RX5 args s (143, 2, 64, 3) := trivial
set_option maxRecDepth 20000 in
theorem le_5 : ∀ e ∈ pl_5, tb_Le 5 e := List.forall_mem_cons.mpr ⟨le_5_3, List.forall_mem_cons.mpr ⟨le_5_9, List.forall_mem_cons.mpr ⟨le_5_11, List.forall_mem_cons.mpr ⟨le_5_12, List.forall_mem_cons.mpr ⟨le_5_18, List.forall_mem_cons.mpr ⟨le_5_22, List.forall_mem_cons.mpr ⟨le_5_26, List.forall_mem_cons.mpr ⟨le_5_30, List.forall_mem_cons.mpr ⟨le_5_35, List.forall_mem_cons.mpr ⟨le_5_38, List.forall_mem_cons.mpr ⟨le_5_44, List.forall_mem_cons.mpr ⟨le_5_46, List.forall_mem_cons.mpr ⟨le_5_50, List.forall_mem_cons.mpr ⟨le_5_54, List.forall_mem_cons.mpr ⟨le_5_57, List.forall_mem_cons.mpr ⟨le_5_60, List.forall_mem_cons.mpr ⟨le_5_63, List.forall_mem_cons.mpr ⟨le_5_66, List.forall_mem_cons.mpr ⟨le_5_70, List.forall_mem_cons.mpr ⟨le_5_73, List.forall_mem_cons.mpr ⟨le_5_75, List.forall_mem_cons.mpr ⟨le_5_79, List.forall_mem_cons.mpr ⟨le_5_82, List.forall_mem_cons.mpr ⟨le_5_85, List.forall_mem_cons.mpr ⟨le_5_87, List.forall_mem_cons.mpr ⟨le_5_89, List.forall_mem_cons.mpr ⟨le_5_93, List.forall_mem_cons.mpr ⟨le_5_97, List.forall_mem_cons.mpr ⟨le_5_100, List.forall_mem_cons.mpr ⟨le_5_104, List.forall_mem_cons.mpr ⟨le_5_106, List.forall_mem_cons.mpr ⟨le_5_111, List.forall_mem_cons.mpr ⟨le_5_115, List.forall_mem_cons.mpr ⟨le_5_121, List.forall_mem_cons.mpr ⟨le_5_124, List.forall_mem_cons.mpr ⟨le_5_128, List.forall_mem_cons.mpr ⟨le_5_132, List.forall_mem_cons.mpr ⟨le_5_136, List.forall_mem_cons.mpr ⟨le_5_140, List.forall_mem_cons.mpr ⟨le_5_143, (fun _ h => absurd h (by simp))⟩⟩⟩⟩⟩⟩⟩⟩⟩⟩⟩⟩⟩⟩⟩⟩⟩⟩⟩⟩⟩⟩⟩⟩⟩⟩⟩⟩⟩⟩⟩⟩⟩⟩⟩⟩⟩⟩⟩⟩
set_option maxRecDepth 20000 in
theorem pk_5 {off : Nat → Int → Option Int} {ln : Int → Option Nat} {fx : Bool} {A : Nat → Prop} {sa : Int → Nat} {args : Array Value} {s : State} (ho : tb_of off) (hts : ∀ w ∈ tb_TT, w.before args s = true) (hE : tb_En A sa s) : ∀ e ∈ pl_5, tb_G off ln fx A sa RX5 args s e := List.forall_mem_cons.mpr ⟨pk_5_3 ho hts hE, List.forall_mem_cons.mpr ⟨pk_5_9 ho hts hE, List.forall_mem_cons.mpr ⟨pk_5_11 ho hts hE, List.forall_mem_cons.mpr ⟨pk_5_12 ho hts hE, List.forall_mem_cons.mpr ⟨pk_5_18 ho hts hE, List.forall_mem_cons.mpr ⟨pk_5_22 ho hts hE, List.forall_mem_cons.mpr ⟨pk_5_26 ho hts hE, List.forall_mem_cons.mpr ⟨pk_5_30 ho hts hE, List.forall_mem_cons.mpr ⟨pk_5_35 ho hts hE, List.forall_mem_cons.mpr ⟨pk_5_38 ho hts hE, List.forall_mem_cons.mpr ⟨pk_5_44 ho hts hE, List.forall_mem_cons.mpr ⟨pk_5_46 ho hts hE, List.forall_mem_cons.mpr ⟨pk_5_50 ho hts hE, List.forall_mem_cons.mpr ⟨pk_5_54 ho hts hE, List.forall_mem_cons.mpr ⟨pk_5_57 ho hts hE, List.forall_mem_cons.mpr ⟨pk_5_60 ho hts hE, List.forall_mem_cons.mpr ⟨pk_5_63 ho hts hE, List.forall_mem_cons.mpr ⟨pk_5_66 ho hts hE, List.forall_mem_cons.mpr ⟨pk_5_70 ho hts hE, List.forall_mem_cons.mpr ⟨pk_5_73 ho hts hE, List.forall_mem_cons.mpr ⟨pk_5_75 ho hts hE, List.forall_mem_cons.mpr ⟨pk_5_79 ho hts hE, List.forall_mem_cons.mpr ⟨pk_5_82 ho hts hE, List.forall_mem_cons.mpr ⟨pk_5_85 ho hts hE, List.forall_mem_cons.mpr ⟨pk_5_87 ho hts hE, List.forall_mem_cons.mpr ⟨pk_5_89 ho hts hE, List.forall_mem_cons.mpr ⟨pk_5_93 ho hts hE, List.forall_mem_cons.mpr ⟨pk_5_97 ho hts hE, List.forall_mem_cons.mpr ⟨pk_5_100 ho hts hE, List.forall_mem_cons.mpr ⟨pk_5_104 ho hts hE, List.forall_mem_cons.mpr ⟨pk_5_106 ho hts hE, List.forall_mem_cons.mpr ⟨pk_5_111 ho hts hE, List.forall_mem_cons.mpr ⟨pk_5_115 ho hts hE, List.forall_mem_cons.mpr ⟨pk_5_121 ho hts hE, List.forall_mem_cons.mpr ⟨pk_5_124 ho hts hE, List.forall_mem_cons.mpr ⟨pk_5_128 ho hts hE, List.forall_mem_cons.mpr ⟨pk_5_132 ho hts hE, List.forall_mem_cons.mpr ⟨pk_5_136 ho hts hE, List.forall_mem_cons.mpr ⟨pk_5_140 ho hts hE, List.forall_mem_cons.mpr ⟨pk_5_143 ho hts hE, (fun _ h => absurd h (by simp))⟩⟩⟩⟩⟩⟩⟩⟩⟩⟩⟩⟩⟩⟩⟩⟩⟩⟩⟩⟩⟩⟩⟩⟩⟩⟩⟩⟩⟩⟩⟩⟩⟩⟩⟩⟩⟩⟩⟩⟩
theorem le_6_3 : tb_Le 6 (3, 9, 0, 0) := fun h => absurd h (by decide)
set_option maxRecDepth 20000 in
theorem pk_6_3 {off : Nat → Int → Option Int} {ln : Int → Option Nat} {fx : Bool} {A : Nat → Prop} {sa : Int → Nat} {args : Array Value} {s : State} (ho : tb_of off) (hts : ∀ w ∈ tb_TT, w.before args s = true) (hE : tb_En A sa s) : tb_G off ln fx A sa RX6 args s (3, 9, 0, 0) := ⟨hts _ (tg tw_107 rfl), hts _ (tg tw_27 rfl), hts _ (tg tw_28 rfl)⟩
theorem le_6_9 : tb_Le 6 (9, 11, 6, 0) := fun h => absurd h (by decide)
set_option maxRecDepth 20000 in
theorem pk_6_9 {off : Nat → Int → Option Int} {ln : Int → Option Nat} {fx : Bool} {A : Nat → Prop} {sa : Int → Nat} {args : Array Value} {s : State} (ho : tb_of off) (hts : ∀ w ∈ tb_TT, w.before args s = true) (hE : tb_En A sa s) : tb_G off ln fx A sa RX6 args s (9, 11, 6, 0) := ⟨fk_6 0 (by decide) rfl (Or.inl (hts _ (tg tw_108 rfl))), of_tag ho (Or.inr rfl), _, _, _, rfl, fun j hj => by
    have : j = 0 := by omega
    subst this
    exact ⟨rfl, hts _ (tg tw_108 rfl)⟩⟩
theorem le_6_15 : tb_Le 6 (15, 1, 6, 1) := fun h => absurd h (by decide)
set_option maxRecDepth 20000 in
theorem pk_6_15 {off : Nat → Int → Option Int} {ln : Int → Option Nat} {fx : Bool} {A : Nat → Prop} {sa : Int → Nat} {args : Array Value} {s : State} (ho : tb_of off) (hts : ∀ w ∈ tb_TT, w.before args s = true) (hE : tb_En A sa s) : tb_G off ln fx A sa RX6 args s (15, 1, 6, 1) := ⟨fk_6 1 (by decide) rfl (Or.inl (hts _ (tg tw_109 rfl))), of_none ho rfl⟩
theorem le_6_19 : tb_Le 6 (19, 11, 6, 2) := fun h => absurd h (by decide)
set_option maxRecDepth 20000 in
theorem pk_6_19 {off : Nat → Int → Option Int} {ln : Int → Option Nat} {fx : Bool} {A : Nat → Prop} {sa : Int → Nat} {args : Array Value} {s : State} (ho : tb_of off) (hts : ∀ w ∈ tb_TT, w.before args s = true) (hE : tb_En A sa s) : tb_G off ln fx A sa RX6 args s (19, 11, 6, 2) := ⟨fk_6 2 (by decide) rfl (Or.inl (hts _ (tg tw_113 rfl))), of_tag ho (Or.inr rfl), _, _, _, rfl, fun j hj => by
    have : j = 2 := by omega
    subst this
    exact ⟨rfl, hts _ (tg tw_113 rfl)⟩⟩
theorem le_6_22 : tb_Le 6 (22, 1, 6, 3) := fun h => absurd h (by decide)
set_option maxRecDepth 20000 in
theorem pk_6_22 {off : Nat → Int → Option Int} {ln : Int → Option Nat} {fx : Bool} {A : Nat → Prop} {sa : Int → Nat} {args : Array Value} {s : State} (ho : tb_of off) (hts : ∀ w ∈ tb_TT, w.before args s = true) (hE : tb_En A sa s) : tb_G off ln fx A sa RX6 args s (22, 1, 6, 3) := ⟨fk_6 3 (by decide) rfl (Or.inl (hts _ (tg tw_114 rfl))), of_none ho rfl⟩
theorem le_6_25 : tb_Le 6 (25, 11, 6, 4) := fun h => absurd h (by decide)
set_option maxRecDepth 20000 in
theorem pk_6_25 {off : Nat → Int → Option Int} {ln : Int → Option Nat} {fx : Bool} {A : Nat → Prop} {sa : Int → Nat} {args : Array Value} {s : State} (ho : tb_of off) (hts : ∀ w ∈ tb_TT, w.before args s = true) (hE : tb_En A sa s) : tb_G off ln fx A sa RX6 args s (25, 11, 6, 4) := ⟨fk_6 4 (by decide) rfl (Or.inl (hts _ (tg tw_115 rfl))), of_tag ho (Or.inr rfl), _, _, _, rfl, fun j hj => by
    have : j = 4 := by omega
    subst this
    exact ⟨rfl, hts _ (tg tw_115 rfl)⟩⟩
theorem le_6_28 : tb_Le 6 (28, 11, 6, 5) := fun h => absurd h (by decide)
set_option maxRecDepth 20000 in
theorem pk_6_28 {off : Nat → Int → Option Int} {ln : Int → Option Nat} {fx : Bool} {A : Nat → Prop} {sa : Int → Nat} {args : Array Value} {s : State} (ho : tb_of off) (hts : ∀ w ∈ tb_TT, w.before args s = true) (hE : tb_En A sa s) : tb_G off ln fx A sa RX6 args s (28, 11, 6, 5) := ⟨fk_6 5 (by decide) rfl (Or.inl (hts _ (tg tw_116 rfl))), of_tag ho (Or.inr rfl), _, _, _, rfl, fun j hj => by
    have : j = 5 := by omega
    subst this
    exact ⟨rfl, hts _ (tg tw_116 rfl)⟩⟩
theorem le_6_31 : tb_Le 6 (31, 12, 316, 2) := fun _ => ⟨lf_12_316, Or.inl (tg tw_793 rfl)⟩
set_option maxRecDepth 20000 in
theorem pk_6_31 {off : Nat → Int → Option Int} {ln : Int → Option Nat} {fx : Bool} {A : Nat → Prop} {sa : Int → Nat} {args : Array Value} {s : State} (ho : tb_of off) (hts : ∀ w ∈ tb_TT, w.before args s = true) (hE : tb_En A sa s) : tb_G off ln fx A sa RX6 args s (31, 12, 316, 2) := trivial
theorem le_6_37 : tb_Le 6 (37, 2, 63, 3) := fun _ => ⟨lf_2_63, Or.inl (tg tw_794 rfl)⟩
set_option maxRecDepth 20000 in
theorem pk_6_37 {off : Nat → Int → Option Int} {ln : Int → Option Nat} {fx : Bool} {A : Nat → Prop} {sa : Int → Nat} {args : Array Value} {s : State} (ho : tb_of off) (hts : ∀ w ∈ tb_TT, w.before args s = true) (hE : tb_En A sa s) : tb_G off ln fx A sa RX6 args s (37, 2, 63, 3) := trivial
theorem le_6_41 : tb_Le 6 (41, 2, 65, 2) := fun _ => ⟨lf_2_65, Or.inl (tg tw_804 rfl)⟩
set_option maxRecDepth 20000 in
theorem pk_6_41 {off : Nat → Int → Option Int} {ln : Int → Option Nat} {fx : Bool} {A : Nat → Prop} {sa : Int → Nat} {args : Array Value} {s : State} (ho : tb_of off) (hts : ∀ w ∈ tb_TT, w.before args s = true) (hE : tb_En A sa s) : tb_G off ln fx A sa RX6 args s (41, 2, 65, 2) := trivial
theorem le_6_45 : tb_Le 6 (45, 2, 67, 2) := fun _ => ⟨lf_2_67, Or.inl (tg tw_808 rfl)⟩
set_option maxRecDepth 20000 in
theorem pk_6_45 {off : Nat → Int → Option Int} {ln : Int → Option Nat} {fx : Bool} {A : Nat → Prop} {sa : Int → Nat} {args : Array Value} {s : State} (ho : tb_of off) (hts : ∀ w ∈ tb_TT, w.before args s = true) (hE : tb_En A sa s) : tb_G off ln fx A sa RX6 args s (45, 2, 67, 2) := trivial
theorem le_6_49 : tb_Le 6 (49, 2, 66, 1) := fun _ => ⟨lf_2_66, Or.inl (tg tw_812 rfl)⟩
set_option maxRecDepth 20000 in
theorem pk_6_49 {off : Nat → Int → Option Int} {ln : Int → Option Nat} {fx : Bool} {A : Nat → Prop} {sa : Int → Nat} {args : Array Value} {s : State} (ho : tb_of off) (hts : ∀ w ∈ tb_TT, w.before args s = true) (hE : tb_En A sa s) : tb_G off ln fx A sa RX6 args s (49, 2, 66, 1) := trivial
theorem le_6_53 : tb_Le 6 (53, 2, 68, 2) := fun _ => ⟨lf_2_68, Or.inl (tg tw_816 rfl)⟩
set_option maxRecDepth 20000 in
theorem pk_6_53 {off : Nat → Int → Option Int} {ln : Int → Option Nat} {fx : Bool} {A : Nat → Prop} {sa : Int → Nat} {args : Array Value} {s : State} (ho : tb_of off) (hts : ∀ w ∈ tb_TT, w.before args s = true) (hE : tb_En A sa s) : tb_G off ln fx A sa RX6 args s (53, 2, 68, 2) := trivial
theorem le_6_56 : tb_Le 6 (56, 12, 69, 3) := fun _ => ⟨lf_12_69, Or.inl (tg tw_820 rfl)⟩
set_option maxRecDepth 20000 in
theorem pk_6_56 {off : Nat → Int → Option Int} {ln : Int → Option Nat} {fx : Bool} {A : Nat → Prop} {sa : Int → Nat} {args : Array Value} {s : State} (ho : tb_of off) (hts : ∀ w ∈ tb_TT, w.before args s = true) (hE : tb_En A sa s) : tb_G off ln fx A sa RX6 args s (56, 12, 69, 3) := trivial
theorem le_6_60 : tb_Le 6 (60, 4, 0, (-1000000)) := fun h => absurd h (by decide)
set_option maxRecDepth 20000 in
theorem pk_6_60 {off : Nat → Int → Option Int} {ln : Int → Option Nat} {fx : Bool} {A : Nat → Prop} {sa : Int → Nat} {args : Array Value} {s : State} (ho : tb_of off) (hts : ∀ w ∈ tb_TT, w.before args s = true) (hE : tb_En A sa s) : tb_G off ln fx A sa RX6 args s (60, 4, 0, (-1000000)) := ⟨(-1000000), hts _ (tg tw_823 rfl), by decide +kernel⟩
theorem le_6_61 : tb_Le 6 (61, 4, 0, 1000000) := fun h => absurd h (by decide)
set_option maxRecDepth 20000 in
theorem pk_6_61 {off : Nat → Int → Option Int} {ln : Int → Option Nat} {fx : Bool} {A : Nat → Prop} {sa : Int → Nat} {args : Array Value} {s : State} (ho : tb_of off) (hts : ∀ w ∈ tb_TT, w.before args s = true) (hE : tb_En A sa s) : tb_G off ln fx A sa RX6 args s (61, 4, 0, 1000000) := ⟨1000000, hts _ (tg tw_824 rfl), by decide +kernel⟩
theorem le_6_62 : tb_Le 6 (62, 12, 318, 2) := fun _ => ⟨lf_12_318, Or.inl (tg tw_825 rfl)⟩
set_option maxRecDepth 20000 in
theorem pk_6_62 {off : Nat → Int → Option Int} {ln : Int → Option Nat} {fx : Bool} {A : Nat → Prop} {sa : Int → Nat} {args : Array Value} {s : State} (ho : tb_of off) (hts : ∀ w ∈ tb_TT, w.before args s = true) (hE : tb_En A sa s) : tb_G off ln fx A sa RX6 args s (62, 12, 318, 2) := trivial
theorem le_6_65 : tb_Le 6 (65, 5, 0, (-1000000)) := fun h => absurd h (by decide)
set_option maxRecDepth 20000 in
theorem pk_6_65 {off : Nat → Int → Option Int} {ln : Int → Option Nat} {fx : Bool} {A : Nat → Prop} {sa : Int → Nat} {args : Array Value} {s : State} (ho : tb_of off) (hts : ∀ w ∈ tb_TT, w.before args s = true) (hE : tb_En A sa s) : tb_G off ln fx A sa RX6 args s (65, 5, 0, (-1000000)) := ⟨(-1000000), hts _ (tg tw_828 rfl), by decide +kernel⟩
theorem le_6_67 : tb_Le 6 (67, 5, 0, 1000000) := fun h => absurd h (by decide)
set_option maxRecDepth 20000 in
theorem pk_6_67 {off : Nat → Int → Option Int} {ln : Int → Option Nat} {fx : Bool} {A : Nat → Prop} {sa : Int → Nat} {args : Array Value} {s : State} (ho : tb_of off) (hts : ∀ w ∈ tb_TT, w.before args s = true) (hE : tb_En A sa s) : tb_G off ln fx A sa RX6 args s (67, 5, 0, 1000000) := ⟨1000000, hts _ (tg tw_829 rfl), by decide +kernel⟩
theorem le_6_69 : tb_Le 6 (69, 12, 319, 2) := fun _ => ⟨lf_12_319, Or.inl (tg tw_830 rfl)⟩
set_option maxRecDepth 20000 in
theorem pk_6_69 {off : Nat → Int → Option Int} {ln : Int → Option Nat} {fx : Bool} {A : Nat → Prop} {sa : Int → Nat} {args : Array Value} {s : State} (ho : tb_of off) (hts : ∀ w ∈ tb_TT, w.before args s = true) (hE : tb_En A sa s) : tb_G off ln fx A sa RX6 args s (69, 12, 319, 2) := trivial
theorem le_6_72 : tb_Le 6 (72, 12, 317, 2) := fun _ => ⟨lf_12_317, Or.inl (tg tw_833 rfl)⟩
set_option maxRecDepth 20000 in
theorem pk_6_72 {off : Nat → Int → Option Int} {ln : Int → Option Nat} {fx : Bool} {A : Nat → Prop} {sa : Int → Nat} {args : Array Value} {s : State} (ho : tb_of off) (hts : ∀ w ∈ tb_TT, w.before args s = true) (hE : tb_En A sa s) : tb_G off ln fx A sa RX6 args s (72, 12, 317, 2) := trivial
theorem le_6_74 : tb_Le 6 (74, 12, 315, 2) := fun _ => ⟨lf_12_315, Or.inl (tg tw_836 rfl)⟩
set_option maxRecDepth 20000 in
theorem pk_6_74 {off : Nat → Int → Option Int} {ln : Int → Option Nat} {fx : Bool} {A : Nat → Prop} {sa : Int → Nat} {args : Array Value} {s : State} (ho : tb_of off) (hts : ∀ w ∈ tb_TT, w.before args s = true) (hE : tb_En A sa s) : tb_G off ln fx A sa RX6 args s (74, 12, 315, 2) := trivial
set_option maxRecDepth 20000 in
theorem le_6 : ∀ e ∈ pl_6, tb_Le 6 e := List.forall_mem_cons.mpr ⟨le_6_3, List.forall_mem_cons.mpr ⟨le_6_9, List.forall_mem_cons.mpr ⟨le_6_15, List.forall_mem_cons.mpr ⟨le_6_19, List.forall_mem_cons.mpr ⟨le_6_22, List.forall_mem_cons.mpr ⟨le_6_25, List.forall_mem_cons.mpr ⟨le_6_28, List.forall_mem_cons.mpr ⟨le_6_31, List.forall_mem_cons.mpr ⟨le_6_37, List.forall_mem_cons.mpr ⟨le_6_41, List.forall_mem_cons.mpr ⟨le_6_45, List.forall_mem_cons.mpr ⟨le_6_49, List.forall_mem_cons.mpr ⟨le_6_53, List.forall_mem_cons.mpr ⟨le_6_56, List.forall_mem_cons.mpr ⟨le_6_60, List.forall_mem_cons.mpr ⟨le_6_61, List.forall_mem_cons.mpr ⟨le_6_62, List.forall_mem_cons.mpr ⟨le_6_65, List.forall_mem_cons.mpr ⟨le_6_67, List.forall_mem_cons.mpr ⟨le_6_69, List.forall_mem_cons.mpr ⟨le_6_72, List.forall_mem_cons.mpr ⟨le_6_74, (fun _ h => absurd h (by simp))⟩⟩⟩⟩⟩⟩⟩⟩⟩⟩⟩⟩⟩⟩⟩⟩⟩⟩⟩⟩⟩⟩
set_option maxRecDepth 20000 in
theorem pk_6 {off : Nat → Int → Option Int} {ln : Int → Option Nat} {fx : Bool} {A : Nat → Prop} {sa : Int → Nat} {args : Array Value} {s : State} (ho : tb_of off) (hts : ∀ w ∈ tb_TT, w.before args s = true) (hE : tb_En A sa s) : ∀ e ∈ pl_6, tb_G off ln fx A sa RX6 args s e := List.forall_mem_cons.mpr ⟨pk_6_3 ho hts hE, List.forall_mem_cons.mpr ⟨pk_6_9 ho hts hE, List.forall_mem_cons.mpr ⟨pk_6_15 ho hts hE, List.forall_mem_cons.mpr ⟨pk_6_19 ho hts hE, List.forall_mem_cons.mpr ⟨pk_6_22 ho hts hE, List.forall_mem_cons.mpr ⟨pk_6_25 ho hts hE, List.forall_mem_cons.mpr ⟨pk_6_28 ho hts hE, List.forall_mem_cons.mpr ⟨pk_6_31 ho hts hE, List.forall_mem_cons.mpr ⟨pk_6_37 ho hts hE, List.forall_mem_cons.mpr ⟨pk_6_41 ho hts hE, List.forall_mem_cons.mpr ⟨pk_6_45 ho hts hE, List.forall_mem_cons.mpr ⟨pk_6_49 ho hts hE, List.forall_mem_cons.mpr ⟨pk_6_53 ho hts hE, List.forall_mem_cons.mpr ⟨pk_6_56 ho hts hE, List.forall_mem_cons.mpr ⟨pk_6_60 ho hts hE, List.forall_mem_cons.mpr ⟨pk_6_61 ho hts hE, List.forall_mem_cons.mpr ⟨pk_6_62 ho hts hE, List.forall_mem_cons.mpr ⟨pk_6_65 ho hts hE, List.forall_mem_cons.mpr ⟨pk_6_67 ho hts hE, List.forall_mem_cons.mpr ⟨pk_6_69 ho hts hE, List.forall_mem_cons.mpr ⟨pk_6_72 ho hts hE, List.forall_mem_cons.mpr ⟨pk_6_74 ho hts hE, (fun _ h => absurd h (by simp))⟩⟩⟩⟩⟩⟩⟩⟩⟩⟩⟩⟩⟩⟩⟩⟩⟩⟩⟩⟩⟩⟩
theorem le_7_3 : tb_Le 7 (3, 9, 0, 0) := fun h => absurd h (by decide)
set_option maxRecDepth 20000 in
theorem pk_7_3 {off : Nat → Int → Option Int} {ln : Int → Option Nat} {fx : Bool} {A : Nat → Prop} {sa : Int → Nat} {args : Array Value} {s : State} (ho : tb_of off) (hts : ∀ w ∈ tb_TT, w.before args s = true) (hE : tb_En A sa s) : tb_G off ln fx A sa RX7 args s (3, 9, 0, 0) := ⟨hts _ (tg tw_203 rfl), hts _ (tg tw_27 rfl), hts _ (tg tw_28 rfl)⟩
theorem le_7_9 : tb_Le 7 (9, 11, 7, 0) := fun h => absurd h (by decide)
set_option maxRecDepth 20000 in
theorem pk_7_9 {off : Nat → Int → Option Int} {ln : Int → Option Nat} {fx : Bool} {A : Nat → Prop} {sa : Int → Nat} {args : Array Value} {s : State} (ho : tb_of off) (hts : ∀ w ∈ tb_TT, w.before args s = true) (hE : tb_En A sa s) : tb_G off ln fx A sa RX7 args s (9, 11, 7, 0) := ⟨fk_7 0 (by decide) rfl (Or.inl (hts _ (tg tw_204 rfl))), of_tag ho (Or.inr rfl), _, _, _, rfl, fun j hj => by
    have : j = 0 := by omega
    subst this
    exact ⟨rfl, hts _ (tg tw_204 rfl)⟩⟩
theorem le_7_15 : tb_Le 7 (15, 1, 7, 1) := fun h => absurd h (by decide)
set_option maxRecDepth 20000 in
theorem pk_7_15 {off : Nat → Int → Option Int} {ln : Int → Option Nat} {fx : Bool} {A : Nat → Prop} {sa : Int → Nat} {args : Array Value} {s : State} (ho : tb_of off) (hts : ∀ w ∈ tb_TT, w.before args s = true) (hE : tb_En A sa s) : tb_G off ln fx A sa RX7 args s (15, 1, 7, 1) := ⟨fk_7 1 (by decide) rfl (Or.inl (hts _ (tg tw_206 rfl))), of_none ho rfl⟩
theorem le_7_19 : tb_Le 7 (19, 1, 7, 2) := fun h => absurd h (by decide)
set_option maxRecDepth 20000 in
theorem pk_7_19 {off : Nat → Int → Option Int} {ln : Int → Option Nat} {fx : Bool} {A : Nat → Prop} {sa : Int → Nat} {args : Array Value} {s : State} (ho : tb_of off) (hts : ∀ w ∈ tb_TT, w.before args s = true) (hE : tb_En A sa s) : tb_G off ln fx A sa RX7 args s (19, 1, 7, 2) := ⟨fk_7 2 (by decide) rfl (Or.inl (hts _ (tg tw_209 rfl))), of_none ho rfl⟩
theorem le_7_22 : tb_Le 7 (22, 12, 316, 2) := fun _ => ⟨lf_12_316, Or.inl (tg tw_751 rfl)⟩
set_option maxRecDepth 20000 in
theorem pk_7_22 {off : Nat → Int → Option Int} {ln : Int → Option Nat} {fx : Bool} {A : Nat → Prop} {sa : Int → Nat} {args : Array Value} {s : State} (ho : tb_of off) (hts : ∀ w ∈ tb_TT, w.before args s = true) (hE : tb_En A sa s) : tb_G off ln fx A sa RX7 args s (22, 12, 316, 2) := trivial
set_option maxRecDepth 20000 in
theorem le_7 : ∀ e ∈ pl_7, tb_Le 7 e := List.forall_mem_cons.mpr ⟨le_7_3, List.forall_mem_cons.mpr ⟨le_7_9, List.forall_mem_cons.mpr ⟨le_7_15, List.forall_mem_cons.mpr ⟨le_7_19, List.forall_mem_cons.mpr ⟨le_7_22, (fun _ h => absurd h (by simp))⟩⟩⟩⟩⟩
set_option maxRecDepth 20000 in
theorem pk_7 {off : Nat → Int → Option Int} {ln : Int → Option Nat} {fx : Bool} {A : Nat → Prop} {sa : Int → Nat} {args : Array Value} {s : State} (ho : tb_of off) (hts : ∀ w ∈ tb_TT, w.before args s = true) (hE : tb_En A sa s) : ∀ e ∈ pl_7, tb_G off ln fx A sa RX7 args s e := List.forall_mem_cons.mpr ⟨pk_7_3 ho hts hE, List.forall_mem_cons.mpr ⟨pk_7_9 ho hts hE, List.forall_mem_cons.mpr ⟨pk_7_15 ho hts hE, List.forall_mem_cons.mpr ⟨pk_7_19 ho hts hE, List.forall_mem_cons.mpr ⟨pk_7_22 ho hts hE, (fun _ h => absurd h (by simp))⟩⟩⟩⟩⟩
theorem le_8_3 : tb_Le 8 (3, 9, 0, 0) := fun h => absurd h (by decide)
set_option maxRecDepth 20000 in
theorem pk_8_3 {off : Nat → Int → Option Int} {ln : Int → Option Nat} {fx : Bool} {A : Nat → Prop} {sa : Int → Nat} {args : Array Value} {s : State} (ho : tb_of off) (hts : ∀ w ∈ tb_TT, w.before args s = true) (hE : tb_En A sa s) : tb_G off ln fx A sa RX8 args s (3, 9, 0, 0) := ⟨hts _ (tg tw_72 rfl), hts _ (tg tw_27 rfl), hts _ (tg tw_28 rfl)⟩
theorem le_8_9 : tb_Le 8 (9, 1, 8, 1) := fun h => absurd h (by decide)
set_option maxRecDepth 20000 in
theorem pk_8_9 {off : Nat → Int → Option Int} {ln : Int → Option Nat} {fx : Bool} {A : Nat → Prop} {sa : Int → Nat} {args : Array Value} {s : State} (ho : tb_of off) (hts : ∀ w ∈ tb_TT, w.before args s = true) (hE : tb_En A sa s) : tb_G off ln fx A sa RX8 args s (9, 1, 8, 1) := ⟨fk_8 1 (by decide) rfl (Or.inl (hts _ (tg tw_74 rfl))), of_none ho rfl⟩
theorem le_8_15 : tb_Le 8 (15, 1, 8, 2) := fun h => absurd h (by decide)
set_option maxRecDepth 20000 in
theorem pk_8_15 {off : Nat → Int → Option Int} {ln : Int → Option Nat} {fx : Bool} {A : Nat → Prop} {sa : Int → Nat} {args : Array Value} {s : State} (ho : tb_of off) (hts : ∀ w ∈ tb_TT, w.before args s = true) (hE : tb_En A sa s) : tb_G off ln fx A sa RX8 args s (15, 1, 8, 2) := ⟨fk_8 2 (by decide) rfl (Or.inl (hts _ (tg tw_75 rfl))), of_none ho rfl⟩
theorem le_8_19 : tb_Le 8 (19, 11, 8, 0) := fun h => absurd h (by decide)
set_option maxRecDepth 20000 in
theorem pk_8_19 {off : Nat → Int → Option Int} {ln : Int → Option Nat} {fx : Bool} {A : Nat → Prop} {sa : Int → Nat} {args : Array Value} {s : State} (ho : tb_of off) (hts : ∀ w ∈ tb_TT, w.before args s = true) (hE : tb_En A sa s) : tb_G off ln fx A sa RX8 args s (19, 11, 8, 0) := ⟨fk_8 0 (by decide) rfl (Or.inl (hts _ (tg tw_73 rfl))), of_tag ho (Or.inr rfl), _, _, _, rfl, fun j hj => by
    have : j = 0 := by omega
    subst this
    exact ⟨rfl, hts _ (tg tw_73 rfl)⟩⟩
theorem le_8_23 : tb_Le 8 (23, 2, 61, 2) := fun _ => ⟨lf_2_61, Or.inl (tg tw_641 rfl)⟩
set_option maxRecDepth 20000 in
theorem pk_8_23 {off : Nat → Int → Option Int} {ln : Int → Option Nat} {fx : Bool} {A : Nat → Prop} {sa : Int → Nat} {args : Array Value} {s : State} (ho : tb_of off) (hts : ∀ w ∈ tb_TT, w.before args s = true) (hE : tb_En A sa s) : tb_G off ln fx A sa RX8 args s (23, 2, 61, 2) := trivial
theorem le_8_29 : tb_Le 8 (29, 2, 97, 2) := fun _ => ⟨lf_2_97, Or.inl (tg tw_653 rfl)⟩
set_option maxRecDepth 20000 in
theorem pk_8_29 {off : Nat → Int → Option Int} {ln : Int → Option Nat} {fx : Bool} {A : Nat → Prop} {sa : Int → Nat} {args : Array Value} {s : State} (ho : tb_of off) (hts : ∀ w ∈ tb_TT, w.before args s = true) (hE : tb_En A sa s) : tb_G off ln fx A sa RX8 args s (29, 2, 97, 2) := trivial
theorem le_8_34 : tb_Le 8 (34, 2, 85, 2) := fun _ => ⟨lf_2_85, Or.inl (tg tw_626 rfl)⟩
set_option maxRecDepth 20000 in
theorem pk_8_34 {off : Nat → Int → Option Int} {ln : Int → Option Nat} {fx : Bool} {A : Nat → Prop} {sa : Int → Nat} {args : Array Value} {s : State} (ho : tb_of off) (hts : ∀ w ∈ tb_TT, w.before args s = true) (hE : tb_En A sa s) : tb_G off ln fx A sa RX8 args s (34, 2, 85, 2) := trivial
theorem le_8_37 : tb_Le 8 (37, 2, 95, 1) := fun _ => ⟨lf_2_95, Or.inl (tg tw_634 rfl)⟩
set_option maxRecDepth 20000 in
theorem pk_8_37 {off : Nat → Int → Option Int} {ln : Int → Option Nat} {fx : Bool} {A : Nat → Prop} {sa : Int → Nat} {args : Array Value} {s : State} (ho : tb_of off) (hts : ∀ w ∈ tb_TT, w.before args s = true) (hE : tb_En A sa s) : tb_G off ln fx A sa RX8 args s (37, 2, 95, 1) := trivial
theorem le_8_41 : tb_Le 8 (41, 2, 99, 2) := fun _ => ⟨lf_2_99, Or.inl (tg tw_645 rfl)⟩
set_option maxRecDepth 20000 in
theorem pk_8_41 {off : Nat → Int → Option Int} {ln : Int → Option Nat} {fx : Bool} {A : Nat → Prop} {sa : Int → Nat} {args : Array Value} {s : State} (ho : tb_of off) (hts : ∀ w ∈ tb_TT, w.before args s = true) (hE : tb_En A sa s) : tb_G off ln fx A sa RX8 args s (41, 2, 99, 2) := trivial
theorem le_8_45 : tb_Le 8 (45, 2, 100, 1) := fun _ => ⟨lf_2_100, Or.inl (tg tw_654 rfl)⟩
set_option maxRecDepth 20000 in
theorem pk_8_45 {off : Nat → Int → Option Int} {ln : Int → Option Nat} {fx : Bool} {A : Nat → Prop} {sa : Int → Nat} {args : Array Value} {s : State} (ho : tb_of off) (hts : ∀ w ∈ tb_TT, w.before args s = true) (hE : tb_En A sa s) : tb_G off ln fx A sa RX8 args s (45, 2, 100, 1) := trivial
theorem le_8_48 : tb_Le 8 (48, 2, 82, 2) := fun _ => ⟨lf_2_82, Or.inl (tg tw_637 rfl)⟩
set_option maxRecDepth 20000 in
theorem pk_8_48 {off : Nat → Int → Option Int} {ln : Int → Option Nat} {fx : Bool} {A : Nat → Prop} {sa : Int → Nat} {args : Array Value} {s : State} (ho : tb_of off) (hts : ∀ w ∈ tb_TT, w.before args s = true) (hE : tb_En A sa s) : tb_G off ln fx A sa RX8 args s (48, 2, 82, 2) := trivial
theorem le_8_51 : tb_Le 8 (51, 2, 86, 2) := fun _ => ⟨lf_2_86, Or.inl (tg tw_630 rfl)⟩
set_option maxRecDepth 20000 in
theorem pk_8_51 {off : Nat → Int → Option Int} {ln : Int → Option Nat} {fx : Bool} {A : Nat → Prop} {sa : Int → Nat} {args : Array Value} {s : State} (ho : tb_of off) (hts : ∀ w ∈ tb_TT, w.before args s = true) (hE : tb_En A sa s) : tb_G off ln fx A sa RX8 args s (51, 2, 86, 2) := trivial
theorem le_8_54 : tb_Le 8 (54, 2, 104, 1) := fun _ => ⟨lf_2_104, Or.inl (tg tw_635 rfl)⟩
set_option maxRecDepth 20000 in
theorem pk_8_54 {off : Nat → Int → Option Int} {ln : Int → Option Nat} {fx : Bool} {A : Nat → Prop} {sa : Int → Nat} {args : Array Value} {s : State} (ho : tb_of off) (hts : ∀ w ∈ tb_TT, w.before args s = true) (hE : tb_En A sa s) : tb_G off ln fx A sa RX8 args s (54, 2, 104, 1) := trivial
theorem le_8_57 : tb_Le 8 (57, 2, 111, 2) := fun _ => ⟨lf_2_111, Or.inl (tg tw_636 rfl)⟩
set_option maxRecDepth 20000 in
theorem pk_8_57 {off : Nat → Int → Option Int} {ln : Int → Option Nat} {fx : Bool} {A : Nat → Prop} {sa : Int → Nat} {args : Array Value} {s : State} (ho : tb_of off) (hts : ∀ w ∈ tb_TT, w.before args s = true) (hE : tb_En A sa s) : tb_G off ln fx A sa RX8 args s (57, 2, 111, 2) := trivial
theorem le_8_61 : tb_Le 8 (61, 2, 83, 2) := fun _ => ⟨lf_2_83, Or.inl (tg tw_649 rfl)⟩
set_option maxRecDepth 20000 in
theorem pk_8_61 {off : Nat → Int → Option Int} {ln : Int → Option Nat} {fx : Bool} {A : Nat → Prop} {sa : Int → Nat} {args : Array Value} {s : State} (ho : tb_of off) (hts : ∀ w ∈ tb_TT, w.before args s = true) (hE : tb_En A sa s) : tb_G off ln fx A sa RX8 args s (61, 2, 83, 2) := trivial
theorem le_8_65 : tb_Le 8 (65, 2, 84, 2) := fun _ => ⟨lf_2_84, Or.inl (tg tw_658 rfl)⟩
set_option maxRecDepth 20000 in
theorem pk_8_65 {off : Nat → Int → Option Int} {ln : Int → Option Nat} {fx : Bool} {A : Nat → Prop} {sa : Int → Nat} {args : Array Value} {s : State} (ho : tb_of off) (hts : ∀ w ∈ tb_TT, w.before args s = true) (hE : tb_En A sa s) : tb_G off ln fx A sa RX8 args s (65, 2, 84, 2) := trivial
theorem le_8_68 : tb_Le 8 (68, 2, 101, 2) := fun _ => ⟨lf_2_101, Or.inl (tg tw_659 rfl)⟩
set_option maxRecDepth 20000 in
theorem pk_8_68 {off : Nat → Int → Option Int} {ln : Int → Option Nat} {fx : Bool} {A : Nat → Prop} {sa : Int → Nat} {args : Array Value} {s : State} (ho : tb_of off) (hts : ∀ w ∈ tb_TT, w.before args s = true) (hE : tb_En A sa s) : tb_G off ln fx A sa RX8 args s (68, 2, 101, 2) := trivial
theorem le_8_72 : tb_Le 8 (72, 2, 87, 2) := fun _ => ⟨lf_2_87, Or.inl (tg tw_665 rfl)⟩
set_option maxRecDepth 20000 in
theorem pk_8_72 {off : Nat → Int → Option Int} {ln : Int → Option Nat} {fx : Bool} {A : Nat → Prop} {sa : Int → Nat} {args : Array Value} {s : State} (ho : tb_of off) (hts : ∀ w ∈ tb_TT, w.before args s = true) (hE : tb_En A sa s) : tb_G off ln fx A sa RX8 args s (72, 2, 87, 2) := trivial
theorem le_8_75 : tb_Le 8 (75, 6, 0, 1000008) := fun h => absurd h (by decide)
set_option maxRecDepth 20000 in
theorem pk_8_75 {off : Nat → Int → Option Int} {ln : Int → Option Nat} {fx : Bool} {A : Nat → Prop} {sa : Int → Nat} {args : Array Value} {s : State} (ho : tb_of off) (hts : ∀ w ∈ tb_TT, w.before args s = true) (hE : tb_En A sa s) : tb_G off ln fx A sa RX8 args s (75, 6, 0, 1000008) := ⟨by decide, _, hE.2.1 (RX8, 75, "room dread worst sum many weigh min max", 1000008) (List.mem_of_getElem? (i := 8) rfl)⟩
theorem le_8_77 : tb_Le 8 (77, 6, 0, 1000009) := fun h => absurd h (by decide)
set_option maxRecDepth 20000 in
theorem pk_8_77 {off : Nat → Int → Option Int} {ln : Int → Option Nat} {fx : Bool} {A : Nat → Prop} {sa : Int → Nat} {args : Array Value} {s : State} (ho : tb_of off) (hts : ∀ w ∈ tb_TT, w.before args s = true) (hE : tb_En A sa s) : tb_G off ln fx A sa RX8 args s (77, 6, 0, 1000009) := ⟨by decide, _, hE.2.1 (RX8, 77, "weigh worst sum many number brave min max", 1000009) (List.mem_of_getElem? (i := 9) rfl)⟩
theorem le_8_79 : tb_Le 8 (79, 2, 106, 2) := fun _ => ⟨lf_2_106, Or.inl (tg tw_671 rfl)⟩
set_option maxRecDepth 20000 in
theorem pk_8_79 {off : Nat → Int → Option Int} {ln : Int → Option Nat} {fx : Bool} {A : Nat → Prop} {sa : Int → Nat} {args : Array Value} {s : State} (ho : tb_of off) (hts : ∀ w ∈ tb_TT, w.before args s = true) (hE : tb_En A sa s) : tb_G off ln fx A sa RX8 args s (79, 2, 106, 2) := trivial
theorem le_8_83 : tb_Le 8 (83, 7, 0, 2000001) := fun h => absurd h (by decide)
set_option maxRecDepth 20000 in
theorem pk_8_83 {off : Nat → Int → Option Int} {ln : Int → Option Nat} {fx : Bool} {A : Nat → Prop} {sa : Int → Nat} {args : Array Value} {s : State} (ho : tb_of off) (hts : ∀ w ∈ tb_TT, w.before args s = true) (hE : tb_En A sa s) : tb_G off ln fx A sa RX8 args s (83, 7, 0, 2000001) := ⟨by decide, _, _, _, hE.2.2.1 ("NightDoors", "DREAM_STEPS", "[I", 2000001) (List.mem_of_getElem? (i := 1) rfl), Or.inr ⟨_, nw_use hE (tn tw_672 rfl) rfl⟩⟩
theorem le_8_87 : tb_Le 8 (87, 7, 0, 2000002) := fun h => absurd h (by decide)
set_option maxRecDepth 20000 in
theorem pk_8_87 {off : Nat → Int → Option Int} {ln : Int → Option Nat} {fx : Bool} {A : Nat → Prop} {sa : Int → Nat} {args : Array Value} {s : State} (ho : tb_of off) (hts : ∀ w ∈ tb_TT, w.before args s = true) (hE : tb_En A sa s) : tb_G off ln fx A sa RX8 args s (87, 7, 0, 2000002) := ⟨by decide, _, _, _, hE.2.2.1 ("NightDoors", "QUESTION_STEPS", "[I", 2000002) (List.mem_of_getElem? (i := 2) rfl), Or.inr ⟨_, nw_use hE (tn tw_674 rfl) rfl⟩⟩
theorem le_8_90 : tb_Le 8 (90, 2, 107, 1) := fun _ => ⟨lf_2_107, Or.inl (tg tw_676 rfl)⟩
set_option maxRecDepth 20000 in
theorem pk_8_90 {off : Nat → Int → Option Int} {ln : Int → Option Nat} {fx : Bool} {A : Nat → Prop} {sa : Int → Nat} {args : Array Value} {s : State} (ho : tb_of off) (hts : ∀ w ∈ tb_TT, w.before args s = true) (hE : tb_En A sa s) : tb_G off ln fx A sa RX8 args s (90, 2, 107, 1) := trivial
theorem le_8_93 : tb_Le 8 (93, 2, 88, 2) := fun _ => ⟨lf_2_88, Or.inl (tg tw_677 rfl)⟩
set_option maxRecDepth 20000 in
theorem pk_8_93 {off : Nat → Int → Option Int} {ln : Int → Option Nat} {fx : Bool} {A : Nat → Prop} {sa : Int → Nat} {args : Array Value} {s : State} (ho : tb_of off) (hts : ∀ w ∈ tb_TT, w.before args s = true) (hE : tb_En A sa s) : tb_G off ln fx A sa RX8 args s (93, 2, 88, 2) := trivial
set_option maxRecDepth 20000 in
theorem le_8 : ∀ e ∈ pl_8, tb_Le 8 e := List.forall_mem_cons.mpr ⟨le_8_3, List.forall_mem_cons.mpr ⟨le_8_9, List.forall_mem_cons.mpr ⟨le_8_15, List.forall_mem_cons.mpr ⟨le_8_19, List.forall_mem_cons.mpr ⟨le_8_23, List.forall_mem_cons.mpr ⟨le_8_29, List.forall_mem_cons.mpr ⟨le_8_34, List.forall_mem_cons.mpr ⟨le_8_37, List.forall_mem_cons.mpr ⟨le_8_41, List.forall_mem_cons.mpr ⟨le_8_45, List.forall_mem_cons.mpr ⟨le_8_48, List.forall_mem_cons.mpr ⟨le_8_51, List.forall_mem_cons.mpr ⟨le_8_54, List.forall_mem_cons.mpr ⟨le_8_57, List.forall_mem_cons.mpr ⟨le_8_61, List.forall_mem_cons.mpr ⟨le_8_65, List.forall_mem_cons.mpr ⟨le_8_68, List.forall_mem_cons.mpr ⟨le_8_72, List.forall_mem_cons.mpr ⟨le_8_75, List.forall_mem_cons.mpr ⟨le_8_77, List.forall_mem_cons.mpr ⟨le_8_79, List.forall_mem_cons.mpr ⟨le_8_83, List.forall_mem_cons.mpr ⟨le_8_87, List.forall_mem_cons.mpr ⟨le_8_90, List.forall_mem_cons.mpr ⟨le_8_93, (fun _ h => absurd h (by simp))⟩⟩⟩⟩⟩⟩⟩⟩⟩⟩⟩⟩⟩⟩⟩⟩⟩⟩⟩⟩⟩⟩⟩⟩⟩
set_option maxRecDepth 20000 in
theorem pk_8 {off : Nat → Int → Option Int} {ln : Int → Option Nat} {fx : Bool} {A : Nat → Prop} {sa : Int → Nat} {args : Array Value} {s : State} (ho : tb_of off) (hts : ∀ w ∈ tb_TT, w.before args s = true) (hE : tb_En A sa s) : ∀ e ∈ pl_8, tb_G off ln fx A sa RX8 args s e := List.forall_mem_cons.mpr ⟨pk_8_3 ho hts hE, List.forall_mem_cons.mpr ⟨pk_8_9 ho hts hE, List.forall_mem_cons.mpr ⟨pk_8_15 ho hts hE, List.forall_mem_cons.mpr ⟨pk_8_19 ho hts hE, List.forall_mem_cons.mpr ⟨pk_8_23 ho hts hE, List.forall_mem_cons.mpr ⟨pk_8_29 ho hts hE, List.forall_mem_cons.mpr ⟨pk_8_34 ho hts hE, List.forall_mem_cons.mpr ⟨pk_8_37 ho hts hE, List.forall_mem_cons.mpr ⟨pk_8_41 ho hts hE, List.forall_mem_cons.mpr ⟨pk_8_45 ho hts hE, List.forall_mem_cons.mpr ⟨pk_8_48 ho hts hE, List.forall_mem_cons.mpr ⟨pk_8_51 ho hts hE, List.forall_mem_cons.mpr ⟨pk_8_54 ho hts hE, List.forall_mem_cons.mpr ⟨pk_8_57 ho hts hE, List.forall_mem_cons.mpr ⟨pk_8_61 ho hts hE, List.forall_mem_cons.mpr ⟨pk_8_65 ho hts hE, List.forall_mem_cons.mpr ⟨pk_8_68 ho hts hE, List.forall_mem_cons.mpr ⟨pk_8_72 ho hts hE, List.forall_mem_cons.mpr ⟨pk_8_75 ho hts hE, List.forall_mem_cons.mpr ⟨pk_8_77 ho hts hE, List.forall_mem_cons.mpr ⟨pk_8_79 ho hts hE, List.forall_mem_cons.mpr ⟨pk_8_83 ho hts hE, List.forall_mem_cons.mpr ⟨pk_8_87 ho hts hE, List.forall_mem_cons.mpr ⟨pk_8_90 ho hts hE, List.forall_mem_cons.mpr ⟨pk_8_93 ho hts hE, (fun _ h => absurd h (by simp))⟩⟩⟩⟩⟩⟩⟩⟩⟩⟩⟩⟩⟩⟩⟩⟩⟩⟩⟩⟩⟩⟩⟩⟩⟩
theorem le_9_3 : tb_Le 9 (3, 9, 0, 0) := fun h => absurd h (by decide)
set_option maxRecDepth 20000 in
theorem pk_9_3 {off : Nat → Int → Option Int} {ln : Int → Option Nat} {fx : Bool} {A : Nat → Prop} {sa : Int → Nat} {args : Array Value} {s : State} (ho : tb_of off) (hts : ∀ w ∈ tb_TT, w.before args s = true) (hE : tb_En A sa s) : tb_G off ln fx A sa RX9 args s (3, 9, 0, 0) := ⟨hts _ (tg tw_34 rfl), hts _ (tg tw_27 rfl), hts _ (tg tw_28 rfl)⟩
theorem le_9_9 : tb_Le 9 (9, 11, 9, 0) := fun h => absurd h (by decide)
set_option maxRecDepth 20000 in
theorem pk_9_9 {off : Nat → Int → Option Int} {ln : Int → Option Nat} {fx : Bool} {A : Nat → Prop} {sa : Int → Nat} {args : Array Value} {s : State} (ho : tb_of off) (hts : ∀ w ∈ tb_TT, w.before args s = true) (hE : tb_En A sa s) : tb_G off ln fx A sa RX9 args s (9, 11, 9, 0) := ⟨fk_9 0 (by decide) rfl (Or.inl (hts _ (tg tw_35 rfl))), of_tag ho (Or.inr rfl), _, _, _, rfl, fun j hj => by
    have : j = 0 := by omega
    subst this
    exact ⟨rfl, hts _ (tg tw_35 rfl)⟩⟩
theorem le_9_15 : tb_Le 9 (15, 1, 9, 1) := fun h => absurd h (by decide)
set_option maxRecDepth 20000 in
theorem pk_9_15 {off : Nat → Int → Option Int} {ln : Int → Option Nat} {fx : Bool} {A : Nat → Prop} {sa : Int → Nat} {args : Array Value} {s : State} (ho : tb_of off) (hts : ∀ w ∈ tb_TT, w.before args s = true) (hE : tb_En A sa s) : tb_G off ln fx A sa RX9 args s (15, 1, 9, 1) := ⟨fk_9 1 (by decide) rfl (Or.inl (hts _ (tg tw_36 rfl))), of_none ho rfl⟩
theorem le_9_19 : tb_Le 9 (19, 1, 9, 2) := fun h => absurd h (by decide)
set_option maxRecDepth 20000 in
theorem pk_9_19 {off : Nat → Int → Option Int} {ln : Int → Option Nat} {fx : Bool} {A : Nat → Prop} {sa : Int → Nat} {args : Array Value} {s : State} (ho : tb_of off) (hts : ∀ w ∈ tb_TT, w.before args s = true) (hE : tb_En A sa s) : tb_G off ln fx A sa RX9 args s (19, 1, 9, 2) := ⟨fk_9 2 (by decide) rfl (Or.inl (hts _ (tg tw_38 rfl))), of_none ho rfl⟩
theorem le_9_22 : tb_Le 9 (22, 1, 9, 3) := fun h => absurd h (by decide)
set_option maxRecDepth 20000 in
theorem pk_9_22 {off : Nat → Int → Option Int} {ln : Int → Option Nat} {fx : Bool} {A : Nat → Prop} {sa : Int → Nat} {args : Array Value} {s : State} (ho : tb_of off) (hts : ∀ w ∈ tb_TT, w.before args s = true) (hE : tb_En A sa s) : tb_G off ln fx A sa RX9 args s (22, 1, 9, 3) := ⟨fk_9 3 (by decide) rfl (Or.inl (hts _ (tg tw_39 rfl))), of_none ho rfl⟩
theorem le_9_25 : tb_Le 9 (25, 1, 9, 4) := fun h => absurd h (by decide)
set_option maxRecDepth 20000 in
theorem pk_9_25 {off : Nat → Int → Option Int} {ln : Int → Option Nat} {fx : Bool} {A : Nat → Prop} {sa : Int → Nat} {args : Array Value} {s : State} (ho : tb_of off) (hts : ∀ w ∈ tb_TT, w.before args s = true) (hE : tb_En A sa s) : tb_G off ln fx A sa RX9 args s (25, 1, 9, 4) := ⟨fk_9 4 (by decide) rfl (Or.inl (hts _ (tg tw_41 rfl))), of_none ho rfl⟩
theorem le_9_28 : tb_Le 9 (28, 1, 9, 5) := fun h => absurd h (by decide)
set_option maxRecDepth 20000 in
theorem pk_9_28 {off : Nat → Int → Option Int} {ln : Int → Option Nat} {fx : Bool} {A : Nat → Prop} {sa : Int → Nat} {args : Array Value} {s : State} (ho : tb_of off) (hts : ∀ w ∈ tb_TT, w.before args s = true) (hE : tb_En A sa s) : tb_G off ln fx A sa RX9 args s (28, 1, 9, 5) := ⟨fk_9 5 (by decide) rfl (Or.inl (hts _ (tg tw_43 rfl))), of_none ho rfl⟩
theorem le_9_31 : tb_Le 9 (31, 1, 9, 6) := fun h => absurd h (by decide)
set_option maxRecDepth 20000 in
theorem pk_9_31 {off : Nat → Int → Option Int} {ln : Int → Option Nat} {fx : Bool} {A : Nat → Prop} {sa : Int → Nat} {args : Array Value} {s : State} (ho : tb_of off) (hts : ∀ w ∈ tb_TT, w.before args s = true) (hE : tb_En A sa s) : tb_G off ln fx A sa RX9 args s (31, 1, 9, 6) := ⟨fk_9 6 (by decide) rfl (Or.inl (hts _ (tg tw_44 rfl))), of_none ho rfl⟩
theorem le_9_34 : tb_Le 9 (34, 1, 9, 7) := fun h => absurd h (by decide)
set_option maxRecDepth 20000 in
theorem pk_9_34 {off : Nat → Int → Option Int} {ln : Int → Option Nat} {fx : Bool} {A : Nat → Prop} {sa : Int → Nat} {args : Array Value} {s : State} (ho : tb_of off) (hts : ∀ w ∈ tb_TT, w.before args s = true) (hE : tb_En A sa s) : tb_G off ln fx A sa RX9 args s (34, 1, 9, 7) := ⟨fk_9 7 (by decide) rfl (Or.inl (hts _ (tg tw_47 rfl))), of_none ho rfl⟩
theorem le_9_37 : tb_Le 9 (37, 2, 92, 2) := fun _ => ⟨lf_2_92, Or.inl (tg tw_512 rfl)⟩
set_option maxRecDepth 20000 in
theorem pk_9_37 {off : Nat → Int → Option Int} {ln : Int → Option Nat} {fx : Bool} {A : Nat → Prop} {sa : Int → Nat} {args : Array Value} {s : State} (ho : tb_of off) (hts : ∀ w ∈ tb_TT, w.before args s = true) (hE : tb_En A sa s) : tb_G off ln fx A sa RX9 args s (37, 2, 92, 2) := trivial
theorem le_9_41 : tb_Le 9 (41, 2, 98, 1) := fun _ => ⟨lf_2_98, Or.inl (tg tw_446 rfl)⟩
set_option maxRecDepth 20000 in
theorem pk_9_41 {off : Nat → Int → Option Int} {ln : Int → Option Nat} {fx : Bool} {A : Nat → Prop} {sa : Int → Nat} {args : Array Value} {s : State} (ho : tb_of off) (hts : ∀ w ∈ tb_TT, w.before args s = true) (hE : tb_En A sa s) : tb_G off ln fx A sa RX9 args s (41, 2, 98, 1) := trivial
theorem le_9_45 : tb_Le 9 (45, 2, 96, 3) := fun _ => ⟨lf_2_96, Or.inl (tg tw_447 rfl)⟩
set_option maxRecDepth 20000 in
theorem pk_9_45 {off : Nat → Int → Option Int} {ln : Int → Option Nat} {fx : Bool} {A : Nat → Prop} {sa : Int → Nat} {args : Array Value} {s : State} (ho : tb_of off) (hts : ∀ w ∈ tb_TT, w.before args s = true) (hE : tb_En A sa s) : tb_G off ln fx A sa RX9 args s (45, 2, 96, 3) := trivial
theorem le_9_49 : tb_Le 9 (49, 2, 99, 2) := fun _ => ⟨lf_2_99, Or.inl (tg tw_663 rfl)⟩
set_option maxRecDepth 20000 in
theorem pk_9_49 {off : Nat → Int → Option Int} {ln : Int → Option Nat} {fx : Bool} {A : Nat → Prop} {sa : Int → Nat} {args : Array Value} {s : State} (ho : tb_of off) (hts : ∀ w ∈ tb_TT, w.before args s = true) (hE : tb_En A sa s) : tb_G off ln fx A sa RX9 args s (49, 2, 99, 2) := trivial
theorem le_9_53 : tb_Le 9 (53, 2, 100, 1) := fun _ => ⟨lf_2_100, Or.inl (tg tw_664 rfl)⟩
set_option maxRecDepth 20000 in
theorem pk_9_53 {off : Nat → Int → Option Int} {ln : Int → Option Nat} {fx : Bool} {A : Nat → Prop} {sa : Int → Nat} {args : Array Value} {s : State} (ho : tb_of off) (hts : ∀ w ∈ tb_TT, w.before args s = true) (hE : tb_En A sa s) : tb_G off ln fx A sa RX9 args s (53, 2, 100, 1) := trivial
theorem le_9_56 : tb_Le 9 (56, 2, 97, 2) := fun _ => ⟨lf_2_97, Or.inl (tg tw_547 rfl)⟩
set_option maxRecDepth 20000 in
theorem pk_9_56 {off : Nat → Int → Option Int} {ln : Int → Option Nat} {fx : Bool} {A : Nat → Prop} {sa : Int → Nat} {args : Array Value} {s : State} (ho : tb_of off) (hts : ∀ w ∈ tb_TT, w.before args s = true) (hE : tb_En A sa s) : tb_G off ln fx A sa RX9 args s (56, 2, 97, 2) := trivial
theorem le_9_60 : tb_Le 9 (60, 12, 103, 1) := fun _ => ⟨lf_12_103, Or.inl (tg tw_590 rfl)⟩
set_option maxRecDepth 20000 in
theorem pk_9_60 {off : Nat → Int → Option Int} {ln : Int → Option Nat} {fx : Bool} {A : Nat → Prop} {sa : Int → Nat} {args : Array Value} {s : State} (ho : tb_of off) (hts : ∀ w ∈ tb_TT, w.before args s = true) (hE : tb_En A sa s) : tb_G off ln fx A sa RX9 args s (60, 12, 103, 1) := trivial
theorem le_9_64 : tb_Le 9 (64, 2, 105, 1) := fun _ => ⟨lf_2_105, Or.inl (tg tw_460 rfl)⟩
set_option maxRecDepth 20000 in
theorem pk_9_64 {off : Nat → Int → Option Int} {ln : Int → Option Nat} {fx : Bool} {A : Nat → Prop} {sa : Int → Nat} {args : Array Value} {s : State} (ho : tb_of off) (hts : ∀ w ∈ tb_TT, w.before args s = true) (hE : tb_En A sa s) : tb_G off ln fx A sa RX9 args s (64, 2, 105, 1) := trivial
theorem le_9_67 : tb_Le 9 (67, 21, 0, 0) := fun h => absurd h (by decide)
set_option maxRecDepth 20000 in
theorem pk_9_67 {off : Nat → Int → Option Int} {ln : Int → Option Nat} {fx : Bool} {A : Nat → Prop} {sa : Int → Nat} {args : Array Value} {s : State} (ho : tb_of off) (hts : ∀ w ∈ tb_TT, w.before args s = true) (hE : tb_En A sa s) : tb_G off ln fx A sa RX9 args s (67, 21, 0, 0) := trivial
theorem le_9_72 : tb_Le 9 (72, 22, 0, 0) := fun h => absurd h (by decide)
set_option maxRecDepth 20000 in
theorem pk_9_72 {off : Nat → Int → Option Int} {ln : Int → Option Nat} {fx : Bool} {A : Nat → Prop} {sa : Int → Nat} {args : Array Value} {s : State} (ho : tb_of off) (hts : ∀ w ∈ tb_TT, w.before args s = true) (hE : tb_En A sa s) : tb_G off ln fx A sa RX9 args s (72, 22, 0, 0) := trivial
theorem le_9_76 : tb_Le 9 (76, 2, 106, 2) := fun _ => ⟨lf_2_106, Or.inl (tg tw_546 rfl)⟩
set_option maxRecDepth 20000 in
theorem pk_9_76 {off : Nat → Int → Option Int} {ln : Int → Option Nat} {fx : Bool} {A : Nat → Prop} {sa : Int → Nat} {args : Array Value} {s : State} (ho : tb_of off) (hts : ∀ w ∈ tb_TT, w.before args s = true) (hE : tb_En A sa s) : tb_G off ln fx A sa RX9 args s (76, 2, 106, 2) := trivial
theorem le_9_80 : tb_Le 9 (80, 2, 107, 1) := fun _ => ⟨lf_2_107, Or.inl (tg tw_581 rfl)⟩
set_option maxRecDepth 20000 in
theorem pk_9_80 {off : Nat → Int → Option Int} {ln : Int → Option Nat} {fx : Bool} {A : Nat → Prop} {sa : Int → Nat} {args : Array Value} {s : State} (ho : tb_of off) (hts : ∀ w ∈ tb_TT, w.before args s = true) (hE : tb_En A sa s) : tb_G off ln fx A sa RX9 args s (80, 2, 107, 1) := trivial
theorem le_9_83 : tb_Le 9 (83, 2, 108, 2) := fun _ => ⟨lf_2_108, Or.inl (tg tw_577 rfl)⟩
set_option maxRecDepth 20000 in
theorem pk_9_83 {off : Nat → Int → Option Int} {ln : Int → Option Nat} {fx : Bool} {A : Nat → Prop} {sa : Int → Nat} {args : Array Value} {s : State} (ho : tb_of off) (hts : ∀ w ∈ tb_TT, w.before args s = true) (hE : tb_En A sa s) : tb_G off ln fx A sa RX9 args s (83, 2, 108, 2) := trivial
theorem le_9_87 : tb_Le 9 (87, 6, 0, 1000010) := fun h => absurd h (by decide)
set_option maxRecDepth 20000 in
theorem pk_9_87 {off : Nat → Int → Option Int} {ln : Int → Option Nat} {fx : Bool} {A : Nat → Prop} {sa : Int → Nat} {args : Array Value} {s : State} (ho : tb_of off) (hts : ∀ w ∈ tb_TT, w.before args s = true) (hE : tb_En A sa s) : tb_G off ln fx A sa RX9 args s (87, 6, 0, 1000010) := ⟨by decide, _, hE.2.1 (RX9, 87, "dread dreamer brave fears guide of meet shun byday home laugh spite weigh worst sum many number min max", 1000010) (List.mem_of_getElem? (i := 10) rfl)⟩
theorem le_9_89 : tb_Le 9 (89, 2, 95, 1) := fun _ => ⟨lf_2_95, Or.inl (tg tw_548 rfl)⟩
set_option maxRecDepth 20000 in
theorem pk_9_89 {off : Nat → Int → Option Int} {ln : Int → Option Nat} {fx : Bool} {A : Nat → Prop} {sa : Int → Nat} {args : Array Value} {s : State} (ho : tb_of off) (hts : ∀ w ∈ tb_TT, w.before args s = true) (hE : tb_En A sa s) : tb_G off ln fx A sa RX9 args s (89, 2, 95, 1) := trivial
theorem le_9_93 : tb_Le 9 (93, 2, 104, 1) := fun _ => ⟨lf_2_104, Or.inl (tg tw_586 rfl)⟩
set_option maxRecDepth 20000 in
theorem pk_9_93 {off : Nat → Int → Option Int} {ln : Int → Option Nat} {fx : Bool} {A : Nat → Prop} {sa : Int → Nat} {args : Array Value} {s : State} (ho : tb_of off) (hts : ∀ w ∈ tb_TT, w.before args s = true) (hE : tb_En A sa s) : tb_G off ln fx A sa RX9 args s (93, 2, 104, 1) := trivial
set_option maxRecDepth 20000 in
theorem le_9 : ∀ e ∈ pl_9, tb_Le 9 e := List.forall_mem_cons.mpr ⟨le_9_3, List.forall_mem_cons.mpr ⟨le_9_9, List.forall_mem_cons.mpr ⟨le_9_15, List.forall_mem_cons.mpr ⟨le_9_19, List.forall_mem_cons.mpr ⟨le_9_22, List.forall_mem_cons.mpr ⟨le_9_25, List.forall_mem_cons.mpr ⟨le_9_28, List.forall_mem_cons.mpr ⟨le_9_31, List.forall_mem_cons.mpr ⟨le_9_34, List.forall_mem_cons.mpr ⟨le_9_37, List.forall_mem_cons.mpr ⟨le_9_41, List.forall_mem_cons.mpr ⟨le_9_45, List.forall_mem_cons.mpr ⟨le_9_49, List.forall_mem_cons.mpr ⟨le_9_53, List.forall_mem_cons.mpr ⟨le_9_56, List.forall_mem_cons.mpr ⟨le_9_60, List.forall_mem_cons.mpr ⟨le_9_64, List.forall_mem_cons.mpr ⟨le_9_67, List.forall_mem_cons.mpr ⟨le_9_72, List.forall_mem_cons.mpr ⟨le_9_76, List.forall_mem_cons.mpr ⟨le_9_80, List.forall_mem_cons.mpr ⟨le_9_83, List.forall_mem_cons.mpr ⟨le_9_87, List.forall_mem_cons.mpr ⟨le_9_89, List.forall_mem_cons.mpr ⟨le_9_93, (fun _ h => absurd h (by simp))⟩⟩⟩⟩⟩⟩⟩⟩⟩⟩⟩⟩⟩⟩⟩⟩⟩⟩⟩⟩⟩⟩⟩⟩⟩
set_option maxRecDepth 20000 in
theorem pk_9 {off : Nat → Int → Option Int} {ln : Int → Option Nat} {fx : Bool} {A : Nat → Prop} {sa : Int → Nat} {args : Array Value} {s : State} (ho : tb_of off) (hts : ∀ w ∈ tb_TT, w.before args s = true) (hE : tb_En A sa s) : ∀ e ∈ pl_9, tb_G off ln fx A sa RX9 args s e := List.forall_mem_cons.mpr ⟨pk_9_3 ho hts hE, List.forall_mem_cons.mpr ⟨pk_9_9 ho hts hE, List.forall_mem_cons.mpr ⟨pk_9_15 ho hts hE, List.forall_mem_cons.mpr ⟨pk_9_19 ho hts hE, List.forall_mem_cons.mpr ⟨pk_9_22 ho hts hE, List.forall_mem_cons.mpr ⟨pk_9_25 ho hts hE, List.forall_mem_cons.mpr ⟨pk_9_28 ho hts hE, List.forall_mem_cons.mpr ⟨pk_9_31 ho hts hE, List.forall_mem_cons.mpr ⟨pk_9_34 ho hts hE, List.forall_mem_cons.mpr ⟨pk_9_37 ho hts hE, List.forall_mem_cons.mpr ⟨pk_9_41 ho hts hE, List.forall_mem_cons.mpr ⟨pk_9_45 ho hts hE, List.forall_mem_cons.mpr ⟨pk_9_49 ho hts hE, List.forall_mem_cons.mpr ⟨pk_9_53 ho hts hE, List.forall_mem_cons.mpr ⟨pk_9_56 ho hts hE, List.forall_mem_cons.mpr ⟨pk_9_60 ho hts hE, List.forall_mem_cons.mpr ⟨pk_9_64 ho hts hE, List.forall_mem_cons.mpr ⟨pk_9_67 ho hts hE, List.forall_mem_cons.mpr ⟨pk_9_72 ho hts hE, List.forall_mem_cons.mpr ⟨pk_9_76 ho hts hE, List.forall_mem_cons.mpr ⟨pk_9_80 ho hts hE, List.forall_mem_cons.mpr ⟨pk_9_83 ho hts hE, List.forall_mem_cons.mpr ⟨pk_9_87 ho hts hE, List.forall_mem_cons.mpr ⟨pk_9_89 ho hts hE, List.forall_mem_cons.mpr ⟨pk_9_93 ho hts hE, (fun _ h => absurd h (by simp))⟩⟩⟩⟩⟩⟩⟩⟩⟩⟩⟩⟩⟩⟩⟩⟩⟩⟩⟩⟩⟩⟩⟩⟩⟩
theorem le_10_3 : tb_Le 10 (3, 9, 0, 0) := fun h => absurd h (by decide)
set_option maxRecDepth 20000 in
theorem pk_10_3 {off : Nat → Int → Option Int} {ln : Int → Option Nat} {fx : Bool} {A : Nat → Prop} {sa : Int → Nat} {args : Array Value} {s : State} (ho : tb_of off) (hts : ∀ w ∈ tb_TT, w.before args s = true) (hE : tb_En A sa s) : tb_G off ln fx A sa RX10 args s (3, 9, 0, 0) := ⟨hts _ (tg tw_274 rfl), hts _ (tg tw_27 rfl), hts _ (tg tw_28 rfl)⟩
theorem le_10_9 : tb_Le 10 (9, 12, 167, 1) := fun _ => ⟨lf_12_167, Or.inr ⟨_, tn tw_275 rfl⟩⟩
set_option maxRecDepth 20000 in
theorem pk_10_9 {off : Nat → Int → Option Int} {ln : Int → Option Nat} {fx : Bool} {A : Nat → Prop} {sa : Int → Nat} {args : Array Value} {s : State} (ho : tb_of off) (hts : ∀ w ∈ tb_TT, w.before args s = true) (hE : tb_En A sa s) : tb_G off ln fx A sa RX10 args s (9, 12, 167, 1) := trivial
theorem le_10_13 : tb_Le 10 (13, 11, 10, 0) := fun h => absurd h (by decide)
set_option maxRecDepth 20000 in
theorem pk_10_13 {off : Nat → Int → Option Int} {ln : Int → Option Nat} {fx : Bool} {A : Nat → Prop} {sa : Int → Nat} {args : Array Value} {s : State} (ho : tb_of off) (hts : ∀ w ∈ tb_TT, w.before args s = true) (hE : tb_En A sa s) : tb_G off ln fx A sa RX10 args s (13, 11, 10, 0) := ⟨fk_10 0 (by decide) rfl (Or.inl (hts _ (tg tw_278 rfl))), of_tag ho (Or.inr rfl), _, _, _, rfl, fun j hj => by
    have : j = 0 := by omega
    subst this
    exact ⟨rfl, hts _ (tg tw_278 rfl)⟩⟩
theorem le_10_19 : tb_Le 10 (19, 11, 10, 1) := fun h => absurd h (by decide)
set_option maxRecDepth 20000 in
theorem pk_10_19 {off : Nat → Int → Option Int} {ln : Int → Option Nat} {fx : Bool} {A : Nat → Prop} {sa : Int → Nat} {args : Array Value} {s : State} (ho : tb_of off) (hts : ∀ w ∈ tb_TT, w.before args s = true) (hE : tb_En A sa s) : tb_G off ln fx A sa RX10 args s (19, 11, 10, 1) := ⟨fk_10 1 (by decide) rfl (Or.inl (hts _ (tg tw_279 rfl))), of_tag ho (Or.inr rfl), _, _, _, rfl, fun j hj => by
    have : j = 1 := by omega
    subst this
    exact ⟨rfl, hts _ (tg tw_279 rfl)⟩⟩
theorem le_10_23 : tb_Le 10 (23, 11, 10, 2) := fun h => absurd h (by decide)
set_option maxRecDepth 20000 in
theorem pk_10_23 {off : Nat → Int → Option Int} {ln : Int → Option Nat} {fx : Bool} {A : Nat → Prop} {sa : Int → Nat} {args : Array Value} {s : State} (ho : tb_of off) (hts : ∀ w ∈ tb_TT, w.before args s = true) (hE : tb_En A sa s) : tb_G off ln fx A sa RX10 args s (23, 11, 10, 2) := ⟨fk_10 2 (by decide) rfl (Or.inl (hts _ (tg tw_280 rfl))), of_tag ho (Or.inr rfl), _, _, _, rfl, fun j hj => by
    have : j = 2 := by omega
    subst this
    exact ⟨rfl, hts _ (tg tw_280 rfl)⟩⟩
theorem le_10_26 : tb_Le 10 (26, 1, 10, 3) := fun h => absurd h (by decide)
set_option maxRecDepth 20000 in
theorem pk_10_26 {off : Nat → Int → Option Int} {ln : Int → Option Nat} {fx : Bool} {A : Nat → Prop} {sa : Int → Nat} {args : Array Value} {s : State} (ho : tb_of off) (hts : ∀ w ∈ tb_TT, w.before args s = true) (hE : tb_En A sa s) : tb_G off ln fx A sa RX10 args s (26, 1, 10, 3) := ⟨fk_10 3 (by decide) rfl (Or.inl (hts _ (tg tw_281 rfl))), of_none ho rfl⟩
theorem le_10_30 : tb_Le 10 (30, 1, 10, 4) := fun h => absurd h (by decide)
set_option maxRecDepth 20000 in
theorem pk_10_30 {off : Nat → Int → Option Int} {ln : Int → Option Nat} {fx : Bool} {A : Nat → Prop} {sa : Int → Nat} {args : Array Value} {s : State} (ho : tb_of off) (hts : ∀ w ∈ tb_TT, w.before args s = true) (hE : tb_En A sa s) : tb_G off ln fx A sa RX10 args s (30, 1, 10, 4) := ⟨fk_10 4 (by decide) rfl (Or.inl (hts _ (tg tw_282 rfl))), of_none ho rfl⟩
theorem le_10_33 : tb_Le 10 (33, 1, 10, 5) := fun h => absurd h (by decide)
set_option maxRecDepth 20000 in
theorem pk_10_33 {off : Nat → Int → Option Int} {ln : Int → Option Nat} {fx : Bool} {A : Nat → Prop} {sa : Int → Nat} {args : Array Value} {s : State} (ho : tb_of off) (hts : ∀ w ∈ tb_TT, w.before args s = true) (hE : tb_En A sa s) : tb_G off ln fx A sa RX10 args s (33, 1, 10, 5) := ⟨fk_10 5 (by decide) rfl (Or.inl (hts _ (tg tw_284 rfl))), of_none ho rfl⟩
theorem le_10_37 : tb_Le 10 (37, 3, 7, 0) := fun h => absurd h (by decide)
set_option maxRecDepth 20000 in
theorem pk_10_37 {off : Nat → Int → Option Int} {ln : Int → Option Nat} {fx : Bool} {A : Nat → Prop} {sa : Int → Nat} {args : Array Value} {s : State} (ho : tb_of off) (hts : ∀ w ∈ tb_TT, w.before args s = true) (hE : tb_En A sa s) : tb_G off ln fx A sa RX10 args s (37, 3, 7, 0) := ⟨RX7, TX7, 3, tyX7, rfl, rfl, uw_7, tyX7_ok, at_7, hts _ (tg tw_276 rfl), hts _ (tg tw_199 rfl), hts _ (tg tw_8 rfl)⟩
theorem le_10_39 : tb_Le 10 (39, 13, 70, 1) := fun _ => ⟨lf_13_70, Or.inr ⟨_, tn tw_277 rfl⟩⟩
set_option maxRecDepth 20000 in
theorem pk_10_39 {off : Nat → Int → Option Int} {ln : Int → Option Nat} {fx : Bool} {A : Nat → Prop} {sa : Int → Nat} {args : Array Value} {s : State} (ho : tb_of off) (hts : ∀ w ∈ tb_TT, w.before args s = true) (hE : tb_En A sa s) : tb_G off ln fx A sa RX10 args s (39, 13, 70, 1) := trivial
theorem le_10_40 : tb_Le 10 (40, 11, 10, 6) := fun h => absurd h (by decide)
set_option maxRecDepth 20000 in
theorem pk_10_40 {off : Nat → Int → Option Int} {ln : Int → Option Nat} {fx : Bool} {A : Nat → Prop} {sa : Int → Nat} {args : Array Value} {s : State} (ho : tb_of off) (hts : ∀ w ∈ tb_TT, w.before args s = true) (hE : tb_En A sa s) : tb_G off ln fx A sa RX10 args s (40, 11, 10, 6) := ⟨fk_10 6 (by decide) rfl (Or.inl (hts _ (tg tw_285 rfl))), of_tag ho (Or.inr rfl), _, _, _, rfl, fun j hj => by
    have : j = 6 := by omega
    subst this
    exact ⟨rfl, hts _ (tg tw_285 rfl)⟩⟩
theorem le_10_44 : tb_Le 10 (44, 1, 10, 7) := fun h => absurd h (by decide)
set_option maxRecDepth 20000 in
theorem pk_10_44 {off : Nat → Int → Option Int} {ln : Int → Option Nat} {fx : Bool} {A : Nat → Prop} {sa : Int → Nat} {args : Array Value} {s : State} (ho : tb_of off) (hts : ∀ w ∈ tb_TT, w.before args s = true) (hE : tb_En A sa s) : tb_G off ln fx A sa RX10 args s (44, 1, 10, 7) := ⟨fk_10 7 (by decide) rfl (Or.inl (hts _ (tg tw_286 rfl))), of_none ho rfl⟩
theorem le_10_47 : tb_Le 10 (47, 11, 10, 8) := fun h => absurd h (by decide)
set_option maxRecDepth 20000 in
theorem pk_10_47 {off : Nat → Int → Option Int} {ln : Int → Option Nat} {fx : Bool} {A : Nat → Prop} {sa : Int → Nat} {args : Array Value} {s : State} (ho : tb_of off) (hts : ∀ w ∈ tb_TT, w.before args s = true) (hE : tb_En A sa s) : tb_G off ln fx A sa RX10 args s (47, 11, 10, 8) := ⟨fk_10 8 (by decide) rfl (Or.inl (hts _ (tg tw_288 rfl))), of_tag ho (Or.inr rfl), _, _, _, rfl, fun j hj => by
    have : j = 8 := by omega
    subst this
    exact ⟨rfl, hts _ (tg tw_288 rfl)⟩⟩
theorem le_10_50 : tb_Le 10 (50, 11, 10, 9) := fun h => absurd h (by decide)
set_option maxRecDepth 20000 in
theorem pk_10_50 {off : Nat → Int → Option Int} {ln : Int → Option Nat} {fx : Bool} {A : Nat → Prop} {sa : Int → Nat} {args : Array Value} {s : State} (ho : tb_of off) (hts : ∀ w ∈ tb_TT, w.before args s = true) (hE : tb_En A sa s) : tb_G off ln fx A sa RX10 args s (50, 11, 10, 9) := ⟨fk_10 9 (by decide) rfl (Or.inl (hts _ (tg tw_289 rfl))), of_tag ho (Or.inr rfl), _, _, _, rfl, fun j hj => by
    have : j = 9 := by omega
    subst this
    exact ⟨rfl, hts _ (tg tw_289 rfl)⟩⟩
theorem le_10_53 : tb_Le 10 (53, 11, 10, 10) := fun h => absurd h (by decide)
set_option maxRecDepth 20000 in
theorem pk_10_53 {off : Nat → Int → Option Int} {ln : Int → Option Nat} {fx : Bool} {A : Nat → Prop} {sa : Int → Nat} {args : Array Value} {s : State} (ho : tb_of off) (hts : ∀ w ∈ tb_TT, w.before args s = true) (hE : tb_En A sa s) : tb_G off ln fx A sa RX10 args s (53, 11, 10, 10) := ⟨fk_10 10 (by decide) rfl (Or.inl (hts _ (tg tw_290 rfl))), of_tag ho (Or.inr rfl), _, _, _, rfl, fun j hj => by
    have : j = 10 := by omega
    subst this
    exact ⟨rfl, hts _ (tg tw_290 rfl)⟩⟩
theorem le_10_56 : tb_Le 10 (56, 11, 10, 11) := fun h => absurd h (by decide)
set_option maxRecDepth 20000 in
theorem pk_10_56 {off : Nat → Int → Option Int} {ln : Int → Option Nat} {fx : Bool} {A : Nat → Prop} {sa : Int → Nat} {args : Array Value} {s : State} (ho : tb_of off) (hts : ∀ w ∈ tb_TT, w.before args s = true) (hE : tb_En A sa s) : tb_G off ln fx A sa RX10 args s (56, 11, 10, 11) := ⟨fk_10 11 (by decide) rfl (Or.inl (hts _ (tg tw_291 rfl))), of_tag ho (Or.inr rfl), _, _, _, rfl, fun j hj => by
    have : j = 11 := by omega
    subst this
    exact ⟨rfl, hts _ (tg tw_291 rfl)⟩⟩
theorem le_10_59 : tb_Le 10 (59, 1, 10, 12) := fun h => absurd h (by decide)
set_option maxRecDepth 20000 in
theorem pk_10_59 {off : Nat → Int → Option Int} {ln : Int → Option Nat} {fx : Bool} {A : Nat → Prop} {sa : Int → Nat} {args : Array Value} {s : State} (ho : tb_of off) (hts : ∀ w ∈ tb_TT, w.before args s = true) (hE : tb_En A sa s) : tb_G off ln fx A sa RX10 args s (59, 1, 10, 12) := ⟨fk_10 12 (by decide) rfl (Or.inl (hts _ (tg tw_292 rfl))), of_none ho rfl⟩
theorem le_10_62 : tb_Le 10 (62, 2, 71, 2) := fun _ => ⟨lf_2_71, Or.inl (tg tw_908 rfl)⟩
set_option maxRecDepth 20000 in
theorem pk_10_62 {off : Nat → Int → Option Int} {ln : Int → Option Nat} {fx : Bool} {A : Nat → Prop} {sa : Int → Nat} {args : Array Value} {s : State} (ho : tb_of off) (hts : ∀ w ∈ tb_TT, w.before args s = true) (hE : tb_En A sa s) : tb_G off ln fx A sa RX10 args s (62, 2, 71, 2) := trivial
theorem le_10_66 : tb_Le 10 (66, 2, 117, 4) := fun _ => ⟨lf_2_117, Or.inl (tg tw_909 rfl)⟩
set_option maxRecDepth 20000 in
theorem pk_10_66 {off : Nat → Int → Option Int} {ln : Int → Option Nat} {fx : Bool} {A : Nat → Prop} {sa : Int → Nat} {args : Array Value} {s : State} (ho : tb_of off) (hts : ∀ w ∈ tb_TT, w.before args s = true) (hE : tb_En A sa s) : tb_G off ln fx A sa RX10 args s (66, 2, 117, 4) := trivial
theorem le_10_70 : tb_Le 10 (70, 4, 0, 1000000) := fun h => absurd h (by decide)
set_option maxRecDepth 20000 in
theorem pk_10_70 {off : Nat → Int → Option Int} {ln : Int → Option Nat} {fx : Bool} {A : Nat → Prop} {sa : Int → Nat} {args : Array Value} {s : State} (ho : tb_of off) (hts : ∀ w ∈ tb_TT, w.before args s = true) (hE : tb_En A sa s) : tb_G off ln fx A sa RX10 args s (70, 4, 0, 1000000) := ⟨1000000, hts _ (tg tw_939 rfl), by decide +kernel⟩
theorem le_10_71 : tb_Le 10 (71, 2, 116, 3) := fun _ => ⟨lf_2_116, Or.inl (tg tw_913 rfl)⟩
set_option maxRecDepth 20000 in
theorem pk_10_71 {off : Nat → Int → Option Int} {ln : Int → Option Nat} {fx : Bool} {A : Nat → Prop} {sa : Int → Nat} {args : Array Value} {s : State} (ho : tb_of off) (hts : ∀ w ∈ tb_TT, w.before args s = true) (hE : tb_En A sa s) : tb_G off ln fx A sa RX10 args s (71, 2, 116, 3) := trivial
theorem le_10_75 : tb_Le 10 (75, 2, 31, 2) := fun _ => ⟨lf_2_31, Or.inl (tg tw_917 rfl)⟩
set_option maxRecDepth 20000 in
theorem pk_10_75 {off : Nat → Int → Option Int} {ln : Int → Option Nat} {fx : Bool} {A : Nat → Prop} {sa : Int → Nat} {args : Array Value} {s : State} (ho : tb_of off) (hts : ∀ w ∈ tb_TT, w.before args s = true) (hE : tb_En A sa s) : tb_G off ln fx A sa RX10 args s (75, 2, 31, 2) := trivial
theorem le_10_81 : tb_Le 10 (81, 20, 0, 0) := fun h => absurd h (by decide)
set_option maxRecDepth 20000 in
theorem pk_10_81 {off : Nat → Int → Option Int} {ln : Int → Option Nat} {fx : Bool} {A : Nat → Prop} {sa : Int → Nat} {args : Array Value} {s : State} (ho : tb_of off) (hts : ∀ w ∈ tb_TT, w.before args s = true) (hE : tb_En A sa s) : tb_G off ln fx A sa RX10 args s (81, 20, 0, 0) := trivial
theorem le_10_87 : tb_Le 10 (87, 2, 118, 5) := fun _ => ⟨lf_2_118, Or.inl (tg tw_921 rfl)⟩
set_option maxRecDepth 20000 in
theorem pk_10_87 {off : Nat → Int → Option Int} {ln : Int → Option Nat} {fx : Bool} {A : Nat → Prop} {sa : Int → Nat} {args : Array Value} {s : State} (ho : tb_of off) (hts : ∀ w ∈ tb_TT, w.before args s = true) (hE : tb_En A sa s) : tb_G off ln fx A sa RX10 args s (87, 2, 118, 5) := trivial
theorem le_10_91 : tb_Le 10 (91, 2, 34, 3) := fun _ => ⟨lf_2_34, Or.inl (tg tw_925 rfl)⟩
set_option maxRecDepth 20000 in
theorem pk_10_91 {off : Nat → Int → Option Int} {ln : Int → Option Nat} {fx : Bool} {A : Nat → Prop} {sa : Int → Nat} {args : Array Value} {s : State} (ho : tb_of off) (hts : ∀ w ∈ tb_TT, w.before args s = true) (hE : tb_En A sa s) : tb_G off ln fx A sa RX10 args s (91, 2, 34, 3) := trivial
theorem le_10_95 : tb_Le 10 (95, 2, 72, 2) := fun _ => ⟨lf_2_72, Or.inl (tg tw_926 rfl)⟩
set_option maxRecDepth 20000 in
theorem pk_10_95 {off : Nat → Int → Option Int} {ln : Int → Option Nat} {fx : Bool} {A : Nat → Prop} {sa : Int → Nat} {args : Array Value} {s : State} (ho : tb_of off) (hts : ∀ w ∈ tb_TT, w.before args s = true) (hE : tb_En A sa s) : tb_G off ln fx A sa RX10 args s (95, 2, 72, 2) := trivial
theorem le_10_99 : tb_Le 10 (99, 2, 14, 2) := fun _ => ⟨lf_2_14, Or.inl (tg tw_948 rfl)⟩
set_option maxRecDepth 20000 in
theorem pk_10_99 {off : Nat → Int → Option Int} {ln : Int → Option Nat} {fx : Bool} {A : Nat → Prop} {sa : Int → Nat} {args : Array Value} {s : State} (ho : tb_of off) (hts : ∀ w ∈ tb_TT, w.before args s = true) (hE : tb_En A sa s) : tb_G off ln fx A sa RX10 args s (99, 2, 14, 2) := trivial
theorem le_10_102 : tb_Le 10 (102, 1, 7, 2) := fun h => absurd h (by decide)
set_option maxRecDepth 20000 in
theorem pk_10_102 {off : Nat → Int → Option Int} {ln : Int → Option Nat} {fx : Bool} {A : Nat → Prop} {sa : Int → Nat} {args : Array Value} {s : State} (ho : tb_of off) (hts : ∀ w ∈ tb_TT, w.before args s = true) (hE : tb_En A sa s) : tb_G off ln fx A sa RX10 args s (102, 1, 7, 2) := ⟨fk_7 2 (by decide) rfl (Or.inr ⟨_, nw_use hE (tn tw_210 rfl) rfl⟩), of_none ho rfl⟩
theorem le_10_105 : tb_Le 10 (105, 2, 113, 4) := fun _ => ⟨lf_2_113, Or.inl (tg tw_949 rfl)⟩
set_option maxRecDepth 20000 in
theorem pk_10_105 {off : Nat → Int → Option Int} {ln : Int → Option Nat} {fx : Bool} {A : Nat → Prop} {sa : Int → Nat} {args : Array Value} {s : State} (ho : tb_of off) (hts : ∀ w ∈ tb_TT, w.before args s = true) (hE : tb_En A sa s) : tb_G off ln fx A sa RX10 args s (105, 2, 113, 4) := trivial
theorem le_10_109 : tb_Le 10 (109, 2, 122, 3) := fun _ => ⟨lf_2_122, Or.inl (tg tw_964 rfl)⟩
set_option maxRecDepth 20000 in
theorem pk_10_109 {off : Nat → Int → Option Int} {ln : Int → Option Nat} {fx : Bool} {A : Nat → Prop} {sa : Int → Nat} {args : Array Value} {s : State} (ho : tb_of off) (hts : ∀ w ∈ tb_TT, w.before args s = true) (hE : tb_En A sa s) : tb_G off ln fx A sa RX10 args s (109, 2, 122, 3) := trivial
theorem le_10_113 : tb_Le 10 (113, 2, 35, 3) := fun _ => ⟨lf_2_35, Or.inl (tg tw_972 rfl)⟩
set_option maxRecDepth 20000 in
theorem pk_10_113 {off : Nat → Int → Option Int} {ln : Int → Option Nat} {fx : Bool} {A : Nat → Prop} {sa : Int → Nat} {args : Array Value} {s : State} (ho : tb_of off) (hts : ∀ w ∈ tb_TT, w.before args s = true) (hE : tb_En A sa s) : tb_G off ln fx A sa RX10 args s (113, 2, 35, 3) := trivial
theorem le_10_117 : tb_Le 10 (117, 2, 124, 2) := fun _ => ⟨lf_2_124, Or.inl (tg tw_976 rfl)⟩
set_option maxRecDepth 20000 in
theorem pk_10_117 {off : Nat → Int → Option Int} {ln : Int → Option Nat} {fx : Bool} {A : Nat → Prop} {sa : Int → Nat} {args : Array Value} {s : State} (ho : tb_of off) (hts : ∀ w ∈ tb_TT, w.before args s = true) (hE : tb_En A sa s) : tb_G off ln fx A sa RX10 args s (117, 2, 124, 2) := trivial
theorem le_10_120 : tb_Le 10 (120, 12, 314, 1) := fun _ => ⟨lf_12_314, Or.inl (tg tw_968 rfl)⟩
set_option maxRecDepth 20000 in
theorem pk_10_120 {off : Nat → Int → Option Int} {ln : Int → Option Nat} {fx : Bool} {A : Nat → Prop} {sa : Int → Nat} {args : Array Value} {s : State} (ho : tb_of off) (hts : ∀ w ∈ tb_TT, w.before args s = true) (hE : tb_En A sa s) : tb_G off ln fx A sa RX10 args s (120, 12, 314, 1) := trivial
theorem le_10_125 : tb_Le 10 (125, 12, 123, 2) := fun _ => ⟨lf_12_123, Or.inl (tg tw_969 rfl)⟩
set_option maxRecDepth 20000 in
theorem pk_10_125 {off : Nat → Int → Option Int} {ln : Int → Option Nat} {fx : Bool} {A : Nat → Prop} {sa : Int → Nat} {args : Array Value} {s : State} (ho : tb_of off) (hts : ∀ w ∈ tb_TT, w.before args s = true) (hE : tb_En A sa s) : tb_G off ln fx A sa RX10 args s (125, 12, 123, 2) := trivial
theorem le_10_128 : tb_Le 10 (128, 2, 78, 3) := fun _ => ⟨lf_2_78, Or.inl (tg tw_980 rfl)⟩
set_option maxRecDepth 20000 in
theorem pk_10_128 {off : Nat → Int → Option Int} {ln : Int → Option Nat} {fx : Bool} {A : Nat → Prop} {sa : Int → Nat} {args : Array Value} {s : State} (ho : tb_of off) (hts : ∀ w ∈ tb_TT, w.before args s = true) (hE : tb_En A sa s) : tb_G off ln fx A sa RX10 args s (128, 2, 78, 3) := trivial
theorem le_10_132 : tb_Le 10 (132, 2, 79, 3) := fun _ => ⟨lf_2_79, Or.inl (tg tw_984 rfl)⟩
set_option maxRecDepth 20000 in
theorem pk_10_132 {off : Nat → Int → Option Int} {ln : Int → Option Nat} {fx : Bool} {A : Nat → Prop} {sa : Int → Nat} {args : Array Value} {s : State} (ho : tb_of off) (hts : ∀ w ∈ tb_TT, w.before args s = true) (hE : tb_En A sa s) : tb_G off ln fx A sa RX10 args s (132, 2, 79, 3) := trivial
theorem le_10_136 : tb_Le 10 (136, 12, 318, 2) := fun _ => ⟨lf_12_318, Or.inl (tg tw_985 rfl)⟩
set_option maxRecDepth 20000 in
theorem pk_10_136 {off : Nat → Int → Option Int} {ln : Int → Option Nat} {fx : Bool} {A : Nat → Prop} {sa : Int → Nat} {args : Array Value} {s : State} (ho : tb_of off) (hts : ∀ w ∈ tb_TT, w.before args s = true) (hE : tb_En A sa s) : tb_G off ln fx A sa RX10 args s (136, 12, 318, 2) := trivial
set_option maxRecDepth 20000 in
theorem le_10 : ∀ e ∈ pl_10, tb_Le 10 e := List.forall_mem_cons.mpr ⟨le_10_3, List.forall_mem_cons.mpr ⟨le_10_9, List.forall_mem_cons.mpr ⟨le_10_13, List.forall_mem_cons.mpr ⟨le_10_19, List.forall_mem_cons.mpr ⟨le_10_23, List.forall_mem_cons.mpr ⟨le_10_26, List.forall_mem_cons.mpr ⟨le_10_30, List.forall_mem_cons.mpr ⟨le_10_33, List.forall_mem_cons.mpr ⟨le_10_37, List.forall_mem_cons.mpr ⟨le_10_39, List.forall_mem_cons.mpr ⟨le_10_40, List.forall_mem_cons.mpr ⟨le_10_44, List.forall_mem_cons.mpr ⟨le_10_47, List.forall_mem_cons.mpr ⟨le_10_50, List.forall_mem_cons.mpr ⟨le_10_53, List.forall_mem_cons.mpr ⟨le_10_56, List.forall_mem_cons.mpr ⟨le_10_59, List.forall_mem_cons.mpr ⟨le_10_62, List.forall_mem_cons.mpr ⟨le_10_66, List.forall_mem_cons.mpr ⟨le_10_70, List.forall_mem_cons.mpr ⟨le_10_71, List.forall_mem_cons.mpr ⟨le_10_75, List.forall_mem_cons.mpr ⟨le_10_81, List.forall_mem_cons.mpr ⟨le_10_87, List.forall_mem_cons.mpr ⟨le_10_91, List.forall_mem_cons.mpr ⟨le_10_95, List.forall_mem_cons.mpr ⟨le_10_99, List.forall_mem_cons.mpr ⟨le_10_102, List.forall_mem_cons.mpr ⟨le_10_105, List.forall_mem_cons.mpr ⟨le_10_109, List.forall_mem_cons.mpr ⟨le_10_113, List.forall_mem_cons.mpr ⟨le_10_117, List.forall_mem_cons.mpr ⟨le_10_120, List.forall_mem_cons.mpr ⟨le_10_125, List.forall_mem_cons.mpr ⟨le_10_128, List.forall_mem_cons.mpr ⟨le_10_132, List.forall_mem_cons.mpr ⟨le_10_136, (fun _ h => absurd h (by simp))⟩⟩⟩⟩⟩⟩⟩⟩⟩⟩⟩⟩⟩⟩⟩⟩⟩⟩⟩⟩⟩⟩⟩⟩⟩⟩⟩⟩⟩⟩⟩⟩⟩⟩⟩⟩⟩
set_option maxRecDepth 20000 in
theorem pk_10 {off : Nat → Int → Option Int} {ln : Int → Option Nat} {fx : Bool} {A : Nat → Prop} {sa : Int → Nat} {args : Array Value} {s : State} (ho : tb_of off) (hts : ∀ w ∈ tb_TT, w.before args s = true) (hE : tb_En A sa s) : ∀ e ∈ pl_10, tb_G off ln fx A sa RX10 args s e := List.forall_mem_cons.mpr ⟨pk_10_3 ho hts hE, List.forall_mem_cons.mpr ⟨pk_10_9 ho hts hE, List.forall_mem_cons.mpr ⟨pk_10_13 ho hts hE, List.forall_mem_cons.mpr ⟨pk_10_19 ho hts hE, List.forall_mem_cons.mpr ⟨pk_10_23 ho hts hE, List.forall_mem_cons.mpr ⟨pk_10_26 ho hts hE, List.forall_mem_cons.mpr ⟨pk_10_30 ho hts hE, List.forall_mem_cons.mpr ⟨pk_10_33 ho hts hE, List.forall_mem_cons.mpr ⟨pk_10_37 ho hts hE, List.forall_mem_cons.mpr ⟨pk_10_39 ho hts hE, List.forall_mem_cons.mpr ⟨pk_10_40 ho hts hE, List.forall_mem_cons.mpr ⟨pk_10_44 ho hts hE, List.forall_mem_cons.mpr ⟨pk_10_47 ho hts hE, List.forall_mem_cons.mpr ⟨pk_10_50 ho hts hE, List.forall_mem_cons.mpr ⟨pk_10_53 ho hts hE, List.forall_mem_cons.mpr ⟨pk_10_56 ho hts hE, List.forall_mem_cons.mpr ⟨pk_10_59 ho hts hE, List.forall_mem_cons.mpr ⟨pk_10_62 ho hts hE, List.forall_mem_cons.mpr ⟨pk_10_66 ho hts hE, List.forall_mem_cons.mpr ⟨pk_10_70 ho hts hE, List.forall_mem_cons.mpr ⟨pk_10_71 ho hts hE, List.forall_mem_cons.mpr ⟨pk_10_75 ho hts hE, List.forall_mem_cons.mpr ⟨pk_10_81 ho hts hE, List.forall_mem_cons.mpr ⟨pk_10_87 ho hts hE, List.forall_mem_cons.mpr ⟨pk_10_91 ho hts hE, List.forall_mem_cons.mpr ⟨pk_10_95 ho hts hE, List.forall_mem_cons.mpr ⟨pk_10_99 ho hts hE, List.forall_mem_cons.mpr ⟨pk_10_102 ho hts hE, List.forall_mem_cons.mpr ⟨pk_10_105 ho hts hE, List.forall_mem_cons.mpr ⟨pk_10_109 ho hts hE, List.forall_mem_cons.mpr ⟨pk_10_113 ho hts hE, List.forall_mem_cons.mpr ⟨pk_10_117 ho hts hE, List.forall_mem_cons.mpr ⟨pk_10_120 ho hts hE, List.forall_mem_cons.mpr ⟨pk_10_125 ho hts hE, List.forall_mem_cons.mpr ⟨pk_10_128 ho hts hE, List.forall_mem_cons.mpr ⟨pk_10_132 ho hts hE, List.forall_mem_cons.mpr ⟨pk_10_136 ho hts hE, (fun _ h => absurd h (by simp))⟩⟩⟩⟩⟩⟩⟩⟩⟩⟩⟩⟩⟩⟩⟩⟩⟩⟩⟩⟩⟩⟩⟩⟩⟩⟩⟩⟩⟩⟩⟩⟩⟩⟩⟩⟩⟩
theorem le_11_1 : tb_Le 11 (1, 9, 0, 0) := fun h => absurd h (by decide)
set_option maxRecDepth 20000 in
theorem pk_11_1 {off : Nat → Int → Option Int} {ln : Int → Option Nat} {fx : Bool} {A : Nat → Prop} {sa : Int → Nat} {args : Array Value} {s : State} (ho : tb_of off) (hts : ∀ w ∈ tb_TT, w.before args s = true) (hE : tb_En A sa s) : tb_G off ln fx A sa RX11 args s (1, 9, 0, 0) := ⟨hts _ (tg tw_26 rfl), hts _ (tg tw_27 rfl), hts _ (tg tw_28 rfl)⟩
theorem le_11_7 : tb_Le 11 (7, 3, 9, 0) := fun h => absurd h (by decide)
set_option maxRecDepth 20000 in
theorem pk_11_7 {off : Nat → Int → Option Int} {ln : Int → Option Nat} {fx : Bool} {A : Nat → Prop} {sa : Int → Nat} {args : Array Value} {s : State} (ho : tb_of off) (hts : ∀ w ∈ tb_TT, w.before args s = true) (hE : tb_En A sa s) : tb_G off ln fx A sa RX11 args s (7, 3, 9, 0) := ⟨RX9, TX9, 8, tyX9, rfl, rfl, uw_9, tyX9_ok, at_9, hts _ (tg tw_29 rfl), hts _ (tg tw_30 rfl), hts _ (tg tw_2 rfl)⟩
theorem le_11_9 : tb_Le 11 (9, 13, 89, 1) := fun _ => ⟨lf_13_89, Or.inr ⟨_, tn tw_31 rfl⟩⟩
set_option maxRecDepth 20000 in
theorem pk_11_9 {off : Nat → Int → Option Int} {ln : Int → Option Nat} {fx : Bool} {A : Nat → Prop} {sa : Int → Nat} {args : Array Value} {s : State} (ho : tb_of off) (hts : ∀ w ∈ tb_TT, w.before args s = true) (hE : tb_En A sa s) : tb_G off ln fx A sa RX11 args s (9, 13, 89, 1) := trivial
theorem le_11_10 : tb_Le 11 (10, 11, 11, 0) := fun h => absurd h (by decide)
set_option maxRecDepth 20000 in
theorem pk_11_10 {off : Nat → Int → Option Int} {ln : Int → Option Nat} {fx : Bool} {A : Nat → Prop} {sa : Int → Nat} {args : Array Value} {s : State} (ho : tb_of off) (hts : ∀ w ∈ tb_TT, w.before args s = true) (hE : tb_En A sa s) : tb_G off ln fx A sa RX11 args s (10, 11, 11, 0) := ⟨fk_11 0 (by decide) rfl (Or.inl (hts _ (tg tw_339 rfl))), of_tag ho (Or.inr rfl), _, _, _, rfl, fun j hj => by
    have : j = 0 := by omega
    subst this
    exact ⟨rfl, hts _ (tg tw_339 rfl)⟩⟩
theorem le_11_16 : tb_Le 11 (16, 3, 8, 0) := fun h => absurd h (by decide)
set_option maxRecDepth 20000 in
theorem pk_11_16 {off : Nat → Int → Option Int} {ln : Int → Option Nat} {fx : Bool} {A : Nat → Prop} {sa : Int → Nat} {args : Array Value} {s : State} (ho : tb_of off) (hts : ∀ w ∈ tb_TT, w.before args s = true) (hE : tb_En A sa s) : tb_G off ln fx A sa RX11 args s (16, 3, 8, 0) := ⟨RX8, TX8, 3, tyX8, rfl, rfl, uw_8, tyX8_ok, at_8, hts _ (tg tw_67 rfl), hts _ (tg tw_68 rfl), hts _ (tg tw_3 rfl)⟩
theorem le_11_18 : tb_Le 11 (18, 13, 80, 2) := fun _ => ⟨lf_13_80, Or.inl (tg tw_69 rfl)⟩
set_option maxRecDepth 20000 in
theorem pk_11_18 {off : Nat → Int → Option Int} {ln : Int → Option Nat} {fx : Bool} {A : Nat → Prop} {sa : Int → Nat} {args : Array Value} {s : State} (ho : tb_of off) (hts : ∀ w ∈ tb_TT, w.before args s = true) (hE : tb_En A sa s) : tb_G off ln fx A sa RX11 args s (18, 13, 80, 2) := trivial
theorem le_11_21 : tb_Le 11 (21, 11, 11, 1) := fun h => absurd h (by decide)
set_option maxRecDepth 20000 in
theorem pk_11_21 {off : Nat → Int → Option Int} {ln : Int → Option Nat} {fx : Bool} {A : Nat → Prop} {sa : Int → Nat} {args : Array Value} {s : State} (ho : tb_of off) (hts : ∀ w ∈ tb_TT, w.before args s = true) (hE : tb_En A sa s) : tb_G off ln fx A sa RX11 args s (21, 11, 11, 1) := ⟨fk_11 1 (by decide) rfl (Or.inl (hts _ (tg tw_340 rfl))), of_tag ho (Or.inr rfl), _, _, _, rfl, fun j hj => by
    have : j = 1 := by omega
    subst this
    exact ⟨rfl, hts _ (tg tw_340 rfl)⟩⟩
theorem le_11_25 : tb_Le 11 (25, 3, 3, 0) := fun h => absurd h (by decide)
set_option maxRecDepth 20000 in
theorem pk_11_25 {off : Nat → Int → Option Int} {ln : Int → Option Nat} {fx : Bool} {A : Nat → Prop} {sa : Int → Nat} {args : Array Value} {s : State} (ho : tb_of off) (hts : ∀ w ∈ tb_TT, w.before args s = true) (hE : tb_En A sa s) : tb_G off ln fx A sa RX11 args s (25, 3, 3, 0) := ⟨RX3, TX3, 2, tyX3, rfl, rfl, uw_3, tyX3_ok, at_3, hts _ (tg tw_83 rfl), hts _ (tg tw_84 rfl), hts _ (tg tw_4 rfl)⟩
theorem le_11_27 : tb_Le 11 (27, 13, 36, 3) := fun _ => ⟨lf_13_36, Or.inl (tg tw_85 rfl)⟩
set_option maxRecDepth 20000 in
theorem pk_11_27 {off : Nat → Int → Option Int} {ln : Int → Option Nat} {fx : Bool} {A : Nat → Prop} {sa : Int → Nat} {args : Array Value} {s : State} (ho : tb_of off) (hts : ∀ w ∈ tb_TT, w.before args s = true) (hE : tb_En A sa s) : tb_G off ln fx A sa RX11 args s (27, 13, 36, 3) := trivial
theorem le_11_30 : tb_Le 11 (30, 11, 11, 2) := fun h => absurd h (by decide)
set_option maxRecDepth 20000 in
theorem pk_11_30 {off : Nat → Int → Option Int} {ln : Int → Option Nat} {fx : Bool} {A : Nat → Prop} {sa : Int → Nat} {args : Array Value} {s : State} (ho : tb_of off) (hts : ∀ w ∈ tb_TT, w.before args s = true) (hE : tb_En A sa s) : tb_G off ln fx A sa RX11 args s (30, 11, 11, 2) := ⟨fk_11 2 (by decide) rfl (Or.inl (hts _ (tg tw_341 rfl))), of_tag ho (Or.inr rfl), _, _, _, rfl, fun j hj => by
    have : j = 2 := by omega
    subst this
    exact ⟨rfl, hts _ (tg tw_341 rfl)⟩⟩
theorem le_11_34 : tb_Le 11 (34, 3, 5, 0) := fun h => absurd h (by decide)
set_option maxRecDepth 20000 in
theorem pk_11_34 {off : Nat → Int → Option Int} {ln : Int → Option Nat} {fx : Bool} {A : Nat → Prop} {sa : Int → Nat} {args : Array Value} {s : State} (ho : tb_of off) (hts : ∀ w ∈ tb_TT, w.before args s = true) (hE : tb_En A sa s) : tb_G off ln fx A sa RX11 args s (34, 3, 5, 0) := ⟨RX5, TX5, 4, tyX5, rfl, rfl, uw_5, tyX5_ok, at_5, hts _ (tg tw_96 rfl), hts _ (tg tw_97 rfl), hts _ (tg tw_5 rfl)⟩
theorem le_11_36 : tb_Le 11 (36, 13, 52, 3) := fun _ => ⟨lf_13_52, Or.inl (tg tw_98 rfl)⟩
set_option maxRecDepth 20000 in
theorem pk_11_36 {off : Nat → Int → Option Int} {ln : Int → Option Nat} {fx : Bool} {A : Nat → Prop} {sa : Int → Nat} {args : Array Value} {s : State} (ho : tb_of off) (hts : ∀ w ∈ tb_TT, w.before args s = true) (hE : tb_En A sa s) : tb_G off ln fx A sa RX11 args s (36, 13, 52, 3) := trivial
theorem le_11_37 : tb_Le 11 (37, 11, 11, 3) := fun h => absurd h (by decide)
set_option maxRecDepth 20000 in
theorem pk_11_37 {off : Nat → Int → Option Int} {ln : Int → Option Nat} {fx : Bool} {A : Nat → Prop} {sa : Int → Nat} {args : Array Value} {s : State} (ho : tb_of off) (hts : ∀ w ∈ tb_TT, w.before args s = true) (hE : tb_En A sa s) : tb_G off ln fx A sa RX11 args s (37, 11, 11, 3) := ⟨fk_11 3 (by decide) rfl (Or.inl (hts _ (tg tw_342 rfl))), of_tag ho (Or.inr rfl), _, _, _, rfl, fun j hj => by
    have : j = 3 := by omega
    subst this
    exact ⟨rfl, hts _ (tg tw_342 rfl)⟩⟩
theorem le_11_41 : tb_Le 11 (41, 3, 2, 0) := fun h => absurd h (by decide)
set_option maxRecDepth 20000 in
theorem pk_11_41 {off : Nat → Int → Option Int} {ln : Int → Option Nat} {fx : Bool} {A : Nat → Prop} {sa : Int → Nat} {args : Array Value} {s : State} (ho : tb_of off) (hts : ∀ w ∈ tb_TT, w.before args s = true) (hE : tb_En A sa s) : tb_G off ln fx A sa RX11 args s (41, 3, 2, 0) := ⟨RX2, TX2, 11, tyX2, rfl, rfl, uw_2, tyX2_ok, at_2, hts _ (tg tw_143 rfl), hts _ (tg tw_144 rfl), hts _ (tg tw_7 rfl)⟩
theorem le_11_43 : tb_Le 11 (43, 13, 12, 1) := fun _ => ⟨lf_13_12, Or.inr ⟨_, tn tw_145 rfl⟩⟩
set_option maxRecDepth 20000 in
theorem pk_11_43 {off : Nat → Int → Option Int} {ln : Int → Option Nat} {fx : Bool} {A : Nat → Prop} {sa : Int → Nat} {args : Array Value} {s : State} (ho : tb_of off) (hts : ∀ w ∈ tb_TT, w.before args s = true) (hE : tb_En A sa s) : tb_G off ln fx A sa RX11 args s (43, 13, 12, 1) := trivial
theorem le_11_44 : tb_Le 11 (44, 1, 11, 4) := fun h => absurd h (by decide)
set_option maxRecDepth 20000 in
theorem pk_11_44 {off : Nat → Int → Option Int} {ln : Int → Option Nat} {fx : Bool} {A : Nat → Prop} {sa : Int → Nat} {args : Array Value} {s : State} (ho : tb_of off) (hts : ∀ w ∈ tb_TT, w.before args s = true) (hE : tb_En A sa s) : tb_G off ln fx A sa RX11 args s (44, 1, 11, 4) := ⟨fk_11 4 (by decide) rfl (Or.inl (hts _ (tg tw_343 rfl))), of_none ho rfl⟩
theorem le_11_48 : tb_Le 11 (48, 1, 11, 5) := fun h => absurd h (by decide)
set_option maxRecDepth 20000 in
theorem pk_11_48 {off : Nat → Int → Option Int} {ln : Int → Option Nat} {fx : Bool} {A : Nat → Prop} {sa : Int → Nat} {args : Array Value} {s : State} (ho : tb_of off) (hts : ∀ w ∈ tb_TT, w.before args s = true) (hE : tb_En A sa s) : tb_G off ln fx A sa RX11 args s (48, 1, 11, 5) := ⟨fk_11 5 (by decide) rfl (Or.inl (hts _ (tg tw_344 rfl))), of_none ho rfl⟩
theorem le_11_51 : tb_Le 11 (51, 12, 167, 1) := fun _ => ⟨lf_12_167, Or.inl (tg tw_194 rfl)⟩
set_option maxRecDepth 20000 in
theorem pk_11_51 {off : Nat → Int → Option Int} {ln : Int → Option Nat} {fx : Bool} {A : Nat → Prop} {sa : Int → Nat} {args : Array Value} {s : State} (ho : tb_of off) (hts : ∀ w ∈ tb_TT, w.before args s = true) (hE : tb_En A sa s) : tb_G off ln fx A sa RX11 args s (51, 12, 167, 1) := trivial
theorem le_11_55 : tb_Le 11 (55, 11, 11, 6) := fun h => absurd h (by decide)
set_option maxRecDepth 20000 in
theorem pk_11_55 {off : Nat → Int → Option Int} {ln : Int → Option Nat} {fx : Bool} {A : Nat → Prop} {sa : Int → Nat} {args : Array Value} {s : State} (ho : tb_of off) (hts : ∀ w ∈ tb_TT, w.before args s = true) (hE : tb_En A sa s) : tb_G off ln fx A sa RX11 args s (55, 11, 11, 6) := ⟨fk_11 6 (by decide) rfl (Or.inl (hts _ (tg tw_345 rfl))), of_tag ho (Or.inr rfl), _, _, _, rfl, fun j hj => by
    have : j = 6 := by omega
    subst this
    exact ⟨rfl, hts _ (tg tw_345 rfl)⟩⟩
theorem le_11_59 : tb_Le 11 (59, 3, 0, 0) := fun h => absurd h (by decide)
set_option maxRecDepth 20000 in
theorem pk_11_59 {off : Nat → Int → Option Int} {ln : Int → Option Nat} {fx : Bool} {A : Nat → Prop} {sa : Int → Nat} {args : Array Value} {s : State} (ho : tb_of off) (hts : ∀ w ∈ tb_TT, w.before args s = true) (hE : tb_En A sa s) : tb_G off ln fx A sa RX11 args s (59, 3, 0, 0) := ⟨RX0, TX0, 3, tyX0, rfl, rfl, uw_0, tyX0_ok, at_0, hts _ (tg tw_220 rfl), hts _ (tg tw_221 rfl), hts _ (tg tw_9 rfl)⟩
theorem le_11_61 : tb_Le 11 (61, 13, 0, 1) := fun _ => ⟨lf_13_0, Or.inr ⟨_, tn tw_222 rfl⟩⟩
set_option maxRecDepth 20000 in
theorem pk_11_61 {off : Nat → Int → Option Int} {ln : Int → Option Nat} {fx : Bool} {A : Nat → Prop} {sa : Int → Nat} {args : Array Value} {s : State} (ho : tb_of off) (hts : ∀ w ∈ tb_TT, w.before args s = true) (hE : tb_En A sa s) : tb_G off ln fx A sa RX11 args s (61, 13, 0, 1) := trivial
theorem le_11_62 : tb_Le 11 (62, 11, 11, 7) := fun h => absurd h (by decide)
set_option maxRecDepth 20000 in
theorem pk_11_62 {off : Nat → Int → Option Int} {ln : Int → Option Nat} {fx : Bool} {A : Nat → Prop} {sa : Int → Nat} {args : Array Value} {s : State} (ho : tb_of off) (hts : ∀ w ∈ tb_TT, w.before args s = true) (hE : tb_En A sa s) : tb_G off ln fx A sa RX11 args s (62, 11, 11, 7) := ⟨fk_11 7 (by decide) rfl (Or.inl (hts _ (tg tw_346 rfl))), of_tag ho (Or.inr rfl), _, _, _, rfl, fun j hj => by
    have : j = 7 := by omega
    subst this
    exact ⟨rfl, hts _ (tg tw_346 rfl)⟩⟩
theorem le_11_66 : tb_Le 11 (66, 3, 1, 0) := fun h => absurd h (by decide)
set_option maxRecDepth 20000 in
theorem pk_11_66 {off : Nat → Int → Option Int} {ln : Int → Option Nat} {fx : Bool} {A : Nat → Prop} {sa : Int → Nat} {args : Array Value} {s : State} (ho : tb_of off) (hts : ∀ w ∈ tb_TT, w.before args s = true) (hE : tb_En A sa s) : tb_G off ln fx A sa RX11 args s (66, 3, 1, 0) := ⟨RX1, TX1, 6, tyX1, rfl, rfl, uw_1, tyX1_ok, at_1, hts _ (tg tw_238 rfl), hts _ (tg tw_239 rfl), hts _ (tg tw_10 rfl)⟩
theorem le_11_68 : tb_Le 11 (68, 13, 4, 1) := fun _ => ⟨lf_13_4, Or.inr ⟨_, tn tw_240 rfl⟩⟩
set_option maxRecDepth 20000 in
theorem pk_11_68 {off : Nat → Int → Option Int} {ln : Int → Option Nat} {fx : Bool} {A : Nat → Prop} {sa : Int → Nat} {args : Array Value} {s : State} (ho : tb_of off) (hts : ∀ w ∈ tb_TT, w.before args s = true) (hE : tb_En A sa s) : tb_G off ln fx A sa RX11 args s (68, 13, 4, 1) := trivial
theorem le_11_69 : tb_Le 11 (69, 11, 11, 8) := fun h => absurd h (by decide)
set_option maxRecDepth 20000 in
theorem pk_11_69 {off : Nat → Int → Option Int} {ln : Int → Option Nat} {fx : Bool} {A : Nat → Prop} {sa : Int → Nat} {args : Array Value} {s : State} (ho : tb_of off) (hts : ∀ w ∈ tb_TT, w.before args s = true) (hE : tb_En A sa s) : tb_G off ln fx A sa RX11 args s (69, 11, 11, 8) := ⟨fk_11 8 (by decide) rfl (Or.inl (hts _ (tg tw_347 rfl))), of_tag ho (Or.inr rfl), _, _, _, rfl, fun j hj => by
    have : j = 8 := by omega
    subst this
    exact ⟨rfl, hts _ (tg tw_347 rfl)⟩⟩
theorem le_11_73 : tb_Le 11 (73, 3, 10, 0) := fun h => absurd h (by decide)
set_option maxRecDepth 20000 in
theorem pk_11_73 {off : Nat → Int → Option Int} {ln : Int → Option Nat} {fx : Bool} {A : Nat → Prop} {sa : Int → Nat} {args : Array Value} {s : State} (ho : tb_of off) (hts : ∀ w ∈ tb_TT, w.before args s = true) (hE : tb_En A sa s) : tb_G off ln fx A sa RX11 args s (73, 3, 10, 0) := ⟨RX10, TX10, 13, tyX10, rfl, rfl, uw_10, tyX10_ok, at_10, hts _ (tg tw_269 rfl), hts _ (tg tw_270 rfl), hts _ (tg tw_11 rfl)⟩
theorem le_11_75 : tb_Le 11 (75, 13, 112, 1) := fun _ => ⟨lf_13_112, Or.inr ⟨_, tn tw_271 rfl⟩⟩
set_option maxRecDepth 20000 in
theorem pk_11_75 {off : Nat → Int → Option Int} {ln : Int → Option Nat} {fx : Bool} {A : Nat → Prop} {sa : Int → Nat} {args : Array Value} {s : State} (ho : tb_of off) (hts : ∀ w ∈ tb_TT, w.before args s = true) (hE : tb_En A sa s) : tb_G off ln fx A sa RX11 args s (75, 13, 112, 1) := trivial
theorem le_11_76 : tb_Le 11 (76, 11, 11, 9) := fun h => absurd h (by decide)
set_option maxRecDepth 20000 in
theorem pk_11_76 {off : Nat → Int → Option Int} {ln : Int → Option Nat} {fx : Bool} {A : Nat → Prop} {sa : Int → Nat} {args : Array Value} {s : State} (ho : tb_of off) (hts : ∀ w ∈ tb_TT, w.before args s = true) (hE : tb_En A sa s) : tb_G off ln fx A sa RX11 args s (76, 11, 11, 9) := ⟨fk_11 9 (by decide) rfl (Or.inl (hts _ (tg tw_348 rfl))), of_tag ho (Or.inr rfl), _, _, _, rfl, fun j hj => by
    have : j = 9 := by omega
    subst this
    exact ⟨rfl, hts _ (tg tw_348 rfl)⟩⟩
theorem le_11_80 : tb_Le 11 (80, 3, 4, 0) := fun h => absurd h (by decide)
set_option maxRecDepth 20000 in
theorem pk_11_80 {off : Nat → Int → Option Int} {ln : Int → Option Nat} {fx : Bool} {A : Nat → Prop} {sa : Int → Nat} {args : Array Value} {s : State} (ho : tb_of off) (hts : ∀ w ∈ tb_TT, w.before args s = true) (hE : tb_En A sa s) : tb_G off ln fx A sa RX11 args s (80, 3, 4, 0) := ⟨RX4, TX4, 3, tyX4, rfl, rfl, uw_4, tyX4_ok, at_4, hts _ (tg tw_320 rfl), hts _ (tg tw_321 rfl), hts _ (tg tw_12 rfl)⟩
theorem le_11_82 : tb_Le 11 (82, 13, 46, 1) := fun _ => ⟨lf_13_46, Or.inr ⟨_, tn tw_322 rfl⟩⟩
set_option maxRecDepth 20000 in
theorem pk_11_82 {off : Nat → Int → Option Int} {ln : Int → Option Nat} {fx : Bool} {A : Nat → Prop} {sa : Int → Nat} {args : Array Value} {s : State} (ho : tb_of off) (hts : ∀ w ∈ tb_TT, w.before args s = true) (hE : tb_En A sa s) : tb_G off ln fx A sa RX11 args s (82, 13, 46, 1) := trivial
theorem le_11_83 : tb_Le 11 (83, 11, 11, 10) := fun h => absurd h (by decide)
set_option maxRecDepth 20000 in
theorem pk_11_83 {off : Nat → Int → Option Int} {ln : Int → Option Nat} {fx : Bool} {A : Nat → Prop} {sa : Int → Nat} {args : Array Value} {s : State} (ho : tb_of off) (hts : ∀ w ∈ tb_TT, w.before args s = true) (hE : tb_En A sa s) : tb_G off ln fx A sa RX11 args s (83, 11, 11, 10) := ⟨fk_11 10 (by decide) rfl (Or.inl (hts _ (tg tw_349 rfl))), of_tag ho (Or.inr rfl), _, _, _, rfl, fun j hj => by
    have : j = 10 := by omega
    subst this
    exact ⟨rfl, hts _ (tg tw_349 rfl)⟩⟩
theorem le_11_87 : tb_Le 11 (87, 11, 11, 11) := fun h => absurd h (by decide)
set_option maxRecDepth 20000 in
theorem pk_11_87 {off : Nat → Int → Option Int} {ln : Int → Option Nat} {fx : Bool} {A : Nat → Prop} {sa : Int → Nat} {args : Array Value} {s : State} (ho : tb_of off) (hts : ∀ w ∈ tb_TT, w.before args s = true) (hE : tb_En A sa s) : tb_G off ln fx A sa RX11 args s (87, 11, 11, 11) := ⟨fk_11 11 (by decide) rfl (Or.inl (hts _ (tg tw_350 rfl))), of_tag ho (Or.inr rfl), _, _, _, rfl, fun j hj => by
    have : j = 11 := by omega
    subst this
    exact ⟨rfl, hts _ (tg tw_350 rfl)⟩⟩
theorem le_11_91 : tb_Le 11 (91, 1, 11, 12) := fun h => absurd h (by decide)
set_option maxRecDepth 20000 in
theorem pk_11_91 {off : Nat → Int → Option Int} {ln : Int → Option Nat} {fx : Bool} {A : Nat → Prop} {sa : Int → Nat} {args : Array Value} {s : State} (ho : tb_of off) (hts : ∀ w ∈ tb_TT, w.before args s = true) (hE : tb_En A sa s) : tb_G off ln fx A sa RX11 args s (91, 1, 11, 12) := ⟨fk_11 12 (by decide) rfl (Or.inl (hts _ (tg tw_351 rfl))), of_none ho rfl⟩
theorem le_11_95 : tb_Le 11 (95, 1, 11, 13) := fun h => absurd h (by decide)
set_option maxRecDepth 20000 in
theorem pk_11_95 {off : Nat → Int → Option Int} {ln : Int → Option Nat} {fx : Bool} {A : Nat → Prop} {sa : Int → Nat} {args : Array Value} {s : State} (ho : tb_of off) (hts : ∀ w ∈ tb_TT, w.before args s = true) (hE : tb_En A sa s) : tb_G off ln fx A sa RX11 args s (95, 1, 11, 13) := ⟨fk_11 13 (by decide) rfl (Or.inl (hts _ (tg tw_352 rfl))), of_none ho rfl⟩
theorem le_11_98 : tb_Le 11 (98, 11, 11, 14) := fun h => absurd h (by decide)
set_option maxRecDepth 20000 in
theorem pk_11_98 {off : Nat → Int → Option Int} {ln : Int → Option Nat} {fx : Bool} {A : Nat → Prop} {sa : Int → Nat} {args : Array Value} {s : State} (ho : tb_of off) (hts : ∀ w ∈ tb_TT, w.before args s = true) (hE : tb_En A sa s) : tb_G off ln fx A sa RX11 args s (98, 11, 11, 14) := ⟨fk_11 14 (by decide) rfl (Or.inl (hts _ (tg tw_353 rfl))), of_tag ho (Or.inr rfl), _, _, _, rfl, fun j hj => by
    have : j = 14 := by omega
    subst this
    exact ⟨rfl, hts _ (tg tw_353 rfl)⟩⟩
theorem le_11_101 : tb_Le 11 (101, 1, 11, 15) := fun h => absurd h (by decide)
set_option maxRecDepth 20000 in
theorem pk_11_101 {off : Nat → Int → Option Int} {ln : Int → Option Nat} {fx : Bool} {A : Nat → Prop} {sa : Int → Nat} {args : Array Value} {s : State} (ho : tb_of off) (hts : ∀ w ∈ tb_TT, w.before args s = true) (hE : tb_En A sa s) : tb_G off ln fx A sa RX11 args s (101, 1, 11, 15) := ⟨fk_11 15 (by decide) rfl (Or.inl (hts _ (tg tw_354 rfl))), of_none ho rfl⟩
theorem le_11_104 : tb_Le 11 (104, 11, 11, 16) := fun h => absurd h (by decide)
set_option maxRecDepth 20000 in
theorem pk_11_104 {off : Nat → Int → Option Int} {ln : Int → Option Nat} {fx : Bool} {A : Nat → Prop} {sa : Int → Nat} {args : Array Value} {s : State} (ho : tb_of off) (hts : ∀ w ∈ tb_TT, w.before args s = true) (hE : tb_En A sa s) : tb_G off ln fx A sa RX11 args s (104, 11, 11, 16) := ⟨fk_11 16 (by decide) rfl (Or.inl (hts _ (tg tw_355 rfl))), of_tag ho (Or.inr rfl), _, _, _, rfl, fun j hj => by
    have : j = 16 := by omega
    subst this
    exact ⟨rfl, hts _ (tg tw_355 rfl)⟩⟩
theorem le_11_107 : tb_Le 11 (107, 1, 11, 17) := fun h => absurd h (by decide)
set_option maxRecDepth 20000 in
theorem pk_11_107 {off : Nat → Int → Option Int} {ln : Int → Option Nat} {fx : Bool} {A : Nat → Prop} {sa : Int → Nat} {args : Array Value} {s : State} (ho : tb_of off) (hts : ∀ w ∈ tb_TT, w.before args s = true) (hE : tb_En A sa s) : tb_G off ln fx A sa RX11 args s (107, 1, 11, 17) := ⟨fk_11 17 (by decide) rfl (Or.inl (hts _ (tg tw_356 rfl))), of_none ho rfl⟩
theorem le_11_110 : tb_Le 11 (110, 1, 9, 1) := fun h => absurd h (by decide)
set_option maxRecDepth 20000 in
theorem pk_11_110 {off : Nat → Int → Option Int} {ln : Int → Option Nat} {fx : Bool} {A : Nat → Prop} {sa : Int → Nat} {args : Array Value} {s : State} (ho : tb_of off) (hts : ∀ w ∈ tb_TT, w.before args s = true) (hE : tb_En A sa s) : tb_G off ln fx A sa RX11 args s (110, 1, 9, 1) := ⟨fk_9 1 (by decide) rfl (Or.inr ⟨_, nw_use hE (tn tw_37 rfl) rfl⟩), of_none ho rfl⟩
theorem le_11_113 : tb_Le 11 (113, 2, 160, 2) := fun _ => ⟨lf_2_160, Or.inl (tg tw_398 rfl)⟩
set_option maxRecDepth 20000 in
theorem pk_11_113 {off : Nat → Int → Option Int} {ln : Int → Option Nat} {fx : Bool} {A : Nat → Prop} {sa : Int → Nat} {args : Array Value} {s : State} (ho : tb_of off) (hts : ∀ w ∈ tb_TT, w.before args s = true) (hE : tb_En A sa s) : tb_G off ln fx A sa RX11 args s (113, 2, 160, 2) := trivial
theorem le_11_117 : tb_Le 11 (117, 2, 90, 2) := fun _ => ⟨lf_2_90, Or.inl (tg tw_402 rfl)⟩
set_option maxRecDepth 20000 in
theorem pk_11_117 {off : Nat → Int → Option Int} {ln : Int → Option Nat} {fx : Bool} {A : Nat → Prop} {sa : Int → Nat} {args : Array Value} {s : State} (ho : tb_of off) (hts : ∀ w ∈ tb_TT, w.before args s = true) (hE : tb_En A sa s) : tb_G off ln fx A sa RX11 args s (117, 2, 90, 2) := trivial
theorem le_11_121 : tb_Le 11 (121, 2, 37, 2) := fun _ => ⟨lf_2_37, Or.inl (tg tw_414 rfl)⟩
set_option maxRecDepth 20000 in
theorem pk_11_121 {off : Nat → Int → Option Int} {ln : Int → Option Nat} {fx : Bool} {A : Nat → Prop} {sa : Int → Nat} {args : Array Value} {s : State} (ho : tb_of off) (hts : ∀ w ∈ tb_TT, w.before args s = true) (hE : tb_En A sa s) : tb_G off ln fx A sa RX11 args s (121, 2, 37, 2) := trivial
theorem le_11_125 : tb_Le 11 (125, 2, 91, 1) := fun _ => ⟨lf_2_91, Or.inl (tg tw_686 rfl)⟩
set_option maxRecDepth 20000 in
theorem pk_11_125 {off : Nat → Int → Option Int} {ln : Int → Option Nat} {fx : Bool} {A : Nat → Prop} {sa : Int → Nat} {args : Array Value} {s : State} (ho : tb_of off) (hts : ∀ w ∈ tb_TT, w.before args s = true) (hE : tb_En A sa s) : tb_G off ln fx A sa RX11 args s (125, 2, 91, 1) := trivial
theorem le_11_128 : tb_Le 11 (128, 2, 28, 3) := fun _ => ⟨lf_2_28, Or.inl (tg tw_690 rfl)⟩
set_option maxRecDepth 20000 in
theorem pk_11_128 {off : Nat → Int → Option Int} {ln : Int → Option Nat} {fx : Bool} {A : Nat → Prop} {sa : Int → Nat} {args : Array Value} {s : State} (ho : tb_of off) (hts : ∀ w ∈ tb_TT, w.before args s = true) (hE : tb_En A sa s) : tb_G off ln fx A sa RX11 args s (128, 2, 28, 3) := trivial
theorem le_11_132 : tb_Le 11 (132, 2, 1, 1) := fun _ => ⟨lf_2_1, Or.inl (tg tw_698 rfl)⟩
set_option maxRecDepth 20000 in
theorem pk_11_132 {off : Nat → Int → Option Int} {ln : Int → Option Nat} {fx : Bool} {A : Nat → Prop} {sa : Int → Nat} {args : Array Value} {s : State} (ho : tb_of off) (hts : ∀ w ∈ tb_TT, w.before args s = true) (hE : tb_En A sa s) : tb_G off ln fx A sa RX11 args s (132, 2, 1, 1) := trivial
theorem le_11_135 : tb_Le 11 (135, 1, 9, 3) := fun h => absurd h (by decide)
set_option maxRecDepth 20000 in
theorem pk_11_135 {off : Nat → Int → Option Int} {ln : Int → Option Nat} {fx : Bool} {A : Nat → Prop} {sa : Int → Nat} {args : Array Value} {s : State} (ho : tb_of off) (hts : ∀ w ∈ tb_TT, w.before args s = true) (hE : tb_En A sa s) : tb_G off ln fx A sa RX11 args s (135, 1, 9, 3) := ⟨fk_9 3 (by decide) rfl (Or.inr ⟨_, nw_use hE (tn tw_40 rfl) rfl⟩), of_none ho rfl⟩
theorem le_11_138 : tb_Le 11 (138, 1, 9, 4) := fun h => absurd h (by decide)
set_option maxRecDepth 20000 in
theorem pk_11_138 {off : Nat → Int → Option Int} {ln : Int → Option Nat} {fx : Bool} {A : Nat → Prop} {sa : Int → Nat} {args : Array Value} {s : State} (ho : tb_of off) (hts : ∀ w ∈ tb_TT, w.before args s = true) (hE : tb_En A sa s) : tb_G off ln fx A sa RX11 args s (138, 1, 9, 4) := ⟨fk_9 4 (by decide) rfl (Or.inr ⟨_, nw_use hE (tn tw_42 rfl) rfl⟩), of_none ho rfl⟩
theorem le_11_141 : tb_Le 11 (141, 2, 14, 2) := fun _ => ⟨lf_2_14, Or.inl (tg tw_711 rfl)⟩
set_option maxRecDepth 20000 in
theorem pk_11_141 {off : Nat → Int → Option Int} {ln : Int → Option Nat} {fx : Bool} {A : Nat → Prop} {sa : Int → Nat} {args : Array Value} {s : State} (ho : tb_of off) (hts : ∀ w ∈ tb_TT, w.before args s = true) (hE : tb_En A sa s) : tb_G off ln fx A sa RX11 args s (141, 2, 14, 2) := trivial
theorem le_11_144 : tb_Le 11 (144, 1, 2, 5) := fun h => absurd h (by decide)
set_option maxRecDepth 20000 in
theorem pk_11_144 {off : Nat → Int → Option Int} {ln : Int → Option Nat} {fx : Bool} {A : Nat → Prop} {sa : Int → Nat} {args : Array Value} {s : State} (ho : tb_of off) (hts : ∀ w ∈ tb_TT, w.before args s = true) (hE : tb_En A sa s) : tb_G off ln fx A sa RX11 args s (144, 1, 2, 5) := ⟨fk_2 5 (by decide) rfl (Or.inr ⟨_, nw_use hE (tn tw_158 rfl) rfl⟩), of_none ho rfl⟩
theorem le_11_147 : tb_Le 11 (147, 1, 2, 6) := fun h => absurd h (by decide)
set_option maxRecDepth 20000 in
theorem pk_11_147 {off : Nat → Int → Option Int} {ln : Int → Option Nat} {fx : Bool} {A : Nat → Prop} {sa : Int → Nat} {args : Array Value} {s : State} (ho : tb_of off) (hts : ∀ w ∈ tb_TT, w.before args s = true) (hE : tb_En A sa s) : tb_G off ln fx A sa RX11 args s (147, 1, 2, 6) := ⟨fk_2 6 (by decide) rfl (Or.inr ⟨_, nw_use hE (tn tw_162 rfl) rfl⟩), of_none ho rfl⟩
theorem le_11_150 : tb_Le 11 (150, 1, 2, 7) := fun h => absurd h (by decide)
set_option maxRecDepth 20000 in
theorem pk_11_150 {off : Nat → Int → Option Int} {ln : Int → Option Nat} {fx : Bool} {A : Nat → Prop} {sa : Int → Nat} {args : Array Value} {s : State} (ho : tb_of off) (hts : ∀ w ∈ tb_TT, w.before args s = true) (hE : tb_En A sa s) : tb_G off ln fx A sa RX11 args s (150, 1, 2, 7) := ⟨fk_2 7 (by decide) rfl (Or.inr ⟨_, nw_use hE (tn tw_166 rfl) rfl⟩), of_none ho rfl⟩
theorem le_11_153 : tb_Le 11 (153, 2, 163, 1) := fun _ => ⟨lf_2_163, Or.inl (tg tw_712 rfl)⟩
set_option maxRecDepth 20000 in
theorem pk_11_153 {off : Nat → Int → Option Int} {ln : Int → Option Nat} {fx : Bool} {A : Nat → Prop} {sa : Int → Nat} {args : Array Value} {s : State} (ho : tb_of off) (hts : ∀ w ∈ tb_TT, w.before args s = true) (hE : tb_En A sa s) : tb_G off ln fx A sa RX11 args s (153, 2, 163, 1) := trivial
theorem le_11_157 : tb_Le 11 (157, 1, 0, 2) := fun h => absurd h (by decide)
set_option maxRecDepth 20000 in
theorem pk_11_157 {off : Nat → Int → Option Int} {ln : Int → Option Nat} {fx : Bool} {A : Nat → Prop} {sa : Int → Nat} {args : Array Value} {s : State} (ho : tb_of off) (hts : ∀ w ∈ tb_TT, w.before args s = true) (hE : tb_En A sa s) : tb_G off ln fx A sa RX11 args s (157, 1, 0, 2) := ⟨fk_0 2 (by decide) rfl (Or.inr ⟨_, nw_use hE (tn tw_230 rfl) rfl⟩), of_none ho rfl⟩
theorem le_11_159 : tb_Le 11 (159, 2, 15, 3) := fun _ => ⟨lf_2_15, Or.inl (tg tw_728 rfl)⟩
set_option maxRecDepth 20000 in
theorem pk_11_159 {off : Nat → Int → Option Int} {ln : Int → Option Nat} {fx : Bool} {A : Nat → Prop} {sa : Int → Nat} {args : Array Value} {s : State} (ho : tb_of off) (hts : ∀ w ∈ tb_TT, w.before args s = true) (hE : tb_En A sa s) : tb_G off ln fx A sa RX11 args s (159, 2, 15, 3) := trivial
theorem le_11_163 : tb_Le 11 (163, 2, 17, 3) := fun _ => ⟨lf_2_17, Or.inl (tg tw_732 rfl)⟩
set_option maxRecDepth 20000 in
theorem pk_11_163 {off : Nat → Int → Option Int} {ln : Int → Option Nat} {fx : Bool} {A : Nat → Prop} {sa : Int → Nat} {args : Array Value} {s : State} (ho : tb_of off) (hts : ∀ w ∈ tb_TT, w.before args s = true) (hE : tb_En A sa s) : tb_G off ln fx A sa RX11 args s (163, 2, 17, 3) := trivial
theorem le_11_167 : tb_Le 11 (167, 2, 18, 3) := fun _ => ⟨lf_2_18, Or.inl (tg tw_733 rfl)⟩
set_option maxRecDepth 20000 in
theorem pk_11_167 {off : Nat → Int → Option Int} {ln : Int → Option Nat} {fx : Bool} {A : Nat → Prop} {sa : Int → Nat} {args : Array Value} {s : State} (ho : tb_of off) (hts : ∀ w ∈ tb_TT, w.before args s = true) (hE : tb_En A sa s) : tb_G off ln fx A sa RX11 args s (167, 2, 18, 3) := trivial
theorem le_11_170 : tb_Le 11 (170, 2, 161, 2) := fun _ => ⟨lf_2_161, Or.inl (tg tw_738 rfl)⟩
set_option maxRecDepth 20000 in
theorem pk_11_170 {off : Nat → Int → Option Int} {ln : Int → Option Nat} {fx : Bool} {A : Nat → Prop} {sa : Int → Nat} {args : Array Value} {s : State} (ho : tb_of off) (hts : ∀ w ∈ tb_TT, w.before args s = true) (hE : tb_En A sa s) : tb_G off ln fx A sa RX11 args s (170, 2, 161, 2) := trivial
theorem le_11_174 : tb_Le 11 (174, 2, 26, 2) := fun _ => ⟨lf_2_26, Or.inl (tg tw_742 rfl)⟩
set_option maxRecDepth 20000 in
theorem pk_11_174 {off : Nat → Int → Option Int} {ln : Int → Option Nat} {fx : Bool} {A : Nat → Prop} {sa : Int → Nat} {args : Array Value} {s : State} (ho : tb_of off) (hts : ∀ w ∈ tb_TT, w.before args s = true) (hE : tb_En A sa s) : tb_G off ln fx A sa RX11 args s (174, 2, 26, 2) := trivial
theorem le_11_177 : tb_Le 11 (177, 1, 7, 2) := fun h => absurd h (by decide)
set_option maxRecDepth 20000 in
theorem pk_11_177 {off : Nat → Int → Option Int} {ln : Int → Option Nat} {fx : Bool} {A : Nat → Prop} {sa : Int → Nat} {args : Array Value} {s : State} (ho : tb_of off) (hts : ∀ w ∈ tb_TT, w.before args s = true) (hE : tb_En A sa s) : tb_G off ln fx A sa RX11 args s (177, 1, 7, 2) := ⟨fk_7 2 (by decide) rfl (Or.inr ⟨_, nw_use hE (tn tw_211 rfl) rfl⟩), of_none ho rfl⟩
theorem le_11_178 : tb_Le 11 (178, 14, 7, 0) := fun h => absurd h (by decide)
set_option maxRecDepth 20000 in
theorem pk_11_178 {off : Nat → Int → Option Int} {ln : Int → Option Nat} {fx : Bool} {A : Nat → Prop} {sa : Int → Nat} {args : Array Value} {s : State} (ho : tb_of off) (hts : ∀ w ∈ tb_TT, w.before args s = true) (hE : tb_En A sa s) : tb_G off ln fx A sa RX11 args s (178, 14, 7, 0) := ⟨⟨RX7, TX7, 3, tyX7, rfl, rfl, uw_7, tyX7_ok, at_7, hts _ (tg tw_197 rfl), hts _ (tg tw_199 rfl), hts _ (tg tw_8 rfl)⟩, ⟨RX7, TX7, 3, rfl, hts _ (tg tw_197 rfl), hE.2.2.2.2.1⟩⟩
theorem le_11_182 : tb_Le 11 (182, 2, 74, 1) := fun _ => ⟨lf_2_74, Or.inl (tg tw_746 rfl)⟩
set_option maxRecDepth 20000 in
theorem pk_11_182 {off : Nat → Int → Option Int} {ln : Int → Option Nat} {fx : Bool} {A : Nat → Prop} {sa : Int → Nat} {args : Array Value} {s : State} (ho : tb_of off) (hts : ∀ w ∈ tb_TT, w.before args s = true) (hE : tb_En A sa s) : tb_G off ln fx A sa RX11 args s (182, 2, 74, 1) := trivial
theorem le_11_185 : tb_Le 11 (185, 2, 75, 1) := fun _ => ⟨lf_2_75, Or.inl (tg tw_747 rfl)⟩
set_option maxRecDepth 20000 in
theorem pk_11_185 {off : Nat → Int → Option Int} {ln : Int → Option Nat} {fx : Bool} {A : Nat → Prop} {sa : Int → Nat} {args : Array Value} {s : State} (ho : tb_of off) (hts : ∀ w ∈ tb_TT, w.before args s = true) (hE : tb_En A sa s) : tb_G off ln fx A sa RX11 args s (185, 2, 75, 1) := trivial
theorem le_11_188 : tb_Le 11 (188, 2, 76, 1) := fun _ => ⟨lf_2_76, Or.inl (tg tw_754 rfl)⟩
set_option maxRecDepth 20000 in
theorem pk_11_188 {off : Nat → Int → Option Int} {ln : Int → Option Nat} {fx : Bool} {A : Nat → Prop} {sa : Int → Nat} {args : Array Value} {s : State} (ho : tb_of off) (hts : ∀ w ∈ tb_TT, w.before args s = true) (hE : tb_En A sa s) : tb_G off ln fx A sa RX11 args s (188, 2, 76, 1) := trivial
theorem le_11_191 : tb_Le 11 (191, 2, 30, 3) := fun _ => ⟨lf_2_30, Or.inl (tg tw_758 rfl)⟩
set_option maxRecDepth 20000 in
theorem pk_11_191 {off : Nat → Int → Option Int} {ln : Int → Option Nat} {fx : Bool} {A : Nat → Prop} {sa : Int → Nat} {args : Array Value} {s : State} (ho : tb_of off) (hts : ∀ w ∈ tb_TT, w.before args s = true) (hE : tb_En A sa s) : tb_G off ln fx A sa RX11 args s (191, 2, 30, 3) := trivial
theorem le_11_195 : tb_Le 11 (195, 2, 31, 2) := fun _ => ⟨lf_2_31, Or.inl (tg tw_716 rfl)⟩
set_option maxRecDepth 20000 in
theorem pk_11_195 {off : Nat → Int → Option Int} {ln : Int → Option Nat} {fx : Bool} {A : Nat → Prop} {sa : Int → Nat} {args : Array Value} {s : State} (ho : tb_of off) (hts : ∀ w ∈ tb_TT, w.before args s = true) (hE : tb_En A sa s) : tb_G off ln fx A sa RX11 args s (195, 2, 31, 2) := trivial
theorem le_11_199 : tb_Le 11 (199, 2, 162, 2) := fun _ => ⟨lf_2_162, Or.inl (tg tw_778 rfl)⟩
set_option maxRecDepth 20000 in
theorem pk_11_199 {off : Nat → Int → Option Int} {ln : Int → Option Nat} {fx : Bool} {A : Nat → Prop} {sa : Int → Nat} {args : Array Value} {s : State} (ho : tb_of off) (hts : ∀ w ∈ tb_TT, w.before args s = true) (hE : tb_En A sa s) : tb_G off ln fx A sa RX11 args s (199, 2, 162, 2) := trivial
theorem le_11_202 : tb_Le 11 (202, 2, 72, 2) := fun _ => ⟨lf_2_72, Or.inl (tg tw_782 rfl)⟩
set_option maxRecDepth 20000 in
theorem pk_11_202 {off : Nat → Int → Option Int} {ln : Int → Option Nat} {fx : Bool} {A : Nat → Prop} {sa : Int → Nat} {args : Array Value} {s : State} (ho : tb_of off) (hts : ∀ w ∈ tb_TT, w.before args s = true) (hE : tb_En A sa s) : tb_G off ln fx A sa RX11 args s (202, 2, 72, 2) := trivial
theorem le_11_205 : tb_Le 11 (205, 2, 29, 3) := fun _ => ⟨lf_2_29, Or.inl (tg tw_783 rfl)⟩
set_option maxRecDepth 20000 in
theorem pk_11_205 {off : Nat → Int → Option Int} {ln : Int → Option Nat} {fx : Bool} {A : Nat → Prop} {sa : Int → Nat} {args : Array Value} {s : State} (ho : tb_of off) (hts : ∀ w ∈ tb_TT, w.before args s = true) (hE : tb_En A sa s) : tb_G off ln fx A sa RX11 args s (205, 2, 29, 3) := trivial
theorem le_11_208 : tb_Le 11 (208, 2, 32, 4) := fun _ => ⟨lf_2_32, Or.inl (tg tw_784 rfl)⟩
set_option maxRecDepth 20000 in
theorem pk_11_208 {off : Nat → Int → Option Int} {ln : Int → Option Nat} {fx : Bool} {A : Nat → Prop} {sa : Int → Nat} {args : Array Value} {s : State} (ho : tb_of off) (hts : ∀ w ∈ tb_TT, w.before args s = true) (hE : tb_En A sa s) : tb_G off ln fx A sa RX11 args s (208, 2, 32, 4) := trivial
theorem le_11_212 : tb_Le 11 (212, 2, 27, 2) := fun _ => ⟨lf_2_27, Or.inl (tg tw_845 rfl)⟩
set_option maxRecDepth 20000 in
theorem pk_11_212 {off : Nat → Int → Option Int} {ln : Int → Option Nat} {fx : Bool} {A : Nat → Prop} {sa : Int → Nat} {args : Array Value} {s : State} (ho : tb_of off) (hts : ∀ w ∈ tb_TT, w.before args s = true) (hE : tb_En A sa s) : tb_G off ln fx A sa RX11 args s (212, 2, 27, 2) := trivial
theorem le_11_215 : tb_Le 11 (215, 2, 5, 3) := fun _ => ⟨lf_2_5, Or.inl (tg tw_850 rfl)⟩
set_option maxRecDepth 20000 in
theorem pk_11_215 {off : Nat → Int → Option Int} {ln : Int → Option Nat} {fx : Bool} {A : Nat → Prop} {sa : Int → Nat} {args : Array Value} {s : State} (ho : tb_of off) (hts : ∀ w ∈ tb_TT, w.before args s = true) (hE : tb_En A sa s) : tb_G off ln fx A sa RX11 args s (215, 2, 5, 3) := trivial
theorem le_11_219 : tb_Le 11 (219, 2, 6, 2) := fun _ => ⟨lf_2_6, Or.inl (tg tw_874 rfl)⟩
set_option maxRecDepth 20000 in
theorem pk_11_219 {off : Nat → Int → Option Int} {ln : Int → Option Nat} {fx : Bool} {A : Nat → Prop} {sa : Int → Nat} {args : Array Value} {s : State} (ho : tb_of off) (hts : ∀ w ∈ tb_TT, w.before args s = true) (hE : tb_En A sa s) : tb_G off ln fx A sa RX11 args s (219, 2, 6, 2) := trivial
theorem le_11_222 : tb_Le 11 (222, 1, 1, 2) := fun h => absurd h (by decide)
set_option maxRecDepth 20000 in
theorem pk_11_222 {off : Nat → Int → Option Int} {ln : Int → Option Nat} {fx : Bool} {A : Nat → Prop} {sa : Int → Nat} {args : Array Value} {s : State} (ho : tb_of off) (hts : ∀ w ∈ tb_TT, w.before args s = true) (hE : tb_En A sa s) : tb_G off ln fx A sa RX11 args s (222, 1, 1, 2) := ⟨fk_1 2 (by decide) rfl (Or.inr ⟨_, nw_use hE (tn tw_251 rfl) rfl⟩), of_none ho rfl⟩
theorem le_11_223 : tb_Le 11 (223, 12, 318, 2) := fun _ => ⟨lf_12_318, Or.inl (tg tw_882 rfl)⟩
set_option maxRecDepth 20000 in
theorem pk_11_223 {off : Nat → Int → Option Int} {ln : Int → Option Nat} {fx : Bool} {A : Nat → Prop} {sa : Int → Nat} {args : Array Value} {s : State} (ho : tb_of off) (hts : ∀ w ∈ tb_TT, w.before args s = true) (hE : tb_En A sa s) : tb_G off ln fx A sa RX11 args s (223, 12, 318, 2) := trivial
theorem le_11_228 : tb_Le 11 (228, 2, 7, 3) := fun _ => ⟨lf_2_7, Or.inl (tg tw_883 rfl)⟩
set_option maxRecDepth 20000 in
theorem pk_11_228 {off : Nat → Int → Option Int} {ln : Int → Option Nat} {fx : Bool} {A : Nat → Prop} {sa : Int → Nat} {args : Array Value} {s : State} (ho : tb_of off) (hts : ∀ w ∈ tb_TT, w.before args s = true) (hE : tb_En A sa s) : tb_G off ln fx A sa RX11 args s (228, 2, 7, 3) := trivial
theorem le_11_231 : tb_Le 11 (231, 1, 1, 3) := fun h => absurd h (by decide)
set_option maxRecDepth 20000 in
theorem pk_11_231 {off : Nat → Int → Option Int} {ln : Int → Option Nat} {fx : Bool} {A : Nat → Prop} {sa : Int → Nat} {args : Array Value} {s : State} (ho : tb_of off) (hts : ∀ w ∈ tb_TT, w.before args s = true) (hE : tb_En A sa s) : tb_G off ln fx A sa RX11 args s (231, 1, 1, 3) := ⟨fk_1 3 (by decide) rfl (Or.inr ⟨_, nw_use hE (tn tw_253 rfl) rfl⟩), of_none ho rfl⟩
theorem le_11_234 : tb_Le 11 (234, 2, 8, 2) := fun _ => ⟨lf_2_8, Or.inl (tg tw_895 rfl)⟩
set_option maxRecDepth 20000 in
theorem pk_11_234 {off : Nat → Int → Option Int} {ln : Int → Option Nat} {fx : Bool} {A : Nat → Prop} {sa : Int → Nat} {args : Array Value} {s : State} (ho : tb_of off) (hts : ∀ w ∈ tb_TT, w.before args s = true) (hE : tb_En A sa s) : tb_G off ln fx A sa RX11 args s (234, 2, 8, 2) := trivial
theorem le_11_237 : tb_Le 11 (237, 2, 113, 4) := fun _ => ⟨lf_2_113, Or.inl (tg tw_904 rfl)⟩
set_option maxRecDepth 20000 in
theorem pk_11_237 {off : Nat → Int → Option Int} {ln : Int → Option Nat} {fx : Bool} {A : Nat → Prop} {sa : Int → Nat} {args : Array Value} {s : State} (ho : tb_of off) (hts : ∀ w ∈ tb_TT, w.before args s = true) (hE : tb_En A sa s) : tb_G off ln fx A sa RX11 args s (237, 2, 113, 4) := trivial
theorem le_11_241 : tb_Le 11 (241, 2, 115, 3) := fun _ => ⟨lf_2_115, Or.inl (tg tw_927 rfl)⟩
set_option maxRecDepth 20000 in
theorem pk_11_241 {off : Nat → Int → Option Int} {ln : Int → Option Nat} {fx : Bool} {A : Nat → Prop} {sa : Int → Nat} {args : Array Value} {s : State} (ho : tb_of off) (hts : ∀ w ∈ tb_TT, w.before args s = true) (hE : tb_En A sa s) : tb_G off ln fx A sa RX11 args s (241, 2, 115, 3) := trivial
theorem le_11_244 : tb_Le 11 (244, 2, 114, 3) := fun _ => ⟨lf_2_114, Or.inl (tg tw_935 rfl)⟩
set_option maxRecDepth 20000 in
theorem pk_11_244 {off : Nat → Int → Option Int} {ln : Int → Option Nat} {fx : Bool} {A : Nat → Prop} {sa : Int → Nat} {args : Array Value} {s : State} (ho : tb_of off) (hts : ∀ w ∈ tb_TT, w.before args s = true) (hE : tb_En A sa s) : tb_G off ln fx A sa RX11 args s (244, 2, 114, 3) := trivial
theorem le_11_248 : tb_Le 11 (248, 1, 10, 4) := fun h => absurd h (by decide)
set_option maxRecDepth 20000 in
theorem pk_11_248 {off : Nat → Int → Option Int} {ln : Int → Option Nat} {fx : Bool} {A : Nat → Prop} {sa : Int → Nat} {args : Array Value} {s : State} (ho : tb_of off) (hts : ∀ w ∈ tb_TT, w.before args s = true) (hE : tb_En A sa s) : tb_G off ln fx A sa RX11 args s (248, 1, 10, 4) := ⟨fk_10 4 (by decide) rfl (Or.inr ⟨_, nw_use hE (tn tw_283 rfl) rfl⟩), of_none ho rfl⟩
theorem le_11_251 : tb_Le 11 (251, 2, 119, 3) := fun _ => ⟨lf_2_119, Or.inl (tg tw_944 rfl)⟩
set_option maxRecDepth 20000 in
theorem pk_11_251 {off : Nat → Int → Option Int} {ln : Int → Option Nat} {fx : Bool} {A : Nat → Prop} {sa : Int → Nat} {args : Array Value} {s : State} (ho : tb_of off) (hts : ∀ w ∈ tb_TT, w.before args s = true) (hE : tb_En A sa s) : tb_G off ln fx A sa RX11 args s (251, 2, 119, 3) := trivial
theorem le_11_254 : tb_Le 11 (254, 1, 10, 7) := fun h => absurd h (by decide)
set_option maxRecDepth 20000 in
theorem pk_11_254 {off : Nat → Int → Option Int} {ln : Int → Option Nat} {fx : Bool} {A : Nat → Prop} {sa : Int → Nat} {args : Array Value} {s : State} (ho : tb_of off) (hts : ∀ w ∈ tb_TT, w.before args s = true) (hE : tb_En A sa s) : tb_G off ln fx A sa RX11 args s (254, 1, 10, 7) := ⟨fk_10 7 (by decide) rfl (Or.inr ⟨_, nw_use hE (tn tw_287 rfl) rfl⟩), of_none ho rfl⟩
theorem le_11_257 : tb_Le 11 (257, 12, 314, 1) := fun _ => ⟨lf_12_314, Or.inl (tg tw_954 rfl)⟩
set_option maxRecDepth 20000 in
theorem pk_11_257 {off : Nat → Int → Option Int} {ln : Int → Option Nat} {fx : Bool} {A : Nat → Prop} {sa : Int → Nat} {args : Array Value} {s : State} (ho : tb_of off) (hts : ∀ w ∈ tb_TT, w.before args s = true) (hE : tb_En A sa s) : tb_G off ln fx A sa RX11 args s (257, 12, 314, 1) := trivial
theorem le_11_262 : tb_Le 11 (262, 2, 120, 4) := fun _ => ⟨lf_2_120, Or.inl (tg tw_960 rfl)⟩
set_option maxRecDepth 20000 in
theorem pk_11_262 {off : Nat → Int → Option Int} {ln : Int → Option Nat} {fx : Bool} {A : Nat → Prop} {sa : Int → Nat} {args : Array Value} {s : State} (ho : tb_of off) (hts : ∀ w ∈ tb_TT, w.before args s = true) (hE : tb_En A sa s) : tb_G off ln fx A sa RX11 args s (262, 2, 120, 4) := trivial
theorem le_11_265 : tb_Le 11 (265, 2, 121, 2) := fun _ => ⟨lf_2_121, Or.inl (tg tw_986 rfl)⟩
set_option maxRecDepth 20000 in
theorem pk_11_265 {off : Nat → Int → Option Int} {ln : Int → Option Nat} {fx : Bool} {A : Nat → Prop} {sa : Int → Nat} {args : Array Value} {s : State} (ho : tb_of off) (hts : ∀ w ∈ tb_TT, w.before args s = true) (hE : tb_En A sa s) : tb_G off ln fx A sa RX11 args s (265, 2, 121, 2) := trivial
theorem le_11_268 : tb_Le 11 (268, 2, 9, 4) := fun _ => ⟨lf_2_9, Or.inl (tg tw_994 rfl)⟩
set_option maxRecDepth 20000 in
theorem pk_11_268 {off : Nat → Int → Option Int} {ln : Int → Option Nat} {fx : Bool} {A : Nat → Prop} {sa : Int → Nat} {args : Array Value} {s : State} (ho : tb_of off) (hts : ∀ w ∈ tb_TT, w.before args s = true) (hE : tb_En A sa s) : tb_G off ln fx A sa RX11 args s (268, 2, 9, 4) := trivial
theorem le_11_272 : tb_Le 11 (272, 2, 47, 4) := fun _ => ⟨lf_2_47, Or.inl (tg tw_1010 rfl)⟩
set_option maxRecDepth 20000 in
theorem pk_11_272 {off : Nat → Int → Option Int} {ln : Int → Option Nat} {fx : Bool} {A : Nat → Prop} {sa : Int → Nat} {args : Array Value} {s : State} (ho : tb_of off) (hts : ∀ w ∈ tb_TT, w.before args s = true) (hE : tb_En A sa s) : tb_G off ln fx A sa RX11 args s (272, 2, 47, 4) := trivial
theorem le_11_276 : tb_Le 11 (276, 2, 50, 4) := fun _ => ⟨lf_2_50, Or.inl (tg tw_1033 rfl)⟩
set_option maxRecDepth 20000 in
theorem pk_11_276 {off : Nat → Int → Option Int} {ln : Int → Option Nat} {fx : Bool} {A : Nat → Prop} {sa : Int → Nat} {args : Array Value} {s : State} (ho : tb_of off) (hts : ∀ w ∈ tb_TT, w.before args s = true) (hE : tb_En A sa s) : tb_G off ln fx A sa RX11 args s (276, 2, 50, 4) := trivial
theorem le_11_279 : tb_Le 11 (279, 2, 33, 3) := fun _ => ⟨lf_2_33, Or.inl (tg tw_1051 rfl)⟩
set_option maxRecDepth 20000 in
theorem pk_11_279 {off : Nat → Int → Option Int} {ln : Int → Option Nat} {fx : Bool} {A : Nat → Prop} {sa : Int → Nat} {args : Array Value} {s : State} (ho : tb_of off) (hts : ∀ w ∈ tb_TT, w.before args s = true) (hE : tb_En A sa s) : tb_G off ln fx A sa RX11 args s (279, 2, 33, 3) := trivial
theorem le_11_283 : tb_Le 11 (283, 2, 2, 2) := fun _ => ⟨lf_2_2, Or.inl (tg tw_1052 rfl)⟩
set_option maxRecDepth 20000 in
theorem pk_11_283 {off : Nat → Int → Option Int} {ln : Int → Option Nat} {fx : Bool} {A : Nat → Prop} {sa : Int → Nat} {args : Array Value} {s : State} (ho : tb_of off) (hts : ∀ w ∈ tb_TT, w.before args s = true) (hE : tb_En A sa s) : tb_G off ln fx A sa RX11 args s (283, 2, 2, 2) := trivial
theorem le_11_287 : tb_Le 11 (287, 2, 34, 3) := fun _ => ⟨lf_2_34, Or.inl (tg tw_1058 rfl)⟩
set_option maxRecDepth 20000 in
theorem pk_11_287 {off : Nat → Int → Option Int} {ln : Int → Option Nat} {fx : Bool} {A : Nat → Prop} {sa : Int → Nat} {args : Array Value} {s : State} (ho : tb_of off) (hts : ∀ w ∈ tb_TT, w.before args s = true) (hE : tb_En A sa s) : tb_G off ln fx A sa RX11 args s (287, 2, 34, 3) := trivial
theorem le_11_291 : tb_Le 11 (291, 2, 35, 3) := fun _ => ⟨lf_2_35, Or.inl (tg tw_1063 rfl)⟩
set_option maxRecDepth 20000 in
theorem pk_11_291 {off : Nat → Int → Option Int} {ln : Int → Option Nat} {fx : Bool} {A : Nat → Prop} {sa : Int → Nat} {args : Array Value} {s : State} (ho : tb_of off) (hts : ∀ w ∈ tb_TT, w.before args s = true) (hE : tb_En A sa s) : tb_G off ln fx A sa RX11 args s (291, 2, 35, 3) := trivial
theorem le_11_294 : tb_Le 11 (294, 2, 73, 3) := fun _ => ⟨lf_2_73, Or.inl (tg tw_1072 rfl)⟩
set_option maxRecDepth 20000 in
theorem pk_11_294 {off : Nat → Int → Option Int} {ln : Int → Option Nat} {fx : Bool} {A : Nat → Prop} {sa : Int → Nat} {args : Array Value} {s : State} (ho : tb_of off) (hts : ∀ w ∈ tb_TT, w.before args s = true) (hE : tb_En A sa s) : tb_G off ln fx A sa RX11 args s (294, 2, 73, 3) := trivial
theorem le_11_298 : tb_Le 11 (298, 2, 164, 2) := fun _ => ⟨lf_2_164, Or.inl (tg tw_1077 rfl)⟩
set_option maxRecDepth 20000 in
theorem pk_11_298 {off : Nat → Int → Option Int} {ln : Int → Option Nat} {fx : Bool} {A : Nat → Prop} {sa : Int → Nat} {args : Array Value} {s : State} (ho : tb_of off) (hts : ∀ w ∈ tb_TT, w.before args s = true) (hE : tb_En A sa s) : tb_G off ln fx A sa RX11 args s (298, 2, 164, 2) := trivial
theorem le_11_301 : tb_Le 11 (301, 2, 77, 1) := fun _ => ⟨lf_2_77, Or.inl (tg tw_1084 rfl)⟩
set_option maxRecDepth 20000 in
theorem pk_11_301 {off : Nat → Int → Option Int} {ln : Int → Option Nat} {fx : Bool} {A : Nat → Prop} {sa : Int → Nat} {args : Array Value} {s : State} (ho : tb_of off) (hts : ∀ w ∈ tb_TT, w.before args s = true) (hE : tb_En A sa s) : tb_G off ln fx A sa RX11 args s (301, 2, 77, 1) := trivial
theorem le_11_303 : tb_Le 11 (303, 2, 3, 2) := fun _ => ⟨lf_2_3, Or.inl (tg tw_1089 rfl)⟩
set_option maxRecDepth 20000 in
theorem pk_11_303 {off : Nat → Int → Option Int} {ln : Int → Option Nat} {fx : Bool} {A : Nat → Prop} {sa : Int → Nat} {args : Array Value} {s : State} (ho : tb_of off) (hts : ∀ w ∈ tb_TT, w.before args s = true) (hE : tb_En A sa s) : tb_G off ln fx A sa RX11 args s (303, 2, 3, 2) := trivial
theorem le_11_307 : tb_Le 11 (307, 2, 92, 2) := fun _ => ⟨lf_2_92, Or.inl (tg tw_1102 rfl)⟩
set_option maxRecDepth 20000 in
theorem pk_11_307 {off : Nat → Int → Option Int} {ln : Int → Option Nat} {fx : Bool} {A : Nat → Prop} {sa : Int → Nat} {args : Array Value} {s : State} (ho : tb_of off) (hts : ∀ w ∈ tb_TT, w.before args s = true) (hE : tb_En A sa s) : tb_G off ln fx A sa RX11 args s (307, 2, 92, 2) := trivial
theorem le_11_310 : tb_Le 11 (310, 2, 11, 7) := fun _ => ⟨lf_2_11, Or.inl (tg tw_1107 rfl)⟩
set_option maxRecDepth 20000 in
theorem pk_11_310 {off : Nat → Int → Option Int} {ln : Int → Option Nat} {fx : Bool} {A : Nat → Prop} {sa : Int → Nat} {args : Array Value} {s : State} (ho : tb_of off) (hts : ∀ w ∈ tb_TT, w.before args s = true) (hE : tb_En A sa s) : tb_G off ln fx A sa RX11 args s (310, 2, 11, 7) := trivial
theorem le_11_314 : tb_Le 11 (314, 5, 0, (-1000000000000000)) := fun h => absurd h (by decide)
set_option maxRecDepth 20000 in
theorem pk_11_314 {off : Nat → Int → Option Int} {ln : Int → Option Nat} {fx : Bool} {A : Nat → Prop} {sa : Int → Nat} {args : Array Value} {s : State} (ho : tb_of off) (hts : ∀ w ∈ tb_TT, w.before args s = true) (hE : tb_En A sa s) : tb_G off ln fx A sa RX11 args s (314, 5, 0, (-1000000000000000)) := ⟨(-1000000000000000), hts _ (tg tw_1115 rfl), by decide +kernel⟩
theorem le_11_316 : tb_Le 11 (316, 2, 53, 1) := fun _ => ⟨lf_2_53, Or.inl (tg tw_1116 rfl)⟩
set_option maxRecDepth 20000 in
theorem pk_11_316 {off : Nat → Int → Option Int} {ln : Int → Option Nat} {fx : Bool} {A : Nat → Prop} {sa : Int → Nat} {args : Array Value} {s : State} (ho : tb_of off) (hts : ∀ w ∈ tb_TT, w.before args s = true) (hE : tb_En A sa s) : tb_G off ln fx A sa RX11 args s (316, 2, 53, 1) := trivial
theorem le_11_319 : tb_Le 11 (319, 2, 57, 2) := fun _ => ⟨lf_2_57, Or.inl (tg tw_1155 rfl)⟩
set_option maxRecDepth 20000 in
theorem pk_11_319 {off : Nat → Int → Option Int} {ln : Int → Option Nat} {fx : Bool} {A : Nat → Prop} {sa : Int → Nat} {args : Array Value} {s : State} (ho : tb_of off) (hts : ∀ w ∈ tb_TT, w.before args s = true) (hE : tb_En A sa s) : tb_G off ln fx A sa RX11 args s (319, 2, 57, 2) := trivial
theorem le_11_323 : tb_Le 11 (323, 2, 165, 2) := fun _ => ⟨lf_2_165, Or.inl (tg tw_1173 rfl)⟩
set_option maxRecDepth 20000 in
theorem pk_11_323 {off : Nat → Int → Option Int} {ln : Int → Option Nat} {fx : Bool} {A : Nat → Prop} {sa : Int → Nat} {args : Array Value} {s : State} (ho : tb_of off) (hts : ∀ w ∈ tb_TT, w.before args s = true) (hE : tb_En A sa s) : tb_G off ln fx A sa RX11 args s (323, 2, 165, 2) := trivial
theorem le_11_326 : tb_Le 11 (326, 2, 166, 1) := fun _ => ⟨lf_2_166, Or.inl (tg tw_1185 rfl)⟩
set_option maxRecDepth 20000 in
theorem pk_11_326 {off : Nat → Int → Option Int} {ln : Int → Option Nat} {fx : Bool} {A : Nat → Prop} {sa : Int → Nat} {args : Array Value} {s : State} (ho : tb_of off) (hts : ∀ w ∈ tb_TT, w.before args s = true) (hE : tb_En A sa s) : tb_G off ln fx A sa RX11 args s (326, 2, 166, 1) := trivial
theorem le_11_329 : tb_Le 11 (329, 2, 93, 2) := fun _ => ⟨lf_2_93, Or.inl (tg tw_1189 rfl)⟩
set_option maxRecDepth 20000 in
theorem pk_11_329 {off : Nat → Int → Option Int} {ln : Int → Option Nat} {fx : Bool} {A : Nat → Prop} {sa : Int → Nat} {args : Array Value} {s : State} (ho : tb_of off) (hts : ∀ w ∈ tb_TT, w.before args s = true) (hE : tb_En A sa s) : tb_G off ln fx A sa RX11 args s (329, 2, 93, 2) := trivial
theorem le_11_332 : tb_Le 11 (332, 5, 0, 1103515245) := fun h => absurd h (by decide)
set_option maxRecDepth 20000 in
theorem pk_11_332 {off : Nat → Int → Option Int} {ln : Int → Option Nat} {fx : Bool} {A : Nat → Prop} {sa : Int → Nat} {args : Array Value} {s : State} (ho : tb_of off) (hts : ∀ w ∈ tb_TT, w.before args s = true) (hE : tb_En A sa s) : tb_G off ln fx A sa RX11 args s (332, 5, 0, 1103515245) := ⟨1103515245, hts _ (tg tw_1081 rfl), by decide +kernel⟩
theorem le_11_334 : tb_Le 11 (334, 5, 0, 12345) := fun h => absurd h (by decide)
set_option maxRecDepth 20000 in
theorem pk_11_334 {off : Nat → Int → Option Int} {ln : Int → Option Nat} {fx : Bool} {A : Nat → Prop} {sa : Int → Nat} {args : Array Value} {s : State} (ho : tb_of off) (hts : ∀ w ∈ tb_TT, w.before args s = true) (hE : tb_En A sa s) : tb_G off ln fx A sa RX11 args s (334, 5, 0, 12345) := ⟨12345, hts _ (tg tw_1082 rfl), by decide +kernel⟩
theorem le_11_336 : tb_Le 11 (336, 5, 0, 2147483647) := fun h => absurd h (by decide)
set_option maxRecDepth 20000 in
theorem pk_11_336 {off : Nat → Int → Option Int} {ln : Int → Option Nat} {fx : Bool} {A : Nat → Prop} {sa : Int → Nat} {args : Array Value} {s : State} (ho : tb_of off) (hts : ∀ w ∈ tb_TT, w.before args s = true) (hE : tb_En A sa s) : tb_G off ln fx A sa RX11 args s (336, 5, 0, 2147483647) := ⟨2147483647, hts _ (tg tw_1083 rfl), by decide +kernel⟩
theorem le_11_338 : tb_Le 11 (338, 13, 70, 1) := fun _ => ⟨lf_13_70, Or.inr ⟨_, tn tw_200 rfl⟩⟩
set_option maxRecDepth 20000 in
theorem pk_11_338 {off : Nat → Int → Option Int} {ln : Int → Option Nat} {fx : Bool} {A : Nat → Prop} {sa : Int → Nat} {args : Array Value} {s : State} (ho : tb_of off) (hts : ∀ w ∈ tb_TT, w.before args s = true) (hE : tb_En A sa s) : tb_G off ln fx A sa RX11 args s (338, 13, 70, 1) := trivial
set_option maxRecDepth 20000 in
theorem le_11 : ∀ e ∈ pl_11, tb_Le 11 e := List.forall_mem_cons.mpr ⟨le_11_1, List.forall_mem_cons.mpr ⟨le_11_7, List.forall_mem_cons.mpr ⟨le_11_9, List.forall_mem_cons.mpr ⟨le_11_10, List.forall_mem_cons.mpr ⟨le_11_16, List.forall_mem_cons.mpr ⟨le_11_18, List.forall_mem_cons.mpr ⟨le_11_21, List.forall_mem_cons.mpr ⟨le_11_25, List.forall_mem_cons.mpr ⟨le_11_27, List.forall_mem_cons.mpr ⟨le_11_30, List.forall_mem_cons.mpr ⟨le_11_34, List.forall_mem_cons.mpr ⟨le_11_36, List.forall_mem_cons.mpr ⟨le_11_37, List.forall_mem_cons.mpr ⟨le_11_41, List.forall_mem_cons.mpr ⟨le_11_43, List.forall_mem_cons.mpr ⟨le_11_44, List.forall_mem_cons.mpr ⟨le_11_48, List.forall_mem_cons.mpr ⟨le_11_51, List.forall_mem_cons.mpr ⟨le_11_55, List.forall_mem_cons.mpr ⟨le_11_59, List.forall_mem_cons.mpr ⟨le_11_61, List.forall_mem_cons.mpr ⟨le_11_62, List.forall_mem_cons.mpr ⟨le_11_66, List.forall_mem_cons.mpr ⟨le_11_68, List.forall_mem_cons.mpr ⟨le_11_69, List.forall_mem_cons.mpr ⟨le_11_73, List.forall_mem_cons.mpr ⟨le_11_75, List.forall_mem_cons.mpr ⟨le_11_76, List.forall_mem_cons.mpr ⟨le_11_80, List.forall_mem_cons.mpr ⟨le_11_82, List.forall_mem_cons.mpr ⟨le_11_83, List.forall_mem_cons.mpr ⟨le_11_87, List.forall_mem_cons.mpr ⟨le_11_91, List.forall_mem_cons.mpr ⟨le_11_95, List.forall_mem_cons.mpr ⟨le_11_98, List.forall_mem_cons.mpr ⟨le_11_101, List.forall_mem_cons.mpr ⟨le_11_104, List.forall_mem_cons.mpr ⟨le_11_107, List.forall_mem_cons.mpr ⟨le_11_110, List.forall_mem_cons.mpr ⟨le_11_113, List.forall_mem_cons.mpr ⟨le_11_117, List.forall_mem_cons.mpr ⟨le_11_121, List.forall_mem_cons.mpr ⟨le_11_125, List.forall_mem_cons.mpr ⟨le_11_128, List.forall_mem_cons.mpr ⟨le_11_132, List.forall_mem_cons.mpr ⟨le_11_135, List.forall_mem_cons.mpr ⟨le_11_138, List.forall_mem_cons.mpr ⟨le_11_141, List.forall_mem_cons.mpr ⟨le_11_144, List.forall_mem_cons.mpr ⟨le_11_147, List.forall_mem_cons.mpr ⟨le_11_150, List.forall_mem_cons.mpr ⟨le_11_153, List.forall_mem_cons.mpr ⟨le_11_157, List.forall_mem_cons.mpr ⟨le_11_159, List.forall_mem_cons.mpr ⟨le_11_163, List.forall_mem_cons.mpr ⟨le_11_167, List.forall_mem_cons.mpr ⟨le_11_170, List.forall_mem_cons.mpr ⟨le_11_174, List.forall_mem_cons.mpr ⟨le_11_177, List.forall_mem_cons.mpr ⟨le_11_178, List.forall_mem_cons.mpr ⟨le_11_182, List.forall_mem_cons.mpr ⟨le_11_185, List.forall_mem_cons.mpr ⟨le_11_188, List.forall_mem_cons.mpr ⟨le_11_191, List.forall_mem_cons.mpr ⟨le_11_195, List.forall_mem_cons.mpr ⟨le_11_199, List.forall_mem_cons.mpr ⟨le_11_202, List.forall_mem_cons.mpr ⟨le_11_205, List.forall_mem_cons.mpr ⟨le_11_208, List.forall_mem_cons.mpr ⟨le_11_212, List.forall_mem_cons.mpr ⟨le_11_215, List.forall_mem_cons.mpr ⟨le_11_219, List.forall_mem_cons.mpr ⟨le_11_222, List.forall_mem_cons.mpr ⟨le_11_223, List.forall_mem_cons.mpr ⟨le_11_228, List.forall_mem_cons.mpr ⟨le_11_231, List.forall_mem_cons.mpr ⟨le_11_234, List.forall_mem_cons.mpr ⟨le_11_237, List.forall_mem_cons.mpr ⟨le_11_241, List.forall_mem_cons.mpr ⟨le_11_244, List.forall_mem_cons.mpr ⟨le_11_248, List.forall_mem_cons.mpr ⟨le_11_251, List.forall_mem_cons.mpr ⟨le_11_254, List.forall_mem_cons.mpr ⟨le_11_257, List.forall_mem_cons.mpr ⟨le_11_262, List.forall_mem_cons.mpr ⟨le_11_265, List.forall_mem_cons.mpr ⟨le_11_268, List.forall_mem_cons.mpr ⟨le_11_272, List.forall_mem_cons.mpr ⟨le_11_276, List.forall_mem_cons.mpr ⟨le_11_279, List.forall_mem_cons.mpr ⟨le_11_283, List.forall_mem_cons.mpr ⟨le_11_287, List.forall_mem_cons.mpr ⟨le_11_291, List.forall_mem_cons.mpr ⟨le_11_294, List.forall_mem_cons.mpr ⟨le_11_298, List.forall_mem_cons.mpr ⟨le_11_301, List.forall_mem_cons.mpr ⟨le_11_303, List.forall_mem_cons.mpr ⟨le_11_307, List.forall_mem_cons.mpr ⟨le_11_310, List.forall_mem_cons.mpr ⟨le_11_314, List.forall_mem_cons.mpr ⟨le_11_316, List.forall_mem_cons.mpr ⟨le_11_319, List.forall_mem_cons.mpr ⟨le_11_323, List.forall_mem_cons.mpr ⟨le_11_326, List.forall_mem_cons.mpr ⟨le_11_329, List.forall_mem_cons.mpr ⟨le_11_332, List.forall_mem_cons.mpr ⟨le_11_334, List.forall_mem_cons.mpr ⟨le_11_336, List.forall_mem_cons.mpr ⟨le_11_338, (fun _ h => absurd h (by simp))⟩⟩⟩⟩⟩⟩⟩⟩⟩⟩⟩⟩⟩⟩⟩⟩⟩⟩⟩⟩⟩⟩⟩⟩⟩⟩⟩⟩⟩⟩⟩⟩⟩⟩⟩⟩⟩⟩⟩⟩⟩⟩⟩⟩⟩⟩⟩⟩⟩⟩⟩⟩⟩⟩⟩⟩⟩⟩⟩⟩⟩⟩⟩⟩⟩⟩⟩⟩⟩⟩⟩⟩⟩⟩⟩⟩⟩⟩⟩⟩⟩⟩⟩⟩⟩⟩⟩⟩⟩⟩⟩⟩⟩⟩⟩⟩⟩⟩⟩⟩⟩⟩⟩⟩⟩⟩⟩⟩⟩
set_option maxRecDepth 20000 in
theorem pk_11 {off : Nat → Int → Option Int} {ln : Int → Option Nat} {fx : Bool} {A : Nat → Prop} {sa : Int → Nat} {args : Array Value} {s : State} (ho : tb_of off) (hts : ∀ w ∈ tb_TT, w.before args s = true) (hE : tb_En A sa s) : ∀ e ∈ pl_11, tb_G off ln fx A sa RX11 args s e := List.forall_mem_cons.mpr ⟨pk_11_1 ho hts hE, List.forall_mem_cons.mpr ⟨pk_11_7 ho hts hE, List.forall_mem_cons.mpr ⟨pk_11_9 ho hts hE, List.forall_mem_cons.mpr ⟨pk_11_10 ho hts hE, List.forall_mem_cons.mpr ⟨pk_11_16 ho hts hE, List.forall_mem_cons.mpr ⟨pk_11_18 ho hts hE, List.forall_mem_cons.mpr ⟨pk_11_21 ho hts hE, List.forall_mem_cons.mpr ⟨pk_11_25 ho hts hE, List.forall_mem_cons.mpr ⟨pk_11_27 ho hts hE, List.forall_mem_cons.mpr ⟨pk_11_30 ho hts hE, List.forall_mem_cons.mpr ⟨pk_11_34 ho hts hE, List.forall_mem_cons.mpr ⟨pk_11_36 ho hts hE, List.forall_mem_cons.mpr ⟨pk_11_37 ho hts hE, List.forall_mem_cons.mpr ⟨pk_11_41 ho hts hE, List.forall_mem_cons.mpr ⟨pk_11_43 ho hts hE, List.forall_mem_cons.mpr ⟨pk_11_44 ho hts hE, List.forall_mem_cons.mpr ⟨pk_11_48 ho hts hE, List.forall_mem_cons.mpr ⟨pk_11_51 ho hts hE, List.forall_mem_cons.mpr ⟨pk_11_55 ho hts hE, List.forall_mem_cons.mpr ⟨pk_11_59 ho hts hE, List.forall_mem_cons.mpr ⟨pk_11_61 ho hts hE, List.forall_mem_cons.mpr ⟨pk_11_62 ho hts hE, List.forall_mem_cons.mpr ⟨pk_11_66 ho hts hE, List.forall_mem_cons.mpr ⟨pk_11_68 ho hts hE, List.forall_mem_cons.mpr ⟨pk_11_69 ho hts hE, List.forall_mem_cons.mpr ⟨pk_11_73 ho hts hE, List.forall_mem_cons.mpr ⟨pk_11_75 ho hts hE, List.forall_mem_cons.mpr ⟨pk_11_76 ho hts hE, List.forall_mem_cons.mpr ⟨pk_11_80 ho hts hE, List.forall_mem_cons.mpr ⟨pk_11_82 ho hts hE, List.forall_mem_cons.mpr ⟨pk_11_83 ho hts hE, List.forall_mem_cons.mpr ⟨pk_11_87 ho hts hE, List.forall_mem_cons.mpr ⟨pk_11_91 ho hts hE, List.forall_mem_cons.mpr ⟨pk_11_95 ho hts hE, List.forall_mem_cons.mpr ⟨pk_11_98 ho hts hE, List.forall_mem_cons.mpr ⟨pk_11_101 ho hts hE, List.forall_mem_cons.mpr ⟨pk_11_104 ho hts hE, List.forall_mem_cons.mpr ⟨pk_11_107 ho hts hE, List.forall_mem_cons.mpr ⟨pk_11_110 ho hts hE, List.forall_mem_cons.mpr ⟨pk_11_113 ho hts hE, List.forall_mem_cons.mpr ⟨pk_11_117 ho hts hE, List.forall_mem_cons.mpr ⟨pk_11_121 ho hts hE, List.forall_mem_cons.mpr ⟨pk_11_125 ho hts hE, List.forall_mem_cons.mpr ⟨pk_11_128 ho hts hE, List.forall_mem_cons.mpr ⟨pk_11_132 ho hts hE, List.forall_mem_cons.mpr ⟨pk_11_135 ho hts hE, List.forall_mem_cons.mpr ⟨pk_11_138 ho hts hE, List.forall_mem_cons.mpr ⟨pk_11_141 ho hts hE, List.forall_mem_cons.mpr ⟨pk_11_144 ho hts hE, List.forall_mem_cons.mpr ⟨pk_11_147 ho hts hE, List.forall_mem_cons.mpr ⟨pk_11_150 ho hts hE, List.forall_mem_cons.mpr ⟨pk_11_153 ho hts hE, List.forall_mem_cons.mpr ⟨pk_11_157 ho hts hE, List.forall_mem_cons.mpr ⟨pk_11_159 ho hts hE, List.forall_mem_cons.mpr ⟨pk_11_163 ho hts hE, List.forall_mem_cons.mpr ⟨pk_11_167 ho hts hE, List.forall_mem_cons.mpr ⟨pk_11_170 ho hts hE, List.forall_mem_cons.mpr ⟨pk_11_174 ho hts hE, List.forall_mem_cons.mpr ⟨pk_11_177 ho hts hE, List.forall_mem_cons.mpr ⟨pk_11_178 ho hts hE, List.forall_mem_cons.mpr ⟨pk_11_182 ho hts hE, List.forall_mem_cons.mpr ⟨pk_11_185 ho hts hE, List.forall_mem_cons.mpr ⟨pk_11_188 ho hts hE, List.forall_mem_cons.mpr ⟨pk_11_191 ho hts hE, List.forall_mem_cons.mpr ⟨pk_11_195 ho hts hE, List.forall_mem_cons.mpr ⟨pk_11_199 ho hts hE, List.forall_mem_cons.mpr ⟨pk_11_202 ho hts hE, List.forall_mem_cons.mpr ⟨pk_11_205 ho hts hE, List.forall_mem_cons.mpr ⟨pk_11_208 ho hts hE, List.forall_mem_cons.mpr ⟨pk_11_212 ho hts hE, List.forall_mem_cons.mpr ⟨pk_11_215 ho hts hE, List.forall_mem_cons.mpr ⟨pk_11_219 ho hts hE, List.forall_mem_cons.mpr ⟨pk_11_222 ho hts hE, List.forall_mem_cons.mpr ⟨pk_11_223 ho hts hE, List.forall_mem_cons.mpr ⟨pk_11_228 ho hts hE, List.forall_mem_cons.mpr ⟨pk_11_231 ho hts hE, List.forall_mem_cons.mpr ⟨pk_11_234 ho hts hE, List.forall_mem_cons.mpr ⟨pk_11_237 ho hts hE, List.forall_mem_cons.mpr ⟨pk_11_241 ho hts hE, List.forall_mem_cons.mpr ⟨pk_11_244 ho hts hE, List.forall_mem_cons.mpr ⟨pk_11_248 ho hts hE, List.forall_mem_cons.mpr ⟨pk_11_251 ho hts hE, List.forall_mem_cons.mpr ⟨pk_11_254 ho hts hE, List.forall_mem_cons.mpr ⟨pk_11_257 ho hts hE, List.forall_mem_cons.mpr ⟨pk_11_262 ho hts hE, List.forall_mem_cons.mpr ⟨pk_11_265 ho hts hE, List.forall_mem_cons.mpr ⟨pk_11_268 ho hts hE, List.forall_mem_cons.mpr ⟨pk_11_272 ho hts hE, List.forall_mem_cons.mpr ⟨pk_11_276 ho hts hE, List.forall_mem_cons.mpr ⟨pk_11_279 ho hts hE, List.forall_mem_cons.mpr ⟨pk_11_283 ho hts hE, List.forall_mem_cons.mpr ⟨pk_11_287 ho hts hE, List.forall_mem_cons.mpr ⟨pk_11_291 ho hts hE, List.forall_mem_cons.mpr ⟨pk_11_294 ho hts hE, List.forall_mem_cons.mpr ⟨pk_11_298 ho hts hE, List.forall_mem_cons.mpr ⟨pk_11_301 ho hts hE, List.forall_mem_cons.mpr ⟨pk_11_303 ho hts hE, List.forall_mem_cons.mpr ⟨pk_11_307 ho hts hE, List.forall_mem_cons.mpr ⟨pk_11_310 ho hts hE, List.forall_mem_cons.mpr ⟨pk_11_314 ho hts hE, List.forall_mem_cons.mpr ⟨pk_11_316 ho hts hE, List.forall_mem_cons.mpr ⟨pk_11_319 ho hts hE, List.forall_mem_cons.mpr ⟨pk_11_323 ho hts hE, List.forall_mem_cons.mpr ⟨pk_11_326 ho hts hE, List.forall_mem_cons.mpr ⟨pk_11_329 ho hts hE, List.forall_mem_cons.mpr ⟨pk_11_332 ho hts hE, List.forall_mem_cons.mpr ⟨pk_11_334 ho hts hE, List.forall_mem_cons.mpr ⟨pk_11_336 ho hts hE, List.forall_mem_cons.mpr ⟨pk_11_338 ho hts hE, (fun _ h => absurd h (by simp))⟩⟩⟩⟩⟩⟩⟩⟩⟩⟩⟩⟩⟩⟩⟩⟩⟩⟩⟩⟩⟩⟩⟩⟩⟩⟩⟩⟩⟩⟩⟩⟩⟩⟩⟩⟩⟩⟩⟩⟩⟩⟩⟩⟩⟩⟩⟩⟩⟩⟩⟩⟩⟩⟩⟩⟩⟩⟩⟩⟩⟩⟩⟩⟩⟩⟩⟩⟩⟩⟩⟩⟩⟩⟩⟩⟩⟩⟩⟩⟩⟩⟩⟩⟩⟩⟩⟩⟩⟩⟩⟩⟩⟩⟩⟩⟩⟩⟩⟩⟩⟩⟩⟩⟩⟩⟩⟩⟩⟩
theorem le_12_1 : tb_Le 12 (1, 9, 0, 0) := fun h => absurd h (by decide)
set_option maxRecDepth 20000 in
theorem pk_12_1 {off : Nat → Int → Option Int} {ln : Int → Option Nat} {fx : Bool} {A : Nat → Prop} {sa : Int → Nat} {args : Array Value} {s : State} (ho : tb_of off) (hts : ∀ w ∈ tb_TT, w.before args s = true) (hE : tb_En A sa s) : tb_G off ln fx A sa RX12 args s (1, 9, 0, 0) := ⟨hts _ (tg tw_1202 rfl), hts _ (tg tw_27 rfl), hts _ (tg tw_28 rfl)⟩
theorem le_12_7 : tb_Le 12 (7, 11, 12, 0) := fun h => absurd h (by decide)
set_option maxRecDepth 20000 in
theorem pk_12_7 {off : Nat → Int → Option Int} {ln : Int → Option Nat} {fx : Bool} {A : Nat → Prop} {sa : Int → Nat} {args : Array Value} {s : State} (ho : tb_of off) (hts : ∀ w ∈ tb_TT, w.before args s = true) (hE : tb_En A sa s) : tb_G off ln fx A sa RX12 args s (7, 11, 12, 0) := ⟨fk_12 0 (by decide) rfl (Or.inl (hts _ (tg tw_1203 rfl))), of_tag ho (Or.inr rfl), _, _, _, rfl, fun j hj => by
    have : j = 0 := by omega
    subst this
    exact ⟨rfl, hts _ (tg tw_1203 rfl)⟩⟩
theorem le_12_13 : tb_Le 12 (13, 1, 12, 8) := fun h => absurd h (by decide)
set_option maxRecDepth 20000 in
theorem pk_12_13 {off : Nat → Int → Option Int} {ln : Int → Option Nat} {fx : Bool} {A : Nat → Prop} {sa : Int → Nat} {args : Array Value} {s : State} (ho : tb_of off) (hts : ∀ w ∈ tb_TT, w.before args s = true) (hE : tb_En A sa s) : tb_G off ln fx A sa RX12 args s (13, 1, 12, 8) := ⟨fk_12 8 (by decide) rfl (Or.inl (hts _ (tg tw_1211 rfl))), of_none ho rfl⟩
theorem le_12_17 : tb_Le 12 (17, 11, 12, 9) := fun h => absurd h (by decide)
set_option maxRecDepth 20000 in
theorem pk_12_17 {off : Nat → Int → Option Int} {ln : Int → Option Nat} {fx : Bool} {A : Nat → Prop} {sa : Int → Nat} {args : Array Value} {s : State} (ho : tb_of off) (hts : ∀ w ∈ tb_TT, w.before args s = true) (hE : tb_En A sa s) : tb_G off ln fx A sa RX12 args s (17, 11, 12, 9) := ⟨fk_12 9 (by decide) rfl (Or.inl (hts _ (tg tw_1212 rfl))), of_tag ho (Or.inr rfl), _, _, _, rfl, fun j hj => by
    have : j = 9 := by omega
    subst this
    exact ⟨rfl, hts _ (tg tw_1212 rfl)⟩⟩
theorem le_12_20 : tb_Le 12 (20, 11, 12, 10) := fun h => absurd h (by decide)
set_option maxRecDepth 20000 in
theorem pk_12_20 {off : Nat → Int → Option Int} {ln : Int → Option Nat} {fx : Bool} {A : Nat → Prop} {sa : Int → Nat} {args : Array Value} {s : State} (ho : tb_of off) (hts : ∀ w ∈ tb_TT, w.before args s = true) (hE : tb_En A sa s) : tb_G off ln fx A sa RX12 args s (20, 11, 12, 10) := ⟨fk_12 10 (by decide) rfl (Or.inl (hts _ (tg tw_1213 rfl))), of_tag ho (Or.inr rfl), _, _, _, rfl, fun j hj => by
    have : j = 10 := by omega
    subst this
    exact ⟨rfl, hts _ (tg tw_1213 rfl)⟩⟩
theorem le_12_24 : tb_Le 12 (24, 11, 12, 11) := fun h => absurd h (by decide)
set_option maxRecDepth 20000 in
theorem pk_12_24 {off : Nat → Int → Option Int} {ln : Int → Option Nat} {fx : Bool} {A : Nat → Prop} {sa : Int → Nat} {args : Array Value} {s : State} (ho : tb_of off) (hts : ∀ w ∈ tb_TT, w.before args s = true) (hE : tb_En A sa s) : tb_G off ln fx A sa RX12 args s (24, 11, 12, 11) := ⟨fk_12 11 (by decide) rfl (Or.inl (hts _ (tg tw_1214 rfl))), of_tag ho (Or.inr rfl), _, _, _, rfl, fun j hj => by
    have : j = 11 := by omega
    subst this
    exact ⟨rfl, hts _ (tg tw_1214 rfl)⟩⟩
theorem le_12_27 : tb_Le 12 (27, 11, 12, 12) := fun h => absurd h (by decide)
set_option maxRecDepth 20000 in
theorem pk_12_27 {off : Nat → Int → Option Int} {ln : Int → Option Nat} {fx : Bool} {A : Nat → Prop} {sa : Int → Nat} {args : Array Value} {s : State} (ho : tb_of off) (hts : ∀ w ∈ tb_TT, w.before args s = true) (hE : tb_En A sa s) : tb_G off ln fx A sa RX12 args s (27, 11, 12, 12) := ⟨fk_12 12 (by decide) rfl (Or.inl (hts _ (tg tw_1215 rfl))), of_tag ho (Or.inr rfl), _, _, _, rfl, fun j hj => by
    have : j = 12 := by omega
    subst this
    exact ⟨rfl, hts _ (tg tw_1215 rfl)⟩⟩
theorem le_12_30 : tb_Le 12 (30, 11, 12, 13) := fun h => absurd h (by decide)
set_option maxRecDepth 20000 in
theorem pk_12_30 {off : Nat → Int → Option Int} {ln : Int → Option Nat} {fx : Bool} {A : Nat → Prop} {sa : Int → Nat} {args : Array Value} {s : State} (ho : tb_of off) (hts : ∀ w ∈ tb_TT, w.before args s = true) (hE : tb_En A sa s) : tb_G off ln fx A sa RX12 args s (30, 11, 12, 13) := ⟨fk_12 13 (by decide) rfl (Or.inl (hts _ (tg tw_1216 rfl))), of_tag ho (Or.inr rfl), _, _, _, rfl, fun j hj => by
    have : j = 13 := by omega
    subst this
    exact ⟨rfl, hts _ (tg tw_1216 rfl)⟩⟩
theorem le_12_33 : tb_Le 12 (33, 11, 12, 14) := fun h => absurd h (by decide)
set_option maxRecDepth 20000 in
theorem pk_12_33 {off : Nat → Int → Option Int} {ln : Int → Option Nat} {fx : Bool} {A : Nat → Prop} {sa : Int → Nat} {args : Array Value} {s : State} (ho : tb_of off) (hts : ∀ w ∈ tb_TT, w.before args s = true) (hE : tb_En A sa s) : tb_G off ln fx A sa RX12 args s (33, 11, 12, 14) := ⟨fk_12 14 (by decide) rfl (Or.inl (hts _ (tg tw_1217 rfl))), of_tag ho (Or.inr rfl), _, _, _, rfl, fun j hj => by
    have : j = 14 := by omega
    subst this
    exact ⟨rfl, hts _ (tg tw_1217 rfl)⟩⟩
theorem le_12_36 : tb_Le 12 (36, 11, 12, 15) := fun h => absurd h (by decide)
set_option maxRecDepth 20000 in
theorem pk_12_36 {off : Nat → Int → Option Int} {ln : Int → Option Nat} {fx : Bool} {A : Nat → Prop} {sa : Int → Nat} {args : Array Value} {s : State} (ho : tb_of off) (hts : ∀ w ∈ tb_TT, w.before args s = true) (hE : tb_En A sa s) : tb_G off ln fx A sa RX12 args s (36, 11, 12, 15) := ⟨fk_12 15 (by decide) rfl (Or.inl (hts _ (tg tw_1218 rfl))), of_tag ho (Or.inr rfl), _, _, _, rfl, fun j hj => by
    have : j = 15 := by omega
    subst this
    exact ⟨rfl, hts _ (tg tw_1218 rfl)⟩⟩
theorem le_12_39 : tb_Le 12 (39, 11, 12, 16) := fun h => absurd h (by decide)
set_option maxRecDepth 20000 in
theorem pk_12_39 {off : Nat → Int → Option Int} {ln : Int → Option Nat} {fx : Bool} {A : Nat → Prop} {sa : Int → Nat} {args : Array Value} {s : State} (ho : tb_of off) (hts : ∀ w ∈ tb_TT, w.before args s = true) (hE : tb_En A sa s) : tb_G off ln fx A sa RX12 args s (39, 11, 12, 16) := ⟨fk_12 16 (by decide) rfl (Or.inl (hts _ (tg tw_1219 rfl))), of_tag ho (Or.inr rfl), _, _, _, rfl, fun j hj => by
    have : j = 16 := by omega
    subst this
    exact ⟨rfl, hts _ (tg tw_1219 rfl)⟩⟩
theorem le_12_42 : tb_Le 12 (42, 11, 12, 17) := fun h => absurd h (by decide)
set_option maxRecDepth 20000 in
theorem pk_12_42 {off : Nat → Int → Option Int} {ln : Int → Option Nat} {fx : Bool} {A : Nat → Prop} {sa : Int → Nat} {args : Array Value} {s : State} (ho : tb_of off) (hts : ∀ w ∈ tb_TT, w.before args s = true) (hE : tb_En A sa s) : tb_G off ln fx A sa RX12 args s (42, 11, 12, 17) := ⟨fk_12 17 (by decide) rfl (Or.inl (hts _ (tg tw_1220 rfl))), of_tag ho (Or.inr rfl), _, _, _, rfl, fun j hj => by
    have : j = 17 := by omega
    subst this
    exact ⟨rfl, hts _ (tg tw_1220 rfl)⟩⟩
theorem le_12_45 : tb_Le 12 (45, 11, 12, 18) := fun h => absurd h (by decide)
set_option maxRecDepth 20000 in
theorem pk_12_45 {off : Nat → Int → Option Int} {ln : Int → Option Nat} {fx : Bool} {A : Nat → Prop} {sa : Int → Nat} {args : Array Value} {s : State} (ho : tb_of off) (hts : ∀ w ∈ tb_TT, w.before args s = true) (hE : tb_En A sa s) : tb_G off ln fx A sa RX12 args s (45, 11, 12, 18) := ⟨fk_12 18 (by decide) rfl (Or.inl (hts _ (tg tw_1221 rfl))), of_tag ho (Or.inr rfl), _, _, _, rfl, fun j hj => by
    have : j = 18 := by omega
    subst this
    exact ⟨rfl, hts _ (tg tw_1221 rfl)⟩⟩
theorem le_12_48 : tb_Le 12 (48, 11, 12, 19) := fun h => absurd h (by decide)
set_option maxRecDepth 20000 in
theorem pk_12_48 {off : Nat → Int → Option Int} {ln : Int → Option Nat} {fx : Bool} {A : Nat → Prop} {sa : Int → Nat} {args : Array Value} {s : State} (ho : tb_of off) (hts : ∀ w ∈ tb_TT, w.before args s = true) (hE : tb_En A sa s) : tb_G off ln fx A sa RX12 args s (48, 11, 12, 19) := ⟨fk_12 19 (by decide) rfl (Or.inl (hts _ (tg tw_1222 rfl))), of_tag ho (Or.inr rfl), _, _, _, rfl, fun j hj => by
    have : j = 19 := by omega
    subst this
    exact ⟨rfl, hts _ (tg tw_1222 rfl)⟩⟩
theorem le_12_51 : tb_Le 12 (51, 11, 12, 20) := fun h => absurd h (by decide)
set_option maxRecDepth 20000 in
theorem pk_12_51 {off : Nat → Int → Option Int} {ln : Int → Option Nat} {fx : Bool} {A : Nat → Prop} {sa : Int → Nat} {args : Array Value} {s : State} (ho : tb_of off) (hts : ∀ w ∈ tb_TT, w.before args s = true) (hE : tb_En A sa s) : tb_G off ln fx A sa RX12 args s (51, 11, 12, 20) := ⟨fk_12 20 (by decide) rfl (Or.inl (hts _ (tg tw_1223 rfl))), of_tag ho (Or.inr rfl), _, _, _, rfl, fun j hj => by
    have : j = 20 := by omega
    subst this
    exact ⟨rfl, hts _ (tg tw_1223 rfl)⟩⟩
theorem le_12_54 : tb_Le 12 (54, 11, 12, 21) := fun h => absurd h (by decide)
set_option maxRecDepth 20000 in
theorem pk_12_54 {off : Nat → Int → Option Int} {ln : Int → Option Nat} {fx : Bool} {A : Nat → Prop} {sa : Int → Nat} {args : Array Value} {s : State} (ho : tb_of off) (hts : ∀ w ∈ tb_TT, w.before args s = true) (hE : tb_En A sa s) : tb_G off ln fx A sa RX12 args s (54, 11, 12, 21) := ⟨fk_12 21 (by decide) rfl (Or.inl (hts _ (tg tw_1224 rfl))), of_tag ho (Or.inr rfl), _, _, _, rfl, fun j hj => by
    have : j = 21 := by omega
    subst this
    exact ⟨rfl, hts _ (tg tw_1224 rfl)⟩⟩
theorem le_12_57 : tb_Le 12 (57, 11, 12, 22) := fun h => absurd h (by decide)
set_option maxRecDepth 20000 in
theorem pk_12_57 {off : Nat → Int → Option Int} {ln : Int → Option Nat} {fx : Bool} {A : Nat → Prop} {sa : Int → Nat} {args : Array Value} {s : State} (ho : tb_of off) (hts : ∀ w ∈ tb_TT, w.before args s = true) (hE : tb_En A sa s) : tb_G off ln fx A sa RX12 args s (57, 11, 12, 22) := ⟨fk_12 22 (by decide) rfl (Or.inl (hts _ (tg tw_1225 rfl))), of_tag ho (Or.inr rfl), _, _, _, rfl, fun j hj => by
    have : j = 22 := by omega
    subst this
    exact ⟨rfl, hts _ (tg tw_1225 rfl)⟩⟩
theorem le_12_60 : tb_Le 12 (60, 11, 12, 23) := fun h => absurd h (by decide)
set_option maxRecDepth 20000 in
theorem pk_12_60 {off : Nat → Int → Option Int} {ln : Int → Option Nat} {fx : Bool} {A : Nat → Prop} {sa : Int → Nat} {args : Array Value} {s : State} (ho : tb_of off) (hts : ∀ w ∈ tb_TT, w.before args s = true) (hE : tb_En A sa s) : tb_G off ln fx A sa RX12 args s (60, 11, 12, 23) := ⟨fk_12 23 (by decide) rfl (Or.inl (hts _ (tg tw_1226 rfl))), of_tag ho (Or.inr rfl), _, _, _, rfl, fun j hj => by
    have : j = 23 := by omega
    subst this
    exact ⟨rfl, hts _ (tg tw_1226 rfl)⟩⟩
theorem le_12_63 : tb_Le 12 (63, 11, 12, 24) := fun h => absurd h (by decide)
set_option maxRecDepth 20000 in
theorem pk_12_63 {off : Nat → Int → Option Int} {ln : Int → Option Nat} {fx : Bool} {A : Nat → Prop} {sa : Int → Nat} {args : Array Value} {s : State} (ho : tb_of off) (hts : ∀ w ∈ tb_TT, w.before args s = true) (hE : tb_En A sa s) : tb_G off ln fx A sa RX12 args s (63, 11, 12, 24) := ⟨fk_12 24 (by decide) rfl (Or.inl (hts _ (tg tw_1227 rfl))), of_tag ho (Or.inr rfl), _, _, _, rfl, fun j hj => by
    have : j = 24 := by omega
    subst this
    exact ⟨rfl, hts _ (tg tw_1227 rfl)⟩⟩
theorem le_12_66 : tb_Le 12 (66, 11, 12, 25) := fun h => absurd h (by decide)
set_option maxRecDepth 20000 in
theorem pk_12_66 {off : Nat → Int → Option Int} {ln : Int → Option Nat} {fx : Bool} {A : Nat → Prop} {sa : Int → Nat} {args : Array Value} {s : State} (ho : tb_of off) (hts : ∀ w ∈ tb_TT, w.before args s = true) (hE : tb_En A sa s) : tb_G off ln fx A sa RX12 args s (66, 11, 12, 25) := ⟨fk_12 25 (by decide) rfl (Or.inl (hts _ (tg tw_1228 rfl))), of_tag ho (Or.inr rfl), _, _, _, rfl, fun j hj => by
    have : j = 25 := by omega
    subst this
    exact ⟨rfl, hts _ (tg tw_1228 rfl)⟩⟩
theorem le_12_69 : tb_Le 12 (69, 11, 12, 26) := fun h => absurd h (by decide)
set_option maxRecDepth 20000 in
theorem pk_12_69 {off : Nat → Int → Option Int} {ln : Int → Option Nat} {fx : Bool} {A : Nat → Prop} {sa : Int → Nat} {args : Array Value} {s : State} (ho : tb_of off) (hts : ∀ w ∈ tb_TT, w.before args s = true) (hE : tb_En A sa s) : tb_G off ln fx A sa RX12 args s (69, 11, 12, 26) := ⟨fk_12 26 (by decide) rfl (Or.inl (hts _ (tg tw_1229 rfl))), of_tag ho (Or.inr rfl), _, _, _, rfl, fun j hj => by
    have : j = 26 := by omega
    subst this
    exact ⟨rfl, hts _ (tg tw_1229 rfl)⟩⟩
theorem le_12_72 : tb_Le 12 (72, 11, 12, 27) := fun h => absurd h (by decide)
set_option maxRecDepth 20000 in
theorem pk_12_72 {off : Nat → Int → Option Int} {ln : Int → Option Nat} {fx : Bool} {A : Nat → Prop} {sa : Int → Nat} {args : Array Value} {s : State} (ho : tb_of off) (hts : ∀ w ∈ tb_TT, w.before args s = true) (hE : tb_En A sa s) : tb_G off ln fx A sa RX12 args s (72, 11, 12, 27) := ⟨fk_12 27 (by decide) rfl (Or.inl (hts _ (tg tw_1230 rfl))), of_tag ho (Or.inr rfl), _, _, _, rfl, fun j hj => by
    have : j = 27 := by omega
    subst this
    exact ⟨rfl, hts _ (tg tw_1230 rfl)⟩⟩
theorem le_12_75 : tb_Le 12 (75, 11, 12, 28) := fun h => absurd h (by decide)
set_option maxRecDepth 20000 in
theorem pk_12_75 {off : Nat → Int → Option Int} {ln : Int → Option Nat} {fx : Bool} {A : Nat → Prop} {sa : Int → Nat} {args : Array Value} {s : State} (ho : tb_of off) (hts : ∀ w ∈ tb_TT, w.before args s = true) (hE : tb_En A sa s) : tb_G off ln fx A sa RX12 args s (75, 11, 12, 28) := ⟨fk_12 28 (by decide) rfl (Or.inl (hts _ (tg tw_1231 rfl))), of_tag ho (Or.inr rfl), _, _, _, rfl, fun j hj => by
    have : j = 28 := by omega
    subst this
    exact ⟨rfl, hts _ (tg tw_1231 rfl)⟩⟩
theorem le_12_78 : tb_Le 12 (78, 11, 12, 30) := fun h => absurd h (by decide)
set_option maxRecDepth 20000 in
theorem pk_12_78 {off : Nat → Int → Option Int} {ln : Int → Option Nat} {fx : Bool} {A : Nat → Prop} {sa : Int → Nat} {args : Array Value} {s : State} (ho : tb_of off) (hts : ∀ w ∈ tb_TT, w.before args s = true) (hE : tb_En A sa s) : tb_G off ln fx A sa RX12 args s (78, 11, 12, 30) := ⟨fk_12 30 (by decide) rfl (Or.inl (hts _ (tg tw_1233 rfl))), of_tag ho (Or.inr rfl), _, _, _, rfl, fun j hj => by
    have : j = 30 := by omega
    subst this
    exact ⟨rfl, hts _ (tg tw_1233 rfl)⟩⟩
theorem le_12_81 : tb_Le 12 (81, 11, 12, 31) := fun h => absurd h (by decide)
set_option maxRecDepth 20000 in
theorem pk_12_81 {off : Nat → Int → Option Int} {ln : Int → Option Nat} {fx : Bool} {A : Nat → Prop} {sa : Int → Nat} {args : Array Value} {s : State} (ho : tb_of off) (hts : ∀ w ∈ tb_TT, w.before args s = true) (hE : tb_En A sa s) : tb_G off ln fx A sa RX12 args s (81, 11, 12, 31) := ⟨fk_12 31 (by decide) rfl (Or.inl (hts _ (tg tw_1234 rfl))), of_tag ho (Or.inr rfl), _, _, _, rfl, fun j hj => by
    have : j = 31 := by omega
    subst this
    exact ⟨rfl, hts _ (tg tw_1234 rfl)⟩⟩
theorem le_12_85 : tb_Le 12 (85, 11, 12, 32) := fun h => absurd h (by decide)
set_option maxRecDepth 20000 in
theorem pk_12_85 {off : Nat → Int → Option Int} {ln : Int → Option Nat} {fx : Bool} {A : Nat → Prop} {sa : Int → Nat} {args : Array Value} {s : State} (ho : tb_of off) (hts : ∀ w ∈ tb_TT, w.before args s = true) (hE : tb_En A sa s) : tb_G off ln fx A sa RX12 args s (85, 11, 12, 32) := ⟨fk_12 32 (by decide) rfl (Or.inl (hts _ (tg tw_1235 rfl))), of_tag ho (Or.inr rfl), _, _, _, rfl, fun j hj => by
    have : j = 32 := by omega
    subst this
    exact ⟨rfl, hts _ (tg tw_1235 rfl)⟩⟩
theorem le_12_88 : tb_Le 12 (88, 11, 12, 33) := fun h => absurd h (by decide)
set_option maxRecDepth 20000 in
theorem pk_12_88 {off : Nat → Int → Option Int} {ln : Int → Option Nat} {fx : Bool} {A : Nat → Prop} {sa : Int → Nat} {args : Array Value} {s : State} (ho : tb_of off) (hts : ∀ w ∈ tb_TT, w.before args s = true) (hE : tb_En A sa s) : tb_G off ln fx A sa RX12 args s (88, 11, 12, 33) := ⟨fk_12 33 (by decide) rfl (Or.inl (hts _ (tg tw_1236 rfl))), of_tag ho (Or.inr rfl), _, _, _, rfl, fun j hj => by
    have : j = 33 := by omega
    subst this
    exact ⟨rfl, hts _ (tg tw_1236 rfl)⟩⟩
theorem le_12_91 : tb_Le 12 (91, 11, 12, 34) := fun h => absurd h (by decide)
set_option maxRecDepth 20000 in
theorem pk_12_91 {off : Nat → Int → Option Int} {ln : Int → Option Nat} {fx : Bool} {A : Nat → Prop} {sa : Int → Nat} {args : Array Value} {s : State} (ho : tb_of off) (hts : ∀ w ∈ tb_TT, w.before args s = true) (hE : tb_En A sa s) : tb_G off ln fx A sa RX12 args s (91, 11, 12, 34) := ⟨fk_12 34 (by decide) rfl (Or.inl (hts _ (tg tw_1237 rfl))), of_tag ho (Or.inr rfl), _, _, _, rfl, fun j hj => by
    have : j = 34 := by omega
    subst this
    exact ⟨rfl, hts _ (tg tw_1237 rfl)⟩⟩
theorem le_12_94 : tb_Le 12 (94, 11, 12, 35) := fun h => absurd h (by decide)
set_option maxRecDepth 20000 in
theorem pk_12_94 {off : Nat → Int → Option Int} {ln : Int → Option Nat} {fx : Bool} {A : Nat → Prop} {sa : Int → Nat} {args : Array Value} {s : State} (ho : tb_of off) (hts : ∀ w ∈ tb_TT, w.before args s = true) (hE : tb_En A sa s) : tb_G off ln fx A sa RX12 args s (94, 11, 12, 35) := ⟨fk_12 35 (by decide) rfl (Or.inl (hts _ (tg tw_1238 rfl))), of_tag ho (Or.inr rfl), _, _, _, rfl, fun j hj => by
    have : j = 35 := by omega
    subst this
    exact ⟨rfl, hts _ (tg tw_1238 rfl)⟩⟩
theorem le_12_97 : tb_Le 12 (97, 11, 12, 36) := fun h => absurd h (by decide)
set_option maxRecDepth 20000 in
theorem pk_12_97 {off : Nat → Int → Option Int} {ln : Int → Option Nat} {fx : Bool} {A : Nat → Prop} {sa : Int → Nat} {args : Array Value} {s : State} (ho : tb_of off) (hts : ∀ w ∈ tb_TT, w.before args s = true) (hE : tb_En A sa s) : tb_G off ln fx A sa RX12 args s (97, 11, 12, 36) := ⟨fk_12 36 (by decide) rfl (Or.inl (hts _ (tg tw_1239 rfl))), of_tag ho (Or.inr rfl), _, _, _, rfl, fun j hj => by
    have : j = 36 := by omega
    subst this
    exact ⟨rfl, hts _ (tg tw_1239 rfl)⟩⟩
theorem le_12_100 : tb_Le 12 (100, 11, 12, 37) := fun h => absurd h (by decide)
set_option maxRecDepth 20000 in
theorem pk_12_100 {off : Nat → Int → Option Int} {ln : Int → Option Nat} {fx : Bool} {A : Nat → Prop} {sa : Int → Nat} {args : Array Value} {s : State} (ho : tb_of off) (hts : ∀ w ∈ tb_TT, w.before args s = true) (hE : tb_En A sa s) : tb_G off ln fx A sa RX12 args s (100, 11, 12, 37) := ⟨fk_12 37 (by decide) rfl (Or.inl (hts _ (tg tw_1240 rfl))), of_tag ho (Or.inr rfl), _, _, _, rfl, fun j hj => by
    have : j = 37 := by omega
    subst this
    exact ⟨rfl, hts _ (tg tw_1240 rfl)⟩⟩
theorem le_12_103 : tb_Le 12 (103, 11, 12, 39) := fun h => absurd h (by decide)
set_option maxRecDepth 20000 in
theorem pk_12_103 {off : Nat → Int → Option Int} {ln : Int → Option Nat} {fx : Bool} {A : Nat → Prop} {sa : Int → Nat} {args : Array Value} {s : State} (ho : tb_of off) (hts : ∀ w ∈ tb_TT, w.before args s = true) (hE : tb_En A sa s) : tb_G off ln fx A sa RX12 args s (103, 11, 12, 39) := ⟨fk_12 39 (by decide) rfl (Or.inl (hts _ (tg tw_1242 rfl))), of_tag ho (Or.inr rfl), _, _, _, rfl, fun j hj => by
    have : j = 39 := by omega
    subst this
    exact ⟨rfl, hts _ (tg tw_1242 rfl)⟩⟩
theorem le_12_106 : tb_Le 12 (106, 11, 12, 41) := fun h => absurd h (by decide)
set_option maxRecDepth 20000 in
theorem pk_12_106 {off : Nat → Int → Option Int} {ln : Int → Option Nat} {fx : Bool} {A : Nat → Prop} {sa : Int → Nat} {args : Array Value} {s : State} (ho : tb_of off) (hts : ∀ w ∈ tb_TT, w.before args s = true) (hE : tb_En A sa s) : tb_G off ln fx A sa RX12 args s (106, 11, 12, 41) := ⟨fk_12 41 (by decide) rfl (Or.inl (hts _ (tg tw_1244 rfl))), of_tag ho (Or.inr rfl), _, _, _, rfl, fun j hj => by
    have : j = 41 := by omega
    subst this
    exact ⟨rfl, hts _ (tg tw_1244 rfl)⟩⟩
theorem le_12_109 : tb_Le 12 (109, 11, 12, 45) := fun h => absurd h (by decide)
set_option maxRecDepth 20000 in
theorem pk_12_109 {off : Nat → Int → Option Int} {ln : Int → Option Nat} {fx : Bool} {A : Nat → Prop} {sa : Int → Nat} {args : Array Value} {s : State} (ho : tb_of off) (hts : ∀ w ∈ tb_TT, w.before args s = true) (hE : tb_En A sa s) : tb_G off ln fx A sa RX12 args s (109, 11, 12, 45) := ⟨fk_12 45 (by decide) rfl (Or.inl (hts _ (tg tw_1248 rfl))), of_tag ho (Or.inr rfl), _, _, _, rfl, fun j hj => by
    have : j = 45 := by omega
    subst this
    exact ⟨rfl, hts _ (tg tw_1248 rfl)⟩⟩
theorem le_12_112 : tb_Le 12 (112, 11, 12, 47) := fun h => absurd h (by decide)
set_option maxRecDepth 20000 in
theorem pk_12_112 {off : Nat → Int → Option Int} {ln : Int → Option Nat} {fx : Bool} {A : Nat → Prop} {sa : Int → Nat} {args : Array Value} {s : State} (ho : tb_of off) (hts : ∀ w ∈ tb_TT, w.before args s = true) (hE : tb_En A sa s) : tb_G off ln fx A sa RX12 args s (112, 11, 12, 47) := ⟨fk_12 47 (by decide) rfl (Or.inl (hts _ (tg tw_1250 rfl))), of_tag ho (Or.inr rfl), _, _, _, rfl, fun j hj => by
    have : j = 47 := by omega
    subst this
    exact ⟨rfl, hts _ (tg tw_1250 rfl)⟩⟩
theorem le_12_115 : tb_Le 12 (115, 11, 12, 48) := fun h => absurd h (by decide)
set_option maxRecDepth 20000 in
theorem pk_12_115 {off : Nat → Int → Option Int} {ln : Int → Option Nat} {fx : Bool} {A : Nat → Prop} {sa : Int → Nat} {args : Array Value} {s : State} (ho : tb_of off) (hts : ∀ w ∈ tb_TT, w.before args s = true) (hE : tb_En A sa s) : tb_G off ln fx A sa RX12 args s (115, 11, 12, 48) := ⟨fk_12 48 (by decide) rfl (Or.inl (hts _ (tg tw_1251 rfl))), of_tag ho (Or.inr rfl), _, _, _, rfl, fun j hj => by
    have : j = 48 := by omega
    subst this
    exact ⟨rfl, hts _ (tg tw_1251 rfl)⟩⟩
theorem le_12_118 : tb_Le 12 (118, 11, 12, 49) := fun h => absurd h (by decide)
set_option maxRecDepth 20000 in
theorem pk_12_118 {off : Nat → Int → Option Int} {ln : Int → Option Nat} {fx : Bool} {A : Nat → Prop} {sa : Int → Nat} {args : Array Value} {s : State} (ho : tb_of off) (hts : ∀ w ∈ tb_TT, w.before args s = true) (hE : tb_En A sa s) : tb_G off ln fx A sa RX12 args s (118, 11, 12, 49) := ⟨fk_12 49 (by decide) rfl (Or.inl (hts _ (tg tw_1252 rfl))), of_tag ho (Or.inr rfl), _, _, _, rfl, fun j hj => by
    have : j = 49 := by omega
    subst this
    exact ⟨rfl, hts _ (tg tw_1252 rfl)⟩⟩
theorem le_12_121 : tb_Le 12 (121, 11, 12, 51) := fun h => absurd h (by decide)
set_option maxRecDepth 20000 in
theorem pk_12_121 {off : Nat → Int → Option Int} {ln : Int → Option Nat} {fx : Bool} {A : Nat → Prop} {sa : Int → Nat} {args : Array Value} {s : State} (ho : tb_of off) (hts : ∀ w ∈ tb_TT, w.before args s = true) (hE : tb_En A sa s) : tb_G off ln fx A sa RX12 args s (121, 11, 12, 51) := ⟨fk_12 51 (by decide) rfl (Or.inl (hts _ (tg tw_1254 rfl))), of_tag ho (Or.inr rfl), _, _, _, rfl, fun j hj => by
    have : j = 51 := by omega
    subst this
    exact ⟨rfl, hts _ (tg tw_1254 rfl)⟩⟩
theorem le_12_124 : tb_Le 12 (124, 11, 12, 55) := fun h => absurd h (by decide)
set_option maxRecDepth 20000 in
theorem pk_12_124 {off : Nat → Int → Option Int} {ln : Int → Option Nat} {fx : Bool} {A : Nat → Prop} {sa : Int → Nat} {args : Array Value} {s : State} (ho : tb_of off) (hts : ∀ w ∈ tb_TT, w.before args s = true) (hE : tb_En A sa s) : tb_G off ln fx A sa RX12 args s (124, 11, 12, 55) := ⟨fk_12 55 (by decide) rfl (Or.inl (hts _ (tg tw_1258 rfl))), of_tag ho (Or.inr rfl), _, _, _, rfl, fun j hj => by
    have : j = 55 := by omega
    subst this
    exact ⟨rfl, hts _ (tg tw_1258 rfl)⟩⟩
theorem le_12_127 : tb_Le 12 (127, 11, 12, 56) := fun h => absurd h (by decide)
set_option maxRecDepth 20000 in
theorem pk_12_127 {off : Nat → Int → Option Int} {ln : Int → Option Nat} {fx : Bool} {A : Nat → Prop} {sa : Int → Nat} {args : Array Value} {s : State} (ho : tb_of off) (hts : ∀ w ∈ tb_TT, w.before args s = true) (hE : tb_En A sa s) : tb_G off ln fx A sa RX12 args s (127, 11, 12, 56) := ⟨fk_12 56 (by decide) rfl (Or.inl (hts _ (tg tw_1259 rfl))), of_tag ho (Or.inr rfl), _, _, _, rfl, fun j hj => by
    have : j = 56 := by omega
    subst this
    exact ⟨rfl, hts _ (tg tw_1259 rfl)⟩⟩
theorem le_12_130 : tb_Le 12 (130, 11, 12, 57) := fun h => absurd h (by decide)
set_option maxRecDepth 20000 in
theorem pk_12_130 {off : Nat → Int → Option Int} {ln : Int → Option Nat} {fx : Bool} {A : Nat → Prop} {sa : Int → Nat} {args : Array Value} {s : State} (ho : tb_of off) (hts : ∀ w ∈ tb_TT, w.before args s = true) (hE : tb_En A sa s) : tb_G off ln fx A sa RX12 args s (130, 11, 12, 57) := ⟨fk_12 57 (by decide) rfl (Or.inl (hts _ (tg tw_1260 rfl))), of_tag ho (Or.inr rfl), _, _, _, rfl, fun j hj => by
    have : j = 57 := by omega
    subst this
    exact ⟨rfl, hts _ (tg tw_1260 rfl)⟩⟩
theorem le_12_133 : tb_Le 12 (133, 1, 12, 60) := fun h => absurd h (by decide)
set_option maxRecDepth 20000 in
theorem pk_12_133 {off : Nat → Int → Option Int} {ln : Int → Option Nat} {fx : Bool} {A : Nat → Prop} {sa : Int → Nat} {args : Array Value} {s : State} (ho : tb_of off) (hts : ∀ w ∈ tb_TT, w.before args s = true) (hE : tb_En A sa s) : tb_G off ln fx A sa RX12 args s (133, 1, 12, 60) := ⟨fk_12 60 (by decide) rfl (Or.inl (hts _ (tg tw_1263 rfl))), of_none ho rfl⟩
theorem le_12_137 : tb_Le 12 (137, 11, 12, 63) := fun h => absurd h (by decide)
set_option maxRecDepth 20000 in
theorem pk_12_137 {off : Nat → Int → Option Int} {ln : Int → Option Nat} {fx : Bool} {A : Nat → Prop} {sa : Int → Nat} {args : Array Value} {s : State} (ho : tb_of off) (hts : ∀ w ∈ tb_TT, w.before args s = true) (hE : tb_En A sa s) : tb_G off ln fx A sa RX12 args s (137, 11, 12, 63) := ⟨fk_12 63 (by decide) rfl (Or.inl (hts _ (tg tw_1266 rfl))), of_tag ho (Or.inr rfl), _, _, _, rfl, fun j hj => by
    have : j = 63 := by omega
    subst this
    exact ⟨rfl, hts _ (tg tw_1266 rfl)⟩⟩
theorem le_12_140 : tb_Le 12 (140, 11, 12, 64) := fun h => absurd h (by decide)
set_option maxRecDepth 20000 in
theorem pk_12_140 {off : Nat → Int → Option Int} {ln : Int → Option Nat} {fx : Bool} {A : Nat → Prop} {sa : Int → Nat} {args : Array Value} {s : State} (ho : tb_of off) (hts : ∀ w ∈ tb_TT, w.before args s = true) (hE : tb_En A sa s) : tb_G off ln fx A sa RX12 args s (140, 11, 12, 64) := ⟨fk_12 64 (by decide) rfl (Or.inl (hts _ (tg tw_1267 rfl))), of_tag ho (Or.inr rfl), _, _, _, rfl, fun j hj => by
    have : j = 64 := by omega
    subst this
    exact ⟨rfl, hts _ (tg tw_1267 rfl)⟩⟩
theorem le_12_143 : tb_Le 12 (143, 11, 12, 65) := fun h => absurd h (by decide)
set_option maxRecDepth 20000 in
theorem pk_12_143 {off : Nat → Int → Option Int} {ln : Int → Option Nat} {fx : Bool} {A : Nat → Prop} {sa : Int → Nat} {args : Array Value} {s : State} (ho : tb_of off) (hts : ∀ w ∈ tb_TT, w.before args s = true) (hE : tb_En A sa s) : tb_G off ln fx A sa RX12 args s (143, 11, 12, 65) := ⟨fk_12 65 (by decide) rfl (Or.inl (hts _ (tg tw_1268 rfl))), of_tag ho (Or.inr rfl), _, _, _, rfl, fun j hj => by
    have : j = 65 := by omega
    subst this
    exact ⟨rfl, hts _ (tg tw_1268 rfl)⟩⟩
theorem le_12_146 : tb_Le 12 (146, 11, 12, 66) := fun h => absurd h (by decide)
set_option maxRecDepth 20000 in
theorem pk_12_146 {off : Nat → Int → Option Int} {ln : Int → Option Nat} {fx : Bool} {A : Nat → Prop} {sa : Int → Nat} {args : Array Value} {s : State} (ho : tb_of off) (hts : ∀ w ∈ tb_TT, w.before args s = true) (hE : tb_En A sa s) : tb_G off ln fx A sa RX12 args s (146, 11, 12, 66) := ⟨fk_12 66 (by decide) rfl (Or.inl (hts _ (tg tw_1269 rfl))), of_tag ho (Or.inr rfl), _, _, _, rfl, fun j hj => by
    have : j = 66 := by omega
    subst this
    exact ⟨rfl, hts _ (tg tw_1269 rfl)⟩⟩
theorem le_12_149 : tb_Le 12 (149, 11, 12, 67) := fun h => absurd h (by decide)
set_option maxRecDepth 20000 in
theorem pk_12_149 {off : Nat → Int → Option Int} {ln : Int → Option Nat} {fx : Bool} {A : Nat → Prop} {sa : Int → Nat} {args : Array Value} {s : State} (ho : tb_of off) (hts : ∀ w ∈ tb_TT, w.before args s = true) (hE : tb_En A sa s) : tb_G off ln fx A sa RX12 args s (149, 11, 12, 67) := ⟨fk_12 67 (by decide) rfl (Or.inl (hts _ (tg tw_1270 rfl))), of_tag ho (Or.inr rfl), _, _, _, rfl, fun j hj => by
    have : j = 67 := by omega
    subst this
    exact ⟨rfl, hts _ (tg tw_1270 rfl)⟩⟩
theorem le_12_152 : tb_Le 12 (152, 11, 12, 68) := fun h => absurd h (by decide)
set_option maxRecDepth 20000 in
theorem pk_12_152 {off : Nat → Int → Option Int} {ln : Int → Option Nat} {fx : Bool} {A : Nat → Prop} {sa : Int → Nat} {args : Array Value} {s : State} (ho : tb_of off) (hts : ∀ w ∈ tb_TT, w.before args s = true) (hE : tb_En A sa s) : tb_G off ln fx A sa RX12 args s (152, 11, 12, 68) := ⟨fk_12 68 (by decide) rfl (Or.inl (hts _ (tg tw_1271 rfl))), of_tag ho (Or.inr rfl), _, _, _, rfl, fun j hj => by
    have : j = 68 := by omega
    subst this
    exact ⟨rfl, hts _ (tg tw_1271 rfl)⟩⟩
theorem le_12_155 : tb_Le 12 (155, 11, 12, 69) := fun h => absurd h (by decide)
set_option maxRecDepth 20000 in
theorem pk_12_155 {off : Nat → Int → Option Int} {ln : Int → Option Nat} {fx : Bool} {A : Nat → Prop} {sa : Int → Nat} {args : Array Value} {s : State} (ho : tb_of off) (hts : ∀ w ∈ tb_TT, w.before args s = true) (hE : tb_En A sa s) : tb_G off ln fx A sa RX12 args s (155, 11, 12, 69) := ⟨fk_12 69 (by decide) rfl (Or.inl (hts _ (tg tw_1272 rfl))), of_tag ho (Or.inr rfl), _, _, _, rfl, fun j hj => by
    have : j = 69 := by omega
    subst this
    exact ⟨rfl, hts _ (tg tw_1272 rfl)⟩⟩
theorem le_12_158 : tb_Le 12 (158, 11, 12, 70) := fun h => absurd h (by decide)
set_option maxRecDepth 20000 in
theorem pk_12_158 {off : Nat → Int → Option Int} {ln : Int → Option Nat} {fx : Bool} {A : Nat → Prop} {sa : Int → Nat} {args : Array Value} {s : State} (ho : tb_of off) (hts : ∀ w ∈ tb_TT, w.before args s = true) (hE : tb_En A sa s) : tb_G off ln fx A sa RX12 args s (158, 11, 12, 70) := ⟨fk_12 70 (by decide) rfl (Or.inl (hts _ (tg tw_1273 rfl))), of_tag ho (Or.inr rfl), _, _, _, rfl, fun j hj => by
    have : j = 70 := by omega
    subst this
    exact ⟨rfl, hts _ (tg tw_1273 rfl)⟩⟩
theorem le_12_161 : tb_Le 12 (161, 11, 12, 71) := fun h => absurd h (by decide)
set_option maxRecDepth 20000 in
theorem pk_12_161 {off : Nat → Int → Option Int} {ln : Int → Option Nat} {fx : Bool} {A : Nat → Prop} {sa : Int → Nat} {args : Array Value} {s : State} (ho : tb_of off) (hts : ∀ w ∈ tb_TT, w.before args s = true) (hE : tb_En A sa s) : tb_G off ln fx A sa RX12 args s (161, 11, 12, 71) := ⟨fk_12 71 (by decide) rfl (Or.inl (hts _ (tg tw_1274 rfl))), of_tag ho (Or.inr rfl), _, _, _, rfl, fun j hj => by
    have : j = 71 := by omega
    subst this
    exact ⟨rfl, hts _ (tg tw_1274 rfl)⟩⟩
theorem le_12_164 : tb_Le 12 (164, 11, 12, 72) := fun h => absurd h (by decide)
set_option maxRecDepth 20000 in
theorem pk_12_164 {off : Nat → Int → Option Int} {ln : Int → Option Nat} {fx : Bool} {A : Nat → Prop} {sa : Int → Nat} {args : Array Value} {s : State} (ho : tb_of off) (hts : ∀ w ∈ tb_TT, w.before args s = true) (hE : tb_En A sa s) : tb_G off ln fx A sa RX12 args s (164, 11, 12, 72) := ⟨fk_12 72 (by decide) rfl (Or.inl (hts _ (tg tw_1275 rfl))), of_tag ho (Or.inr rfl), _, _, _, rfl, fun j hj => by
    have : j = 72 := by omega
    subst this
    exact ⟨rfl, hts _ (tg tw_1275 rfl)⟩⟩
theorem le_12_167 : tb_Le 12 (167, 11, 12, 73) := fun h => absurd h (by decide)
set_option maxRecDepth 20000 in
theorem pk_12_167 {off : Nat → Int → Option Int} {ln : Int → Option Nat} {fx : Bool} {A : Nat → Prop} {sa : Int → Nat} {args : Array Value} {s : State} (ho : tb_of off) (hts : ∀ w ∈ tb_TT, w.before args s = true) (hE : tb_En A sa s) : tb_G off ln fx A sa RX12 args s (167, 11, 12, 73) := ⟨fk_12 73 (by decide) rfl (Or.inl (hts _ (tg tw_1276 rfl))), of_tag ho (Or.inr rfl), _, _, _, rfl, fun j hj => by
    have : j = 73 := by omega
    subst this
    exact ⟨rfl, hts _ (tg tw_1276 rfl)⟩⟩
theorem le_12_170 : tb_Le 12 (170, 11, 12, 74) := fun h => absurd h (by decide)
set_option maxRecDepth 20000 in
theorem pk_12_170 {off : Nat → Int → Option Int} {ln : Int → Option Nat} {fx : Bool} {A : Nat → Prop} {sa : Int → Nat} {args : Array Value} {s : State} (ho : tb_of off) (hts : ∀ w ∈ tb_TT, w.before args s = true) (hE : tb_En A sa s) : tb_G off ln fx A sa RX12 args s (170, 11, 12, 74) := ⟨fk_12 74 (by decide) rfl (Or.inl (hts _ (tg tw_1277 rfl))), of_tag ho (Or.inr rfl), _, _, _, rfl, fun j hj => by
    have : j = 74 := by omega
    subst this
    exact ⟨rfl, hts _ (tg tw_1277 rfl)⟩⟩
theorem le_12_173 : tb_Le 12 (173, 11, 12, 75) := fun h => absurd h (by decide)
set_option maxRecDepth 20000 in
theorem pk_12_173 {off : Nat → Int → Option Int} {ln : Int → Option Nat} {fx : Bool} {A : Nat → Prop} {sa : Int → Nat} {args : Array Value} {s : State} (ho : tb_of off) (hts : ∀ w ∈ tb_TT, w.before args s = true) (hE : tb_En A sa s) : tb_G off ln fx A sa RX12 args s (173, 11, 12, 75) := ⟨fk_12 75 (by decide) rfl (Or.inl (hts _ (tg tw_1278 rfl))), of_tag ho (Or.inr rfl), _, _, _, rfl, fun j hj => by
    have : j = 75 := by omega
    subst this
    exact ⟨rfl, hts _ (tg tw_1278 rfl)⟩⟩
theorem le_12_176 : tb_Le 12 (176, 11, 12, 76) := fun h => absurd h (by decide)
set_option maxRecDepth 20000 in
theorem pk_12_176 {off : Nat → Int → Option Int} {ln : Int → Option Nat} {fx : Bool} {A : Nat → Prop} {sa : Int → Nat} {args : Array Value} {s : State} (ho : tb_of off) (hts : ∀ w ∈ tb_TT, w.before args s = true) (hE : tb_En A sa s) : tb_G off ln fx A sa RX12 args s (176, 11, 12, 76) := ⟨fk_12 76 (by decide) rfl (Or.inl (hts _ (tg tw_1279 rfl))), of_tag ho (Or.inr rfl), _, _, _, rfl, fun j hj => by
    have : j = 76 := by omega
    subst this
    exact ⟨rfl, hts _ (tg tw_1279 rfl)⟩⟩
theorem le_12_179 : tb_Le 12 (179, 11, 12, 77) := fun h => absurd h (by decide)
set_option maxRecDepth 20000 in
theorem pk_12_179 {off : Nat → Int → Option Int} {ln : Int → Option Nat} {fx : Bool} {A : Nat → Prop} {sa : Int → Nat} {args : Array Value} {s : State} (ho : tb_of off) (hts : ∀ w ∈ tb_TT, w.before args s = true) (hE : tb_En A sa s) : tb_G off ln fx A sa RX12 args s (179, 11, 12, 77) := ⟨fk_12 77 (by decide) rfl (Or.inl (hts _ (tg tw_1280 rfl))), of_tag ho (Or.inr rfl), _, _, _, rfl, fun j hj => by
    have : j = 77 := by omega
    subst this
    exact ⟨rfl, hts _ (tg tw_1280 rfl)⟩⟩
theorem le_12_182 : tb_Le 12 (182, 11, 12, 78) := fun h => absurd h (by decide)
set_option maxRecDepth 20000 in
theorem pk_12_182 {off : Nat → Int → Option Int} {ln : Int → Option Nat} {fx : Bool} {A : Nat → Prop} {sa : Int → Nat} {args : Array Value} {s : State} (ho : tb_of off) (hts : ∀ w ∈ tb_TT, w.before args s = true) (hE : tb_En A sa s) : tb_G off ln fx A sa RX12 args s (182, 11, 12, 78) := ⟨fk_12 78 (by decide) rfl (Or.inl (hts _ (tg tw_1281 rfl))), of_tag ho (Or.inr rfl), _, _, _, rfl, fun j hj => by
    have : j = 78 := by omega
    subst this
    exact ⟨rfl, hts _ (tg tw_1281 rfl)⟩⟩
theorem le_12_185 : tb_Le 12 (185, 11, 12, 79) := fun h => absurd h (by decide)
set_option maxRecDepth 20000 in
theorem pk_12_185 {off : Nat → Int → Option Int} {ln : Int → Option Nat} {fx : Bool} {A : Nat → Prop} {sa : Int → Nat} {args : Array Value} {s : State} (ho : tb_of off) (hts : ∀ w ∈ tb_TT, w.before args s = true) (hE : tb_En A sa s) : tb_G off ln fx A sa RX12 args s (185, 11, 12, 79) := ⟨fk_12 79 (by decide) rfl (Or.inl (hts _ (tg tw_1282 rfl))), of_tag ho (Or.inr rfl), _, _, _, rfl, fun j hj => by
    have : j = 79 := by omega
    subst this
    exact ⟨rfl, hts _ (tg tw_1282 rfl)⟩⟩
theorem le_12_188 : tb_Le 12 (188, 11, 12, 80) := fun h => absurd h (by decide)
set_option maxRecDepth 20000 in
theorem pk_12_188 {off : Nat → Int → Option Int} {ln : Int → Option Nat} {fx : Bool} {A : Nat → Prop} {sa : Int → Nat} {args : Array Value} {s : State} (ho : tb_of off) (hts : ∀ w ∈ tb_TT, w.before args s = true) (hE : tb_En A sa s) : tb_G off ln fx A sa RX12 args s (188, 11, 12, 80) := ⟨fk_12 80 (by decide) rfl (Or.inl (hts _ (tg tw_1283 rfl))), of_tag ho (Or.inr rfl), _, _, _, rfl, fun j hj => by
    have : j = 80 := by omega
    subst this
    exact ⟨rfl, hts _ (tg tw_1283 rfl)⟩⟩
theorem le_12_191 : tb_Le 12 (191, 11, 12, 81) := fun h => absurd h (by decide)
set_option maxRecDepth 20000 in
theorem pk_12_191 {off : Nat → Int → Option Int} {ln : Int → Option Nat} {fx : Bool} {A : Nat → Prop} {sa : Int → Nat} {args : Array Value} {s : State} (ho : tb_of off) (hts : ∀ w ∈ tb_TT, w.before args s = true) (hE : tb_En A sa s) : tb_G off ln fx A sa RX12 args s (191, 11, 12, 81) := ⟨fk_12 81 (by decide) rfl (Or.inl (hts _ (tg tw_1284 rfl))), of_tag ho (Or.inr rfl), _, _, _, rfl, fun j hj => by
    have : j = 81 := by omega
    subst this
    exact ⟨rfl, hts _ (tg tw_1284 rfl)⟩⟩
theorem le_12_194 : tb_Le 12 (194, 11, 12, 82) := fun h => absurd h (by decide)
set_option maxRecDepth 20000 in
theorem pk_12_194 {off : Nat → Int → Option Int} {ln : Int → Option Nat} {fx : Bool} {A : Nat → Prop} {sa : Int → Nat} {args : Array Value} {s : State} (ho : tb_of off) (hts : ∀ w ∈ tb_TT, w.before args s = true) (hE : tb_En A sa s) : tb_G off ln fx A sa RX12 args s (194, 11, 12, 82) := ⟨fk_12 82 (by decide) rfl (Or.inl (hts _ (tg tw_1285 rfl))), of_tag ho (Or.inr rfl), _, _, _, rfl, fun j hj => by
    have : j = 82 := by omega
    subst this
    exact ⟨rfl, hts _ (tg tw_1285 rfl)⟩⟩
theorem le_12_197 : tb_Le 12 (197, 11, 12, 84) := fun h => absurd h (by decide)
set_option maxRecDepth 20000 in
theorem pk_12_197 {off : Nat → Int → Option Int} {ln : Int → Option Nat} {fx : Bool} {A : Nat → Prop} {sa : Int → Nat} {args : Array Value} {s : State} (ho : tb_of off) (hts : ∀ w ∈ tb_TT, w.before args s = true) (hE : tb_En A sa s) : tb_G off ln fx A sa RX12 args s (197, 11, 12, 84) := ⟨fk_12 84 (by decide) rfl (Or.inl (hts _ (tg tw_1287 rfl))), of_tag ho (Or.inr rfl), _, _, _, rfl, fun j hj => by
    have : j = 84 := by omega
    subst this
    exact ⟨rfl, hts _ (tg tw_1287 rfl)⟩⟩
theorem le_12_200 : tb_Le 12 (200, 11, 12, 88) := fun h => absurd h (by decide)
set_option maxRecDepth 20000 in
theorem pk_12_200 {off : Nat → Int → Option Int} {ln : Int → Option Nat} {fx : Bool} {A : Nat → Prop} {sa : Int → Nat} {args : Array Value} {s : State} (ho : tb_of off) (hts : ∀ w ∈ tb_TT, w.before args s = true) (hE : tb_En A sa s) : tb_G off ln fx A sa RX12 args s (200, 11, 12, 88) := ⟨fk_12 88 (by decide) rfl (Or.inl (hts _ (tg tw_1291 rfl))), of_tag ho (Or.inr rfl), _, _, _, rfl, fun j hj => by
    have : j = 88 := by omega
    subst this
    exact ⟨rfl, hts _ (tg tw_1291 rfl)⟩⟩
theorem le_12_203 : tb_Le 12 (203, 11, 12, 92) := fun h => absurd h (by decide)
set_option maxRecDepth 20000 in
theorem pk_12_203 {off : Nat → Int → Option Int} {ln : Int → Option Nat} {fx : Bool} {A : Nat → Prop} {sa : Int → Nat} {args : Array Value} {s : State} (ho : tb_of off) (hts : ∀ w ∈ tb_TT, w.before args s = true) (hE : tb_En A sa s) : tb_G off ln fx A sa RX12 args s (203, 11, 12, 92) := ⟨fk_12 92 (by decide) rfl (Or.inl (hts _ (tg tw_1295 rfl))), of_tag ho (Or.inr rfl), _, _, _, rfl, fun j hj => by
    have : j = 92 := by omega
    subst this
    exact ⟨rfl, hts _ (tg tw_1295 rfl)⟩⟩
theorem le_12_206 : tb_Le 12 (206, 1, 12, 1) := fun h => absurd h (by decide)
set_option maxRecDepth 20000 in
theorem pk_12_206 {off : Nat → Int → Option Int} {ln : Int → Option Nat} {fx : Bool} {A : Nat → Prop} {sa : Int → Nat} {args : Array Value} {s : State} (ho : tb_of off) (hts : ∀ w ∈ tb_TT, w.before args s = true) (hE : tb_En A sa s) : tb_G off ln fx A sa RX12 args s (206, 1, 12, 1) := ⟨fk_12 1 (by decide) rfl (Or.inl (hts _ (tg tw_1204 rfl))), of_none ho rfl⟩
theorem le_12_209 : tb_Le 12 (209, 1, 12, 5) := fun h => absurd h (by decide)
set_option maxRecDepth 20000 in
theorem pk_12_209 {off : Nat → Int → Option Int} {ln : Int → Option Nat} {fx : Bool} {A : Nat → Prop} {sa : Int → Nat} {args : Array Value} {s : State} (ho : tb_of off) (hts : ∀ w ∈ tb_TT, w.before args s = true) (hE : tb_En A sa s) : tb_G off ln fx A sa RX12 args s (209, 1, 12, 5) := ⟨fk_12 5 (by decide) rfl (Or.inl (hts _ (tg tw_1208 rfl))), of_none ho rfl⟩
theorem le_12_212 : tb_Le 12 (212, 1, 12, 6) := fun h => absurd h (by decide)
set_option maxRecDepth 20000 in
theorem pk_12_212 {off : Nat → Int → Option Int} {ln : Int → Option Nat} {fx : Bool} {A : Nat → Prop} {sa : Int → Nat} {args : Array Value} {s : State} (ho : tb_of off) (hts : ∀ w ∈ tb_TT, w.before args s = true) (hE : tb_En A sa s) : tb_G off ln fx A sa RX12 args s (212, 1, 12, 6) := ⟨fk_12 6 (by decide) rfl (Or.inl (hts _ (tg tw_1209 rfl))), of_none ho rfl⟩
theorem le_12_215 : tb_Le 12 (215, 1, 12, 2) := fun h => absurd h (by decide)
set_option maxRecDepth 20000 in
theorem pk_12_215 {off : Nat → Int → Option Int} {ln : Int → Option Nat} {fx : Bool} {A : Nat → Prop} {sa : Int → Nat} {args : Array Value} {s : State} (ho : tb_of off) (hts : ∀ w ∈ tb_TT, w.before args s = true) (hE : tb_En A sa s) : tb_G off ln fx A sa RX12 args s (215, 1, 12, 2) := ⟨fk_12 2 (by decide) rfl (Or.inl (hts _ (tg tw_1205 rfl))), of_none ho rfl⟩
theorem le_12_218 : tb_Le 12 (218, 1, 12, 3) := fun h => absurd h (by decide)
set_option maxRecDepth 20000 in
theorem pk_12_218 {off : Nat → Int → Option Int} {ln : Int → Option Nat} {fx : Bool} {A : Nat → Prop} {sa : Int → Nat} {args : Array Value} {s : State} (ho : tb_of off) (hts : ∀ w ∈ tb_TT, w.before args s = true) (hE : tb_En A sa s) : tb_G off ln fx A sa RX12 args s (218, 1, 12, 3) := ⟨fk_12 3 (by decide) rfl (Or.inl (hts _ (tg tw_1206 rfl))), of_none ho rfl⟩
theorem le_12_221 : tb_Le 12 (221, 2, 175, 1) := fun _ => ⟨lf_2_175, Or.inl (tg tw_1500 rfl)⟩
set_option maxRecDepth 20000 in
theorem pk_12_221 {off : Nat → Int → Option Int} {ln : Int → Option Nat} {fx : Bool} {A : Nat → Prop} {sa : Int → Nat} {args : Array Value} {s : State} (ho : tb_of off) (hts : ∀ w ∈ tb_TT, w.before args s = true) (hE : tb_En A sa s) : tb_G off ln fx A sa RX12 args s (221, 2, 175, 1) := trivial
theorem le_12_225 : tb_Le 12 (225, 12, 173, 1) := fun _ => ⟨lf_12_173, Or.inl (tg tw_1520 rfl)⟩
set_option maxRecDepth 20000 in
theorem pk_12_225 {off : Nat → Int → Option Int} {ln : Int → Option Nat} {fx : Bool} {A : Nat → Prop} {sa : Int → Nat} {args : Array Value} {s : State} (ho : tb_of off) (hts : ∀ w ∈ tb_TT, w.before args s = true) (hE : tb_En A sa s) : tb_G off ln fx A sa RX12 args s (225, 12, 173, 1) := trivial
theorem le_12_229 : tb_Le 12 (229, 1, 12, 4) := fun h => absurd h (by decide)
set_option maxRecDepth 20000 in
theorem pk_12_229 {off : Nat → Int → Option Int} {ln : Int → Option Nat} {fx : Bool} {A : Nat → Prop} {sa : Int → Nat} {args : Array Value} {s : State} (ho : tb_of off) (hts : ∀ w ∈ tb_TT, w.before args s = true) (hE : tb_En A sa s) : tb_G off ln fx A sa RX12 args s (229, 1, 12, 4) := ⟨fk_12 4 (by decide) rfl (Or.inl (hts _ (tg tw_1207 rfl))), of_none ho rfl⟩
theorem le_12_232 : tb_Le 12 (232, 2, 176, 2) := fun _ => ⟨lf_2_176, Or.inl (tg tw_1516 rfl)⟩
set_option maxRecDepth 20000 in
theorem pk_12_232 {off : Nat → Int → Option Int} {ln : Int → Option Nat} {fx : Bool} {A : Nat → Prop} {sa : Int → Nat} {args : Array Value} {s : State} (ho : tb_of off) (hts : ∀ w ∈ tb_TT, w.before args s = true) (hE : tb_En A sa s) : tb_G off ln fx A sa RX12 args s (232, 2, 176, 2) := trivial
theorem le_12_236 : tb_Le 12 (236, 2, 177, 2) := fun _ => ⟨lf_2_177, Or.inl (tg tw_1512 rfl)⟩
set_option maxRecDepth 20000 in
theorem pk_12_236 {off : Nat → Int → Option Int} {ln : Int → Option Nat} {fx : Bool} {A : Nat → Prop} {sa : Int → Nat} {args : Array Value} {s : State} (ho : tb_of off) (hts : ∀ w ∈ tb_TT, w.before args s = true) (hE : tb_En A sa s) : tb_G off ln fx A sa RX12 args s (236, 2, 177, 2) := trivial
theorem le_12_239 : tb_Le 12 (239, 2, 172, 3) := fun _ => ⟨lf_2_172, Or.inl (tg tw_1508 rfl)⟩
set_option maxRecDepth 20000 in
theorem pk_12_239 {off : Nat → Int → Option Int} {ln : Int → Option Nat} {fx : Bool} {A : Nat → Prop} {sa : Int → Nat} {args : Array Value} {s : State} (ho : tb_of off) (hts : ∀ w ∈ tb_TT, w.before args s = true) (hE : tb_En A sa s) : tb_G off ln fx A sa RX12 args s (239, 2, 172, 3) := trivial
theorem le_12_243 : tb_Le 12 (243, 2, 179, 2) := fun _ => ⟨lf_2_179, Or.inl (tg tw_1599 rfl)⟩
set_option maxRecDepth 20000 in
theorem pk_12_243 {off : Nat → Int → Option Int} {ln : Int → Option Nat} {fx : Bool} {A : Nat → Prop} {sa : Int → Nat} {args : Array Value} {s : State} (ho : tb_of off) (hts : ∀ w ∈ tb_TT, w.before args s = true) (hE : tb_En A sa s) : tb_G off ln fx A sa RX12 args s (243, 2, 179, 2) := trivial
theorem le_12_246 : tb_Le 12 (246, 12, 174, 1) := fun _ => ⟨lf_12_174, Or.inl (tg tw_1561 rfl)⟩
set_option maxRecDepth 20000 in
theorem pk_12_246 {off : Nat → Int → Option Int} {ln : Int → Option Nat} {fx : Bool} {A : Nat → Prop} {sa : Int → Nat} {args : Array Value} {s : State} (ho : tb_of off) (hts : ∀ w ∈ tb_TT, w.before args s = true) (hE : tb_En A sa s) : tb_G off ln fx A sa RX12 args s (246, 12, 174, 1) := trivial
theorem le_12_249 : tb_Le 12 (249, 12, 169, 3) := fun _ => ⟨lf_12_169, Or.inl (tg tw_1564 rfl)⟩
set_option maxRecDepth 20000 in
theorem pk_12_249 {off : Nat → Int → Option Int} {ln : Int → Option Nat} {fx : Bool} {A : Nat → Prop} {sa : Int → Nat} {args : Array Value} {s : State} (ho : tb_of off) (hts : ∀ w ∈ tb_TT, w.before args s = true) (hE : tb_En A sa s) : tb_G off ln fx A sa RX12 args s (249, 12, 169, 3) := trivial
theorem le_12_253 : tb_Le 12 (253, 2, 182, 1) := fun _ => ⟨lf_2_182, Or.inl (tg tw_1539 rfl)⟩
set_option maxRecDepth 20000 in
theorem pk_12_253 {off : Nat → Int → Option Int} {ln : Int → Option Nat} {fx : Bool} {A : Nat → Prop} {sa : Int → Nat} {args : Array Value} {s : State} (ho : tb_of off) (hts : ∀ w ∈ tb_TT, w.before args s = true) (hE : tb_En A sa s) : tb_G off ln fx A sa RX12 args s (253, 2, 182, 1) := trivial
theorem le_12_257 : tb_Le 12 (257, 1, 12, 29) := fun h => absurd h (by decide)
set_option maxRecDepth 20000 in
theorem pk_12_257 {off : Nat → Int → Option Int} {ln : Int → Option Nat} {fx : Bool} {A : Nat → Prop} {sa : Int → Nat} {args : Array Value} {s : State} (ho : tb_of off) (hts : ∀ w ∈ tb_TT, w.before args s = true) (hE : tb_En A sa s) : tb_G off ln fx A sa RX12 args s (257, 1, 12, 29) := ⟨fk_12 29 (by decide) rfl (Or.inl (hts _ (tg tw_1232 rfl))), of_none ho rfl⟩
theorem le_12_260 : tb_Le 12 (260, 5, 0, 27) := fun h => absurd h (by decide)
set_option maxRecDepth 20000 in
theorem pk_12_260 {off : Nat → Int → Option Int} {ln : Int → Option Nat} {fx : Bool} {A : Nat → Prop} {sa : Int → Nat} {args : Array Value} {s : State} (ho : tb_of off) (hts : ∀ w ∈ tb_TT, w.before args s = true) (hE : tb_En A sa s) : tb_G off ln fx A sa RX12 args s (260, 5, 0, 27) := ⟨27, hts _ (tg tw_1543 rfl), by decide +kernel⟩
theorem le_12_262 : tb_Le 12 (262, 5, 0, 97) := fun h => absurd h (by decide)
set_option maxRecDepth 20000 in
theorem pk_12_262 {off : Nat → Int → Option Int} {ln : Int → Option Nat} {fx : Bool} {A : Nat → Prop} {sa : Int → Nat} {args : Array Value} {s : State} (ho : tb_of off) (hts : ∀ w ∈ tb_TT, w.before args s = true) (hE : tb_En A sa s) : tb_G off ln fx A sa RX12 args s (262, 5, 0, 97) := ⟨97, hts _ (tg tw_1544 rfl), by decide +kernel⟩
theorem le_12_264 : tb_Le 12 (264, 2, 183, 1) := fun _ => ⟨lf_2_183, Or.inl (tg tw_1535 rfl)⟩
set_option maxRecDepth 20000 in
theorem pk_12_264 {off : Nat → Int → Option Int} {ln : Int → Option Nat} {fx : Bool} {A : Nat → Prop} {sa : Int → Nat} {args : Array Value} {s : State} (ho : tb_of off) (hts : ∀ w ∈ tb_TT, w.before args s = true) (hE : tb_En A sa s) : tb_G off ln fx A sa RX12 args s (264, 2, 183, 1) := trivial
theorem le_12_268 : tb_Le 12 (268, 2, 185, 3) := fun _ => ⟨lf_2_185, Or.inl (tg tw_1545 rfl)⟩
set_option maxRecDepth 20000 in
theorem pk_12_268 {off : Nat → Int → Option Int} {ln : Int → Option Nat} {fx : Bool} {A : Nat → Prop} {sa : Int → Nat} {args : Array Value} {s : State} (ho : tb_of off) (hts : ∀ w ∈ tb_TT, w.before args s = true) (hE : tb_En A sa s) : tb_G off ln fx A sa RX12 args s (268, 2, 185, 3) := trivial
theorem le_12_272 : tb_Le 12 (272, 2, 184, 4) := fun _ => ⟨lf_2_184, Or.inl (tg tw_1527 rfl)⟩
set_option maxRecDepth 20000 in
theorem pk_12_272 {off : Nat → Int → Option Int} {ln : Int → Option Nat} {fx : Bool} {A : Nat → Prop} {sa : Int → Nat} {args : Array Value} {s : State} (ho : tb_of off) (hts : ∀ w ∈ tb_TT, w.before args s = true) (hE : tb_En A sa s) : tb_G off ln fx A sa RX12 args s (272, 2, 184, 4) := trivial
theorem le_12_276 : tb_Le 12 (276, 2, 186, 1) := fun _ => ⟨lf_2_186, Or.inl (tg tw_1531 rfl)⟩
set_option maxRecDepth 20000 in
theorem pk_12_276 {off : Nat → Int → Option Int} {ln : Int → Option Nat} {fx : Bool} {A : Nat → Prop} {sa : Int → Nat} {args : Array Value} {s : State} (ho : tb_of off) (hts : ∀ w ∈ tb_TT, w.before args s = true) (hE : tb_En A sa s) : tb_G off ln fx A sa RX12 args s (276, 2, 186, 1) := trivial
theorem le_12_279 : tb_Le 12 (279, 2, 178, 2) := fun _ => ⟨lf_2_178, Or.inl (tg tw_1553 rfl)⟩
set_option maxRecDepth 20000 in
theorem pk_12_279 {off : Nat → Int → Option Int} {ln : Int → Option Nat} {fx : Bool} {A : Nat → Prop} {sa : Int → Nat} {args : Array Value} {s : State} (ho : tb_of off) (hts : ∀ w ∈ tb_TT, w.before args s = true) (hE : tb_En A sa s) : tb_G off ln fx A sa RX12 args s (279, 2, 178, 2) := trivial
theorem le_12_283 : tb_Le 12 (283, 2, 181, 3) := fun _ => ⟨lf_2_181, Or.inl (tg tw_1557 rfl)⟩
set_option maxRecDepth 20000 in
theorem pk_12_283 {off : Nat → Int → Option Int} {ln : Int → Option Nat} {fx : Bool} {A : Nat → Prop} {sa : Int → Nat} {args : Array Value} {s : State} (ho : tb_of off) (hts : ∀ w ∈ tb_TT, w.before args s = true) (hE : tb_En A sa s) : tb_G off ln fx A sa RX12 args s (283, 2, 181, 3) := trivial
theorem le_12_287 : tb_Le 12 (287, 2, 187, 2) := fun _ => ⟨lf_2_187, Or.inl (tg tw_1571 rfl)⟩
set_option maxRecDepth 20000 in
theorem pk_12_287 {off : Nat → Int → Option Int} {ln : Int → Option Nat} {fx : Bool} {A : Nat → Prop} {sa : Int → Nat} {args : Array Value} {s : State} (ho : tb_of off) (hts : ∀ w ∈ tb_TT, w.before args s = true) (hE : tb_En A sa s) : tb_G off ln fx A sa RX12 args s (287, 2, 187, 2) := trivial
theorem le_12_291 : tb_Le 12 (291, 1, 12, 40) := fun h => absurd h (by decide)
set_option maxRecDepth 20000 in
theorem pk_12_291 {off : Nat → Int → Option Int} {ln : Int → Option Nat} {fx : Bool} {A : Nat → Prop} {sa : Int → Nat} {args : Array Value} {s : State} (ho : tb_of off) (hts : ∀ w ∈ tb_TT, w.before args s = true) (hE : tb_En A sa s) : tb_G off ln fx A sa RX12 args s (291, 1, 12, 40) := ⟨fk_12 40 (by decide) rfl (Or.inl (hts _ (tg tw_1243 rfl))), of_none ho rfl⟩
theorem le_12_294 : tb_Le 12 (294, 1, 12, 42) := fun h => absurd h (by decide)
set_option maxRecDepth 20000 in
theorem pk_12_294 {off : Nat → Int → Option Int} {ln : Int → Option Nat} {fx : Bool} {A : Nat → Prop} {sa : Int → Nat} {args : Array Value} {s : State} (ho : tb_of off) (hts : ∀ w ∈ tb_TT, w.before args s = true) (hE : tb_En A sa s) : tb_G off ln fx A sa RX12 args s (294, 1, 12, 42) := ⟨fk_12 42 (by decide) rfl (Or.inl (hts _ (tg tw_1245 rfl))), of_none ho rfl⟩
theorem le_12_297 : tb_Le 12 (297, 1, 12, 43) := fun h => absurd h (by decide)
set_option maxRecDepth 20000 in
theorem pk_12_297 {off : Nat → Int → Option Int} {ln : Int → Option Nat} {fx : Bool} {A : Nat → Prop} {sa : Int → Nat} {args : Array Value} {s : State} (ho : tb_of off) (hts : ∀ w ∈ tb_TT, w.before args s = true) (hE : tb_En A sa s) : tb_G off ln fx A sa RX12 args s (297, 1, 12, 43) := ⟨fk_12 43 (by decide) rfl (Or.inl (hts _ (tg tw_1246 rfl))), of_none ho rfl⟩
theorem le_12_300 : tb_Le 12 (300, 1, 12, 44) := fun h => absurd h (by decide)
set_option maxRecDepth 20000 in
theorem pk_12_300 {off : Nat → Int → Option Int} {ln : Int → Option Nat} {fx : Bool} {A : Nat → Prop} {sa : Int → Nat} {args : Array Value} {s : State} (ho : tb_of off) (hts : ∀ w ∈ tb_TT, w.before args s = true) (hE : tb_En A sa s) : tb_G off ln fx A sa RX12 args s (300, 1, 12, 44) := ⟨fk_12 44 (by decide) rfl (Or.inl (hts _ (tg tw_1247 rfl))), of_none ho rfl⟩
theorem le_12_303 : tb_Le 12 (303, 2, 205, 1) := fun _ => ⟨lf_2_205, Or.inl (tg tw_1583 rfl)⟩
set_option maxRecDepth 20000 in
theorem pk_12_303 {off : Nat → Int → Option Int} {ln : Int → Option Nat} {fx : Bool} {A : Nat → Prop} {sa : Int → Nat} {args : Array Value} {s : State} (ho : tb_of off) (hts : ∀ w ∈ tb_TT, w.before args s = true) (hE : tb_En A sa s) : tb_G off ln fx A sa RX12 args s (303, 2, 205, 1) := trivial
theorem le_12_306 : tb_Le 12 (306, 1, 12, 38) := fun h => absurd h (by decide)
set_option maxRecDepth 20000 in
theorem pk_12_306 {off : Nat → Int → Option Int} {ln : Int → Option Nat} {fx : Bool} {A : Nat → Prop} {sa : Int → Nat} {args : Array Value} {s : State} (ho : tb_of off) (hts : ∀ w ∈ tb_TT, w.before args s = true) (hE : tb_En A sa s) : tb_G off ln fx A sa RX12 args s (306, 1, 12, 38) := ⟨fk_12 38 (by decide) rfl (Or.inl (hts _ (tg tw_1241 rfl))), of_none ho rfl⟩
theorem le_12_309 : tb_Le 12 (309, 2, 188, 2) := fun _ => ⟨lf_2_188, Or.inl (tg tw_1523 rfl)⟩
set_option maxRecDepth 20000 in
theorem pk_12_309 {off : Nat → Int → Option Int} {ln : Int → Option Nat} {fx : Bool} {A : Nat → Prop} {sa : Int → Nat} {args : Array Value} {s : State} (ho : tb_of off) (hts : ∀ w ∈ tb_TT, w.before args s = true) (hE : tb_En A sa s) : tb_G off ln fx A sa RX12 args s (309, 2, 188, 2) := trivial
theorem le_12_313 : tb_Le 12 (313, 2, 189, 2) := fun _ => ⟨lf_2_189, Or.inl (tg tw_1549 rfl)⟩
set_option maxRecDepth 20000 in
theorem pk_12_313 {off : Nat → Int → Option Int} {ln : Int → Option Nat} {fx : Bool} {A : Nat → Prop} {sa : Int → Nat} {args : Array Value} {s : State} (ho : tb_of off) (hts : ∀ w ∈ tb_TT, w.before args s = true) (hE : tb_En A sa s) : tb_G off ln fx A sa RX12 args s (313, 2, 189, 2) := trivial
theorem le_12_316 : tb_Le 12 (316, 2, 190, 1) := fun _ => ⟨lf_2_190, Or.inl (tg tw_1567 rfl)⟩
set_option maxRecDepth 20000 in
theorem pk_12_316 {off : Nat → Int → Option Int} {ln : Int → Option Nat} {fx : Bool} {A : Nat → Prop} {sa : Int → Nat} {args : Array Value} {s : State} (ho : tb_of off) (hts : ∀ w ∈ tb_TT, w.before args s = true) (hE : tb_En A sa s) : tb_G off ln fx A sa RX12 args s (316, 2, 190, 1) := trivial
theorem le_12_319 : tb_Le 12 (319, 2, 191, 2) := fun _ => ⟨lf_2_191, Or.inl (tg tw_1575 rfl)⟩
set_option maxRecDepth 20000 in
theorem pk_12_319 {off : Nat → Int → Option Int} {ln : Int → Option Nat} {fx : Bool} {A : Nat → Prop} {sa : Int → Nat} {args : Array Value} {s : State} (ho : tb_of off) (hts : ∀ w ∈ tb_TT, w.before args s = true) (hE : tb_En A sa s) : tb_G off ln fx A sa RX12 args s (319, 2, 191, 2) := trivial
theorem le_12_322 : tb_Le 12 (322, 2, 192, 3) := fun _ => ⟨lf_2_192, Or.inl (tg tw_1579 rfl)⟩
set_option maxRecDepth 20000 in
theorem pk_12_322 {off : Nat → Int → Option Int} {ln : Int → Option Nat} {fx : Bool} {A : Nat → Prop} {sa : Int → Nat} {args : Array Value} {s : State} (ho : tb_of off) (hts : ∀ w ∈ tb_TT, w.before args s = true) (hE : tb_En A sa s) : tb_G off ln fx A sa RX12 args s (322, 2, 192, 3) := trivial
theorem le_12_325 : tb_Le 12 (325, 2, 180, 2) := fun _ => ⟨lf_2_180, Or.inl (tg tw_1595 rfl)⟩
set_option maxRecDepth 20000 in
theorem pk_12_325 {off : Nat → Int → Option Int} {ln : Int → Option Nat} {fx : Bool} {A : Nat → Prop} {sa : Int → Nat} {args : Array Value} {s : State} (ho : tb_of off) (hts : ∀ w ∈ tb_TT, w.before args s = true) (hE : tb_En A sa s) : tb_G off ln fx A sa RX12 args s (325, 2, 180, 2) := trivial
theorem le_12_328 : tb_Le 12 (328, 2, 193, 1) := fun _ => ⟨lf_2_193, Or.inl (tg tw_1504 rfl)⟩
set_option maxRecDepth 20000 in
theorem pk_12_328 {off : Nat → Int → Option Int} {ln : Int → Option Nat} {fx : Bool} {A : Nat → Prop} {sa : Int → Nat} {args : Array Value} {s : State} (ho : tb_of off) (hts : ∀ w ∈ tb_TT, w.before args s = true) (hE : tb_En A sa s) : tb_G off ln fx A sa RX12 args s (328, 2, 193, 1) := trivial
theorem le_12_331 : tb_Le 12 (331, 1, 12, 7) := fun h => absurd h (by decide)
set_option maxRecDepth 20000 in
theorem pk_12_331 {off : Nat → Int → Option Int} {ln : Int → Option Nat} {fx : Bool} {A : Nat → Prop} {sa : Int → Nat} {args : Array Value} {s : State} (ho : tb_of off) (hts : ∀ w ∈ tb_TT, w.before args s = true) (hE : tb_En A sa s) : tb_G off ln fx A sa RX12 args s (331, 1, 12, 7) := ⟨fk_12 7 (by decide) rfl (Or.inl (hts _ (tg tw_1210 rfl))), of_none ho rfl⟩
theorem le_12_334 : tb_Le 12 (334, 2, 195, 1) := fun _ => ⟨lf_2_195, Or.inl (tg tw_1631 rfl)⟩
set_option maxRecDepth 20000 in
theorem pk_12_334 {off : Nat → Int → Option Int} {ln : Int → Option Nat} {fx : Bool} {A : Nat → Prop} {sa : Int → Nat} {args : Array Value} {s : State} (ho : tb_of off) (hts : ∀ w ∈ tb_TT, w.before args s = true) (hE : tb_En A sa s) : tb_G off ln fx A sa RX12 args s (334, 2, 195, 1) := trivial
theorem le_12_337 : tb_Le 12 (337, 1, 12, 58) := fun h => absurd h (by decide)
set_option maxRecDepth 20000 in
theorem pk_12_337 {off : Nat → Int → Option Int} {ln : Int → Option Nat} {fx : Bool} {A : Nat → Prop} {sa : Int → Nat} {args : Array Value} {s : State} (ho : tb_of off) (hts : ∀ w ∈ tb_TT, w.before args s = true) (hE : tb_En A sa s) : tb_G off ln fx A sa RX12 args s (337, 1, 12, 58) := ⟨fk_12 58 (by decide) rfl (Or.inl (hts _ (tg tw_1261 rfl))), of_none ho rfl⟩
theorem le_12_340 : tb_Le 12 (340, 1, 12, 61) := fun h => absurd h (by decide)
set_option maxRecDepth 20000 in
theorem pk_12_340 {off : Nat → Int → Option Int} {ln : Int → Option Nat} {fx : Bool} {A : Nat → Prop} {sa : Int → Nat} {args : Array Value} {s : State} (ho : tb_of off) (hts : ∀ w ∈ tb_TT, w.before args s = true) (hE : tb_En A sa s) : tb_G off ln fx A sa RX12 args s (340, 1, 12, 61) := ⟨fk_12 61 (by decide) rfl (Or.inl (hts _ (tg tw_1264 rfl))), of_none ho rfl⟩
theorem le_12_343 : tb_Le 12 (343, 2, 196, 2) := fun _ => ⟨lf_2_196, Or.inl (tg tw_1603 rfl)⟩
set_option maxRecDepth 20000 in
theorem pk_12_343 {off : Nat → Int → Option Int} {ln : Int → Option Nat} {fx : Bool} {A : Nat → Prop} {sa : Int → Nat} {args : Array Value} {s : State} (ho : tb_of off) (hts : ∀ w ∈ tb_TT, w.before args s = true) (hE : tb_En A sa s) : tb_G off ln fx A sa RX12 args s (343, 2, 196, 2) := trivial
theorem le_12_346 : tb_Le 12 (346, 2, 200, 2) := fun _ => ⟨lf_2_200, Or.inl (tg tw_1615 rfl)⟩
set_option maxRecDepth 20000 in
theorem pk_12_346 {off : Nat → Int → Option Int} {ln : Int → Option Nat} {fx : Bool} {A : Nat → Prop} {sa : Int → Nat} {args : Array Value} {s : State} (ho : tb_of off) (hts : ∀ w ∈ tb_TT, w.before args s = true) (hE : tb_En A sa s) : tb_G off ln fx A sa RX12 args s (346, 2, 200, 2) := trivial
theorem le_12_349 : tb_Le 12 (349, 2, 199, 1) := fun _ => ⟨lf_2_199, Or.inl (tg tw_1623 rfl)⟩
set_option maxRecDepth 20000 in
theorem pk_12_349 {off : Nat → Int → Option Int} {ln : Int → Option Nat} {fx : Bool} {A : Nat → Prop} {sa : Int → Nat} {args : Array Value} {s : State} (ho : tb_of off) (hts : ∀ w ∈ tb_TT, w.before args s = true) (hE : tb_En A sa s) : tb_G off ln fx A sa RX12 args s (349, 2, 199, 1) := trivial
theorem le_12_352 : tb_Le 12 (352, 2, 197, 3) := fun _ => ⟨lf_2_197, Or.inl (tg tw_1591 rfl)⟩
set_option maxRecDepth 20000 in
theorem pk_12_352 {off : Nat → Int → Option Int} {ln : Int → Option Nat} {fx : Bool} {A : Nat → Prop} {sa : Int → Nat} {args : Array Value} {s : State} (ho : tb_of off) (hts : ∀ w ∈ tb_TT, w.before args s = true) (hE : tb_En A sa s) : tb_G off ln fx A sa RX12 args s (352, 2, 197, 3) := trivial
theorem le_12_355 : tb_Le 12 (355, 2, 201, 1) := fun _ => ⟨lf_2_201, Or.inl (tg tw_1611 rfl)⟩
set_option maxRecDepth 20000 in
theorem pk_12_355 {off : Nat → Int → Option Int} {ln : Int → Option Nat} {fx : Bool} {A : Nat → Prop} {sa : Int → Nat} {args : Array Value} {s : State} (ho : tb_of off) (hts : ∀ w ∈ tb_TT, w.before args s = true) (hE : tb_En A sa s) : tb_G off ln fx A sa RX12 args s (355, 2, 201, 1) := trivial
theorem le_12_358 : tb_Le 12 (358, 2, 202, 1) := fun _ => ⟨lf_2_202, Or.inl (tg tw_1619 rfl)⟩
set_option maxRecDepth 20000 in
theorem pk_12_358 {off : Nat → Int → Option Int} {ln : Int → Option Nat} {fx : Bool} {A : Nat → Prop} {sa : Int → Nat} {args : Array Value} {s : State} (ho : tb_of off) (hts : ∀ w ∈ tb_TT, w.before args s = true) (hE : tb_En A sa s) : tb_G off ln fx A sa RX12 args s (358, 2, 202, 1) := trivial
theorem le_12_361 : tb_Le 12 (361, 2, 198, 2) := fun _ => ⟨lf_2_198, Or.inl (tg tw_1627 rfl)⟩
set_option maxRecDepth 20000 in
theorem pk_12_361 {off : Nat → Int → Option Int} {ln : Int → Option Nat} {fx : Bool} {A : Nat → Prop} {sa : Int → Nat} {args : Array Value} {s : State} (ho : tb_of off) (hts : ∀ w ∈ tb_TT, w.before args s = true) (hE : tb_En A sa s) : tb_G off ln fx A sa RX12 args s (361, 2, 198, 2) := trivial
theorem le_12_364 : tb_Le 12 (364, 2, 203, 1) := fun _ => ⟨lf_2_203, Or.inl (tg tw_1587 rfl)⟩
set_option maxRecDepth 20000 in
theorem pk_12_364 {off : Nat → Int → Option Int} {ln : Int → Option Nat} {fx : Bool} {A : Nat → Prop} {sa : Int → Nat} {args : Array Value} {s : State} (ho : tb_of off) (hts : ∀ w ∈ tb_TT, w.before args s = true) (hE : tb_En A sa s) : tb_G off ln fx A sa RX12 args s (364, 2, 203, 1) := trivial
theorem le_12_367 : tb_Le 12 (367, 2, 204, 1) := fun _ => ⟨lf_2_204, Or.inl (tg tw_1607 rfl)⟩
set_option maxRecDepth 20000 in
theorem pk_12_367 {off : Nat → Int → Option Int} {ln : Int → Option Nat} {fx : Bool} {A : Nat → Prop} {sa : Int → Nat} {args : Array Value} {s : State} (ho : tb_of off) (hts : ∀ w ∈ tb_TT, w.before args s = true) (hE : tb_En A sa s) : tb_G off ln fx A sa RX12 args s (367, 2, 204, 1) := trivial
theorem le_12_370 : tb_Le 12 (370, 5, 0, 1000000) := fun h => absurd h (by decide)
set_option maxRecDepth 20000 in
theorem pk_12_370 {off : Nat → Int → Option Int} {ln : Int → Option Nat} {fx : Bool} {A : Nat → Prop} {sa : Int → Nat} {args : Array Value} {s : State} (ho : tb_of off) (hts : ∀ w ∈ tb_TT, w.before args s = true) (hE : tb_En A sa s) : tb_G off ln fx A sa RX12 args s (370, 5, 0, 1000000) := ⟨1000000, hts _ (tg tw_1739 rfl), by decide +kernel⟩
theorem le_12_372 : tb_Le 12 (372, 5, 0, (-1000000)) := fun h => absurd h (by decide)
set_option maxRecDepth 20000 in
theorem pk_12_372 {off : Nat → Int → Option Int} {ln : Int → Option Nat} {fx : Bool} {A : Nat → Prop} {sa : Int → Nat} {args : Array Value} {s : State} (ho : tb_of off) (hts : ∀ w ∈ tb_TT, w.before args s = true) (hE : tb_En A sa s) : tb_G off ln fx A sa RX12 args s (372, 5, 0, (-1000000)) := ⟨(-1000000), hts _ (tg tw_1740 rfl), by decide +kernel⟩
theorem le_12_374 : tb_Le 12 (374, 1, 12, 46) := fun h => absurd h (by decide)
set_option maxRecDepth 20000 in
theorem pk_12_374 {off : Nat → Int → Option Int} {ln : Int → Option Nat} {fx : Bool} {A : Nat → Prop} {sa : Int → Nat} {args : Array Value} {s : State} (ho : tb_of off) (hts : ∀ w ∈ tb_TT, w.before args s = true) (hE : tb_En A sa s) : tb_G off ln fx A sa RX12 args s (374, 1, 12, 46) := ⟨fk_12 46 (by decide) rfl (Or.inl (hts _ (tg tw_1249 rfl))), of_none ho rfl⟩
theorem le_12_377 : tb_Le 12 (377, 12, 207, 1) := fun _ => ⟨lf_12_207, Or.inl (tg tw_1736 rfl)⟩
set_option maxRecDepth 20000 in
theorem pk_12_377 {off : Nat → Int → Option Int} {ln : Int → Option Nat} {fx : Bool} {A : Nat → Prop} {sa : Int → Nat} {args : Array Value} {s : State} (ho : tb_of off) (hts : ∀ w ∈ tb_TT, w.before args s = true) (hE : tb_En A sa s) : tb_G off ln fx A sa RX12 args s (377, 12, 207, 1) := trivial
theorem le_12_381 : tb_Le 12 (381, 2, 209, 2) := fun _ => ⟨lf_2_209, Or.inl (tg tw_1726 rfl)⟩
set_option maxRecDepth 20000 in
theorem pk_12_381 {off : Nat → Int → Option Int} {ln : Int → Option Nat} {fx : Bool} {A : Nat → Prop} {sa : Int → Nat} {args : Array Value} {s : State} (ho : tb_of off) (hts : ∀ w ∈ tb_TT, w.before args s = true) (hE : tb_En A sa s) : tb_G off ln fx A sa RX12 args s (381, 2, 209, 2) := trivial
theorem le_12_385 : tb_Le 12 (385, 12, 208, 2) := fun _ => ⟨lf_12_208, Or.inl (tg tw_1741 rfl)⟩
set_option maxRecDepth 20000 in
theorem pk_12_385 {off : Nat → Int → Option Int} {ln : Int → Option Nat} {fx : Bool} {A : Nat → Prop} {sa : Int → Nat} {args : Array Value} {s : State} (ho : tb_of off) (hts : ∀ w ∈ tb_TT, w.before args s = true) (hE : tb_En A sa s) : tb_G off ln fx A sa RX12 args s (385, 12, 208, 2) := trivial
theorem le_12_389 : tb_Le 12 (389, 2, 211, 1) := fun _ => ⟨lf_2_211, Or.inl (tg tw_1643 rfl)⟩
set_option maxRecDepth 20000 in
theorem pk_12_389 {off : Nat → Int → Option Int} {ln : Int → Option Nat} {fx : Bool} {A : Nat → Prop} {sa : Int → Nat} {args : Array Value} {s : State} (ho : tb_of off) (hts : ∀ w ∈ tb_TT, w.before args s = true) (hE : tb_En A sa s) : tb_G off ln fx A sa RX12 args s (389, 2, 211, 1) := trivial
theorem le_12_392 : tb_Le 12 (392, 2, 212, 1) := fun _ => ⟨lf_2_212, Or.inl (tg tw_1647 rfl)⟩
set_option maxRecDepth 20000 in
theorem pk_12_392 {off : Nat → Int → Option Int} {ln : Int → Option Nat} {fx : Bool} {A : Nat → Prop} {sa : Int → Nat} {args : Array Value} {s : State} (ho : tb_of off) (hts : ∀ w ∈ tb_TT, w.before args s = true) (hE : tb_En A sa s) : tb_G off ln fx A sa RX12 args s (392, 2, 212, 1) := trivial
theorem le_12_395 : tb_Le 12 (395, 2, 217, 3) := fun _ => ⟨lf_2_217, Or.inl (tg tw_1667 rfl)⟩
set_option maxRecDepth 20000 in
theorem pk_12_395 {off : Nat → Int → Option Int} {ln : Int → Option Nat} {fx : Bool} {A : Nat → Prop} {sa : Int → Nat} {args : Array Value} {s : State} (ho : tb_of off) (hts : ∀ w ∈ tb_TT, w.before args s = true) (hE : tb_En A sa s) : tb_G off ln fx A sa RX12 args s (395, 2, 217, 3) := trivial
theorem le_12_398 : tb_Le 12 (398, 2, 221, 2) := fun _ => ⟨lf_2_221, Or.inl (tg tw_1675 rfl)⟩
set_option maxRecDepth 20000 in
theorem pk_12_398 {off : Nat → Int → Option Int} {ln : Int → Option Nat} {fx : Bool} {A : Nat → Prop} {sa : Int → Nat} {args : Array Value} {s : State} (ho : tb_of off) (hts : ∀ w ∈ tb_TT, w.before args s = true) (hE : tb_En A sa s) : tb_G off ln fx A sa RX12 args s (398, 2, 221, 2) := trivial
theorem le_12_401 : tb_Le 12 (401, 2, 216, 2) := fun _ => ⟨lf_2_216, Or.inl (tg tw_1655 rfl)⟩
set_option maxRecDepth 20000 in
theorem pk_12_401 {off : Nat → Int → Option Int} {ln : Int → Option Nat} {fx : Bool} {A : Nat → Prop} {sa : Int → Nat} {args : Array Value} {s : State} (ho : tb_of off) (hts : ∀ w ∈ tb_TT, w.before args s = true) (hE : tb_En A sa s) : tb_G off ln fx A sa RX12 args s (401, 2, 216, 2) := trivial
theorem le_12_404 : tb_Le 12 (404, 2, 225, 4) := fun _ => ⟨lf_2_225, Or.inl (tg tw_1701 rfl)⟩
set_option maxRecDepth 20000 in
theorem pk_12_404 {off : Nat → Int → Option Int} {ln : Int → Option Nat} {fx : Bool} {A : Nat → Prop} {sa : Int → Nat} {args : Array Value} {s : State} (ho : tb_of off) (hts : ∀ w ∈ tb_TT, w.before args s = true) (hE : tb_En A sa s) : tb_G off ln fx A sa RX12 args s (404, 2, 225, 4) := trivial
theorem le_12_408 : tb_Le 12 (408, 2, 222, 2) := fun _ => ⟨lf_2_222, Or.inl (tg tw_1705 rfl)⟩
set_option maxRecDepth 20000 in
theorem pk_12_408 {off : Nat → Int → Option Int} {ln : Int → Option Nat} {fx : Bool} {A : Nat → Prop} {sa : Int → Nat} {args : Array Value} {s : State} (ho : tb_of off) (hts : ∀ w ∈ tb_TT, w.before args s = true) (hE : tb_En A sa s) : tb_G off ln fx A sa RX12 args s (408, 2, 222, 2) := trivial
theorem le_12_411 : tb_Le 12 (411, 2, 223, 2) := fun _ => ⟨lf_2_223, Or.inl (tg tw_1709 rfl)⟩
set_option maxRecDepth 20000 in
theorem pk_12_411 {off : Nat → Int → Option Int} {ln : Int → Option Nat} {fx : Bool} {A : Nat → Prop} {sa : Int → Nat} {args : Array Value} {s : State} (ho : tb_of off) (hts : ∀ w ∈ tb_TT, w.before args s = true) (hE : tb_En A sa s) : tb_G off ln fx A sa RX12 args s (411, 2, 223, 2) := trivial
theorem le_12_414 : tb_Le 12 (414, 5, 0, 7) := fun h => absurd h (by decide)
set_option maxRecDepth 20000 in
theorem pk_12_414 {off : Nat → Int → Option Int} {ln : Int → Option Nat} {fx : Bool} {A : Nat → Prop} {sa : Int → Nat} {args : Array Value} {s : State} (ho : tb_of off) (hts : ∀ w ∈ tb_TT, w.before args s = true) (hE : tb_En A sa s) : tb_G off ln fx A sa RX12 args s (414, 5, 0, 7) := ⟨7, hts _ (tg tw_1730 rfl), by decide +kernel⟩
theorem le_12_416 : tb_Le 12 (416, 5, 0, 12) := fun h => absurd h (by decide)
set_option maxRecDepth 20000 in
theorem pk_12_416 {off : Nat → Int → Option Int} {ln : Int → Option Nat} {fx : Bool} {A : Nat → Prop} {sa : Int → Nat} {args : Array Value} {s : State} (ho : tb_of off) (hts : ∀ w ∈ tb_TT, w.before args s = true) (hE : tb_En A sa s) : tb_G off ln fx A sa RX12 args s (416, 5, 0, 12) := ⟨12, hts _ (tg tw_1731 rfl), by decide +kernel⟩
theorem le_12_418 : tb_Le 12 (418, 2, 210, 2) := fun _ => ⟨lf_2_210, Or.inl (tg tw_1732 rfl)⟩
set_option maxRecDepth 20000 in
theorem pk_12_418 {off : Nat → Int → Option Int} {ln : Int → Option Nat} {fx : Bool} {A : Nat → Prop} {sa : Int → Nat} {args : Array Value} {s : State} (ho : tb_of off) (hts : ∀ w ∈ tb_TT, w.before args s = true) (hE : tb_En A sa s) : tb_G off ln fx A sa RX12 args s (418, 2, 210, 2) := trivial
theorem le_12_421 : tb_Le 12 (421, 5, 0, 999) := fun h => absurd h (by decide)
set_option maxRecDepth 20000 in
theorem pk_12_421 {off : Nat → Int → Option Int} {ln : Int → Option Nat} {fx : Bool} {A : Nat → Prop} {sa : Int → Nat} {args : Array Value} {s : State} (ho : tb_of off) (hts : ∀ w ∈ tb_TT, w.before args s = true) (hE : tb_En A sa s) : tb_G off ln fx A sa RX12 args s (421, 5, 0, 999) := ⟨999, hts _ (tg tw_1744 rfl), by decide +kernel⟩
theorem le_12_423 : tb_Le 12 (423, 2, 226, 4) := fun _ => ⟨lf_2_226, Or.inl (tg tw_1697 rfl)⟩
set_option maxRecDepth 20000 in
theorem pk_12_423 {off : Nat → Int → Option Int} {ln : Int → Option Nat} {fx : Bool} {A : Nat → Prop} {sa : Int → Nat} {args : Array Value} {s : State} (ho : tb_of off) (hts : ∀ w ∈ tb_TT, w.before args s = true) (hE : tb_En A sa s) : tb_G off ln fx A sa RX12 args s (423, 2, 226, 4) := trivial
theorem le_12_426 : tb_Le 12 (426, 2, 227, 5) := fun _ => ⟨lf_2_227, Or.inl (tg tw_1722 rfl)⟩
set_option maxRecDepth 20000 in
theorem pk_12_426 {off : Nat → Int → Option Int} {ln : Int → Option Nat} {fx : Bool} {A : Nat → Prop} {sa : Int → Nat} {args : Array Value} {s : State} (ho : tb_of off) (hts : ∀ w ∈ tb_TT, w.before args s = true) (hE : tb_En A sa s) : tb_G off ln fx A sa RX12 args s (426, 2, 227, 5) := trivial
theorem le_12_430 : tb_Le 12 (430, 2, 218, 3) := fun _ => ⟨lf_2_218, Or.inl (tg tw_1663 rfl)⟩
set_option maxRecDepth 20000 in
theorem pk_12_430 {off : Nat → Int → Option Int} {ln : Int → Option Nat} {fx : Bool} {A : Nat → Prop} {sa : Int → Nat} {args : Array Value} {s : State} (ho : tb_of off) (hts : ∀ w ∈ tb_TT, w.before args s = true) (hE : tb_En A sa s) : tb_G off ln fx A sa RX12 args s (430, 2, 218, 3) := trivial
theorem le_12_433 : tb_Le 12 (433, 2, 224, 2) := fun _ => ⟨lf_2_224, Or.inl (tg tw_1671 rfl)⟩
set_option maxRecDepth 20000 in
theorem pk_12_433 {off : Nat → Int → Option Int} {ln : Int → Option Nat} {fx : Bool} {A : Nat → Prop} {sa : Int → Nat} {args : Array Value} {s : State} (ho : tb_of off) (hts : ∀ w ∈ tb_TT, w.before args s = true) (hE : tb_En A sa s) : tb_G off ln fx A sa RX12 args s (433, 2, 224, 2) := trivial
theorem le_12_436 : tb_Le 12 (436, 2, 213, 1) := fun _ => ⟨lf_2_213, Or.inl (tg tw_1651 rfl)⟩
set_option maxRecDepth 20000 in
theorem pk_12_436 {off : Nat → Int → Option Int} {ln : Int → Option Nat} {fx : Bool} {A : Nat → Prop} {sa : Int → Nat} {args : Array Value} {s : State} (ho : tb_of off) (hts : ∀ w ∈ tb_TT, w.before args s = true) (hE : tb_En A sa s) : tb_G off ln fx A sa RX12 args s (436, 2, 213, 1) := trivial
theorem le_12_439 : tb_Le 12 (439, 2, 231, 1) := fun _ => ⟨lf_2_231, Or.inl (tg tw_1659 rfl)⟩
set_option maxRecDepth 20000 in
theorem pk_12_439 {off : Nat → Int → Option Int} {ln : Int → Option Nat} {fx : Bool} {A : Nat → Prop} {sa : Int → Nat} {args : Array Value} {s : State} (ho : tb_of off) (hts : ∀ w ∈ tb_TT, w.before args s = true) (hE : tb_En A sa s) : tb_G off ln fx A sa RX12 args s (439, 2, 231, 1) := trivial
theorem le_12_442 : tb_Le 12 (442, 5, 0, 2) := fun h => absurd h (by decide)
set_option maxRecDepth 20000 in
theorem pk_12_442 {off : Nat → Int → Option Int} {ln : Int → Option Nat} {fx : Bool} {A : Nat → Prop} {sa : Int → Nat} {args : Array Value} {s : State} (ho : tb_of off) (hts : ∀ w ∈ tb_TT, w.before args s = true) (hE : tb_En A sa s) : tb_G off ln fx A sa RX12 args s (442, 5, 0, 2) := ⟨2, hts _ (tg tw_1683 rfl), by decide +kernel⟩
theorem le_12_444 : tb_Le 12 (444, 5, 0, 5) := fun h => absurd h (by decide)
set_option maxRecDepth 20000 in
theorem pk_12_444 {off : Nat → Int → Option Int} {ln : Int → Option Nat} {fx : Bool} {A : Nat → Prop} {sa : Int → Nat} {args : Array Value} {s : State} (ho : tb_of off) (hts : ∀ w ∈ tb_TT, w.before args s = true) (hE : tb_En A sa s) : tb_G off ln fx A sa RX12 args s (444, 5, 0, 5) := ⟨5, hts _ (tg tw_1684 rfl), by decide +kernel⟩
theorem le_12_446 : tb_Le 12 (446, 2, 215, 2) := fun _ => ⟨lf_2_215, Or.inl (tg tw_1689 rfl)⟩
set_option maxRecDepth 20000 in
theorem pk_12_446 {off : Nat → Int → Option Int} {ln : Int → Option Nat} {fx : Bool} {A : Nat → Prop} {sa : Int → Nat} {args : Array Value} {s : State} (ho : tb_of off) (hts : ∀ w ∈ tb_TT, w.before args s = true) (hE : tb_En A sa s) : tb_G off ln fx A sa RX12 args s (446, 2, 215, 2) := trivial
theorem le_12_449 : tb_Le 12 (449, 2, 230, 2) := fun _ => ⟨lf_2_230, Or.inl (tg tw_1693 rfl)⟩
set_option maxRecDepth 20000 in
theorem pk_12_449 {off : Nat → Int → Option Int} {ln : Int → Option Nat} {fx : Bool} {A : Nat → Prop} {sa : Int → Nat} {args : Array Value} {s : State} (ho : tb_of off) (hts : ∀ w ∈ tb_TT, w.before args s = true) (hE : tb_En A sa s) : tb_G off ln fx A sa RX12 args s (449, 2, 230, 2) := trivial
theorem le_12_452 : tb_Le 12 (452, 2, 214, 2) := fun _ => ⟨lf_2_214, Or.inl (tg tw_1717 rfl)⟩
set_option maxRecDepth 20000 in
theorem pk_12_452 {off : Nat → Int → Option Int} {ln : Int → Option Nat} {fx : Bool} {A : Nat → Prop} {sa : Int → Nat} {args : Array Value} {s : State} (ho : tb_of off) (hts : ∀ w ∈ tb_TT, w.before args s = true) (hE : tb_En A sa s) : tb_G off ln fx A sa RX12 args s (452, 2, 214, 2) := trivial
theorem le_12_455 : tb_Le 12 (455, 5, 0, 4) := fun h => absurd h (by decide)
set_option maxRecDepth 20000 in
theorem pk_12_455 {off : Nat → Int → Option Int} {ln : Int → Option Nat} {fx : Bool} {A : Nat → Prop} {sa : Int → Nat} {args : Array Value} {s : State} (ho : tb_of off) (hts : ∀ w ∈ tb_TT, w.before args s = true) (hE : tb_En A sa s) : tb_G off ln fx A sa RX12 args s (455, 5, 0, 4) := ⟨4, hts _ (tg tw_1721 rfl), by decide +kernel⟩
theorem le_12_457 : tb_Le 12 (457, 1, 12, 50) := fun h => absurd h (by decide)
set_option maxRecDepth 20000 in
theorem pk_12_457 {off : Nat → Int → Option Int} {ln : Int → Option Nat} {fx : Bool} {A : Nat → Prop} {sa : Int → Nat} {args : Array Value} {s : State} (ho : tb_of off) (hts : ∀ w ∈ tb_TT, w.before args s = true) (hE : tb_En A sa s) : tb_G off ln fx A sa RX12 args s (457, 1, 12, 50) := ⟨fk_12 50 (by decide) rfl (Or.inl (hts _ (tg tw_1253 rfl))), of_none ho rfl⟩
theorem le_12_460 : tb_Le 12 (460, 2, 219, 3) := fun _ => ⟨lf_2_219, Or.inl (tg tw_1758 rfl)⟩
set_option maxRecDepth 20000 in
theorem pk_12_460 {off : Nat → Int → Option Int} {ln : Int → Option Nat} {fx : Bool} {A : Nat → Prop} {sa : Int → Nat} {args : Array Value} {s : State} (ho : tb_of off) (hts : ∀ w ∈ tb_TT, w.before args s = true) (hE : tb_En A sa s) : tb_G off ln fx A sa RX12 args s (460, 2, 219, 3) := trivial
theorem le_12_463 : tb_Le 12 (463, 2, 228, 5) := fun _ => ⟨lf_2_228, Or.inl (tg tw_1762 rfl)⟩
set_option maxRecDepth 20000 in
theorem pk_12_463 {off : Nat → Int → Option Int} {ln : Int → Option Nat} {fx : Bool} {A : Nat → Prop} {sa : Int → Nat} {args : Array Value} {s : State} (ho : tb_of off) (hts : ∀ w ∈ tb_TT, w.before args s = true) (hE : tb_En A sa s) : tb_G off ln fx A sa RX12 args s (463, 2, 228, 5) := trivial
theorem le_12_467 : tb_Le 12 (467, 5, 0, 199) := fun h => absurd h (by decide)
set_option maxRecDepth 20000 in
theorem pk_12_467 {off : Nat → Int → Option Int} {ln : Int → Option Nat} {fx : Bool} {A : Nat → Prop} {sa : Int → Nat} {args : Array Value} {s : State} (ho : tb_of off) (hts : ∀ w ∈ tb_TT, w.before args s = true) (hE : tb_En A sa s) : tb_G off ln fx A sa RX12 args s (467, 5, 0, 199) := ⟨199, hts _ (tg tw_1753 rfl), by decide +kernel⟩
theorem le_12_469 : tb_Le 12 (469, 2, 237, 2) := fun _ => ⟨lf_2_237, Or.inl (tg tw_1754 rfl)⟩
set_option maxRecDepth 20000 in
theorem pk_12_469 {off : Nat → Int → Option Int} {ln : Int → Option Nat} {fx : Bool} {A : Nat → Prop} {sa : Int → Nat} {args : Array Value} {s : State} (ho : tb_of off) (hts : ∀ w ∈ tb_TT, w.before args s = true) (hE : tb_En A sa s) : tb_G off ln fx A sa RX12 args s (469, 2, 237, 2) := trivial
theorem le_12_472 : tb_Le 12 (472, 5, 0, 200) := fun h => absurd h (by decide)
set_option maxRecDepth 20000 in
theorem pk_12_472 {off : Nat → Int → Option Int} {ln : Int → Option Nat} {fx : Bool} {A : Nat → Prop} {sa : Int → Nat} {args : Array Value} {s : State} (ho : tb_of off) (hts : ∀ w ∈ tb_TT, w.before args s = true) (hE : tb_En A sa s) : tb_G off ln fx A sa RX12 args s (472, 5, 0, 200) := ⟨200, hts _ (tg tw_1770 rfl), by decide +kernel⟩
theorem le_12_474 : tb_Le 12 (474, 2, 241, 3) := fun _ => ⟨lf_2_241, Or.inl (tg tw_1783 rfl)⟩
set_option maxRecDepth 20000 in
theorem pk_12_474 {off : Nat → Int → Option Int} {ln : Int → Option Nat} {fx : Bool} {A : Nat → Prop} {sa : Int → Nat} {args : Array Value} {s : State} (ho : tb_of off) (hts : ∀ w ∈ tb_TT, w.before args s = true) (hE : tb_En A sa s) : tb_G off ln fx A sa RX12 args s (474, 2, 241, 3) := trivial
theorem le_12_478 : tb_Le 12 (478, 2, 242, 2) := fun _ => ⟨lf_2_242, Or.inl (tg tw_1779 rfl)⟩
set_option maxRecDepth 20000 in
theorem pk_12_478 {off : Nat → Int → Option Int} {ln : Int → Option Nat} {fx : Bool} {A : Nat → Prop} {sa : Int → Nat} {args : Array Value} {s : State} (ho : tb_of off) (hts : ∀ w ∈ tb_TT, w.before args s = true) (hE : tb_En A sa s) : tb_G off ln fx A sa RX12 args s (478, 2, 242, 2) := trivial
theorem le_12_482 : tb_Le 12 (482, 1, 12, 52) := fun h => absurd h (by decide)
set_option maxRecDepth 20000 in
theorem pk_12_482 {off : Nat → Int → Option Int} {ln : Int → Option Nat} {fx : Bool} {A : Nat → Prop} {sa : Int → Nat} {args : Array Value} {s : State} (ho : tb_of off) (hts : ∀ w ∈ tb_TT, w.before args s = true) (hE : tb_En A sa s) : tb_G off ln fx A sa RX12 args s (482, 1, 12, 52) := ⟨fk_12 52 (by decide) rfl (Or.inl (hts _ (tg tw_1255 rfl))), of_none ho rfl⟩
theorem le_12_485 : tb_Le 12 (485, 1, 12, 54) := fun h => absurd h (by decide)
set_option maxRecDepth 20000 in
theorem pk_12_485 {off : Nat → Int → Option Int} {ln : Int → Option Nat} {fx : Bool} {A : Nat → Prop} {sa : Int → Nat} {args : Array Value} {s : State} (ho : tb_of off) (hts : ∀ w ∈ tb_TT, w.before args s = true) (hE : tb_En A sa s) : tb_G off ln fx A sa RX12 args s (485, 1, 12, 54) := ⟨fk_12 54 (by decide) rfl (Or.inl (hts _ (tg tw_1257 rfl))), of_none ho rfl⟩
theorem le_12_488 : tb_Le 12 (488, 2, 244, 5) := fun _ => ⟨lf_2_244, Or.inl (tg tw_1795 rfl)⟩
set_option maxRecDepth 20000 in
theorem pk_12_488 {off : Nat → Int → Option Int} {ln : Int → Option Nat} {fx : Bool} {A : Nat → Prop} {sa : Int → Nat} {args : Array Value} {s : State} (ho : tb_of off) (hts : ∀ w ∈ tb_TT, w.before args s = true) (hE : tb_En A sa s) : tb_G off ln fx A sa RX12 args s (488, 2, 244, 5) := trivial
theorem le_12_492 : tb_Le 12 (492, 1, 12, 53) := fun h => absurd h (by decide)
set_option maxRecDepth 20000 in
theorem pk_12_492 {off : Nat → Int → Option Int} {ln : Int → Option Nat} {fx : Bool} {A : Nat → Prop} {sa : Int → Nat} {args : Array Value} {s : State} (ho : tb_of off) (hts : ∀ w ∈ tb_TT, w.before args s = true) (hE : tb_En A sa s) : tb_G off ln fx A sa RX12 args s (492, 1, 12, 53) := ⟨fk_12 53 (by decide) rfl (Or.inl (hts _ (tg tw_1256 rfl))), of_none ho rfl⟩
theorem le_12_495 : tb_Le 12 (495, 2, 245, 3) := fun _ => ⟨lf_2_245, Or.inl (tg tw_1791 rfl)⟩
set_option maxRecDepth 20000 in
theorem pk_12_495 {off : Nat → Int → Option Int} {ln : Int → Option Nat} {fx : Bool} {A : Nat → Prop} {sa : Int → Nat} {args : Array Value} {s : State} (ho : tb_of off) (hts : ∀ w ∈ tb_TT, w.before args s = true) (hE : tb_En A sa s) : tb_G off ln fx A sa RX12 args s (495, 2, 245, 3) := trivial
theorem le_12_498 : tb_Le 12 (498, 2, 246, 2) := fun _ => ⟨lf_2_246, Or.inl (tg tw_1799 rfl)⟩
set_option maxRecDepth 20000 in
theorem pk_12_498 {off : Nat → Int → Option Int} {ln : Int → Option Nat} {fx : Bool} {A : Nat → Prop} {sa : Int → Nat} {args : Array Value} {s : State} (ho : tb_of off) (hts : ∀ w ∈ tb_TT, w.before args s = true) (hE : tb_En A sa s) : tb_G off ln fx A sa RX12 args s (498, 2, 246, 2) := trivial
theorem le_12_501 : tb_Le 12 (501, 12, 250, 1) := fun _ => ⟨lf_12_250, Or.inl (tg tw_1815 rfl)⟩
set_option maxRecDepth 20000 in
theorem pk_12_501 {off : Nat → Int → Option Int} {ln : Int → Option Nat} {fx : Bool} {A : Nat → Prop} {sa : Int → Nat} {args : Array Value} {s : State} (ho : tb_of off) (hts : ∀ w ∈ tb_TT, w.before args s = true) (hE : tb_En A sa s) : tb_G off ln fx A sa RX12 args s (501, 12, 250, 1) := trivial
theorem le_12_504 : tb_Le 12 (504, 2, 251, 3) := fun _ => ⟨lf_2_251, Or.inl (tg tw_1818 rfl)⟩
set_option maxRecDepth 20000 in
theorem pk_12_504 {off : Nat → Int → Option Int} {ln : Int → Option Nat} {fx : Bool} {A : Nat → Prop} {sa : Int → Nat} {args : Array Value} {s : State} (ho : tb_of off) (hts : ∀ w ∈ tb_TT, w.before args s = true) (hE : tb_En A sa s) : tb_G off ln fx A sa RX12 args s (504, 2, 251, 3) := trivial
theorem le_12_507 : tb_Le 12 (507, 2, 253, 1) := fun _ => ⟨lf_2_253, Or.inl (tg tw_1826 rfl)⟩
set_option maxRecDepth 20000 in
theorem pk_12_507 {off : Nat → Int → Option Int} {ln : Int → Option Nat} {fx : Bool} {A : Nat → Prop} {sa : Int → Nat} {args : Array Value} {s : State} (ho : tb_of off) (hts : ∀ w ∈ tb_TT, w.before args s = true) (hE : tb_En A sa s) : tb_G off ln fx A sa RX12 args s (507, 2, 253, 1) := trivial
theorem le_12_510 : tb_Le 12 (510, 2, 258, 3) := fun _ => ⟨lf_2_258, Or.inl (tg tw_1839 rfl)⟩
set_option maxRecDepth 20000 in
theorem pk_12_510 {off : Nat → Int → Option Int} {ln : Int → Option Nat} {fx : Bool} {A : Nat → Prop} {sa : Int → Nat} {args : Array Value} {s : State} (ho : tb_of off) (hts : ∀ w ∈ tb_TT, w.before args s = true) (hE : tb_En A sa s) : tb_G off ln fx A sa RX12 args s (510, 2, 258, 3) := trivial
theorem le_12_513 : tb_Le 12 (513, 2, 259, 3) := fun _ => ⟨lf_2_259, Or.inl (tg tw_1851 rfl)⟩
set_option maxRecDepth 20000 in
theorem pk_12_513 {off : Nat → Int → Option Int} {ln : Int → Option Nat} {fx : Bool} {A : Nat → Prop} {sa : Int → Nat} {args : Array Value} {s : State} (ho : tb_of off) (hts : ∀ w ∈ tb_TT, w.before args s = true) (hE : tb_En A sa s) : tb_G off ln fx A sa RX12 args s (513, 2, 259, 3) := trivial
theorem le_12_516 : tb_Le 12 (516, 2, 260, 3) := fun _ => ⟨lf_2_260, Or.inl (tg tw_1855 rfl)⟩
set_option maxRecDepth 20000 in
theorem pk_12_516 {off : Nat → Int → Option Int} {ln : Int → Option Nat} {fx : Bool} {A : Nat → Prop} {sa : Int → Nat} {args : Array Value} {s : State} (ho : tb_of off) (hts : ∀ w ∈ tb_TT, w.before args s = true) (hE : tb_En A sa s) : tb_G off ln fx A sa RX12 args s (516, 2, 260, 3) := trivial
theorem le_12_519 : tb_Le 12 (519, 2, 256, 2) := fun _ => ⟨lf_2_256, Or.inl (tg tw_1843 rfl)⟩
set_option maxRecDepth 20000 in
theorem pk_12_519 {off : Nat → Int → Option Int} {ln : Int → Option Nat} {fx : Bool} {A : Nat → Prop} {sa : Int → Nat} {args : Array Value} {s : State} (ho : tb_of off) (hts : ∀ w ∈ tb_TT, w.before args s = true) (hE : tb_En A sa s) : tb_G off ln fx A sa RX12 args s (519, 2, 256, 2) := trivial
theorem le_12_523 : tb_Le 12 (523, 2, 257, 6) := fun _ => ⟨lf_2_257, Or.inl (tg tw_1847 rfl)⟩
set_option maxRecDepth 20000 in
theorem pk_12_523 {off : Nat → Int → Option Int} {ln : Int → Option Nat} {fx : Bool} {A : Nat → Prop} {sa : Int → Nat} {args : Array Value} {s : State} (ho : tb_of off) (hts : ∀ w ∈ tb_TT, w.before args s = true) (hE : tb_En A sa s) : tb_G off ln fx A sa RX12 args s (523, 2, 257, 6) := trivial
theorem le_12_527 : tb_Le 12 (527, 5, 0, 3) := fun h => absurd h (by decide)
set_option maxRecDepth 20000 in
theorem pk_12_527 {off : Nat → Int → Option Int} {ln : Int → Option Nat} {fx : Bool} {A : Nat → Prop} {sa : Int → Nat} {args : Array Value} {s : State} (ho : tb_of off) (hts : ∀ w ∈ tb_TT, w.before args s = true) (hE : tb_En A sa s) : tb_G off ln fx A sa RX12 args s (527, 5, 0, 3) := ⟨3, hts _ (tg tw_1834 rfl), by decide +kernel⟩
theorem le_12_529 : tb_Le 12 (529, 2, 255, 4) := fun _ => ⟨lf_2_255, Or.inl (tg tw_1835 rfl)⟩
set_option maxRecDepth 20000 in
theorem pk_12_529 {off : Nat → Int → Option Int} {ln : Int → Option Nat} {fx : Bool} {A : Nat → Prop} {sa : Int → Nat} {args : Array Value} {s : State} (ho : tb_of off) (hts : ∀ w ∈ tb_TT, w.before args s = true) (hE : tb_En A sa s) : tb_G off ln fx A sa RX12 args s (529, 2, 255, 4) := trivial
theorem le_12_532 : tb_Le 12 (532, 2, 229, 2) := fun _ => ⟨lf_2_229, Or.inl (tg tw_1868 rfl)⟩
set_option maxRecDepth 20000 in
theorem pk_12_532 {off : Nat → Int → Option Int} {ln : Int → Option Nat} {fx : Bool} {A : Nat → Prop} {sa : Int → Nat} {args : Array Value} {s : State} (ho : tb_of off) (hts : ∀ w ∈ tb_TT, w.before args s = true) (hE : tb_En A sa s) : tb_G off ln fx A sa RX12 args s (532, 2, 229, 2) := trivial
theorem le_12_535 : tb_Le 12 (535, 5, 0, 100) := fun h => absurd h (by decide)
set_option maxRecDepth 20000 in
theorem pk_12_535 {off : Nat → Int → Option Int} {ln : Int → Option Nat} {fx : Bool} {A : Nat → Prop} {sa : Int → Nat} {args : Array Value} {s : State} (ho : tb_of off) (hts : ∀ w ∈ tb_TT, w.before args s = true) (hE : tb_En A sa s) : tb_G off ln fx A sa RX12 args s (535, 5, 0, 100) := ⟨100, hts _ (tg tw_1863 rfl), by decide +kernel⟩
theorem le_12_537 : tb_Le 12 (537, 2, 262, 4) := fun _ => ⟨lf_2_262, Or.inl (tg tw_1864 rfl)⟩
set_option maxRecDepth 20000 in
theorem pk_12_537 {off : Nat → Int → Option Int} {ln : Int → Option Nat} {fx : Bool} {A : Nat → Prop} {sa : Int → Nat} {args : Array Value} {s : State} (ho : tb_of off) (hts : ∀ w ∈ tb_TT, w.before args s = true) (hE : tb_En A sa s) : tb_G off ln fx A sa RX12 args s (537, 2, 262, 4) := trivial
theorem le_12_541 : tb_Le 12 (541, 5, 0, 1000) := fun h => absurd h (by decide)
set_option maxRecDepth 20000 in
theorem pk_12_541 {off : Nat → Int → Option Int} {ln : Int → Option Nat} {fx : Bool} {A : Nat → Prop} {sa : Int → Nat} {args : Array Value} {s : State} (ho : tb_of off) (hts : ∀ w ∈ tb_TT, w.before args s = true) (hE : tb_En A sa s) : tb_G off ln fx A sa RX12 args s (541, 5, 0, 1000) := ⟨1000, hts _ (tg tw_1872 rfl), by decide +kernel⟩
theorem le_12_543 : tb_Le 12 (543, 1, 12, 59) := fun h => absurd h (by decide)
set_option maxRecDepth 20000 in
theorem pk_12_543 {off : Nat → Int → Option Int} {ln : Int → Option Nat} {fx : Bool} {A : Nat → Prop} {sa : Int → Nat} {args : Array Value} {s : State} (ho : tb_of off) (hts : ∀ w ∈ tb_TT, w.before args s = true) (hE : tb_En A sa s) : tb_G off ln fx A sa RX12 args s (543, 1, 12, 59) := ⟨fk_12 59 (by decide) rfl (Or.inl (hts _ (tg tw_1262 rfl))), of_none ho rfl⟩
theorem le_12_546 : tb_Le 12 (546, 2, 266, 1) := fun _ => ⟨lf_2_266, Or.inl (tg tw_1881 rfl)⟩
set_option maxRecDepth 20000 in
theorem pk_12_546 {off : Nat → Int → Option Int} {ln : Int → Option Nat} {fx : Bool} {A : Nat → Prop} {sa : Int → Nat} {args : Array Value} {s : State} (ho : tb_of off) (hts : ∀ w ∈ tb_TT, w.before args s = true) (hE : tb_En A sa s) : tb_G off ln fx A sa RX12 args s (546, 2, 266, 1) := trivial
theorem le_12_549 : tb_Le 12 (549, 2, 264, 1) := fun _ => ⟨lf_2_264, Or.inl (tg tw_1885 rfl)⟩
set_option maxRecDepth 20000 in
theorem pk_12_549 {off : Nat → Int → Option Int} {ln : Int → Option Nat} {fx : Bool} {A : Nat → Prop} {sa : Int → Nat} {args : Array Value} {s : State} (ho : tb_of off) (hts : ∀ w ∈ tb_TT, w.before args s = true) (hE : tb_En A sa s) : tb_G off ln fx A sa RX12 args s (549, 2, 264, 1) := trivial
theorem le_12_552 : tb_Le 12 (552, 2, 220, 3) := fun _ => ⟨lf_2_220, Or.inl (tg tw_1889 rfl)⟩
set_option maxRecDepth 20000 in
theorem pk_12_552 {off : Nat → Int → Option Int} {ln : Int → Option Nat} {fx : Bool} {A : Nat → Prop} {sa : Int → Nat} {args : Array Value} {s : State} (ho : tb_of off) (hts : ∀ w ∈ tb_TT, w.before args s = true) (hE : tb_En A sa s) : tb_G off ln fx A sa RX12 args s (552, 2, 220, 3) := trivial
theorem le_12_555 : tb_Le 12 (555, 5, 0, (-1)) := fun h => absurd h (by decide)
set_option maxRecDepth 20000 in
theorem pk_12_555 {off : Nat → Int → Option Int} {ln : Int → Option Nat} {fx : Bool} {A : Nat → Prop} {sa : Int → Nat} {args : Array Value} {s : State} (ho : tb_of off) (hts : ∀ w ∈ tb_TT, w.before args s = true) (hE : tb_En A sa s) : tb_G off ln fx A sa RX12 args s (555, 5, 0, (-1)) := ⟨(-1), hts _ (tg tw_1901 rfl), by decide +kernel⟩
theorem le_12_557 : tb_Le 12 (557, 5, 0, 1103515245) := fun h => absurd h (by decide)
set_option maxRecDepth 20000 in
theorem pk_12_557 {off : Nat → Int → Option Int} {ln : Int → Option Nat} {fx : Bool} {A : Nat → Prop} {sa : Int → Nat} {args : Array Value} {s : State} (ho : tb_of off) (hts : ∀ w ∈ tb_TT, w.before args s = true) (hE : tb_En A sa s) : tb_G off ln fx A sa RX12 args s (557, 5, 0, 1103515245) := ⟨1103515245, hts _ (tg tw_1918 rfl), by decide +kernel⟩
theorem le_12_559 : tb_Le 12 (559, 5, 0, 12345) := fun h => absurd h (by decide)
set_option maxRecDepth 20000 in
theorem pk_12_559 {off : Nat → Int → Option Int} {ln : Int → Option Nat} {fx : Bool} {A : Nat → Prop} {sa : Int → Nat} {args : Array Value} {s : State} (ho : tb_of off) (hts : ∀ w ∈ tb_TT, w.before args s = true) (hE : tb_En A sa s) : tb_G off ln fx A sa RX12 args s (559, 5, 0, 12345) := ⟨12345, hts _ (tg tw_1919 rfl), by decide +kernel⟩
theorem le_12_561 : tb_Le 12 (561, 5, 0, 2147483648) := fun h => absurd h (by decide)
set_option maxRecDepth 20000 in
theorem pk_12_561 {off : Nat → Int → Option Int} {ln : Int → Option Nat} {fx : Bool} {A : Nat → Prop} {sa : Int → Nat} {args : Array Value} {s : State} (ho : tb_of off) (hts : ∀ w ∈ tb_TT, w.before args s = true) (hE : tb_En A sa s) : tb_G off ln fx A sa RX12 args s (561, 5, 0, 2147483648) := ⟨2147483648, hts _ (tg tw_1920 rfl), by decide +kernel⟩
theorem le_12_563 : tb_Le 12 (563, 5, 0, 64) := fun h => absurd h (by decide)
set_option maxRecDepth 20000 in
theorem pk_12_563 {off : Nat → Int → Option Int} {ln : Int → Option Nat} {fx : Bool} {A : Nat → Prop} {sa : Int → Nat} {args : Array Value} {s : State} (ho : tb_of off) (hts : ∀ w ∈ tb_TT, w.before args s = true) (hE : tb_En A sa s) : tb_G off ln fx A sa RX12 args s (563, 5, 0, 64) := ⟨64, hts _ (tg tw_1921 rfl), by decide +kernel⟩
theorem le_12_565 : tb_Le 12 (565, 2, 272, 2) := fun _ => ⟨lf_2_272, Or.inl (tg tw_1914 rfl)⟩
set_option maxRecDepth 20000 in
theorem pk_12_565 {off : Nat → Int → Option Int} {ln : Int → Option Nat} {fx : Bool} {A : Nat → Prop} {sa : Int → Nat} {args : Array Value} {s : State} (ho : tb_of off) (hts : ∀ w ∈ tb_TT, w.before args s = true) (hE : tb_En A sa s) : tb_G off ln fx A sa RX12 args s (565, 2, 272, 2) := trivial
theorem le_12_568 : tb_Le 12 (568, 5, 0, 20) := fun h => absurd h (by decide)
set_option maxRecDepth 20000 in
theorem pk_12_568 {off : Nat → Int → Option Int} {ln : Int → Option Nat} {fx : Bool} {A : Nat → Prop} {sa : Int → Nat} {args : Array Value} {s : State} (ho : tb_of off) (hts : ∀ w ∈ tb_TT, w.before args s = true) (hE : tb_En A sa s) : tb_G off ln fx A sa RX12 args s (568, 5, 0, 20) := ⟨20, hts _ (tg tw_1926 rfl), by decide +kernel⟩
theorem le_12_570 : tb_Le 12 (570, 1, 12, 62) := fun h => absurd h (by decide)
set_option maxRecDepth 20000 in
theorem pk_12_570 {off : Nat → Int → Option Int} {ln : Int → Option Nat} {fx : Bool} {A : Nat → Prop} {sa : Int → Nat} {args : Array Value} {s : State} (ho : tb_of off) (hts : ∀ w ∈ tb_TT, w.before args s = true) (hE : tb_En A sa s) : tb_G off ln fx A sa RX12 args s (570, 1, 12, 62) := ⟨fk_12 62 (by decide) rfl (Or.inl (hts _ (tg tw_1265 rfl))), of_none ho rfl⟩
theorem le_12_573 : tb_Le 12 (573, 2, 275, 3) := fun _ => ⟨lf_2_275, Or.inl (tg tw_1931 rfl)⟩
set_option maxRecDepth 20000 in
theorem pk_12_573 {off : Nat → Int → Option Int} {ln : Int → Option Nat} {fx : Bool} {A : Nat → Prop} {sa : Int → Nat} {args : Array Value} {s : State} (ho : tb_of off) (hts : ∀ w ∈ tb_TT, w.before args s = true) (hE : tb_En A sa s) : tb_G off ln fx A sa RX12 args s (573, 2, 275, 3) := trivial
theorem le_12_576 : tb_Le 12 (576, 1, 12, 83) := fun h => absurd h (by decide)
set_option maxRecDepth 20000 in
theorem pk_12_576 {off : Nat → Int → Option Int} {ln : Int → Option Nat} {fx : Bool} {A : Nat → Prop} {sa : Int → Nat} {args : Array Value} {s : State} (ho : tb_of off) (hts : ∀ w ∈ tb_TT, w.before args s = true) (hE : tb_En A sa s) : tb_G off ln fx A sa RX12 args s (576, 1, 12, 83) := ⟨fk_12 83 (by decide) rfl (Or.inl (hts _ (tg tw_1286 rfl))), of_none ho rfl⟩
theorem le_12_579 : tb_Le 12 (579, 1, 12, 86) := fun h => absurd h (by decide)
set_option maxRecDepth 20000 in
theorem pk_12_579 {off : Nat → Int → Option Int} {ln : Int → Option Nat} {fx : Bool} {A : Nat → Prop} {sa : Int → Nat} {args : Array Value} {s : State} (ho : tb_of off) (hts : ∀ w ∈ tb_TT, w.before args s = true) (hE : tb_En A sa s) : tb_G off ln fx A sa RX12 args s (579, 1, 12, 86) := ⟨fk_12 86 (by decide) rfl (Or.inl (hts _ (tg tw_1289 rfl))), of_none ho rfl⟩
theorem le_12_582 : tb_Le 12 (582, 1, 12, 85) := fun h => absurd h (by decide)
set_option maxRecDepth 20000 in
theorem pk_12_582 {off : Nat → Int → Option Int} {ln : Int → Option Nat} {fx : Bool} {A : Nat → Prop} {sa : Int → Nat} {args : Array Value} {s : State} (ho : tb_of off) (hts : ∀ w ∈ tb_TT, w.before args s = true) (hE : tb_En A sa s) : tb_G off ln fx A sa RX12 args s (582, 1, 12, 85) := ⟨fk_12 85 (by decide) rfl (Or.inl (hts _ (tg tw_1288 rfl))), of_none ho rfl⟩
theorem le_12_585 : tb_Le 12 (585, 2, 277, 2) := fun _ => ⟨lf_2_277, Or.inl (tg tw_1956 rfl)⟩
set_option maxRecDepth 20000 in
theorem pk_12_585 {off : Nat → Int → Option Int} {ln : Int → Option Nat} {fx : Bool} {A : Nat → Prop} {sa : Int → Nat} {args : Array Value} {s : State} (ho : tb_of off) (hts : ∀ w ∈ tb_TT, w.before args s = true) (hE : tb_En A sa s) : tb_G off ln fx A sa RX12 args s (585, 2, 277, 2) := trivial
theorem le_12_588 : tb_Le 12 (588, 1, 12, 87) := fun h => absurd h (by decide)
set_option maxRecDepth 20000 in
theorem pk_12_588 {off : Nat → Int → Option Int} {ln : Int → Option Nat} {fx : Bool} {A : Nat → Prop} {sa : Int → Nat} {args : Array Value} {s : State} (ho : tb_of off) (hts : ∀ w ∈ tb_TT, w.before args s = true) (hE : tb_En A sa s) : tb_G off ln fx A sa RX12 args s (588, 1, 12, 87) := ⟨fk_12 87 (by decide) rfl (Or.inl (hts _ (tg tw_1290 rfl))), of_none ho rfl⟩
theorem le_12_591 : tb_Le 12 (591, 12, 281, 1) := fun _ => ⟨lf_12_281, Or.inl (tg tw_1996 rfl)⟩
set_option maxRecDepth 20000 in
theorem pk_12_591 {off : Nat → Int → Option Int} {ln : Int → Option Nat} {fx : Bool} {A : Nat → Prop} {sa : Int → Nat} {args : Array Value} {s : State} (ho : tb_of off) (hts : ∀ w ∈ tb_TT, w.before args s = true) (hE : tb_En A sa s) : tb_G off ln fx A sa RX12 args s (591, 12, 281, 1) := trivial
theorem le_12_594 : tb_Le 12 (594, 2, 280, 1) := fun _ => ⟨lf_2_280, Or.inl (tg tw_1984 rfl)⟩
set_option maxRecDepth 20000 in
theorem pk_12_594 {off : Nat → Int → Option Int} {ln : Int → Option Nat} {fx : Bool} {A : Nat → Prop} {sa : Int → Nat} {args : Array Value} {s : State} (ho : tb_of off) (hts : ∀ w ∈ tb_TT, w.before args s = true) (hE : tb_En A sa s) : tb_G off ln fx A sa RX12 args s (594, 2, 280, 1) := trivial
theorem le_12_597 : tb_Le 12 (597, 2, 284, 1) := fun _ => ⟨lf_2_284, Or.inl (tg tw_1972 rfl)⟩
set_option maxRecDepth 20000 in
theorem pk_12_597 {off : Nat → Int → Option Int} {ln : Int → Option Nat} {fx : Bool} {A : Nat → Prop} {sa : Int → Nat} {args : Array Value} {s : State} (ho : tb_of off) (hts : ∀ w ∈ tb_TT, w.before args s = true) (hE : tb_En A sa s) : tb_G off ln fx A sa RX12 args s (597, 2, 284, 1) := trivial
theorem le_12_600 : tb_Le 12 (600, 2, 285, 3) := fun _ => ⟨lf_2_285, Or.inl (tg tw_1968 rfl)⟩
set_option maxRecDepth 20000 in
theorem pk_12_600 {off : Nat → Int → Option Int} {ln : Int → Option Nat} {fx : Bool} {A : Nat → Prop} {sa : Int → Nat} {args : Array Value} {s : State} (ho : tb_of off) (hts : ∀ w ∈ tb_TT, w.before args s = true) (hE : tb_En A sa s) : tb_G off ln fx A sa RX12 args s (600, 2, 285, 3) := trivial
theorem le_12_603 : tb_Le 12 (603, 2, 278, 3) := fun _ => ⟨lf_2_278, Or.inl (tg tw_1948 rfl)⟩
set_option maxRecDepth 20000 in
theorem pk_12_603 {off : Nat → Int → Option Int} {ln : Int → Option Nat} {fx : Bool} {A : Nat → Prop} {sa : Int → Nat} {args : Array Value} {s : State} (ho : tb_of off) (hts : ∀ w ∈ tb_TT, w.before args s = true) (hE : tb_En A sa s) : tb_G off ln fx A sa RX12 args s (603, 2, 278, 3) := trivial
theorem le_12_606 : tb_Le 12 (606, 2, 286, 2) := fun _ => ⟨lf_2_286, Or.inl (tg tw_1976 rfl)⟩
set_option maxRecDepth 20000 in
theorem pk_12_606 {off : Nat → Int → Option Int} {ln : Int → Option Nat} {fx : Bool} {A : Nat → Prop} {sa : Int → Nat} {args : Array Value} {s : State} (ho : tb_of off) (hts : ∀ w ∈ tb_TT, w.before args s = true) (hE : tb_En A sa s) : tb_G off ln fx A sa RX12 args s (606, 2, 286, 2) := trivial
theorem le_12_609 : tb_Le 12 (609, 2, 287, 1) := fun _ => ⟨lf_2_287, Or.inl (tg tw_1980 rfl)⟩
set_option maxRecDepth 20000 in
theorem pk_12_609 {off : Nat → Int → Option Int} {ln : Int → Option Nat} {fx : Bool} {A : Nat → Prop} {sa : Int → Nat} {args : Array Value} {s : State} (ho : tb_of off) (hts : ∀ w ∈ tb_TT, w.before args s = true) (hE : tb_En A sa s) : tb_G off ln fx A sa RX12 args s (609, 2, 287, 1) := trivial
theorem le_12_612 : tb_Le 12 (612, 2, 282, 1) := fun _ => ⟨lf_2_282, Or.inl (tg tw_1992 rfl)⟩
set_option maxRecDepth 20000 in
theorem pk_12_612 {off : Nat → Int → Option Int} {ln : Int → Option Nat} {fx : Bool} {A : Nat → Prop} {sa : Int → Nat} {args : Array Value} {s : State} (ho : tb_of off) (hts : ∀ w ∈ tb_TT, w.before args s = true) (hE : tb_En A sa s) : tb_G off ln fx A sa RX12 args s (612, 2, 282, 1) := trivial
theorem le_12_615 : tb_Le 12 (615, 2, 283, 1) := fun _ => ⟨lf_2_283, Or.inl (tg tw_1999 rfl)⟩
set_option maxRecDepth 20000 in
theorem pk_12_615 {off : Nat → Int → Option Int} {ln : Int → Option Nat} {fx : Bool} {A : Nat → Prop} {sa : Int → Nat} {args : Array Value} {s : State} (ho : tb_of off) (hts : ∀ w ∈ tb_TT, w.before args s = true) (hE : tb_En A sa s) : tb_G off ln fx A sa RX12 args s (615, 2, 283, 1) := trivial
theorem le_12_618 : tb_Le 12 (618, 2, 279, 2) := fun _ => ⟨lf_2_279, Or.inl (tg tw_2003 rfl)⟩
set_option maxRecDepth 20000 in
theorem pk_12_618 {off : Nat → Int → Option Int} {ln : Int → Option Nat} {fx : Bool} {A : Nat → Prop} {sa : Int → Nat} {args : Array Value} {s : State} (ho : tb_of off) (hts : ∀ w ∈ tb_TT, w.before args s = true) (hE : tb_En A sa s) : tb_G off ln fx A sa RX12 args s (618, 2, 279, 2) := trivial
theorem le_12_621 : tb_Le 12 (621, 2, 288, 1) := fun _ => ⟨lf_2_288, Or.inl (tg tw_1964 rfl)⟩
set_option maxRecDepth 20000 in
theorem pk_12_621 {off : Nat → Int → Option Int} {ln : Int → Option Nat} {fx : Bool} {A : Nat → Prop} {sa : Int → Nat} {args : Array Value} {s : State} (ho : tb_of off) (hts : ∀ w ∈ tb_TT, w.before args s = true) (hE : tb_En A sa s) : tb_G off ln fx A sa RX12 args s (621, 2, 288, 1) := trivial
theorem le_12_624 : tb_Le 12 (624, 2, 289, 1) := fun _ => ⟨lf_2_289, Or.inl (tg tw_1988 rfl)⟩
set_option maxRecDepth 20000 in
theorem pk_12_624 {off : Nat → Int → Option Int} {ln : Int → Option Nat} {fx : Bool} {A : Nat → Prop} {sa : Int → Nat} {args : Array Value} {s : State} (ho : tb_of off) (hts : ∀ w ∈ tb_TT, w.before args s = true) (hE : tb_En A sa s) : tb_G off ln fx A sa RX12 args s (624, 2, 289, 1) := trivial
theorem le_12_627 : tb_Le 12 (627, 2, 290, 1) := fun _ => ⟨lf_2_290, Or.inl (tg tw_1960 rfl)⟩
set_option maxRecDepth 20000 in
theorem pk_12_627 {off : Nat → Int → Option Int} {ln : Int → Option Nat} {fx : Bool} {A : Nat → Prop} {sa : Int → Nat} {args : Array Value} {s : State} (ho : tb_of off) (hts : ∀ w ∈ tb_TT, w.before args s = true) (hE : tb_En A sa s) : tb_G off ln fx A sa RX12 args s (627, 2, 290, 1) := trivial
theorem le_12_630 : tb_Le 12 (630, 2, 291, 1) := fun _ => ⟨lf_2_291, Or.inl (tg tw_1952 rfl)⟩
set_option maxRecDepth 20000 in
theorem pk_12_630 {off : Nat → Int → Option Int} {ln : Int → Option Nat} {fx : Bool} {A : Nat → Prop} {sa : Int → Nat} {args : Array Value} {s : State} (ho : tb_of off) (hts : ∀ w ∈ tb_TT, w.before args s = true) (hE : tb_En A sa s) : tb_G off ln fx A sa RX12 args s (630, 2, 291, 1) := trivial
theorem le_12_633 : tb_Le 12 (633, 2, 293, 1) := fun _ => ⟨lf_2_293, Or.inl (tg tw_2007 rfl)⟩
set_option maxRecDepth 20000 in
theorem pk_12_633 {off : Nat → Int → Option Int} {ln : Int → Option Nat} {fx : Bool} {A : Nat → Prop} {sa : Int → Nat} {args : Array Value} {s : State} (ho : tb_of off) (hts : ∀ w ∈ tb_TT, w.before args s = true) (hE : tb_En A sa s) : tb_G off ln fx A sa RX12 args s (633, 2, 293, 1) := trivial
theorem le_12_636 : tb_Le 12 (636, 2, 295, 1) := fun _ => ⟨lf_2_295, Or.inl (tg tw_2011 rfl)⟩
set_option maxRecDepth 20000 in
theorem pk_12_636 {off : Nat → Int → Option Int} {ln : Int → Option Nat} {fx : Bool} {A : Nat → Prop} {sa : Int → Nat} {args : Array Value} {s : State} (ho : tb_of off) (hts : ∀ w ∈ tb_TT, w.before args s = true) (hE : tb_En A sa s) : tb_G off ln fx A sa RX12 args s (636, 2, 295, 1) := trivial
theorem le_12_639 : tb_Le 12 (639, 2, 292, 1) := fun _ => ⟨lf_2_292, Or.inl (tg tw_2015 rfl)⟩
set_option maxRecDepth 20000 in
theorem pk_12_639 {off : Nat → Int → Option Int} {ln : Int → Option Nat} {fx : Bool} {A : Nat → Prop} {sa : Int → Nat} {args : Array Value} {s : State} (ho : tb_of off) (hts : ∀ w ∈ tb_TT, w.before args s = true) (hE : tb_En A sa s) : tb_G off ln fx A sa RX12 args s (639, 2, 292, 1) := trivial
theorem le_12_642 : tb_Le 12 (642, 1, 12, 89) := fun h => absurd h (by decide)
set_option maxRecDepth 20000 in
theorem pk_12_642 {off : Nat → Int → Option Int} {ln : Int → Option Nat} {fx : Bool} {A : Nat → Prop} {sa : Int → Nat} {args : Array Value} {s : State} (ho : tb_of off) (hts : ∀ w ∈ tb_TT, w.before args s = true) (hE : tb_En A sa s) : tb_G off ln fx A sa RX12 args s (642, 1, 12, 89) := ⟨fk_12 89 (by decide) rfl (Or.inl (hts _ (tg tw_1292 rfl))), of_none ho rfl⟩
theorem le_12_645 : tb_Le 12 (645, 12, 296, 1) := fun _ => ⟨lf_12_296, Or.inl (tg tw_2031 rfl)⟩
set_option maxRecDepth 20000 in
theorem pk_12_645 {off : Nat → Int → Option Int} {ln : Int → Option Nat} {fx : Bool} {A : Nat → Prop} {sa : Int → Nat} {args : Array Value} {s : State} (ho : tb_of off) (hts : ∀ w ∈ tb_TT, w.before args s = true) (hE : tb_En A sa s) : tb_G off ln fx A sa RX12 args s (645, 12, 296, 1) := trivial
theorem le_12_648 : tb_Le 12 (648, 2, 298, 2) := fun _ => ⟨lf_2_298, Or.inl (tg tw_2023 rfl)⟩
set_option maxRecDepth 20000 in
theorem pk_12_648 {off : Nat → Int → Option Int} {ln : Int → Option Nat} {fx : Bool} {A : Nat → Prop} {sa : Int → Nat} {args : Array Value} {s : State} (ho : tb_of off) (hts : ∀ w ∈ tb_TT, w.before args s = true) (hE : tb_En A sa s) : tb_G off ln fx A sa RX12 args s (648, 2, 298, 2) := trivial
theorem le_12_651 : tb_Le 12 (651, 12, 297, 2) := fun _ => ⟨lf_12_297, Or.inl (tg tw_2046 rfl)⟩
set_option maxRecDepth 20000 in
theorem pk_12_651 {off : Nat → Int → Option Int} {ln : Int → Option Nat} {fx : Bool} {A : Nat → Prop} {sa : Int → Nat} {args : Array Value} {s : State} (ho : tb_of off) (hts : ∀ w ∈ tb_TT, w.before args s = true) (hE : tb_En A sa s) : tb_G off ln fx A sa RX12 args s (651, 12, 297, 2) := trivial
theorem le_12_654 : tb_Le 12 (654, 2, 306, 2) := fun _ => ⟨lf_2_306, Or.inl (tg tw_2038 rfl)⟩
set_option maxRecDepth 20000 in
theorem pk_12_654 {off : Nat → Int → Option Int} {ln : Int → Option Nat} {fx : Bool} {A : Nat → Prop} {sa : Int → Nat} {args : Array Value} {s : State} (ho : tb_of off) (hts : ∀ w ∈ tb_TT, w.before args s = true) (hE : tb_En A sa s) : tb_G off ln fx A sa RX12 args s (654, 2, 306, 2) := trivial
theorem le_12_658 : tb_Le 12 (658, 2, 301, 4) := fun _ => ⟨lf_2_301, Or.inl (tg tw_2027 rfl)⟩
set_option maxRecDepth 20000 in
theorem pk_12_658 {off : Nat → Int → Option Int} {ln : Int → Option Nat} {fx : Bool} {A : Nat → Prop} {sa : Int → Nat} {args : Array Value} {s : State} (ho : tb_of off) (hts : ∀ w ∈ tb_TT, w.before args s = true) (hE : tb_En A sa s) : tb_G off ln fx A sa RX12 args s (658, 2, 301, 4) := trivial
theorem le_12_662 : tb_Le 12 (662, 2, 300, 3) := fun _ => ⟨lf_2_300, Or.inl (tg tw_2034 rfl)⟩
set_option maxRecDepth 20000 in
theorem pk_12_662 {off : Nat → Int → Option Int} {ln : Int → Option Nat} {fx : Bool} {A : Nat → Prop} {sa : Int → Nat} {args : Array Value} {s : State} (ho : tb_of off) (hts : ∀ w ∈ tb_TT, w.before args s = true) (hE : tb_En A sa s) : tb_G off ln fx A sa RX12 args s (662, 2, 300, 3) := trivial
theorem le_12_666 : tb_Le 12 (666, 2, 299, 2) := fun _ => ⟨lf_2_299, Or.inl (tg tw_2042 rfl)⟩
set_option maxRecDepth 20000 in
theorem pk_12_666 {off : Nat → Int → Option Int} {ln : Int → Option Nat} {fx : Bool} {A : Nat → Prop} {sa : Int → Nat} {args : Array Value} {s : State} (ho : tb_of off) (hts : ∀ w ∈ tb_TT, w.before args s = true) (hE : tb_En A sa s) : tb_G off ln fx A sa RX12 args s (666, 2, 299, 2) := trivial
theorem le_12_669 : tb_Le 12 (669, 1, 12, 90) := fun h => absurd h (by decide)
set_option maxRecDepth 20000 in
theorem pk_12_669 {off : Nat → Int → Option Int} {ln : Int → Option Nat} {fx : Bool} {A : Nat → Prop} {sa : Int → Nat} {args : Array Value} {s : State} (ho : tb_of off) (hts : ∀ w ∈ tb_TT, w.before args s = true) (hE : tb_En A sa s) : tb_G off ln fx A sa RX12 args s (669, 1, 12, 90) := ⟨fk_12 90 (by decide) rfl (Or.inl (hts _ (tg tw_1293 rfl))), of_none ho rfl⟩
theorem le_12_672 : tb_Le 12 (672, 1, 12, 91) := fun h => absurd h (by decide)
set_option maxRecDepth 20000 in
theorem pk_12_672 {off : Nat → Int → Option Int} {ln : Int → Option Nat} {fx : Bool} {A : Nat → Prop} {sa : Int → Nat} {args : Array Value} {s : State} (ho : tb_of off) (hts : ∀ w ∈ tb_TT, w.before args s = true) (hE : tb_En A sa s) : tb_G off ln fx A sa RX12 args s (672, 1, 12, 91) := ⟨fk_12 91 (by decide) rfl (Or.inl (hts _ (tg tw_1294 rfl))), of_none ho rfl⟩
theorem le_12_676 : tb_Le 12 (676, 5, 0, (-1000000000000000)) := fun h => absurd h (by decide)
set_option maxRecDepth 20000 in
theorem pk_12_676 {off : Nat → Int → Option Int} {ln : Int → Option Nat} {fx : Bool} {A : Nat → Prop} {sa : Int → Nat} {args : Array Value} {s : State} (ho : tb_of off) (hts : ∀ w ∈ tb_TT, w.before args s = true) (hE : tb_En A sa s) : tb_G off ln fx A sa RX12 args s (676, 5, 0, (-1000000000000000)) := ⟨(-1000000000000000), hts _ (tg tw_1939 rfl), by decide +kernel⟩
theorem le_12_678 : tb_Le 12 (678, 2, 303, 1) := fun _ => ⟨lf_2_303, Or.inl (tg tw_1940 rfl)⟩
set_option maxRecDepth 20000 in
theorem pk_12_678 {off : Nat → Int → Option Int} {ln : Int → Option Nat} {fx : Bool} {A : Nat → Prop} {sa : Int → Nat} {args : Array Value} {s : State} (ho : tb_of off) (hts : ∀ w ∈ tb_TT, w.before args s = true) (hE : tb_En A sa s) : tb_G off ln fx A sa RX12 args s (678, 2, 303, 1) := trivial
theorem le_12_681 : tb_Le 12 (681, 2, 294, 1) := fun _ => ⟨lf_2_294, Or.inl (tg tw_1944 rfl)⟩
set_option maxRecDepth 20000 in
theorem pk_12_681 {off : Nat → Int → Option Int} {ln : Int → Option Nat} {fx : Bool} {A : Nat → Prop} {sa : Int → Nat} {args : Array Value} {s : State} (ho : tb_of off) (hts : ∀ w ∈ tb_TT, w.before args s = true) (hE : tb_En A sa s) : tb_G off ln fx A sa RX12 args s (681, 2, 294, 1) := trivial
theorem le_12_684 : tb_Le 12 (684, 2, 302, 2) := fun _ => ⟨lf_2_302, Or.inl (tg tw_2019 rfl)⟩
set_option maxRecDepth 20000 in
theorem pk_12_684 {off : Nat → Int → Option Int} {ln : Int → Option Nat} {fx : Bool} {A : Nat → Prop} {sa : Int → Nat} {args : Array Value} {s : State} (ho : tb_of off) (hts : ∀ w ∈ tb_TT, w.before args s = true) (hE : tb_En A sa s) : tb_G off ln fx A sa RX12 args s (684, 2, 302, 2) := trivial
theorem le_12_687 : tb_Le 12 (687, 2, 304, 4) := fun _ => ⟨lf_2_304, Or.inl (tg tw_2049 rfl)⟩
set_option maxRecDepth 20000 in
theorem pk_12_687 {off : Nat → Int → Option Int} {ln : Int → Option Nat} {fx : Bool} {A : Nat → Prop} {sa : Int → Nat} {args : Array Value} {s : State} (ho : tb_of off) (hts : ∀ w ∈ tb_TT, w.before args s = true) (hE : tb_En A sa s) : tb_G off ln fx A sa RX12 args s (687, 2, 304, 4) := trivial
theorem le_12_691 : tb_Le 12 (691, 1, 12, 93) := fun h => absurd h (by decide)
set_option maxRecDepth 20000 in
theorem pk_12_691 {off : Nat → Int → Option Int} {ln : Int → Option Nat} {fx : Bool} {A : Nat → Prop} {sa : Int → Nat} {args : Array Value} {s : State} (ho : tb_of off) (hts : ∀ w ∈ tb_TT, w.before args s = true) (hE : tb_En A sa s) : tb_G off ln fx A sa RX12 args s (691, 1, 12, 93) := ⟨fk_12 93 (by decide) rfl (Or.inl (hts _ (tg tw_1296 rfl))), of_none ho rfl⟩
theorem le_12_694 : tb_Le 12 (694, 2, 308, 2) := fun _ => ⟨lf_2_308, Or.inl (tg tw_2057 rfl)⟩
set_option maxRecDepth 20000 in
theorem pk_12_694 {off : Nat → Int → Option Int} {ln : Int → Option Nat} {fx : Bool} {A : Nat → Prop} {sa : Int → Nat} {args : Array Value} {s : State} (ho : tb_of off) (hts : ∀ w ∈ tb_TT, w.before args s = true) (hE : tb_En A sa s) : tb_G off ln fx A sa RX12 args s (694, 2, 308, 2) := trivial
theorem le_12_697 : tb_Le 12 (697, 12, 307, 2) := fun _ => ⟨lf_12_307, Or.inl (tg tw_2061 rfl)⟩
set_option maxRecDepth 20000 in
theorem pk_12_697 {off : Nat → Int → Option Int} {ln : Int → Option Nat} {fx : Bool} {A : Nat → Prop} {sa : Int → Nat} {args : Array Value} {s : State} (ho : tb_of off) (hts : ∀ w ∈ tb_TT, w.before args s = true) (hE : tb_En A sa s) : tb_G off ln fx A sa RX12 args s (697, 12, 307, 2) := trivial
theorem le_12_701 : tb_Le 12 (701, 2, 311, 2) := fun _ => ⟨lf_2_311, Or.inl (tg tw_2072 rfl)⟩
set_option maxRecDepth 20000 in
theorem pk_12_701 {off : Nat → Int → Option Int} {ln : Int → Option Nat} {fx : Bool} {A : Nat → Prop} {sa : Int → Nat} {args : Array Value} {s : State} (ho : tb_of off) (hts : ∀ w ∈ tb_TT, w.before args s = true) (hE : tb_En A sa s) : tb_G off ln fx A sa RX12 args s (701, 2, 311, 2) := trivial
set_option maxRecDepth 20000 in
theorem le_12 : ∀ e ∈ pl_12, tb_Le 12 e := List.forall_mem_cons.mpr ⟨le_12_1, List.forall_mem_cons.mpr ⟨le_12_7, List.forall_mem_cons.mpr ⟨le_12_13, List.forall_mem_cons.mpr ⟨le_12_17, List.forall_mem_cons.mpr ⟨le_12_20, List.forall_mem_cons.mpr ⟨le_12_24, List.forall_mem_cons.mpr ⟨le_12_27, List.forall_mem_cons.mpr ⟨le_12_30, List.forall_mem_cons.mpr ⟨le_12_33, List.forall_mem_cons.mpr ⟨le_12_36, List.forall_mem_cons.mpr ⟨le_12_39, List.forall_mem_cons.mpr ⟨le_12_42, List.forall_mem_cons.mpr ⟨le_12_45, List.forall_mem_cons.mpr ⟨le_12_48, List.forall_mem_cons.mpr ⟨le_12_51, List.forall_mem_cons.mpr ⟨le_12_54, List.forall_mem_cons.mpr ⟨le_12_57, List.forall_mem_cons.mpr ⟨le_12_60, List.forall_mem_cons.mpr ⟨le_12_63, List.forall_mem_cons.mpr ⟨le_12_66, List.forall_mem_cons.mpr ⟨le_12_69, List.forall_mem_cons.mpr ⟨le_12_72, List.forall_mem_cons.mpr ⟨le_12_75, List.forall_mem_cons.mpr ⟨le_12_78, List.forall_mem_cons.mpr ⟨le_12_81, List.forall_mem_cons.mpr ⟨le_12_85, List.forall_mem_cons.mpr ⟨le_12_88, List.forall_mem_cons.mpr ⟨le_12_91, List.forall_mem_cons.mpr ⟨le_12_94, List.forall_mem_cons.mpr ⟨le_12_97, List.forall_mem_cons.mpr ⟨le_12_100, List.forall_mem_cons.mpr ⟨le_12_103, List.forall_mem_cons.mpr ⟨le_12_106, List.forall_mem_cons.mpr ⟨le_12_109, List.forall_mem_cons.mpr ⟨le_12_112, List.forall_mem_cons.mpr ⟨le_12_115, List.forall_mem_cons.mpr ⟨le_12_118, List.forall_mem_cons.mpr ⟨le_12_121, List.forall_mem_cons.mpr ⟨le_12_124, List.forall_mem_cons.mpr ⟨le_12_127, List.forall_mem_cons.mpr ⟨le_12_130, List.forall_mem_cons.mpr ⟨le_12_133, List.forall_mem_cons.mpr ⟨le_12_137, List.forall_mem_cons.mpr ⟨le_12_140, List.forall_mem_cons.mpr ⟨le_12_143, List.forall_mem_cons.mpr ⟨le_12_146, List.forall_mem_cons.mpr ⟨le_12_149, List.forall_mem_cons.mpr ⟨le_12_152, List.forall_mem_cons.mpr ⟨le_12_155, List.forall_mem_cons.mpr ⟨le_12_158, List.forall_mem_cons.mpr ⟨le_12_161, List.forall_mem_cons.mpr ⟨le_12_164, List.forall_mem_cons.mpr ⟨le_12_167, List.forall_mem_cons.mpr ⟨le_12_170, List.forall_mem_cons.mpr ⟨le_12_173, List.forall_mem_cons.mpr ⟨le_12_176, List.forall_mem_cons.mpr ⟨le_12_179, List.forall_mem_cons.mpr ⟨le_12_182, List.forall_mem_cons.mpr ⟨le_12_185, List.forall_mem_cons.mpr ⟨le_12_188, List.forall_mem_cons.mpr ⟨le_12_191, List.forall_mem_cons.mpr ⟨le_12_194, List.forall_mem_cons.mpr ⟨le_12_197, List.forall_mem_cons.mpr ⟨le_12_200, List.forall_mem_cons.mpr ⟨le_12_203, List.forall_mem_cons.mpr ⟨le_12_206, List.forall_mem_cons.mpr ⟨le_12_209, List.forall_mem_cons.mpr ⟨le_12_212, List.forall_mem_cons.mpr ⟨le_12_215, List.forall_mem_cons.mpr ⟨le_12_218, List.forall_mem_cons.mpr ⟨le_12_221, List.forall_mem_cons.mpr ⟨le_12_225, List.forall_mem_cons.mpr ⟨le_12_229, List.forall_mem_cons.mpr ⟨le_12_232, List.forall_mem_cons.mpr ⟨le_12_236, List.forall_mem_cons.mpr ⟨le_12_239, List.forall_mem_cons.mpr ⟨le_12_243, List.forall_mem_cons.mpr ⟨le_12_246, List.forall_mem_cons.mpr ⟨le_12_249, List.forall_mem_cons.mpr ⟨le_12_253, List.forall_mem_cons.mpr ⟨le_12_257, List.forall_mem_cons.mpr ⟨le_12_260, List.forall_mem_cons.mpr ⟨le_12_262, List.forall_mem_cons.mpr ⟨le_12_264, List.forall_mem_cons.mpr ⟨le_12_268, List.forall_mem_cons.mpr ⟨le_12_272, List.forall_mem_cons.mpr ⟨le_12_276, List.forall_mem_cons.mpr ⟨le_12_279, List.forall_mem_cons.mpr ⟨le_12_283, List.forall_mem_cons.mpr ⟨le_12_287, List.forall_mem_cons.mpr ⟨le_12_291, List.forall_mem_cons.mpr ⟨le_12_294, List.forall_mem_cons.mpr ⟨le_12_297, List.forall_mem_cons.mpr ⟨le_12_300, List.forall_mem_cons.mpr ⟨le_12_303, List.forall_mem_cons.mpr ⟨le_12_306, List.forall_mem_cons.mpr ⟨le_12_309, List.forall_mem_cons.mpr ⟨le_12_313, List.forall_mem_cons.mpr ⟨le_12_316, List.forall_mem_cons.mpr ⟨le_12_319, List.forall_mem_cons.mpr ⟨le_12_322, List.forall_mem_cons.mpr ⟨le_12_325, List.forall_mem_cons.mpr ⟨le_12_328, List.forall_mem_cons.mpr ⟨le_12_331, List.forall_mem_cons.mpr ⟨le_12_334, List.forall_mem_cons.mpr ⟨le_12_337, List.forall_mem_cons.mpr ⟨le_12_340, List.forall_mem_cons.mpr ⟨le_12_343, List.forall_mem_cons.mpr ⟨le_12_346, List.forall_mem_cons.mpr ⟨le_12_349, List.forall_mem_cons.mpr ⟨le_12_352, List.forall_mem_cons.mpr ⟨le_12_355, List.forall_mem_cons.mpr ⟨le_12_358, List.forall_mem_cons.mpr ⟨le_12_361, List.forall_mem_cons.mpr ⟨le_12_364, List.forall_mem_cons.mpr ⟨le_12_367, List.forall_mem_cons.mpr ⟨le_12_370, List.forall_mem_cons.mpr ⟨le_12_372, List.forall_mem_cons.mpr ⟨le_12_374, List.forall_mem_cons.mpr ⟨le_12_377, List.forall_mem_cons.mpr ⟨le_12_381, List.forall_mem_cons.mpr ⟨le_12_385, List.forall_mem_cons.mpr ⟨le_12_389, List.forall_mem_cons.mpr ⟨le_12_392, List.forall_mem_cons.mpr ⟨le_12_395, List.forall_mem_cons.mpr ⟨le_12_398, List.forall_mem_cons.mpr ⟨le_12_401, List.forall_mem_cons.mpr ⟨le_12_404, List.forall_mem_cons.mpr ⟨le_12_408, List.forall_mem_cons.mpr ⟨le_12_411, List.forall_mem_cons.mpr ⟨le_12_414, List.forall_mem_cons.mpr ⟨le_12_416, List.forall_mem_cons.mpr ⟨le_12_418, List.forall_mem_cons.mpr ⟨le_12_421, List.forall_mem_cons.mpr ⟨le_12_423, List.forall_mem_cons.mpr ⟨le_12_426, List.forall_mem_cons.mpr ⟨le_12_430, List.forall_mem_cons.mpr ⟨le_12_433, List.forall_mem_cons.mpr ⟨le_12_436, List.forall_mem_cons.mpr ⟨le_12_439, List.forall_mem_cons.mpr ⟨le_12_442, List.forall_mem_cons.mpr ⟨le_12_444, List.forall_mem_cons.mpr ⟨le_12_446, List.forall_mem_cons.mpr ⟨le_12_449, List.forall_mem_cons.mpr ⟨le_12_452, List.forall_mem_cons.mpr ⟨le_12_455, List.forall_mem_cons.mpr ⟨le_12_457, List.forall_mem_cons.mpr ⟨le_12_460, List.forall_mem_cons.mpr ⟨le_12_463, List.forall_mem_cons.mpr ⟨le_12_467, List.forall_mem_cons.mpr ⟨le_12_469, List.forall_mem_cons.mpr ⟨le_12_472, List.forall_mem_cons.mpr ⟨le_12_474, List.forall_mem_cons.mpr ⟨le_12_478, List.forall_mem_cons.mpr ⟨le_12_482, List.forall_mem_cons.mpr ⟨le_12_485, List.forall_mem_cons.mpr ⟨le_12_488, List.forall_mem_cons.mpr ⟨le_12_492, List.forall_mem_cons.mpr ⟨le_12_495, List.forall_mem_cons.mpr ⟨le_12_498, List.forall_mem_cons.mpr ⟨le_12_501, List.forall_mem_cons.mpr ⟨le_12_504, List.forall_mem_cons.mpr ⟨le_12_507, List.forall_mem_cons.mpr ⟨le_12_510, List.forall_mem_cons.mpr ⟨le_12_513, List.forall_mem_cons.mpr ⟨le_12_516, List.forall_mem_cons.mpr ⟨le_12_519, List.forall_mem_cons.mpr ⟨le_12_523, List.forall_mem_cons.mpr ⟨le_12_527, List.forall_mem_cons.mpr ⟨le_12_529, List.forall_mem_cons.mpr ⟨le_12_532, List.forall_mem_cons.mpr ⟨le_12_535, List.forall_mem_cons.mpr ⟨le_12_537, List.forall_mem_cons.mpr ⟨le_12_541, List.forall_mem_cons.mpr ⟨le_12_543, List.forall_mem_cons.mpr ⟨le_12_546, List.forall_mem_cons.mpr ⟨le_12_549, List.forall_mem_cons.mpr ⟨le_12_552, List.forall_mem_cons.mpr ⟨le_12_555, List.forall_mem_cons.mpr ⟨le_12_557, List.forall_mem_cons.mpr ⟨le_12_559, List.forall_mem_cons.mpr ⟨le_12_561, List.forall_mem_cons.mpr ⟨le_12_563, List.forall_mem_cons.mpr ⟨le_12_565, List.forall_mem_cons.mpr ⟨le_12_568, List.forall_mem_cons.mpr ⟨le_12_570, List.forall_mem_cons.mpr ⟨le_12_573, List.forall_mem_cons.mpr ⟨le_12_576, List.forall_mem_cons.mpr ⟨le_12_579, List.forall_mem_cons.mpr ⟨le_12_582, List.forall_mem_cons.mpr ⟨le_12_585, List.forall_mem_cons.mpr ⟨le_12_588, List.forall_mem_cons.mpr ⟨le_12_591, List.forall_mem_cons.mpr ⟨le_12_594, List.forall_mem_cons.mpr ⟨le_12_597, List.forall_mem_cons.mpr ⟨le_12_600, List.forall_mem_cons.mpr ⟨le_12_603, List.forall_mem_cons.mpr ⟨le_12_606, List.forall_mem_cons.mpr ⟨le_12_609, List.forall_mem_cons.mpr ⟨le_12_612, List.forall_mem_cons.mpr ⟨le_12_615, List.forall_mem_cons.mpr ⟨le_12_618, List.forall_mem_cons.mpr ⟨le_12_621, List.forall_mem_cons.mpr ⟨le_12_624, List.forall_mem_cons.mpr ⟨le_12_627, List.forall_mem_cons.mpr ⟨le_12_630, List.forall_mem_cons.mpr ⟨le_12_633, List.forall_mem_cons.mpr ⟨le_12_636, List.forall_mem_cons.mpr ⟨le_12_639, List.forall_mem_cons.mpr ⟨le_12_642, List.forall_mem_cons.mpr ⟨le_12_645, List.forall_mem_cons.mpr ⟨le_12_648, List.forall_mem_cons.mpr ⟨le_12_651, List.forall_mem_cons.mpr ⟨le_12_654, List.forall_mem_cons.mpr ⟨le_12_658, List.forall_mem_cons.mpr ⟨le_12_662, List.forall_mem_cons.mpr ⟨le_12_666, List.forall_mem_cons.mpr ⟨le_12_669, List.forall_mem_cons.mpr ⟨le_12_672, List.forall_mem_cons.mpr ⟨le_12_676, List.forall_mem_cons.mpr ⟨le_12_678, List.forall_mem_cons.mpr ⟨le_12_681, List.forall_mem_cons.mpr ⟨le_12_684, List.forall_mem_cons.mpr ⟨le_12_687, List.forall_mem_cons.mpr ⟨le_12_691, List.forall_mem_cons.mpr ⟨le_12_694, List.forall_mem_cons.mpr ⟨le_12_697, List.forall_mem_cons.mpr ⟨le_12_701, (fun _ h => absurd h (by simp))⟩⟩⟩⟩⟩⟩⟩⟩⟩⟩⟩⟩⟩⟩⟩⟩⟩⟩⟩⟩⟩⟩⟩⟩⟩⟩⟩⟩⟩⟩⟩⟩⟩⟩⟩⟩⟩⟩⟩⟩⟩⟩⟩⟩⟩⟩⟩⟩⟩⟩⟩⟩⟩⟩⟩⟩⟩⟩⟩⟩⟩⟩⟩⟩⟩⟩⟩⟩⟩⟩⟩⟩⟩⟩⟩⟩⟩⟩⟩⟩⟩⟩⟩⟩⟩⟩⟩⟩⟩⟩⟩⟩⟩⟩⟩⟩⟩⟩⟩⟩⟩⟩⟩⟩⟩⟩⟩⟩⟩⟩⟩⟩⟩⟩⟩⟩⟩⟩⟩⟩⟩⟩⟩⟩⟩⟩⟩⟩⟩⟩⟩⟩⟩⟩⟩⟩⟩⟩⟩⟩⟩⟩⟩⟩⟩⟩⟩⟩⟩⟩⟩⟩⟩⟩⟩⟩⟩⟩⟩⟩⟩⟩⟩⟩⟩⟩⟩⟩⟩⟩⟩⟩⟩⟩⟩⟩⟩⟩⟩⟩⟩⟩⟩⟩⟩⟩⟩⟩⟩⟩⟩⟩⟩⟩⟩⟩⟩⟩⟩⟩⟩⟩⟩⟩⟩⟩⟩⟩⟩⟩⟩⟩⟩⟩⟩⟩⟩⟩⟩⟩⟩⟩⟩⟩⟩⟩⟩⟩
set_option maxRecDepth 20000 in
theorem pk_12 {off : Nat → Int → Option Int} {ln : Int → Option Nat} {fx : Bool} {A : Nat → Prop} {sa : Int → Nat} {args : Array Value} {s : State} (ho : tb_of off) (hts : ∀ w ∈ tb_TT, w.before args s = true) (hE : tb_En A sa s) : ∀ e ∈ pl_12, tb_G off ln fx A sa RX12 args s e := List.forall_mem_cons.mpr ⟨pk_12_1 ho hts hE, List.forall_mem_cons.mpr ⟨pk_12_7 ho hts hE, List.forall_mem_cons.mpr ⟨pk_12_13 ho hts hE, List.forall_mem_cons.mpr ⟨pk_12_17 ho hts hE, List.forall_mem_cons.mpr ⟨pk_12_20 ho hts hE, List.forall_mem_cons.mpr ⟨pk_12_24 ho hts hE, List.forall_mem_cons.mpr ⟨pk_12_27 ho hts hE, List.forall_mem_cons.mpr ⟨pk_12_30 ho hts hE, List.forall_mem_cons.mpr ⟨pk_12_33 ho hts hE, List.forall_mem_cons.mpr ⟨pk_12_36 ho hts hE, List.forall_mem_cons.mpr ⟨pk_12_39 ho hts hE, List.forall_mem_cons.mpr ⟨pk_12_42 ho hts hE, List.forall_mem_cons.mpr ⟨pk_12_45 ho hts hE, List.forall_mem_cons.mpr ⟨pk_12_48 ho hts hE, List.forall_mem_cons.mpr ⟨pk_12_51 ho hts hE, List.forall_mem_cons.mpr ⟨pk_12_54 ho hts hE, List.forall_mem_cons.mpr ⟨pk_12_57 ho hts hE, List.forall_mem_cons.mpr ⟨pk_12_60 ho hts hE, List.forall_mem_cons.mpr ⟨pk_12_63 ho hts hE, List.forall_mem_cons.mpr ⟨pk_12_66 ho hts hE, List.forall_mem_cons.mpr ⟨pk_12_69 ho hts hE, List.forall_mem_cons.mpr ⟨pk_12_72 ho hts hE, List.forall_mem_cons.mpr ⟨pk_12_75 ho hts hE, List.forall_mem_cons.mpr ⟨pk_12_78 ho hts hE, List.forall_mem_cons.mpr ⟨pk_12_81 ho hts hE, List.forall_mem_cons.mpr ⟨pk_12_85 ho hts hE, List.forall_mem_cons.mpr ⟨pk_12_88 ho hts hE, List.forall_mem_cons.mpr ⟨pk_12_91 ho hts hE, List.forall_mem_cons.mpr ⟨pk_12_94 ho hts hE, List.forall_mem_cons.mpr ⟨pk_12_97 ho hts hE, List.forall_mem_cons.mpr ⟨pk_12_100 ho hts hE, List.forall_mem_cons.mpr ⟨pk_12_103 ho hts hE, List.forall_mem_cons.mpr ⟨pk_12_106 ho hts hE, List.forall_mem_cons.mpr ⟨pk_12_109 ho hts hE, List.forall_mem_cons.mpr ⟨pk_12_112 ho hts hE, List.forall_mem_cons.mpr ⟨pk_12_115 ho hts hE, List.forall_mem_cons.mpr ⟨pk_12_118 ho hts hE, List.forall_mem_cons.mpr ⟨pk_12_121 ho hts hE, List.forall_mem_cons.mpr ⟨pk_12_124 ho hts hE, List.forall_mem_cons.mpr ⟨pk_12_127 ho hts hE, List.forall_mem_cons.mpr ⟨pk_12_130 ho hts hE, List.forall_mem_cons.mpr ⟨pk_12_133 ho hts hE, List.forall_mem_cons.mpr ⟨pk_12_137 ho hts hE, List.forall_mem_cons.mpr ⟨pk_12_140 ho hts hE, List.forall_mem_cons.mpr ⟨pk_12_143 ho hts hE, List.forall_mem_cons.mpr ⟨pk_12_146 ho hts hE, List.forall_mem_cons.mpr ⟨pk_12_149 ho hts hE, List.forall_mem_cons.mpr ⟨pk_12_152 ho hts hE, List.forall_mem_cons.mpr ⟨pk_12_155 ho hts hE, List.forall_mem_cons.mpr ⟨pk_12_158 ho hts hE, List.forall_mem_cons.mpr ⟨pk_12_161 ho hts hE, List.forall_mem_cons.mpr ⟨pk_12_164 ho hts hE, List.forall_mem_cons.mpr ⟨pk_12_167 ho hts hE, List.forall_mem_cons.mpr ⟨pk_12_170 ho hts hE, List.forall_mem_cons.mpr ⟨pk_12_173 ho hts hE, List.forall_mem_cons.mpr ⟨pk_12_176 ho hts hE, List.forall_mem_cons.mpr ⟨pk_12_179 ho hts hE, List.forall_mem_cons.mpr ⟨pk_12_182 ho hts hE, List.forall_mem_cons.mpr ⟨pk_12_185 ho hts hE, List.forall_mem_cons.mpr ⟨pk_12_188 ho hts hE, List.forall_mem_cons.mpr ⟨pk_12_191 ho hts hE, List.forall_mem_cons.mpr ⟨pk_12_194 ho hts hE, List.forall_mem_cons.mpr ⟨pk_12_197 ho hts hE, List.forall_mem_cons.mpr ⟨pk_12_200 ho hts hE, List.forall_mem_cons.mpr ⟨pk_12_203 ho hts hE, List.forall_mem_cons.mpr ⟨pk_12_206 ho hts hE, List.forall_mem_cons.mpr ⟨pk_12_209 ho hts hE, List.forall_mem_cons.mpr ⟨pk_12_212 ho hts hE, List.forall_mem_cons.mpr ⟨pk_12_215 ho hts hE, List.forall_mem_cons.mpr ⟨pk_12_218 ho hts hE, List.forall_mem_cons.mpr ⟨pk_12_221 ho hts hE, List.forall_mem_cons.mpr ⟨pk_12_225 ho hts hE, List.forall_mem_cons.mpr ⟨pk_12_229 ho hts hE, List.forall_mem_cons.mpr ⟨pk_12_232 ho hts hE, List.forall_mem_cons.mpr ⟨pk_12_236 ho hts hE, List.forall_mem_cons.mpr ⟨pk_12_239 ho hts hE, List.forall_mem_cons.mpr ⟨pk_12_243 ho hts hE, List.forall_mem_cons.mpr ⟨pk_12_246 ho hts hE, List.forall_mem_cons.mpr ⟨pk_12_249 ho hts hE, List.forall_mem_cons.mpr ⟨pk_12_253 ho hts hE, List.forall_mem_cons.mpr ⟨pk_12_257 ho hts hE, List.forall_mem_cons.mpr ⟨pk_12_260 ho hts hE, List.forall_mem_cons.mpr ⟨pk_12_262 ho hts hE, List.forall_mem_cons.mpr ⟨pk_12_264 ho hts hE, List.forall_mem_cons.mpr ⟨pk_12_268 ho hts hE, List.forall_mem_cons.mpr ⟨pk_12_272 ho hts hE, List.forall_mem_cons.mpr ⟨pk_12_276 ho hts hE, List.forall_mem_cons.mpr ⟨pk_12_279 ho hts hE, List.forall_mem_cons.mpr ⟨pk_12_283 ho hts hE, List.forall_mem_cons.mpr ⟨pk_12_287 ho hts hE, List.forall_mem_cons.mpr ⟨pk_12_291 ho hts hE, List.forall_mem_cons.mpr ⟨pk_12_294 ho hts hE, List.forall_mem_cons.mpr ⟨pk_12_297 ho hts hE, List.forall_mem_cons.mpr ⟨pk_12_300 ho hts hE, List.forall_mem_cons.mpr ⟨pk_12_303 ho hts hE, List.forall_mem_cons.mpr ⟨pk_12_306 ho hts hE, List.forall_mem_cons.mpr ⟨pk_12_309 ho hts hE, List.forall_mem_cons.mpr ⟨pk_12_313 ho hts hE, List.forall_mem_cons.mpr ⟨pk_12_316 ho hts hE, List.forall_mem_cons.mpr ⟨pk_12_319 ho hts hE, List.forall_mem_cons.mpr ⟨pk_12_322 ho hts hE, List.forall_mem_cons.mpr ⟨pk_12_325 ho hts hE, List.forall_mem_cons.mpr ⟨pk_12_328 ho hts hE, List.forall_mem_cons.mpr ⟨pk_12_331 ho hts hE, List.forall_mem_cons.mpr ⟨pk_12_334 ho hts hE, List.forall_mem_cons.mpr ⟨pk_12_337 ho hts hE, List.forall_mem_cons.mpr ⟨pk_12_340 ho hts hE, List.forall_mem_cons.mpr ⟨pk_12_343 ho hts hE, List.forall_mem_cons.mpr ⟨pk_12_346 ho hts hE, List.forall_mem_cons.mpr ⟨pk_12_349 ho hts hE, List.forall_mem_cons.mpr ⟨pk_12_352 ho hts hE, List.forall_mem_cons.mpr ⟨pk_12_355 ho hts hE, List.forall_mem_cons.mpr ⟨pk_12_358 ho hts hE, List.forall_mem_cons.mpr ⟨pk_12_361 ho hts hE, List.forall_mem_cons.mpr ⟨pk_12_364 ho hts hE, List.forall_mem_cons.mpr ⟨pk_12_367 ho hts hE, List.forall_mem_cons.mpr ⟨pk_12_370 ho hts hE, List.forall_mem_cons.mpr ⟨pk_12_372 ho hts hE, List.forall_mem_cons.mpr ⟨pk_12_374 ho hts hE, List.forall_mem_cons.mpr ⟨pk_12_377 ho hts hE, List.forall_mem_cons.mpr ⟨pk_12_381 ho hts hE, List.forall_mem_cons.mpr ⟨pk_12_385 ho hts hE, List.forall_mem_cons.mpr ⟨pk_12_389 ho hts hE, List.forall_mem_cons.mpr ⟨pk_12_392 ho hts hE, List.forall_mem_cons.mpr ⟨pk_12_395 ho hts hE, List.forall_mem_cons.mpr ⟨pk_12_398 ho hts hE, List.forall_mem_cons.mpr ⟨pk_12_401 ho hts hE, List.forall_mem_cons.mpr ⟨pk_12_404 ho hts hE, List.forall_mem_cons.mpr ⟨pk_12_408 ho hts hE, List.forall_mem_cons.mpr ⟨pk_12_411 ho hts hE, List.forall_mem_cons.mpr ⟨pk_12_414 ho hts hE, List.forall_mem_cons.mpr ⟨pk_12_416 ho hts hE, List.forall_mem_cons.mpr ⟨pk_12_418 ho hts hE, List.forall_mem_cons.mpr ⟨pk_12_421 ho hts hE, List.forall_mem_cons.mpr ⟨pk_12_423 ho hts hE, List.forall_mem_cons.mpr ⟨pk_12_426 ho hts hE, List.forall_mem_cons.mpr ⟨pk_12_430 ho hts hE, List.forall_mem_cons.mpr ⟨pk_12_433 ho hts hE, List.forall_mem_cons.mpr ⟨pk_12_436 ho hts hE, List.forall_mem_cons.mpr ⟨pk_12_439 ho hts hE, List.forall_mem_cons.mpr ⟨pk_12_442 ho hts hE, List.forall_mem_cons.mpr ⟨pk_12_444 ho hts hE, List.forall_mem_cons.mpr ⟨pk_12_446 ho hts hE, List.forall_mem_cons.mpr ⟨pk_12_449 ho hts hE, List.forall_mem_cons.mpr ⟨pk_12_452 ho hts hE, List.forall_mem_cons.mpr ⟨pk_12_455 ho hts hE, List.forall_mem_cons.mpr ⟨pk_12_457 ho hts hE, List.forall_mem_cons.mpr ⟨pk_12_460 ho hts hE, List.forall_mem_cons.mpr ⟨pk_12_463 ho hts hE, List.forall_mem_cons.mpr ⟨pk_12_467 ho hts hE, List.forall_mem_cons.mpr ⟨pk_12_469 ho hts hE, List.forall_mem_cons.mpr ⟨pk_12_472 ho hts hE, List.forall_mem_cons.mpr ⟨pk_12_474 ho hts hE, List.forall_mem_cons.mpr ⟨pk_12_478 ho hts hE, List.forall_mem_cons.mpr ⟨pk_12_482 ho hts hE, List.forall_mem_cons.mpr ⟨pk_12_485 ho hts hE, List.forall_mem_cons.mpr ⟨pk_12_488 ho hts hE, List.forall_mem_cons.mpr ⟨pk_12_492 ho hts hE, List.forall_mem_cons.mpr ⟨pk_12_495 ho hts hE, List.forall_mem_cons.mpr ⟨pk_12_498 ho hts hE, List.forall_mem_cons.mpr ⟨pk_12_501 ho hts hE, List.forall_mem_cons.mpr ⟨pk_12_504 ho hts hE, List.forall_mem_cons.mpr ⟨pk_12_507 ho hts hE, List.forall_mem_cons.mpr ⟨pk_12_510 ho hts hE, List.forall_mem_cons.mpr ⟨pk_12_513 ho hts hE, List.forall_mem_cons.mpr ⟨pk_12_516 ho hts hE, List.forall_mem_cons.mpr ⟨pk_12_519 ho hts hE, List.forall_mem_cons.mpr ⟨pk_12_523 ho hts hE, List.forall_mem_cons.mpr ⟨pk_12_527 ho hts hE, List.forall_mem_cons.mpr ⟨pk_12_529 ho hts hE, List.forall_mem_cons.mpr ⟨pk_12_532 ho hts hE, List.forall_mem_cons.mpr ⟨pk_12_535 ho hts hE, List.forall_mem_cons.mpr ⟨pk_12_537 ho hts hE, List.forall_mem_cons.mpr ⟨pk_12_541 ho hts hE, List.forall_mem_cons.mpr ⟨pk_12_543 ho hts hE, List.forall_mem_cons.mpr ⟨pk_12_546 ho hts hE, List.forall_mem_cons.mpr ⟨pk_12_549 ho hts hE, List.forall_mem_cons.mpr ⟨pk_12_552 ho hts hE, List.forall_mem_cons.mpr ⟨pk_12_555 ho hts hE, List.forall_mem_cons.mpr ⟨pk_12_557 ho hts hE, List.forall_mem_cons.mpr ⟨pk_12_559 ho hts hE, List.forall_mem_cons.mpr ⟨pk_12_561 ho hts hE, List.forall_mem_cons.mpr ⟨pk_12_563 ho hts hE, List.forall_mem_cons.mpr ⟨pk_12_565 ho hts hE, List.forall_mem_cons.mpr ⟨pk_12_568 ho hts hE, List.forall_mem_cons.mpr ⟨pk_12_570 ho hts hE, List.forall_mem_cons.mpr ⟨pk_12_573 ho hts hE, List.forall_mem_cons.mpr ⟨pk_12_576 ho hts hE, List.forall_mem_cons.mpr ⟨pk_12_579 ho hts hE, List.forall_mem_cons.mpr ⟨pk_12_582 ho hts hE, List.forall_mem_cons.mpr ⟨pk_12_585 ho hts hE, List.forall_mem_cons.mpr ⟨pk_12_588 ho hts hE, List.forall_mem_cons.mpr ⟨pk_12_591 ho hts hE, List.forall_mem_cons.mpr ⟨pk_12_594 ho hts hE, List.forall_mem_cons.mpr ⟨pk_12_597 ho hts hE, List.forall_mem_cons.mpr ⟨pk_12_600 ho hts hE, List.forall_mem_cons.mpr ⟨pk_12_603 ho hts hE, List.forall_mem_cons.mpr ⟨pk_12_606 ho hts hE, List.forall_mem_cons.mpr ⟨pk_12_609 ho hts hE, List.forall_mem_cons.mpr ⟨pk_12_612 ho hts hE, List.forall_mem_cons.mpr ⟨pk_12_615 ho hts hE, List.forall_mem_cons.mpr ⟨pk_12_618 ho hts hE, List.forall_mem_cons.mpr ⟨pk_12_621 ho hts hE, List.forall_mem_cons.mpr ⟨pk_12_624 ho hts hE, List.forall_mem_cons.mpr ⟨pk_12_627 ho hts hE, List.forall_mem_cons.mpr ⟨pk_12_630 ho hts hE, List.forall_mem_cons.mpr ⟨pk_12_633 ho hts hE, List.forall_mem_cons.mpr ⟨pk_12_636 ho hts hE, List.forall_mem_cons.mpr ⟨pk_12_639 ho hts hE, List.forall_mem_cons.mpr ⟨pk_12_642 ho hts hE, List.forall_mem_cons.mpr ⟨pk_12_645 ho hts hE, List.forall_mem_cons.mpr ⟨pk_12_648 ho hts hE, List.forall_mem_cons.mpr ⟨pk_12_651 ho hts hE, List.forall_mem_cons.mpr ⟨pk_12_654 ho hts hE, List.forall_mem_cons.mpr ⟨pk_12_658 ho hts hE, List.forall_mem_cons.mpr ⟨pk_12_662 ho hts hE, List.forall_mem_cons.mpr ⟨pk_12_666 ho hts hE, List.forall_mem_cons.mpr ⟨pk_12_669 ho hts hE, List.forall_mem_cons.mpr ⟨pk_12_672 ho hts hE, List.forall_mem_cons.mpr ⟨pk_12_676 ho hts hE, List.forall_mem_cons.mpr ⟨pk_12_678 ho hts hE, List.forall_mem_cons.mpr ⟨pk_12_681 ho hts hE, List.forall_mem_cons.mpr ⟨pk_12_684 ho hts hE, List.forall_mem_cons.mpr ⟨pk_12_687 ho hts hE, List.forall_mem_cons.mpr ⟨pk_12_691 ho hts hE, List.forall_mem_cons.mpr ⟨pk_12_694 ho hts hE, List.forall_mem_cons.mpr ⟨pk_12_697 ho hts hE, List.forall_mem_cons.mpr ⟨pk_12_701 ho hts hE, (fun _ h => absurd h (by simp))⟩⟩⟩⟩⟩⟩⟩⟩⟩⟩⟩⟩⟩⟩⟩⟩⟩⟩⟩⟩⟩⟩⟩⟩⟩⟩⟩⟩⟩⟩⟩⟩⟩⟩⟩⟩⟩⟩⟩⟩⟩⟩⟩⟩⟩⟩⟩⟩⟩⟩⟩⟩⟩⟩⟩⟩⟩⟩⟩⟩⟩⟩⟩⟩⟩⟩⟩⟩⟩⟩⟩⟩⟩⟩⟩⟩⟩⟩⟩⟩⟩⟩⟩⟩⟩⟩⟩⟩⟩⟩⟩⟩⟩⟩⟩⟩⟩⟩⟩⟩⟩⟩⟩⟩⟩⟩⟩⟩⟩⟩⟩⟩⟩⟩⟩⟩⟩⟩⟩⟩⟩⟩⟩⟩⟩⟩⟩⟩⟩⟩⟩⟩⟩⟩⟩⟩⟩⟩⟩⟩⟩⟩⟩⟩⟩⟩⟩⟩⟩⟩⟩⟩⟩⟩⟩⟩⟩⟩⟩⟩⟩⟩⟩⟩⟩⟩⟩⟩⟩⟩⟩⟩⟩⟩⟩⟩⟩⟩⟩⟩⟩⟩⟩⟩⟩⟩⟩⟩⟩⟩⟩⟩⟩⟩⟩⟩⟩⟩⟩⟩⟩⟩⟩⟩⟩⟩⟩⟩⟩⟩⟩⟩⟩⟩⟩⟩⟩⟩⟩⟩⟩⟩⟩⟩⟩⟩⟩⟩
theorem le_13_7 : tb_Le 13 (7, 3, 11, 0) := fun h => absurd h (by decide)
set_option maxRecDepth 20000 in
theorem pk_13_7 {off : Nat → Int → Option Int} {ln : Int → Option Nat} {fx : Bool} {A : Nat → Prop} {sa : Int → Nat} {args : Array Value} {s : State} (ho : tb_of off) (hts : ∀ w ∈ tb_TT, w.before args s = true) (hE : tb_En A sa s) : tb_G off ln fx A sa RL args s (7, 3, 11, 0) := ⟨RX11, TX11, 18, tyX11, rfl, rfl, uw_11, tyX11_ok, at_11, hts _ (tg tw_21 rfl), hts _ (tg tw_22 rfl), hts _ (tg tw_1 rfl)⟩
theorem le_13_9 : tb_Le 13 (9, 13, 125, 1) := fun _ => ⟨lf_13_125, Or.inl (tg tw_23 rfl)⟩
set_option maxRecDepth 20000 in
theorem pk_13_9 {off : Nat → Int → Option Int} {ln : Int → Option Nat} {fx : Bool} {A : Nat → Prop} {sa : Int → Nat} {args : Array Value} {s : State} (ho : tb_of off) (hts : ∀ w ∈ tb_TT, w.before args s = true) (hE : tb_En A sa s) : tb_G off ln fx A sa RL args s (9, 13, 125, 1) := trivial
theorem le_13_10 : tb_Le 13 (10, 3, 12, 0) := fun h => absurd h (by decide)
set_option maxRecDepth 20000 in
theorem pk_13_10 {off : Nat → Int → Option Int} {ln : Int → Option Nat} {fx : Bool} {A : Nat → Prop} {sa : Int → Nat} {args : Array Value} {s : State} (ho : tb_of off) (hts : ∀ w ∈ tb_TT, w.before args s = true) (hE : tb_En A sa s) : tb_G off ln fx A sa RL args s (10, 3, 12, 0) := ⟨RX12, TX12, 94, tyX12, rfl, rfl, uw_12, tyX12_ok, at_12, hts _ (tg tw_1197 rfl), hts _ (tg tw_1198 rfl), hts _ (tg tw_13 rfl)⟩
theorem le_13_12 : tb_Le 13 (12, 13, 168, 1) := fun _ => ⟨lf_13_168, Or.inl (tg tw_1199 rfl)⟩
set_option maxRecDepth 20000 in
theorem pk_13_12 {off : Nat → Int → Option Int} {ln : Int → Option Nat} {fx : Bool} {A : Nat → Prop} {sa : Int → Nat} {args : Array Value} {s : State} (ho : tb_of off) (hts : ∀ w ∈ tb_TT, w.before args s = true) (hE : tb_En A sa s) : tb_G off ln fx A sa RL args s (12, 13, 168, 1) := trivial
theorem le_13_13 : tb_Le 13 (13, 2, 126, 6) := fun _ => ⟨lf_2_126, Or.inl (tg tw_394 rfl)⟩
set_option maxRecDepth 20000 in
theorem pk_13_13 {off : Nat → Int → Option Int} {ln : Int → Option Nat} {fx : Bool} {A : Nat → Prop} {sa : Int → Nat} {args : Array Value} {s : State} (ho : tb_of off) (hts : ∀ w ∈ tb_TT, w.before args s = true) (hE : tb_En A sa s) : tb_G off ln fx A sa RL args s (13, 2, 126, 6) := trivial
theorem le_13_17 : tb_Le 13 (17, 2, 170, 6) := fun _ => ⟨lf_2_170, Or.inl (tg tw_1488 rfl)⟩
set_option maxRecDepth 20000 in
theorem pk_13_17 {off : Nat → Int → Option Int} {ln : Int → Option Nat} {fx : Bool} {A : Nat → Prop} {sa : Int → Nat} {args : Array Value} {s : State} (ho : tb_of off) (hts : ∀ w ∈ tb_TT, w.before args s = true) (hE : tb_En A sa s) : tb_G off ln fx A sa RL args s (17, 2, 170, 6) := trivial
theorem le_13_18 : tb_Le 13 (18, 2, 127, 2) := fun _ => ⟨lf_2_127, Or.inl (tg tw_406 rfl)⟩
set_option maxRecDepth 20000 in
theorem pk_13_18 {off : Nat → Int → Option Int} {ln : Int → Option Nat} {fx : Bool} {A : Nat → Prop} {sa : Int → Nat} {args : Array Value} {s : State} (ho : tb_of off) (hts : ∀ w ∈ tb_TT, w.before args s = true) (hE : tb_En A sa s) : tb_G off ln fx A sa RL args s (18, 2, 127, 2) := trivial
theorem le_13_22 : tb_Le 13 (22, 2, 171, 2) := fun _ => ⟨lf_2_171, Or.inl (tg tw_1492 rfl)⟩
set_option maxRecDepth 20000 in
theorem pk_13_22 {off : Nat → Int → Option Int} {ln : Int → Option Nat} {fx : Bool} {A : Nat → Prop} {sa : Int → Nat} {args : Array Value} {s : State} (ho : tb_of off) (hts : ∀ w ∈ tb_TT, w.before args s = true) (hE : tb_En A sa s) : tb_G off ln fx A sa RL args s (22, 2, 171, 2) := trivial
theorem le_13_23 : tb_Le 13 (23, 2, 128, 1) := fun _ => ⟨lf_2_128, Or.inl (tg tw_410 rfl)⟩
set_option maxRecDepth 20000 in
theorem pk_13_23 {off : Nat → Int → Option Int} {ln : Int → Option Nat} {fx : Bool} {A : Nat → Prop} {sa : Int → Nat} {args : Array Value} {s : State} (ho : tb_of off) (hts : ∀ w ∈ tb_TT, w.before args s = true) (hE : tb_En A sa s) : tb_G off ln fx A sa RL args s (23, 2, 128, 1) := trivial
theorem le_13_27 : tb_Le 13 (27, 2, 194, 1) := fun _ => ⟨lf_2_194, Or.inl (tg tw_1496 rfl)⟩
set_option maxRecDepth 20000 in
theorem pk_13_27 {off : Nat → Int → Option Int} {ln : Int → Option Nat} {fx : Bool} {A : Nat → Prop} {sa : Int → Nat} {args : Array Value} {s : State} (ho : tb_of off) (hts : ∀ w ∈ tb_TT, w.before args s = true) (hE : tb_En A sa s) : tb_G off ln fx A sa RL args s (27, 2, 194, 1) := trivial
theorem le_13_28 : tb_Le 13 (28, 2, 129, 2) := fun _ => ⟨lf_2_129, Or.inl (tg tw_703 rfl)⟩
set_option maxRecDepth 20000 in
theorem pk_13_28 {off : Nat → Int → Option Int} {ln : Int → Option Nat} {fx : Bool} {A : Nat → Prop} {sa : Int → Nat} {args : Array Value} {s : State} (ho : tb_of off) (hts : ∀ w ∈ tb_TT, w.before args s = true) (hE : tb_En A sa s) : tb_G off ln fx A sa RL args s (28, 2, 129, 2) := trivial
theorem le_13_32 : tb_Le 13 (32, 2, 206, 2) := fun _ => ⟨lf_2_206, Or.inl (tg tw_1635 rfl)⟩
set_option maxRecDepth 20000 in
theorem pk_13_32 {off : Nat → Int → Option Int} {ln : Int → Option Nat} {fx : Bool} {A : Nat → Prop} {sa : Int → Nat} {args : Array Value} {s : State} (ho : tb_of off) (hts : ∀ w ∈ tb_TT, w.before args s = true) (hE : tb_En A sa s) : tb_G off ln fx A sa RL args s (32, 2, 206, 2) := trivial
theorem le_13_33 : tb_Le 13 (33, 2, 130, 2) := fun _ => ⟨lf_2_130, Or.inl (tg tw_707 rfl)⟩
set_option maxRecDepth 20000 in
theorem pk_13_33 {off : Nat → Int → Option Int} {ln : Int → Option Nat} {fx : Bool} {A : Nat → Prop} {sa : Int → Nat} {args : Array Value} {s : State} (ho : tb_of off) (hts : ∀ w ∈ tb_TT, w.before args s = true) (hE : tb_En A sa s) : tb_G off ln fx A sa RL args s (33, 2, 130, 2) := trivial
theorem le_13_36 : tb_Le 13 (36, 2, 232, 2) := fun _ => ⟨lf_2_232, Or.inl (tg tw_1639 rfl)⟩
set_option maxRecDepth 20000 in
theorem pk_13_36 {off : Nat → Int → Option Int} {ln : Int → Option Nat} {fx : Bool} {A : Nat → Prop} {sa : Int → Nat} {args : Array Value} {s : State} (ho : tb_of off) (hts : ∀ w ∈ tb_TT, w.before args s = true) (hE : tb_En A sa s) : tb_G off ln fx A sa RL args s (36, 2, 232, 2) := trivial
theorem le_13_37 : tb_Le 13 (37, 2, 131, 4) := fun _ => ⟨lf_2_131, Or.inl (tg tw_724 rfl)⟩
set_option maxRecDepth 20000 in
theorem pk_13_37 {off : Nat → Int → Option Int} {ln : Int → Option Nat} {fx : Bool} {A : Nat → Prop} {sa : Int → Nat} {args : Array Value} {s : State} (ho : tb_of off) (hts : ∀ w ∈ tb_TT, w.before args s = true) (hE : tb_En A sa s) : tb_G off ln fx A sa RL args s (37, 2, 131, 4) := trivial
theorem le_13_41 : tb_Le 13 (41, 2, 233, 4) := fun _ => ⟨lf_2_233, Or.inl (tg tw_1679 rfl)⟩
set_option maxRecDepth 20000 in
theorem pk_13_41 {off : Nat → Int → Option Int} {ln : Int → Option Nat} {fx : Bool} {A : Nat → Prop} {sa : Int → Nat} {args : Array Value} {s : State} (ho : tb_of off) (hts : ∀ w ∈ tb_TT, w.before args s = true) (hE : tb_En A sa s) : tb_G off ln fx A sa RL args s (41, 2, 233, 4) := trivial
theorem le_13_42 : tb_Le 13 (42, 2, 132, 3) := fun _ => ⟨lf_2_132, Or.inl (tg tw_734 rfl)⟩
set_option maxRecDepth 20000 in
theorem pk_13_42 {off : Nat → Int → Option Int} {ln : Int → Option Nat} {fx : Bool} {A : Nat → Prop} {sa : Int → Nat} {args : Array Value} {s : State} (ho : tb_of off) (hts : ∀ w ∈ tb_TT, w.before args s = true) (hE : tb_En A sa s) : tb_G off ln fx A sa RL args s (42, 2, 132, 3) := trivial
theorem le_13_46 : tb_Le 13 (46, 2, 234, 3) := fun _ => ⟨lf_2_234, Or.inl (tg tw_1685 rfl)⟩
set_option maxRecDepth 20000 in
theorem pk_13_46 {off : Nat → Int → Option Int} {ln : Int → Option Nat} {fx : Bool} {A : Nat → Prop} {sa : Int → Nat} {args : Array Value} {s : State} (ho : tb_of off) (hts : ∀ w ∈ tb_TT, w.before args s = true) (hE : tb_En A sa s) : tb_G off ln fx A sa RL args s (46, 2, 234, 3) := trivial
theorem le_13_47 : tb_Le 13 (47, 2, 133, 4) := fun _ => ⟨lf_2_133, Or.inl (tg tw_774 rfl)⟩
set_option maxRecDepth 20000 in
theorem pk_13_47 {off : Nat → Int → Option Int} {ln : Int → Option Nat} {fx : Bool} {A : Nat → Prop} {sa : Int → Nat} {args : Array Value} {s : State} (ho : tb_of off) (hts : ∀ w ∈ tb_TT, w.before args s = true) (hE : tb_En A sa s) : tb_G off ln fx A sa RL args s (47, 2, 133, 4) := trivial
theorem le_13_50 : tb_Le 13 (50, 2, 235, 4) := fun _ => ⟨lf_2_235, Or.inl (tg tw_1713 rfl)⟩
set_option maxRecDepth 20000 in
theorem pk_13_50 {off : Nat → Int → Option Int} {ln : Int → Option Nat} {fx : Bool} {A : Nat → Prop} {sa : Int → Nat} {args : Array Value} {s : State} (ho : tb_of off) (hts : ∀ w ∈ tb_TT, w.before args s = true) (hE : tb_En A sa s) : tb_G off ln fx A sa RL args s (50, 2, 235, 4) := trivial
theorem le_13_51 : tb_Le 13 (51, 2, 134, 2) := fun _ => ⟨lf_2_134, Or.inl (tg tw_841 rfl)⟩
set_option maxRecDepth 20000 in
theorem pk_13_51 {off : Nat → Int → Option Int} {ln : Int → Option Nat} {fx : Bool} {A : Nat → Prop} {sa : Int → Nat} {args : Array Value} {s : State} (ho : tb_of off) (hts : ∀ w ∈ tb_TT, w.before args s = true) (hE : tb_En A sa s) : tb_G off ln fx A sa RL args s (51, 2, 134, 2) := trivial
theorem le_13_54 : tb_Le 13 (54, 2, 236, 2) := fun _ => ⟨lf_2_236, Or.inl (tg tw_1745 rfl)⟩
set_option maxRecDepth 20000 in
theorem pk_13_54 {off : Nat → Int → Option Int} {ln : Int → Option Nat} {fx : Bool} {A : Nat → Prop} {sa : Int → Nat} {args : Array Value} {s : State} (ho : tb_of off) (hts : ∀ w ∈ tb_TT, w.before args s = true) (hE : tb_En A sa s) : tb_G off ln fx A sa RL args s (54, 2, 236, 2) := trivial
theorem le_13_55 : tb_Le 13 (55, 2, 135, 3) := fun _ => ⟨lf_2_135, Or.inl (tg tw_846 rfl)⟩
set_option maxRecDepth 20000 in
theorem pk_13_55 {off : Nat → Int → Option Int} {ln : Int → Option Nat} {fx : Bool} {A : Nat → Prop} {sa : Int → Nat} {args : Array Value} {s : State} (ho : tb_of off) (hts : ∀ w ∈ tb_TT, w.before args s = true) (hE : tb_En A sa s) : tb_G off ln fx A sa RL args s (55, 2, 135, 3) := trivial
theorem le_13_58 : tb_Le 13 (58, 2, 238, 3) := fun _ => ⟨lf_2_238, Or.inl (tg tw_1749 rfl)⟩
set_option maxRecDepth 20000 in
theorem pk_13_58 {off : Nat → Int → Option Int} {ln : Int → Option Nat} {fx : Bool} {A : Nat → Prop} {sa : Int → Nat} {args : Array Value} {s : State} (ho : tb_of off) (hts : ∀ w ∈ tb_TT, w.before args s = true) (hE : tb_En A sa s) : tb_G off ln fx A sa RL args s (58, 2, 238, 3) := trivial
theorem le_13_59 : tb_Le 13 (59, 2, 136, 4) := fun _ => ⟨lf_2_136, Or.inl (tg tw_878 rfl)⟩
set_option maxRecDepth 20000 in
theorem pk_13_59 {off : Nat → Int → Option Int} {ln : Int → Option Nat} {fx : Bool} {A : Nat → Prop} {sa : Int → Nat} {args : Array Value} {s : State} (ho : tb_of off) (hts : ∀ w ∈ tb_TT, w.before args s = true) (hE : tb_En A sa s) : tb_G off ln fx A sa RL args s (59, 2, 136, 4) := trivial
theorem le_13_62 : tb_Le 13 (62, 2, 239, 4) := fun _ => ⟨lf_2_239, Or.inl (tg tw_1766 rfl)⟩
set_option maxRecDepth 20000 in
theorem pk_13_62 {off : Nat → Int → Option Int} {ln : Int → Option Nat} {fx : Bool} {A : Nat → Prop} {sa : Int → Nat} {args : Array Value} {s : State} (ho : tb_of off) (hts : ∀ w ∈ tb_TT, w.before args s = true) (hE : tb_En A sa s) : tb_G off ln fx A sa RL args s (62, 2, 239, 4) := trivial
theorem le_13_63 : tb_Le 13 (63, 2, 137, 2) := fun _ => ⟨lf_2_137, Or.inl (tg tw_887 rfl)⟩
set_option maxRecDepth 20000 in
theorem pk_13_63 {off : Nat → Int → Option Int} {ln : Int → Option Nat} {fx : Bool} {A : Nat → Prop} {sa : Int → Nat} {args : Array Value} {s : State} (ho : tb_of off) (hts : ∀ w ∈ tb_TT, w.before args s = true) (hE : tb_En A sa s) : tb_G off ln fx A sa RL args s (63, 2, 137, 2) := trivial
theorem le_13_66 : tb_Le 13 (66, 2, 240, 2) := fun _ => ⟨lf_2_240, Or.inl (tg tw_1771 rfl)⟩
set_option maxRecDepth 20000 in
theorem pk_13_66 {off : Nat → Int → Option Int} {ln : Int → Option Nat} {fx : Bool} {A : Nat → Prop} {sa : Int → Nat} {args : Array Value} {s : State} (ho : tb_of off) (hts : ∀ w ∈ tb_TT, w.before args s = true) (hE : tb_En A sa s) : tb_G off ln fx A sa RL args s (66, 2, 240, 2) := trivial
theorem le_13_67 : tb_Le 13 (67, 2, 138, 3) := fun _ => ⟨lf_2_138, Or.inl (tg tw_891 rfl)⟩
set_option maxRecDepth 20000 in
theorem pk_13_67 {off : Nat → Int → Option Int} {ln : Int → Option Nat} {fx : Bool} {A : Nat → Prop} {sa : Int → Nat} {args : Array Value} {s : State} (ho : tb_of off) (hts : ∀ w ∈ tb_TT, w.before args s = true) (hE : tb_En A sa s) : tb_G off ln fx A sa RL args s (67, 2, 138, 3) := trivial
theorem le_13_70 : tb_Le 13 (70, 2, 243, 3) := fun _ => ⟨lf_2_243, Or.inl (tg tw_1775 rfl)⟩
set_option maxRecDepth 20000 in
theorem pk_13_70 {off : Nat → Int → Option Int} {ln : Int → Option Nat} {fx : Bool} {A : Nat → Prop} {sa : Int → Nat} {args : Array Value} {s : State} (ho : tb_of off) (hts : ∀ w ∈ tb_TT, w.before args s = true) (hE : tb_En A sa s) : tb_G off ln fx A sa RL args s (70, 2, 243, 3) := trivial
theorem le_13_71 : tb_Le 13 (71, 2, 139, 3) := fun _ => ⟨lf_2_139, Or.inl (tg tw_900 rfl)⟩
set_option maxRecDepth 20000 in
theorem pk_13_71 {off : Nat → Int → Option Int} {ln : Int → Option Nat} {fx : Bool} {A : Nat → Prop} {sa : Int → Nat} {args : Array Value} {s : State} (ho : tb_of off) (hts : ∀ w ∈ tb_TT, w.before args s = true) (hE : tb_En A sa s) : tb_G off ln fx A sa RL args s (71, 2, 139, 3) := trivial
theorem le_13_74 : tb_Le 13 (74, 2, 247, 3) := fun _ => ⟨lf_2_247, Or.inl (tg tw_1787 rfl)⟩
set_option maxRecDepth 20000 in
theorem pk_13_74 {off : Nat → Int → Option Int} {ln : Int → Option Nat} {fx : Bool} {A : Nat → Prop} {sa : Int → Nat} {args : Array Value} {s : State} (ho : tb_of off) (hts : ∀ w ∈ tb_TT, w.before args s = true) (hE : tb_En A sa s) : tb_G off ln fx A sa RL args s (74, 2, 247, 3) := trivial
theorem le_13_75 : tb_Le 13 (75, 2, 140, 3) := fun _ => ⟨lf_2_140, Or.inl (tg tw_931 rfl)⟩
set_option maxRecDepth 20000 in
theorem pk_13_75 {off : Nat → Int → Option Int} {ln : Int → Option Nat} {fx : Bool} {A : Nat → Prop} {sa : Int → Nat} {args : Array Value} {s : State} (ho : tb_of off) (hts : ∀ w ∈ tb_TT, w.before args s = true) (hE : tb_En A sa s) : tb_G off ln fx A sa RL args s (75, 2, 140, 3) := trivial
theorem le_13_78 : tb_Le 13 (78, 2, 248, 3) := fun _ => ⟨lf_2_248, Or.inl (tg tw_1803 rfl)⟩
set_option maxRecDepth 20000 in
theorem pk_13_78 {off : Nat → Int → Option Int} {ln : Int → Option Nat} {fx : Bool} {A : Nat → Prop} {sa : Int → Nat} {args : Array Value} {s : State} (ho : tb_of off) (hts : ∀ w ∈ tb_TT, w.before args s = true) (hE : tb_En A sa s) : tb_G off ln fx A sa RL args s (78, 2, 248, 3) := trivial
theorem le_13_79 : tb_Le 13 (79, 2, 141, 3) := fun _ => ⟨lf_2_141, Or.inl (tg tw_940 rfl)⟩
set_option maxRecDepth 20000 in
theorem pk_13_79 {off : Nat → Int → Option Int} {ln : Int → Option Nat} {fx : Bool} {A : Nat → Prop} {sa : Int → Nat} {args : Array Value} {s : State} (ho : tb_of off) (hts : ∀ w ∈ tb_TT, w.before args s = true) (hE : tb_En A sa s) : tb_G off ln fx A sa RL args s (79, 2, 141, 3) := trivial
theorem le_13_82 : tb_Le 13 (82, 2, 249, 3) := fun _ => ⟨lf_2_249, Or.inl (tg tw_1807 rfl)⟩
set_option maxRecDepth 20000 in
theorem pk_13_82 {off : Nat → Int → Option Int} {ln : Int → Option Nat} {fx : Bool} {A : Nat → Prop} {sa : Int → Nat} {args : Array Value} {s : State} (ho : tb_of off) (hts : ∀ w ∈ tb_TT, w.before args s = true) (hE : tb_En A sa s) : tb_G off ln fx A sa RL args s (82, 2, 249, 3) := trivial
theorem le_13_83 : tb_Le 13 (83, 2, 142, 4) := fun _ => ⟨lf_2_142, Or.inl (tg tw_950 rfl)⟩
set_option maxRecDepth 20000 in
theorem pk_13_83 {off : Nat → Int → Option Int} {ln : Int → Option Nat} {fx : Bool} {A : Nat → Prop} {sa : Int → Nat} {args : Array Value} {s : State} (ho : tb_of off) (hts : ∀ w ∈ tb_TT, w.before args s = true) (hE : tb_En A sa s) : tb_G off ln fx A sa RL args s (83, 2, 142, 4) := trivial
theorem le_13_86 : tb_Le 13 (86, 2, 252, 4) := fun _ => ⟨lf_2_252, Or.inl (tg tw_1811 rfl)⟩
set_option maxRecDepth 20000 in
theorem pk_13_86 {off : Nat → Int → Option Int} {ln : Int → Option Nat} {fx : Bool} {A : Nat → Prop} {sa : Int → Nat} {args : Array Value} {s : State} (ho : tb_of off) (hts : ∀ w ∈ tb_TT, w.before args s = true) (hE : tb_En A sa s) : tb_G off ln fx A sa RL args s (86, 2, 252, 4) := trivial
theorem le_13_87 : tb_Le 13 (87, 2, 143, 4) := fun _ => ⟨lf_2_143, Or.inl (tg tw_990 rfl)⟩
set_option maxRecDepth 20000 in
theorem pk_13_87 {off : Nat → Int → Option Int} {ln : Int → Option Nat} {fx : Bool} {A : Nat → Prop} {sa : Int → Nat} {args : Array Value} {s : State} (ho : tb_of off) (hts : ∀ w ∈ tb_TT, w.before args s = true) (hE : tb_En A sa s) : tb_G off ln fx A sa RL args s (87, 2, 143, 4) := trivial
theorem le_13_90 : tb_Le 13 (90, 2, 254, 4) := fun _ => ⟨lf_2_254, Or.inl (tg tw_1822 rfl)⟩
set_option maxRecDepth 20000 in
theorem pk_13_90 {off : Nat → Int → Option Int} {ln : Int → Option Nat} {fx : Bool} {A : Nat → Prop} {sa : Int → Nat} {args : Array Value} {s : State} (ho : tb_of off) (hts : ∀ w ∈ tb_TT, w.before args s = true) (hE : tb_En A sa s) : tb_G off ln fx A sa RL args s (90, 2, 254, 4) := trivial
theorem le_13_91 : tb_Le 13 (91, 2, 144, 3) := fun _ => ⟨lf_2_144, Or.inl (tg tw_1006 rfl)⟩
set_option maxRecDepth 20000 in
theorem pk_13_91 {off : Nat → Int → Option Int} {ln : Int → Option Nat} {fx : Bool} {A : Nat → Prop} {sa : Int → Nat} {args : Array Value} {s : State} (ho : tb_of off) (hts : ∀ w ∈ tb_TT, w.before args s = true) (hE : tb_En A sa s) : tb_G off ln fx A sa RL args s (91, 2, 144, 3) := trivial
theorem le_13_94 : tb_Le 13 (94, 2, 261, 3) := fun _ => ⟨lf_2_261, Or.inl (tg tw_1830 rfl)⟩
set_option maxRecDepth 20000 in
theorem pk_13_94 {off : Nat → Int → Option Int} {ln : Int → Option Nat} {fx : Bool} {A : Nat → Prop} {sa : Int → Nat} {args : Array Value} {s : State} (ho : tb_of off) (hts : ∀ w ∈ tb_TT, w.before args s = true) (hE : tb_En A sa s) : tb_G off ln fx A sa RL args s (94, 2, 261, 3) := trivial
theorem le_13_95 : tb_Le 13 (95, 2, 145, 3) := fun _ => ⟨lf_2_145, Or.inl (tg tw_1029 rfl)⟩
set_option maxRecDepth 20000 in
theorem pk_13_95 {off : Nat → Int → Option Int} {ln : Int → Option Nat} {fx : Bool} {A : Nat → Prop} {sa : Int → Nat} {args : Array Value} {s : State} (ho : tb_of off) (hts : ∀ w ∈ tb_TT, w.before args s = true) (hE : tb_En A sa s) : tb_G off ln fx A sa RL args s (95, 2, 145, 3) := trivial
theorem le_13_98 : tb_Le 13 (98, 2, 263, 3) := fun _ => ⟨lf_2_263, Or.inl (tg tw_1859 rfl)⟩
set_option maxRecDepth 20000 in
theorem pk_13_98 {off : Nat → Int → Option Int} {ln : Int → Option Nat} {fx : Bool} {A : Nat → Prop} {sa : Int → Nat} {args : Array Value} {s : State} (ho : tb_of off) (hts : ∀ w ∈ tb_TT, w.before args s = true) (hE : tb_En A sa s) : tb_G off ln fx A sa RL args s (98, 2, 263, 3) := trivial
theorem le_13_99 : tb_Le 13 (99, 2, 146, 3) := fun _ => ⟨lf_2_146, Or.inl (tg tw_1047 rfl)⟩
set_option maxRecDepth 20000 in
theorem pk_13_99 {off : Nat → Int → Option Int} {ln : Int → Option Nat} {fx : Bool} {A : Nat → Prop} {sa : Int → Nat} {args : Array Value} {s : State} (ho : tb_of off) (hts : ∀ w ∈ tb_TT, w.before args s = true) (hE : tb_En A sa s) : tb_G off ln fx A sa RL args s (99, 2, 146, 3) := trivial
theorem le_13_103 : tb_Le 13 (103, 2, 267, 3) := fun _ => ⟨lf_2_267, Or.inl (tg tw_1877 rfl)⟩
set_option maxRecDepth 20000 in
theorem pk_13_103 {off : Nat → Int → Option Int} {ln : Int → Option Nat} {fx : Bool} {A : Nat → Prop} {sa : Int → Nat} {args : Array Value} {s : State} (ho : tb_of off) (hts : ∀ w ∈ tb_TT, w.before args s = true) (hE : tb_En A sa s) : tb_G off ln fx A sa RL args s (103, 2, 267, 3) := trivial
theorem le_13_104 : tb_Le 13 (104, 2, 147, 3) := fun _ => ⟨lf_2_147, Or.inl (tg tw_1059 rfl)⟩
set_option maxRecDepth 20000 in
theorem pk_13_104 {off : Nat → Int → Option Int} {ln : Int → Option Nat} {fx : Bool} {A : Nat → Prop} {sa : Int → Nat} {args : Array Value} {s : State} (ho : tb_of off) (hts : ∀ w ∈ tb_TT, w.before args s = true) (hE : tb_En A sa s) : tb_G off ln fx A sa RL args s (104, 2, 147, 3) := trivial
theorem le_13_107 : tb_Le 13 (107, 2, 268, 3) := fun _ => ⟨lf_2_268, Or.inl (tg tw_1893 rfl)⟩
set_option maxRecDepth 20000 in
theorem pk_13_107 {off : Nat → Int → Option Int} {ln : Int → Option Nat} {fx : Bool} {A : Nat → Prop} {sa : Int → Nat} {args : Array Value} {s : State} (ho : tb_of off) (hts : ∀ w ∈ tb_TT, w.before args s = true) (hE : tb_En A sa s) : tb_G off ln fx A sa RL args s (107, 2, 268, 3) := trivial
theorem le_13_108 : tb_Le 13 (108, 2, 148, 3) := fun _ => ⟨lf_2_148, Or.inl (tg tw_1064 rfl)⟩
set_option maxRecDepth 20000 in
theorem pk_13_108 {off : Nat → Int → Option Int} {ln : Int → Option Nat} {fx : Bool} {A : Nat → Prop} {sa : Int → Nat} {args : Array Value} {s : State} (ho : tb_of off) (hts : ∀ w ∈ tb_TT, w.before args s = true) (hE : tb_En A sa s) : tb_G off ln fx A sa RL args s (108, 2, 148, 3) := trivial
theorem le_13_112 : tb_Le 13 (112, 2, 269, 3) := fun _ => ⟨lf_2_269, Or.inl (tg tw_1897 rfl)⟩
set_option maxRecDepth 20000 in
theorem pk_13_112 {off : Nat → Int → Option Int} {ln : Int → Option Nat} {fx : Bool} {A : Nat → Prop} {sa : Int → Nat} {args : Array Value} {s : State} (ho : tb_of off) (hts : ∀ w ∈ tb_TT, w.before args s = true) (hE : tb_En A sa s) : tb_G off ln fx A sa RL args s (112, 2, 269, 3) := trivial
theorem le_13_113 : tb_Le 13 (113, 2, 149, 4) := fun _ => ⟨lf_2_149, Or.inl (tg tw_1068 rfl)⟩
set_option maxRecDepth 20000 in
theorem pk_13_113 {off : Nat → Int → Option Int} {ln : Int → Option Nat} {fx : Bool} {A : Nat → Prop} {sa : Int → Nat} {args : Array Value} {s : State} (ho : tb_of off) (hts : ∀ w ∈ tb_TT, w.before args s = true) (hE : tb_En A sa s) : tb_G off ln fx A sa RL args s (113, 2, 149, 4) := trivial
theorem le_13_116 : tb_Le 13 (116, 2, 270, 4) := fun _ => ⟨lf_2_270, Or.inl (tg tw_1902 rfl)⟩
set_option maxRecDepth 20000 in
theorem pk_13_116 {off : Nat → Int → Option Int} {ln : Int → Option Nat} {fx : Bool} {A : Nat → Prop} {sa : Int → Nat} {args : Array Value} {s : State} (ho : tb_of off) (hts : ∀ w ∈ tb_TT, w.before args s = true) (hE : tb_En A sa s) : tb_G off ln fx A sa RL args s (116, 2, 270, 4) := trivial
theorem le_13_117 : tb_Le 13 (117, 2, 150, 3) := fun _ => ⟨lf_2_150, Or.inl (tg tw_1073 rfl)⟩
set_option maxRecDepth 20000 in
theorem pk_13_117 {off : Nat → Int → Option Int} {ln : Int → Option Nat} {fx : Bool} {A : Nat → Prop} {sa : Int → Nat} {args : Array Value} {s : State} (ho : tb_of off) (hts : ∀ w ∈ tb_TT, w.before args s = true) (hE : tb_En A sa s) : tb_G off ln fx A sa RL args s (117, 2, 150, 3) := trivial
theorem le_13_120 : tb_Le 13 (120, 2, 273, 3) := fun _ => ⟨lf_2_273, Or.inl (tg tw_1910 rfl)⟩
set_option maxRecDepth 20000 in
theorem pk_13_120 {off : Nat → Int → Option Int} {ln : Int → Option Nat} {fx : Bool} {A : Nat → Prop} {sa : Int → Nat} {args : Array Value} {s : State} (ho : tb_of off) (hts : ∀ w ∈ tb_TT, w.before args s = true) (hE : tb_En A sa s) : tb_G off ln fx A sa RL args s (120, 2, 273, 3) := trivial
theorem le_13_121 : tb_Le 13 (121, 2, 151, 1) := fun _ => ⟨lf_2_151, Or.inl (tg tw_1085 rfl)⟩
set_option maxRecDepth 20000 in
theorem pk_13_121 {off : Nat → Int → Option Int} {ln : Int → Option Nat} {fx : Bool} {A : Nat → Prop} {sa : Int → Nat} {args : Array Value} {s : State} (ho : tb_of off) (hts : ∀ w ∈ tb_TT, w.before args s = true) (hE : tb_En A sa s) : tb_G off ln fx A sa RL args s (121, 2, 151, 1) := trivial
theorem le_13_125 : tb_Le 13 (125, 2, 265, 1) := fun _ => ⟨lf_2_265, Or.inl (tg tw_1873 rfl)⟩
set_option maxRecDepth 20000 in
theorem pk_13_125 {off : Nat → Int → Option Int} {ln : Int → Option Nat} {fx : Bool} {A : Nat → Prop} {sa : Int → Nat} {args : Array Value} {s : State} (ho : tb_of off) (hts : ∀ w ∈ tb_TT, w.before args s = true) (hE : tb_En A sa s) : tb_G off ln fx A sa RL args s (125, 2, 265, 1) := trivial
theorem le_13_126 : tb_Le 13 (126, 2, 152, 2) := fun _ => ⟨lf_2_152, Or.inl (tg tw_1094 rfl)⟩
set_option maxRecDepth 20000 in
theorem pk_13_126 {off : Nat → Int → Option Int} {ln : Int → Option Nat} {fx : Bool} {A : Nat → Prop} {sa : Int → Nat} {args : Array Value} {s : State} (ho : tb_of off) (hts : ∀ w ∈ tb_TT, w.before args s = true) (hE : tb_En A sa s) : tb_G off ln fx A sa RL args s (126, 2, 152, 2) := trivial
theorem le_13_129 : tb_Le 13 (129, 2, 271, 2) := fun _ => ⟨lf_2_271, Or.inl (tg tw_1906 rfl)⟩
set_option maxRecDepth 20000 in
theorem pk_13_129 {off : Nat → Int → Option Int} {ln : Int → Option Nat} {fx : Bool} {A : Nat → Prop} {sa : Int → Nat} {args : Array Value} {s : State} (ho : tb_of off) (hts : ∀ w ∈ tb_TT, w.before args s = true) (hE : tb_En A sa s) : tb_G off ln fx A sa RL args s (129, 2, 271, 2) := trivial
theorem le_13_130 : tb_Le 13 (130, 2, 153, 2) := fun _ => ⟨lf_2_153, Or.inl (tg tw_1098 rfl)⟩
set_option maxRecDepth 20000 in
theorem pk_13_130 {off : Nat → Int → Option Int} {ln : Int → Option Nat} {fx : Bool} {A : Nat → Prop} {sa : Int → Nat} {args : Array Value} {s : State} (ho : tb_of off) (hts : ∀ w ∈ tb_TT, w.before args s = true) (hE : tb_En A sa s) : tb_G off ln fx A sa RL args s (130, 2, 153, 2) := trivial
theorem le_13_133 : tb_Le 13 (133, 2, 274, 2) := fun _ => ⟨lf_2_274, Or.inl (tg tw_1922 rfl)⟩
set_option maxRecDepth 20000 in
theorem pk_13_133 {off : Nat → Int → Option Int} {ln : Int → Option Nat} {fx : Bool} {A : Nat → Prop} {sa : Int → Nat} {args : Array Value} {s : State} (ho : tb_of off) (hts : ∀ w ∈ tb_TT, w.before args s = true) (hE : tb_En A sa s) : tb_G off ln fx A sa RL args s (133, 2, 274, 2) := trivial
theorem le_13_134 : tb_Le 13 (134, 2, 154, 3) := fun _ => ⟨lf_2_154, Or.inl (tg tw_1103 rfl)⟩
set_option maxRecDepth 20000 in
theorem pk_13_134 {off : Nat → Int → Option Int} {ln : Int → Option Nat} {fx : Bool} {A : Nat → Prop} {sa : Int → Nat} {args : Array Value} {s : State} (ho : tb_of off) (hts : ∀ w ∈ tb_TT, w.before args s = true) (hE : tb_En A sa s) : tb_G off ln fx A sa RL args s (134, 2, 154, 3) := trivial
theorem le_13_137 : tb_Le 13 (137, 2, 276, 3) := fun _ => ⟨lf_2_276, Or.inl (tg tw_1927 rfl)⟩
set_option maxRecDepth 20000 in
theorem pk_13_137 {off : Nat → Int → Option Int} {ln : Int → Option Nat} {fx : Bool} {A : Nat → Prop} {sa : Int → Nat} {args : Array Value} {s : State} (ho : tb_of off) (hts : ∀ w ∈ tb_TT, w.before args s = true) (hE : tb_En A sa s) : tb_G off ln fx A sa RL args s (137, 2, 276, 3) := trivial
theorem le_13_138 : tb_Le 13 (138, 2, 155, 2) := fun _ => ⟨lf_2_155, Or.inl (tg tw_1111 rfl)⟩
set_option maxRecDepth 20000 in
theorem pk_13_138 {off : Nat → Int → Option Int} {ln : Int → Option Nat} {fx : Bool} {A : Nat → Prop} {sa : Int → Nat} {args : Array Value} {s : State} (ho : tb_of off) (hts : ∀ w ∈ tb_TT, w.before args s = true) (hE : tb_En A sa s) : tb_G off ln fx A sa RL args s (138, 2, 155, 2) := trivial
theorem le_13_142 : tb_Le 13 (142, 2, 305, 2) := fun _ => ⟨lf_2_305, Or.inl (tg tw_1935 rfl)⟩
set_option maxRecDepth 20000 in
theorem pk_13_142 {off : Nat → Int → Option Int} {ln : Int → Option Nat} {fx : Bool} {A : Nat → Prop} {sa : Int → Nat} {args : Array Value} {s : State} (ho : tb_of off) (hts : ∀ w ∈ tb_TT, w.before args s = true) (hE : tb_En A sa s) : tb_G off ln fx A sa RL args s (142, 2, 305, 2) := trivial
theorem le_13_143 : tb_Le 13 (143, 2, 156, 1) := fun _ => ⟨lf_2_156, Or.inl (tg tw_1169 rfl)⟩
set_option maxRecDepth 20000 in
theorem pk_13_143 {off : Nat → Int → Option Int} {ln : Int → Option Nat} {fx : Bool} {A : Nat → Prop} {sa : Int → Nat} {args : Array Value} {s : State} (ho : tb_of off) (hts : ∀ w ∈ tb_TT, w.before args s = true) (hE : tb_En A sa s) : tb_G off ln fx A sa RL args s (143, 2, 156, 1) := trivial
theorem le_13_146 : tb_Le 13 (146, 2, 309, 1) := fun _ => ⟨lf_2_309, Or.inl (tg tw_2053 rfl)⟩
set_option maxRecDepth 20000 in
theorem pk_13_146 {off : Nat → Int → Option Int} {ln : Int → Option Nat} {fx : Bool} {A : Nat → Prop} {sa : Int → Nat} {args : Array Value} {s : State} (ho : tb_of off) (hts : ∀ w ∈ tb_TT, w.before args s = true) (hE : tb_En A sa s) : tb_G off ln fx A sa RL args s (146, 2, 309, 1) := trivial
theorem le_13_147 : tb_Le 13 (147, 2, 157, 2) := fun _ => ⟨lf_2_157, Or.inl (tg tw_1177 rfl)⟩
set_option maxRecDepth 20000 in
theorem pk_13_147 {off : Nat → Int → Option Int} {ln : Int → Option Nat} {fx : Bool} {A : Nat → Prop} {sa : Int → Nat} {args : Array Value} {s : State} (ho : tb_of off) (hts : ∀ w ∈ tb_TT, w.before args s = true) (hE : tb_En A sa s) : tb_G off ln fx A sa RL args s (147, 2, 157, 2) := trivial
theorem le_13_150 : tb_Le 13 (150, 2, 310, 2) := fun _ => ⟨lf_2_310, Or.inl (tg tw_2064 rfl)⟩
set_option maxRecDepth 20000 in
theorem pk_13_150 {off : Nat → Int → Option Int} {ln : Int → Option Nat} {fx : Bool} {A : Nat → Prop} {sa : Int → Nat} {args : Array Value} {s : State} (ho : tb_of off) (hts : ∀ w ∈ tb_TT, w.before args s = true) (hE : tb_En A sa s) : tb_G off ln fx A sa RL args s (150, 2, 310, 2) := trivial
theorem le_13_151 : tb_Le 13 (151, 2, 158, 1) := fun _ => ⟨lf_2_158, Or.inl (tg tw_1181 rfl)⟩
set_option maxRecDepth 20000 in
theorem pk_13_151 {off : Nat → Int → Option Int} {ln : Int → Option Nat} {fx : Bool} {A : Nat → Prop} {sa : Int → Nat} {args : Array Value} {s : State} (ho : tb_of off) (hts : ∀ w ∈ tb_TT, w.before args s = true) (hE : tb_En A sa s) : tb_G off ln fx A sa RL args s (151, 2, 158, 1) := trivial
theorem le_13_154 : tb_Le 13 (154, 2, 312, 1) := fun _ => ⟨lf_2_312, Or.inl (tg tw_2068 rfl)⟩
set_option maxRecDepth 20000 in
theorem pk_13_154 {off : Nat → Int → Option Int} {ln : Int → Option Nat} {fx : Bool} {A : Nat → Prop} {sa : Int → Nat} {args : Array Value} {s : State} (ho : tb_of off) (hts : ∀ w ∈ tb_TT, w.before args s = true) (hE : tb_En A sa s) : tb_G off ln fx A sa RL args s (154, 2, 312, 1) := trivial
theorem le_13_155 : tb_Le 13 (155, 2, 159, 2) := fun _ => ⟨lf_2_159, Or.inl (tg tw_1193 rfl)⟩
set_option maxRecDepth 20000 in
theorem pk_13_155 {off : Nat → Int → Option Int} {ln : Int → Option Nat} {fx : Bool} {A : Nat → Prop} {sa : Int → Nat} {args : Array Value} {s : State} (ho : tb_of off) (hts : ∀ w ∈ tb_TT, w.before args s = true) (hE : tb_En A sa s) : tb_G off ln fx A sa RL args s (155, 2, 159, 2) := trivial
theorem le_13_158 : tb_Le 13 (158, 2, 313, 2) := fun _ => ⟨lf_2_313, Or.inl (tg tw_2076 rfl)⟩
set_option maxRecDepth 20000 in
theorem pk_13_158 {off : Nat → Int → Option Int} {ln : Int → Option Nat} {fx : Bool} {A : Nat → Prop} {sa : Int → Nat} {args : Array Value} {s : State} (ho : tb_of off) (hts : ∀ w ∈ tb_TT, w.before args s = true) (hE : tb_En A sa s) : tb_G off ln fx A sa RL args s (158, 2, 313, 2) := trivial
set_option maxRecDepth 20000 in
theorem le_13 : ∀ e ∈ pl_13, tb_Le 13 e := List.forall_mem_cons.mpr ⟨le_13_7, List.forall_mem_cons.mpr ⟨le_13_9, List.forall_mem_cons.mpr ⟨le_13_10, List.forall_mem_cons.mpr ⟨le_13_12, List.forall_mem_cons.mpr ⟨le_13_13, List.forall_mem_cons.mpr ⟨le_13_17, List.forall_mem_cons.mpr ⟨le_13_18, List.forall_mem_cons.mpr ⟨le_13_22, List.forall_mem_cons.mpr ⟨le_13_23, List.forall_mem_cons.mpr ⟨le_13_27, List.forall_mem_cons.mpr ⟨le_13_28, List.forall_mem_cons.mpr ⟨le_13_32, List.forall_mem_cons.mpr ⟨le_13_33, List.forall_mem_cons.mpr ⟨le_13_36, List.forall_mem_cons.mpr ⟨le_13_37, List.forall_mem_cons.mpr ⟨le_13_41, List.forall_mem_cons.mpr ⟨le_13_42, List.forall_mem_cons.mpr ⟨le_13_46, List.forall_mem_cons.mpr ⟨le_13_47, List.forall_mem_cons.mpr ⟨le_13_50, List.forall_mem_cons.mpr ⟨le_13_51, List.forall_mem_cons.mpr ⟨le_13_54, List.forall_mem_cons.mpr ⟨le_13_55, List.forall_mem_cons.mpr ⟨le_13_58, List.forall_mem_cons.mpr ⟨le_13_59, List.forall_mem_cons.mpr ⟨le_13_62, List.forall_mem_cons.mpr ⟨le_13_63, List.forall_mem_cons.mpr ⟨le_13_66, List.forall_mem_cons.mpr ⟨le_13_67, List.forall_mem_cons.mpr ⟨le_13_70, List.forall_mem_cons.mpr ⟨le_13_71, List.forall_mem_cons.mpr ⟨le_13_74, List.forall_mem_cons.mpr ⟨le_13_75, List.forall_mem_cons.mpr ⟨le_13_78, List.forall_mem_cons.mpr ⟨le_13_79, List.forall_mem_cons.mpr ⟨le_13_82, List.forall_mem_cons.mpr ⟨le_13_83, List.forall_mem_cons.mpr ⟨le_13_86, List.forall_mem_cons.mpr ⟨le_13_87, List.forall_mem_cons.mpr ⟨le_13_90, List.forall_mem_cons.mpr ⟨le_13_91, List.forall_mem_cons.mpr ⟨le_13_94, List.forall_mem_cons.mpr ⟨le_13_95, List.forall_mem_cons.mpr ⟨le_13_98, List.forall_mem_cons.mpr ⟨le_13_99, List.forall_mem_cons.mpr ⟨le_13_103, List.forall_mem_cons.mpr ⟨le_13_104, List.forall_mem_cons.mpr ⟨le_13_107, List.forall_mem_cons.mpr ⟨le_13_108, List.forall_mem_cons.mpr ⟨le_13_112, List.forall_mem_cons.mpr ⟨le_13_113, List.forall_mem_cons.mpr ⟨le_13_116, List.forall_mem_cons.mpr ⟨le_13_117, List.forall_mem_cons.mpr ⟨le_13_120, List.forall_mem_cons.mpr ⟨le_13_121, List.forall_mem_cons.mpr ⟨le_13_125, List.forall_mem_cons.mpr ⟨le_13_126, List.forall_mem_cons.mpr ⟨le_13_129, List.forall_mem_cons.mpr ⟨le_13_130, List.forall_mem_cons.mpr ⟨le_13_133, List.forall_mem_cons.mpr ⟨le_13_134, List.forall_mem_cons.mpr ⟨le_13_137, List.forall_mem_cons.mpr ⟨le_13_138, List.forall_mem_cons.mpr ⟨le_13_142, List.forall_mem_cons.mpr ⟨le_13_143, List.forall_mem_cons.mpr ⟨le_13_146, List.forall_mem_cons.mpr ⟨le_13_147, List.forall_mem_cons.mpr ⟨le_13_150, List.forall_mem_cons.mpr ⟨le_13_151, List.forall_mem_cons.mpr ⟨le_13_154, List.forall_mem_cons.mpr ⟨le_13_155, List.forall_mem_cons.mpr ⟨le_13_158, (fun _ h => absurd h (by simp))⟩⟩⟩⟩⟩⟩⟩⟩⟩⟩⟩⟩⟩⟩⟩⟩⟩⟩⟩⟩⟩⟩⟩⟩⟩⟩⟩⟩⟩⟩⟩⟩⟩⟩⟩⟩⟩⟩⟩⟩⟩⟩⟩⟩⟩⟩⟩⟩⟩⟩⟩⟩⟩⟩⟩⟩⟩⟩⟩⟩⟩⟩⟩⟩⟩⟩⟩⟩⟩⟩⟩⟩
set_option maxRecDepth 20000 in
theorem pk_13 {off : Nat → Int → Option Int} {ln : Int → Option Nat} {fx : Bool} {A : Nat → Prop} {sa : Int → Nat} {args : Array Value} {s : State} (ho : tb_of off) (hts : ∀ w ∈ tb_TT, w.before args s = true) (hE : tb_En A sa s) : ∀ e ∈ pl_13, tb_G off ln fx A sa RL args s e := List.forall_mem_cons.mpr ⟨pk_13_7 ho hts hE, List.forall_mem_cons.mpr ⟨pk_13_9 ho hts hE, List.forall_mem_cons.mpr ⟨pk_13_10 ho hts hE, List.forall_mem_cons.mpr ⟨pk_13_12 ho hts hE, List.forall_mem_cons.mpr ⟨pk_13_13 ho hts hE, List.forall_mem_cons.mpr ⟨pk_13_17 ho hts hE, List.forall_mem_cons.mpr ⟨pk_13_18 ho hts hE, List.forall_mem_cons.mpr ⟨pk_13_22 ho hts hE, List.forall_mem_cons.mpr ⟨pk_13_23 ho hts hE, List.forall_mem_cons.mpr ⟨pk_13_27 ho hts hE, List.forall_mem_cons.mpr ⟨pk_13_28 ho hts hE, List.forall_mem_cons.mpr ⟨pk_13_32 ho hts hE, List.forall_mem_cons.mpr ⟨pk_13_33 ho hts hE, List.forall_mem_cons.mpr ⟨pk_13_36 ho hts hE, List.forall_mem_cons.mpr ⟨pk_13_37 ho hts hE, List.forall_mem_cons.mpr ⟨pk_13_41 ho hts hE, List.forall_mem_cons.mpr ⟨pk_13_42 ho hts hE, List.forall_mem_cons.mpr ⟨pk_13_46 ho hts hE, List.forall_mem_cons.mpr ⟨pk_13_47 ho hts hE, List.forall_mem_cons.mpr ⟨pk_13_50 ho hts hE, List.forall_mem_cons.mpr ⟨pk_13_51 ho hts hE, List.forall_mem_cons.mpr ⟨pk_13_54 ho hts hE, List.forall_mem_cons.mpr ⟨pk_13_55 ho hts hE, List.forall_mem_cons.mpr ⟨pk_13_58 ho hts hE, List.forall_mem_cons.mpr ⟨pk_13_59 ho hts hE, List.forall_mem_cons.mpr ⟨pk_13_62 ho hts hE, List.forall_mem_cons.mpr ⟨pk_13_63 ho hts hE, List.forall_mem_cons.mpr ⟨pk_13_66 ho hts hE, List.forall_mem_cons.mpr ⟨pk_13_67 ho hts hE, List.forall_mem_cons.mpr ⟨pk_13_70 ho hts hE, List.forall_mem_cons.mpr ⟨pk_13_71 ho hts hE, List.forall_mem_cons.mpr ⟨pk_13_74 ho hts hE, List.forall_mem_cons.mpr ⟨pk_13_75 ho hts hE, List.forall_mem_cons.mpr ⟨pk_13_78 ho hts hE, List.forall_mem_cons.mpr ⟨pk_13_79 ho hts hE, List.forall_mem_cons.mpr ⟨pk_13_82 ho hts hE, List.forall_mem_cons.mpr ⟨pk_13_83 ho hts hE, List.forall_mem_cons.mpr ⟨pk_13_86 ho hts hE, List.forall_mem_cons.mpr ⟨pk_13_87 ho hts hE, List.forall_mem_cons.mpr ⟨pk_13_90 ho hts hE, List.forall_mem_cons.mpr ⟨pk_13_91 ho hts hE, List.forall_mem_cons.mpr ⟨pk_13_94 ho hts hE, List.forall_mem_cons.mpr ⟨pk_13_95 ho hts hE, List.forall_mem_cons.mpr ⟨pk_13_98 ho hts hE, List.forall_mem_cons.mpr ⟨pk_13_99 ho hts hE, List.forall_mem_cons.mpr ⟨pk_13_103 ho hts hE, List.forall_mem_cons.mpr ⟨pk_13_104 ho hts hE, List.forall_mem_cons.mpr ⟨pk_13_107 ho hts hE, List.forall_mem_cons.mpr ⟨pk_13_108 ho hts hE, List.forall_mem_cons.mpr ⟨pk_13_112 ho hts hE, List.forall_mem_cons.mpr ⟨pk_13_113 ho hts hE, List.forall_mem_cons.mpr ⟨pk_13_116 ho hts hE, List.forall_mem_cons.mpr ⟨pk_13_117 ho hts hE, List.forall_mem_cons.mpr ⟨pk_13_120 ho hts hE, List.forall_mem_cons.mpr ⟨pk_13_121 ho hts hE, List.forall_mem_cons.mpr ⟨pk_13_125 ho hts hE, List.forall_mem_cons.mpr ⟨pk_13_126 ho hts hE, List.forall_mem_cons.mpr ⟨pk_13_129 ho hts hE, List.forall_mem_cons.mpr ⟨pk_13_130 ho hts hE, List.forall_mem_cons.mpr ⟨pk_13_133 ho hts hE, List.forall_mem_cons.mpr ⟨pk_13_134 ho hts hE, List.forall_mem_cons.mpr ⟨pk_13_137 ho hts hE, List.forall_mem_cons.mpr ⟨pk_13_138 ho hts hE, List.forall_mem_cons.mpr ⟨pk_13_142 ho hts hE, List.forall_mem_cons.mpr ⟨pk_13_143 ho hts hE, List.forall_mem_cons.mpr ⟨pk_13_146 ho hts hE, List.forall_mem_cons.mpr ⟨pk_13_147 ho hts hE, List.forall_mem_cons.mpr ⟨pk_13_150 ho hts hE, List.forall_mem_cons.mpr ⟨pk_13_151 ho hts hE, List.forall_mem_cons.mpr ⟨pk_13_154 ho hts hE, List.forall_mem_cons.mpr ⟨pk_13_155 ho hts hE, List.forall_mem_cons.mpr ⟨pk_13_158 ho hts hE, (fun _ h => absurd h (by simp))⟩⟩⟩⟩⟩⟩⟩⟩⟩⟩⟩⟩⟩⟩⟩⟩⟩⟩⟩⟩⟩⟩⟩⟩⟩⟩⟩⟩⟩⟩⟩⟩⟩⟩⟩⟩⟩⟩⟩⟩⟩⟩⟩⟩⟩⟩⟩⟩⟩⟩⟩⟩⟩⟩⟩⟩⟩⟩⟩⟩⟩⟩⟩⟩⟩⟩⟩⟩⟩⟩⟩⟩
theorem le_15_265 : tb_Le 15 (265, 4, 0, 1431655765) := fun h => absurd h (by decide)
set_option maxRecDepth 20000 in
theorem pk_15_265 {off : Nat → Int → Option Int} {ln : Int → Option Nat} {fx : Bool} {A : Nat → Prop} {sa : Int → Nat} {args : Array Value} {s : State} (ho : tb_of off) (hts : ∀ w ∈ tb_TT, w.before args s = true) (hE : tb_En A sa s) : tb_G off ln fx A sa RJ6 args s (265, 4, 0, 1431655765) := ⟨1431655765, hts _ (tg tw_957 rfl), by decide +kernel⟩
theorem le_15_266 : tb_Le 15 (266, 4, 0, 858993459) := fun h => absurd h (by decide)
set_option maxRecDepth 20000 in
theorem pk_15_266 {off : Nat → Int → Option Int} {ln : Int → Option Nat} {fx : Bool} {A : Nat → Prop} {sa : Int → Nat} {args : Array Value} {s : State} (ho : tb_of off) (hts : ∀ w ∈ tb_TT, w.before args s = true) (hE : tb_En A sa s) : tb_G off ln fx A sa RJ6 args s (266, 4, 0, 858993459) := ⟨858993459, hts _ (tg tw_958 rfl), by decide +kernel⟩
theorem le_15_267 : tb_Le 15 (267, 4, 0, 252645135) := fun h => absurd h (by decide)
set_option maxRecDepth 20000 in
theorem pk_15_267 {off : Nat → Int → Option Int} {ln : Int → Option Nat} {fx : Bool} {A : Nat → Prop} {sa : Int → Nat} {args : Array Value} {s : State} (ho : tb_of off) (hts : ∀ w ∈ tb_TT, w.before args s = true) (hE : tb_En A sa s) : tb_G off ln fx A sa RJ6 args s (267, 4, 0, 252645135) := ⟨252645135, hts _ (tg tw_959 rfl), by decide +kernel⟩
set_option maxRecDepth 20000 in
theorem le_15 : ∀ e ∈ pl_15, tb_Le 15 e := List.forall_mem_cons.mpr ⟨le_15_265, List.forall_mem_cons.mpr ⟨le_15_266, List.forall_mem_cons.mpr ⟨le_15_267, (fun _ h => absurd h (by simp))⟩⟩⟩
set_option maxRecDepth 20000 in
theorem pk_15 {off : Nat → Int → Option Int} {ln : Int → Option Nat} {fx : Bool} {A : Nat → Prop} {sa : Int → Nat} {args : Array Value} {s : State} (ho : tb_of off) (hts : ∀ w ∈ tb_TT, w.before args s = true) (hE : tb_En A sa s) : ∀ e ∈ pl_15, tb_G off ln fx A sa RJ6 args s e := List.forall_mem_cons.mpr ⟨pk_15_265 ho hts hE, List.forall_mem_cons.mpr ⟨pk_15_266 ho hts hE, List.forall_mem_cons.mpr ⟨pk_15_267 ho hts hE, (fun _ h => absurd h (by simp))⟩⟩⟩
set_option maxRecDepth 20000 in
theorem mg_all : tb_each tb_Pf 0 pg_ms := ⟨mg_0, ⟨mg_1, ⟨mg_2, ⟨mg_3, ⟨mg_4, ⟨mg_5, ⟨mg_6, ⟨mg_7, ⟨mg_8, ⟨mg_9, ⟨mg_10, ⟨mg_11, ⟨mg_12, ⟨mg_13, ⟨mg_14, ⟨mg_15, ⟨mg_16, ⟨mg_17, ⟨mg_18, ⟨mg_19, ⟨mg_20, ⟨mg_21, ⟨mg_22, ⟨mg_23, ⟨mg_24, ⟨mg_25, ⟨mg_26, ⟨mg_27, ⟨mg_28, ⟨mg_29, ⟨mg_30, ⟨mg_31, ⟨mg_32, ⟨mg_33, ⟨mg_34, ⟨mg_35, ⟨mg_36, ⟨mg_37, ⟨mg_38, ⟨mg_39, ⟨mg_40, ⟨mg_41, ⟨mg_42, ⟨mg_43, ⟨mg_44, ⟨mg_45, ⟨mg_46, ⟨mg_47, ⟨mg_48, ⟨mg_49, ⟨mg_50, ⟨mg_51, ⟨mg_52, ⟨mg_53, ⟨mg_54, ⟨mg_55, ⟨mg_56, ⟨mg_57, ⟨mg_58, ⟨mg_59, ⟨mg_60, ⟨mg_61, ⟨mg_62, ⟨mg_63, ⟨mg_64, ⟨mg_65, ⟨mg_66, ⟨mg_67, ⟨mg_68, ⟨mg_69, ⟨mg_70, ⟨mg_71, ⟨mg_72, ⟨mg_73, ⟨mg_74, ⟨mg_75, ⟨mg_76, ⟨mg_77, ⟨mg_78, ⟨mg_79, ⟨mg_80, ⟨mg_81, ⟨mg_82, ⟨mg_83, ⟨mg_84, ⟨mg_85, ⟨mg_86, ⟨mg_87, ⟨mg_88, ⟨mg_89, ⟨mg_90, ⟨mg_91, ⟨mg_92, ⟨mg_93, ⟨mg_94, ⟨mg_95, ⟨mg_96, ⟨mg_97, ⟨mg_98, ⟨mg_99, ⟨mg_100, ⟨mg_101, ⟨mg_102, ⟨mg_103, ⟨mg_104, ⟨mg_105, ⟨mg_106, ⟨mg_107, ⟨mg_108, ⟨mg_109, ⟨mg_110, ⟨mg_111, ⟨mg_112, ⟨mg_113, ⟨mg_114, ⟨mg_115, ⟨mg_116, ⟨mg_117, ⟨mg_118, ⟨mg_119, ⟨mg_120, ⟨mg_121, ⟨mg_122, ⟨mg_123, ⟨mg_124, ⟨mg_125, ⟨mg_126, ⟨mg_127, ⟨mg_128, ⟨mg_129, ⟨mg_130, ⟨mg_131, ⟨mg_132, ⟨mg_133, ⟨mg_134, ⟨mg_135, ⟨mg_136, ⟨mg_137, ⟨mg_138, ⟨mg_139, ⟨mg_140, ⟨mg_141, ⟨mg_142, ⟨mg_143, ⟨mg_144, ⟨mg_145, ⟨mg_146, ⟨mg_147, ⟨mg_148, ⟨mg_149, ⟨mg_150, ⟨mg_151, ⟨mg_152, ⟨mg_153, ⟨mg_154, ⟨mg_155, ⟨mg_156, ⟨mg_157, ⟨mg_158, ⟨mg_159, ⟨mg_160, ⟨mg_161, ⟨mg_162, ⟨mg_163, ⟨mg_164, ⟨mg_165, ⟨mg_166, ⟨mg_167, ⟨mg_168, ⟨mg_169, ⟨mg_170, ⟨mg_171, ⟨mg_172, ⟨mg_173, ⟨mg_174, ⟨mg_175, ⟨mg_176, ⟨mg_177, ⟨mg_178, ⟨mg_179, ⟨mg_180, ⟨mg_181, ⟨mg_182, ⟨mg_183, ⟨mg_184, ⟨mg_185, ⟨mg_186, ⟨mg_187, ⟨mg_188, ⟨mg_189, ⟨mg_190, ⟨mg_191, ⟨mg_192, ⟨mg_193, ⟨mg_194, ⟨mg_195, ⟨mg_196, ⟨mg_197, ⟨mg_198, ⟨mg_199, ⟨mg_200, ⟨mg_201, ⟨mg_202, ⟨mg_203, ⟨mg_204, ⟨mg_205, ⟨mg_206, ⟨mg_207, ⟨mg_208, ⟨mg_209, ⟨mg_210, ⟨mg_211, ⟨mg_212, ⟨mg_213, ⟨mg_214, ⟨mg_215, ⟨mg_216, ⟨mg_217, ⟨mg_218, ⟨mg_219, ⟨mg_220, ⟨mg_221, ⟨mg_222, ⟨mg_223, ⟨mg_224, ⟨mg_225, ⟨mg_226, ⟨mg_227, ⟨mg_228, ⟨mg_229, ⟨mg_230, ⟨mg_231, ⟨mg_232, ⟨mg_233, ⟨mg_234, ⟨mg_235, ⟨mg_236, ⟨mg_237, ⟨mg_238, ⟨mg_239, ⟨mg_240, ⟨mg_241, ⟨mg_242, ⟨mg_243, ⟨mg_244, ⟨mg_245, ⟨mg_246, ⟨mg_247, ⟨mg_248, ⟨mg_249, ⟨mg_250, ⟨mg_251, ⟨mg_252, ⟨mg_253, ⟨mg_254, ⟨mg_255, ⟨mg_256, ⟨mg_257, ⟨mg_258, ⟨mg_259, ⟨mg_260, ⟨mg_261, ⟨mg_262, ⟨mg_263, ⟨mg_264, ⟨mg_265, ⟨mg_266, ⟨mg_267, ⟨mg_268, ⟨mg_269, ⟨mg_270, ⟨mg_271, ⟨mg_272, ⟨mg_273, ⟨mg_274, ⟨mg_275, ⟨mg_276, ⟨mg_277, ⟨mg_278, ⟨mg_279, ⟨mg_280, ⟨mg_281, ⟨mg_282, ⟨mg_283, ⟨mg_284, ⟨mg_285, ⟨mg_286, ⟨mg_287, ⟨mg_288, ⟨mg_289, ⟨mg_290, ⟨mg_291, ⟨mg_292, ⟨mg_293, ⟨mg_294, ⟨mg_295, ⟨mg_296, ⟨mg_297, ⟨mg_298, ⟨mg_299, ⟨mg_300, ⟨mg_301, ⟨mg_302, ⟨mg_303, ⟨mg_304, ⟨mg_305, ⟨mg_306, ⟨mg_307, ⟨mg_308, ⟨mg_309, ⟨mg_310, ⟨mg_311, ⟨mg_312, ⟨mg_313, ⟨mg_314, ⟨mg_315, ⟨mg_316, ⟨mg_317, ⟨mg_318, ⟨mg_319, trivial⟩⟩⟩⟩⟩⟩⟩⟩⟩⟩⟩⟩⟩⟩⟩⟩⟩⟩⟩⟩⟩⟩⟩⟩⟩⟩⟩⟩⟩⟩⟩⟩⟩⟩⟩⟩⟩⟩⟩⟩⟩⟩⟩⟩⟩⟩⟩⟩⟩⟩⟩⟩⟩⟩⟩⟩⟩⟩⟩⟩⟩⟩⟩⟩⟩⟩⟩⟩⟩⟩⟩⟩⟩⟩⟩⟩⟩⟩⟩⟩⟩⟩⟩⟩⟩⟩⟩⟩⟩⟩⟩⟩⟩⟩⟩⟩⟩⟩⟩⟩⟩⟩⟩⟩⟩⟩⟩⟩⟩⟩⟩⟩⟩⟩⟩⟩⟩⟩⟩⟩⟩⟩⟩⟩⟩⟩⟩⟩⟩⟩⟩⟩⟩⟩⟩⟩⟩⟩⟩⟩⟩⟩⟩⟩⟩⟩⟩⟩⟩⟩⟩⟩⟩⟩⟩⟩⟩⟩⟩⟩⟩⟩⟩⟩⟩⟩⟩⟩⟩⟩⟩⟩⟩⟩⟩⟩⟩⟩⟩⟩⟩⟩⟩⟩⟩⟩⟩⟩⟩⟩⟩⟩⟩⟩⟩⟩⟩⟩⟩⟩⟩⟩⟩⟩⟩⟩⟩⟩⟩⟩⟩⟩⟩⟩⟩⟩⟩⟩⟩⟩⟩⟩⟩⟩⟩⟩⟩⟩⟩⟩⟩⟩⟩⟩⟩⟩⟩⟩⟩⟩⟩⟩⟩⟩⟩⟩⟩⟩⟩⟩⟩⟩⟩⟩⟩⟩⟩⟩⟩⟩⟩⟩⟩⟩⟩⟩⟩⟩⟩⟩⟩⟩⟩⟩⟩⟩⟩⟩⟩⟩⟩⟩⟩⟩⟩⟩⟩⟩⟩⟩⟩⟩⟩⟩⟩⟩⟩⟩⟩⟩⟩⟩⟩⟩⟩⟩⟩⟩⟩⟩⟩⟩⟩⟩⟩⟩⟩⟩⟩⟩
