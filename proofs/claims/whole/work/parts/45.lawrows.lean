/-! the rows by which the law is walked: the program with the script's row (made out of part 30 by wip/whole/lawblocks.py) -/
def pgL_len (N : Nat) : Int → Option Nat := fun a => if a = 2000003 then some N else pg_len a
def pgL (N : Nat) : am_P := tb_P pg_off (pgL_len N) true
section WR
variable {N own ret d : Nat} {c : am_C} {Q : am_Q} {pc len : Nat} {L st : List am_V} {S : am_S} {M : am_M}
abbrev am_h (N own ret : Nat) (c : am_C) (d : Nat) (Q : am_Q) (pc : Nat) (L st : List am_V) (S : am_S) (M : am_M) : Prop := am_W (pgL N) own ret c (am_cal pg d) Q pc L st S M
theorem w_iconst {n : Int} (ha : am_at c pc = some (len, .iconst n)) (h : am_h N own ret c d Q (pc + len) L ((0, n) :: st) S M) : am_h N own ret c d Q pc L st S M := am_W_step (am_Cc_cal pg d) ha h
theorem w_bipush {n : Int} (ha : am_at c pc = some (len, .bipush n)) (h : am_h N own ret c d Q (pc + len) L ((0, n) :: st) S M) : am_h N own ret c d Q pc L st S M := am_W_step (am_Cc_cal pg d) ha h
theorem w_sipush {n : Int} (ha : am_at c pc = some (len, .sipush n)) (h : am_h N own ret c d Q (pc + len) L ((0, n) :: st) S M) : am_h N own ret c d Q pc L st S M := am_W_step (am_Cc_cal pg d) ha h
theorem w_lconst {n : Fin 2} (ha : am_at c pc = some (len, .lconst n)) (h : am_h N own ret c d Q (pc + len) L ((1, ((n : Nat) : Int)) :: st) S M) : am_h N own ret c d Q pc L st S M := am_W_step (am_Cc_cal pg d) ha h
theorem w_ldc {k a : Nat} {n : Int} (ha : am_at c pc = some (len, .ldc k)) (hp : (pgL N).1 own k = some (4, a, n)) (h : am_h N own ret c d Q (pc + len) L ((0, n) :: st) S M) : am_h N own ret c d Q pc L st S M := am_W_step (am_Cc_cal pg d) ha (by unfold am_step; dsimp only; rw [hp]; exact h)
theorem w_ldc_w {k a : Nat} {n : Int} (ha : am_at c pc = some (len, .ldc_w k)) (hp : (pgL N).1 own k = some (4, a, n)) (h : am_h N own ret c d Q (pc + len) L ((0, n) :: st) S M) : am_h N own ret c d Q pc L st S M := am_W_step (am_Cc_cal pg d) ha (by unfold am_step; dsimp only; rw [hp]; exact h)
theorem w_ldcS {k a : Nat} {n : Int} (ha : am_at c pc = some (len, .ldc k)) (hp : (pgL N).1 own k = some (6, a, n)) (h : am_h N own ret c d Q (pc + len) L ((2, n) :: st) S M) : am_h N own ret c d Q pc L st S M := am_W_step (am_Cc_cal pg d) ha (by unfold am_step; dsimp only; rw [hp]; exact h)
theorem w_ldc2 {k a : Nat} {n : Int} (ha : am_at c pc = some (len, .ldc2_w k)) (hp : (pgL N).1 own k = some (5, a, n)) (h : am_h N own ret c d Q (pc + len) L ((1, n) :: st) S M) : am_h N own ret c d Q pc L st S M := am_W_step (am_Cc_cal pg d) ha (by unfold am_step; dsimp only; rw [hp]; exact h)
theorem w_gets {k a : Nat} {n : Int} (ha : am_at c pc = some (len, .getstatic k)) (hp : (pgL N).1 own k = some (7, a, n)) (h : am_h N own ret c d Q (pc + len) L ((2, n) :: st) S M) : am_h N own ret c d Q pc L st S M := am_W_step (am_Cc_cal pg d) ha (by unfold am_step; dsimp only; rw [hp]; exact h)
theorem w_null (ha : am_at c pc = some (len, .aconst_null)) (h : am_h N own ret c d Q (pc + len) L ((2, -1) :: st) S M) : am_h N own ret c d Q pc L st S M := am_W_step (am_Cc_cal pg d) ha h
theorem w_iload_n {k : Fin 4} {x : Int} (ha : am_at c pc = some (len, .iload_n k)) (hl : L[(k : Nat)]? = some (0, x)) (h : am_h N own ret c d Q (pc + len) L ((0, x) :: st) S M) : am_h N own ret c d Q pc L st S M := am_W_step (am_Cc_cal pg d) ha (by unfold am_step am_ld0; dsimp only; rw [hl]; exact h)
theorem w_iload {k : Nat} {x : Int} (ha : am_at c pc = some (len, .iload k)) (hl : L[k]? = some (0, x)) (h : am_h N own ret c d Q (pc + len) L ((0, x) :: st) S M) : am_h N own ret c d Q pc L st S M := am_W_step (am_Cc_cal pg d) ha (by unfold am_step am_ld0; dsimp only; rw [hl]; exact h)
theorem w_lload_n {k : Fin 4} {x : Int} (ha : am_at c pc = some (len, .lload_n k)) (hl : L[(k : Nat)]? = some (1, x)) (h : am_h N own ret c d Q (pc + len) L ((1, x) :: st) S M) : am_h N own ret c d Q pc L st S M := am_W_step (am_Cc_cal pg d) ha (by unfold am_step am_ld1; dsimp only; rw [hl]; exact h)
theorem w_lload {k : Nat} {x : Int} (ha : am_at c pc = some (len, .lload k)) (hl : L[k]? = some (1, x)) (h : am_h N own ret c d Q (pc + len) L ((1, x) :: st) S M) : am_h N own ret c d Q pc L st S M := am_W_step (am_Cc_cal pg d) ha (by unfold am_step am_ld1; dsimp only; rw [hl]; exact h)
theorem w_aload_n {k : Fin 4} {x : Int} (ha : am_at c pc = some (len, .aload_n k)) (hl : L[(k : Nat)]? = some (2, x)) (h : am_h N own ret c d Q (pc + len) L ((2, x) :: st) S M) : am_h N own ret c d Q pc L st S M := am_W_step (am_Cc_cal pg d) ha (by unfold am_step am_ld2; dsimp only; rw [hl]; exact h)
theorem w_aload {k : Nat} {x : Int} (ha : am_at c pc = some (len, .aload k)) (hl : L[k]? = some (2, x)) (h : am_h N own ret c d Q (pc + len) L ((2, x) :: st) S M) : am_h N own ret c d Q pc L st S M := am_W_step (am_Cc_cal pg d) ha (by unfold am_step am_ld2; dsimp only; rw [hl]; exact h)
theorem w_istore_n {k : Fin 4} {x : Int} {L' : List am_V} (ha : am_at c pc = some (len, .istore_n k)) (hl : am_st L k (0, x) = L') (h : am_h N own ret c d Q (pc + len) L' st S M) : am_h N own ret c d Q pc L ((0, x) :: st) S M := am_W_step (am_Cc_cal pg d) ha (by subst hl; exact h)
theorem w_istore {k : Nat} {x : Int} {L' : List am_V} (ha : am_at c pc = some (len, .istore k)) (hl : am_st L k (0, x) = L') (h : am_h N own ret c d Q (pc + len) L' st S M) : am_h N own ret c d Q pc L ((0, x) :: st) S M := am_W_step (am_Cc_cal pg d) ha (by subst hl; exact h)
theorem w_astore_n {k : Fin 4} {x : Int} {L' : List am_V} (ha : am_at c pc = some (len, .astore_n k)) (hl : am_st L k (2, x) = L') (h : am_h N own ret c d Q (pc + len) L' st S M) : am_h N own ret c d Q pc L ((2, x) :: st) S M := am_W_step (am_Cc_cal pg d) ha (by subst hl; exact h)
theorem w_astore {k : Nat} {x : Int} {L' : List am_V} (ha : am_at c pc = some (len, .astore k)) (hl : am_st L k (2, x) = L') (h : am_h N own ret c d Q (pc + len) L' st S M) : am_h N own ret c d Q pc L ((2, x) :: st) S M := am_W_step (am_Cc_cal pg d) ha (by subst hl; exact h)
theorem w_lstore_n {k : Fin 4} {x : Int} {L' : List am_V} (ha : am_at c pc = some (len, .lstore_n k)) (hl : am_st2 L k (1, x) = L') (h : am_h N own ret c d Q (pc + len) L' st S M) : am_h N own ret c d Q pc L ((1, x) :: st) S M := am_W_step (am_Cc_cal pg d) ha (by subst hl; exact h)
theorem w_lstore {k : Nat} {x : Int} {L' : List am_V} (ha : am_at c pc = some (len, .lstore k)) (hl : am_st2 L k (1, x) = L') (h : am_h N own ret c d Q (pc + len) L' st S M) : am_h N own ret c d Q pc L ((1, x) :: st) S M := am_W_step (am_Cc_cal pg d) ha (by subst hl; exact h)
theorem w_iinc {k : Nat} {n x : Int} {L' : List am_V} (ha : am_at c pc = some (len, .iinc k n)) (hl : L[k]? = some (0, x)) (hr : am_r (x + n)) (hl2 : am_st L k (0, x + n) = L') (h : am_h N own ret c d Q (pc + len) L' st S M) : am_h N own ret c d Q pc L st S M := am_W_step (am_Cc_cal pg d) ha (by unfold am_step am_ld0; dsimp only; rw [hl]; show am_h N own ret c d Q (pc + len) (am_st L k (0, am_w (x + n))) st S M; rw [am_w_id hr, hl2]; exact h)
theorem w_iadd {x y : Int} (ha : am_at c pc = some (len, .iadd)) (hr : am_r (x + y)) (h : am_h N own ret c d Q (pc + len) L ((0, x + y) :: st) S M) : am_h N own ret c d Q pc L ((0, y) :: (0, x) :: st) S M := am_W_step (am_Cc_cal pg d) ha (by show am_h N own ret c d Q (pc + len) L ((0, am_w (x + y)) :: st) S M; rw [am_w_id hr]; exact h)
theorem w_isub {x y : Int} (ha : am_at c pc = some (len, .isub)) (hr : am_r (x - y)) (h : am_h N own ret c d Q (pc + len) L ((0, x - y) :: st) S M) : am_h N own ret c d Q pc L ((0, y) :: (0, x) :: st) S M := am_W_step (am_Cc_cal pg d) ha (by show am_h N own ret c d Q (pc + len) L ((0, am_w (x - y)) :: st) S M; rw [am_w_id hr]; exact h)
theorem w_imul {x y : Int} (ha : am_at c pc = some (len, .imul)) (hr : am_r (x * y)) (h : am_h N own ret c d Q (pc + len) L ((0, x * y) :: st) S M) : am_h N own ret c d Q pc L ((0, y) :: (0, x) :: st) S M := am_W_step (am_Cc_cal pg d) ha (by show am_h N own ret c d Q (pc + len) L ((0, am_w (x * y)) :: st) S M; rw [am_w_id hr]; exact h)
theorem w_idiv {x y : Int} (ha : am_at c pc = some (len, .idiv)) (hy : ¬ y = 0) (hr : am_r (x.tdiv y)) (h : am_h N own ret c d Q (pc + len) L ((0, x.tdiv y) :: st) S M) : am_h N own ret c d Q pc L ((0, y) :: (0, x) :: st) S M := am_W_step (am_Cc_cal pg d) ha ⟨hy, by show am_h N own ret c d Q (pc + len) L ((0, am_w (x.tdiv y)) :: st) S M; rw [am_w_id hr]; exact h⟩
theorem w_irem {x y : Int} (ha : am_at c pc = some (len, .irem)) (hy : ¬ y = 0) (h : am_h N own ret c d Q (pc + len) L ((0, x.tmod y) :: st) S M) : am_h N own ret c d Q pc L ((0, y) :: (0, x) :: st) S M := am_W_step (am_Cc_cal pg d) ha ⟨hy, h⟩
theorem w_iand {x y : Int} (ha : am_at c pc = some (len, .iand)) (h : am_h N own ret c d Q (pc + len) L ((0, am_band x y) :: st) S M) : am_h N own ret c d Q pc L ((0, y) :: (0, x) :: st) S M := am_W_step (am_Cc_cal pg d) ha h
theorem w_ior {x y : Int} (ha : am_at c pc = some (len, .ior)) (h : am_h N own ret c d Q (pc + len) L ((0, am_bor x y) :: st) S M) : am_h N own ret c d Q pc L ((0, y) :: (0, x) :: st) S M := am_W_step (am_Cc_cal pg d) ha h
theorem w_ixor {x y : Int} (ha : am_at c pc = some (len, .ixor)) (h : am_h N own ret c d Q (pc + len) L ((0, am_bxor x y) :: st) S M) : am_h N own ret c d Q pc L ((0, y) :: (0, x) :: st) S M := am_W_step (am_Cc_cal pg d) ha h
theorem w_ishl {x y : Int} (ha : am_at c pc = some (len, .ishl)) (h : am_h N own ret c d Q (pc + len) L ((0, am_shl x y) :: st) S M) : am_h N own ret c d Q pc L ((0, y) :: (0, x) :: st) S M := am_W_step (am_Cc_cal pg d) ha h
theorem w_ishr {x y : Int} (ha : am_at c pc = some (len, .ishr)) (h : am_h N own ret c d Q (pc + len) L ((0, am_shr x y) :: st) S M) : am_h N own ret c d Q pc L ((0, y) :: (0, x) :: st) S M := am_W_step (am_Cc_cal pg d) ha h
theorem w_iushr {x y : Int} (ha : am_at c pc = some (len, .iushr)) (h : am_h N own ret c d Q (pc + len) L ((0, am_ushr x y) :: st) S M) : am_h N own ret c d Q pc L ((0, y) :: (0, x) :: st) S M := am_W_step (am_Cc_cal pg d) ha h
theorem w_ladd {x y : Int} (ha : am_at c pc = some (len, .ladd)) (hr : am_rl (x + y)) (h : am_h N own ret c d Q (pc + len) L ((1, x + y) :: st) S M) : am_h N own ret c d Q pc L ((1, y) :: (1, x) :: st) S M := am_W_step (am_Cc_cal pg d) ha (by show am_h N own ret c d Q (pc + len) L ((1, am_wl (x + y)) :: st) S M; rw [am_wl_id hr]; exact h)
theorem w_lsub {x y : Int} (ha : am_at c pc = some (len, .lsub)) (hr : am_rl (x - y)) (h : am_h N own ret c d Q (pc + len) L ((1, x - y) :: st) S M) : am_h N own ret c d Q pc L ((1, y) :: (1, x) :: st) S M := am_W_step (am_Cc_cal pg d) ha (by show am_h N own ret c d Q (pc + len) L ((1, am_wl (x - y)) :: st) S M; rw [am_wl_id hr]; exact h)
theorem w_lmul {x y : Int} (ha : am_at c pc = some (len, .lmul)) (hr : am_rl (x * y)) (h : am_h N own ret c d Q (pc + len) L ((1, x * y) :: st) S M) : am_h N own ret c d Q pc L ((1, y) :: (1, x) :: st) S M := am_W_step (am_Cc_cal pg d) ha (by show am_h N own ret c d Q (pc + len) L ((1, am_wl (x * y)) :: st) S M; rw [am_wl_id hr]; exact h)
theorem w_ldiv {x y : Int} (ha : am_at c pc = some (len, .ldiv)) (hy : ¬ y = 0) (hr : am_rl (x.tdiv y)) (h : am_h N own ret c d Q (pc + len) L ((1, x.tdiv y) :: st) S M) : am_h N own ret c d Q pc L ((1, y) :: (1, x) :: st) S M := am_W_step (am_Cc_cal pg d) ha ⟨hy, by show am_h N own ret c d Q (pc + len) L ((1, am_wl (x.tdiv y)) :: st) S M; rw [am_wl_id hr]; exact h⟩
theorem w_lrem {x y : Int} (ha : am_at c pc = some (len, .lrem)) (hy : ¬ y = 0) (h : am_h N own ret c d Q (pc + len) L ((1, x.tmod y) :: st) S M) : am_h N own ret c d Q pc L ((1, y) :: (1, x) :: st) S M := am_W_step (am_Cc_cal pg d) ha ⟨hy, h⟩
theorem w_land {x y : Int} (ha : am_at c pc = some (len, .land)) (h : am_h N own ret c d Q (pc + len) L ((1, am_land x y) :: st) S M) : am_h N own ret c d Q pc L ((1, y) :: (1, x) :: st) S M := am_W_step (am_Cc_cal pg d) ha h
theorem w_lcmp {x y : Int} (ha : am_at c pc = some (len, .lcmp)) (h : am_h N own ret c d Q (pc + len) L ((0, if y < x then 1 else if x = y then 0 else -1) :: st) S M) : am_h N own ret c d Q pc L ((1, y) :: (1, x) :: st) S M := am_W_step (am_Cc_cal pg d) ha h
theorem w_i2l {x : Int} (ha : am_at c pc = some (len, .i2l)) (h : am_h N own ret c d Q (pc + len) L ((1, x) :: st) S M) : am_h N own ret c d Q pc L ((0, x) :: st) S M := am_W_step (am_Cc_cal pg d) ha h
theorem w_l2i {x : Int} (ha : am_at c pc = some (len, .l2i)) (hr : am_r x) (h : am_h N own ret c d Q (pc + len) L ((0, x) :: st) S M) : am_h N own ret c d Q pc L ((1, x) :: st) S M := am_W_step (am_Cc_cal pg d) ha (by show am_h N own ret c d Q (pc + len) L ((0, am_w x) :: st) S M; rw [am_w_id hr]; exact h)
theorem w_if {cd : ClassFile.Cond} {off x : Int} {tgt : Nat} {C : Prop} (ha : am_at c pc = some (len, .ifCond cd off)) (ht : am_to pc off = tgt) (hc : am_cmp cd x 0 ↔ C) (h1 : C → am_h N own ret c d Q tgt L st S M) (h2 : ¬ C → am_h N own ret c d Q (pc + len) L st S M) : am_h N own ret c d Q pc L ((0, x) :: st) S M := am_W_step (am_Cc_cal pg d) ha (by subst ht; exact ⟨fun q => h1 (hc.mp q), fun q => h2 fun q2 => q (hc.mpr q2)⟩)
theorem w_icmp {cd : ClassFile.Cond} {off x y : Int} {tgt : Nat} {C : Prop} (ha : am_at c pc = some (len, .if_icmp cd off)) (ht : am_to pc off = tgt) (hc : am_cmp cd x y ↔ C) (h1 : C → am_h N own ret c d Q tgt L st S M) (h2 : ¬ C → am_h N own ret c d Q (pc + len) L st S M) : am_h N own ret c d Q pc L ((0, y) :: (0, x) :: st) S M := am_W_step (am_Cc_cal pg d) ha (by subst ht; exact ⟨fun q => h1 (hc.mp q), fun q => h2 fun q2 => q (hc.mpr q2)⟩)
theorem wm_lcmp_if (cd : ClassFile.Cond) (x y : Int) : am_cmp cd (if y < x then 1 else if x = y then 0 else -1) 0 ↔ am_cmp cd x y := by
  cases cd <;> (simp only [am_cmp]; split <;> (try split) <;> constructor <;> intro h <;> omega)
/-- lcmp and the branch behind it -/
theorem w_lif {cd : ClassFile.Cond} {off x y : Int} {tgt len2 : Nat} {C : Prop} (ha : am_at c pc = some (len, .lcmp)) (ha2 : am_at c (pc + len) = some (len2, .ifCond cd off)) (ht : am_to (pc + len) off = tgt) (hc : am_cmp cd x y ↔ C) (h1 : C → am_h N own ret c d Q tgt L st S M) (h2 : ¬ C → am_h N own ret c d Q (pc + len + len2) L st S M) : am_h N own ret c d Q pc L ((1, y) :: (1, x) :: st) S M :=
  w_lcmp ha (w_if ha2 ht ((am_lcmp_if cd x y).trans hc) h1 h2)
theorem w_goto {off : Int} {tgt : Nat} (ha : am_at c pc = some (len, .goto off)) (ht : am_to pc off = tgt) (h : am_h N own ret c d Q tgt L st S M) : am_h N own ret c d Q pc L st S M := am_W_step (am_Cc_cal pg d) ha (by subst ht; exact h)
theorem w_ifnull {off a : Int} {tgt : Nat} (ha : am_at c pc = some (len, .ifnull off)) (ht : am_to pc off = tgt) (h1 : a < 0 → am_h N own ret c d Q tgt L st S M) (h2 : ¬ a < 0 → am_h N own ret c d Q (pc + len) L st S M) : am_h N own ret c d Q pc L ((2, a) :: st) S M := am_W_step (am_Cc_cal pg d) ha (by subst ht; exact ⟨h1, h2⟩)
theorem w_tsw {dflt lo hi x : Int} {offs : Array Int} (ha : am_at c pc = some (len, .tableswitch dflt lo hi offs)) (h1 : x < lo ∨ hi < x → am_h N own ret c d Q (am_to pc dflt) L st S M) (h2 : lo ≤ x → x ≤ hi → ∃ o, offs[(x - lo).toNat]? = some o ∧ am_h N own ret c d Q (am_to pc o) L st S M) : am_h N own ret c d Q pc L ((0, x) :: st) S M :=
  am_W_step (am_Cc_cal pg d) ha ⟨h1, fun q => by
    obtain ⟨o, ho, h⟩ := h2 (by omega) (by omega)
    (try dsimp only)
    rw [ho]
    exact h⟩
theorem w_lsw {dflt x : Int} {ps : Array (Int × Int)} {tgt : Nat} (ha : am_at c pc = some (len, .lookupswitch dflt ps)) (ht : am_to pc (Op.lookupswitch.offset ps.toList dflt x) = tgt) (h : am_h N own ret c d Q tgt L st S M) : am_h N own ret c d Q pc L ((0, x) :: st) S M := am_W_step (am_Cc_cal pg d) ha (by subst ht; exact h)
theorem w_getf {k ci : Nat} {f a : Int} {t : Nat} (ha : am_at c pc = some (len, .getfield k)) (hp : (pgL N).1 own k = some (1, ci, f)) (ht : am_tag (pg_tag ci f) = t) (ho : am_ob S ci a) (h : am_h N own ret c d Q (pc + len) L ((t, M a f) :: st) S M) : am_h N own ret c d Q pc L ((2, a) :: st) S M := am_W_step (am_Cc_cal pg d) ha (by unfold am_step; dsimp only; rw [hp]; subst ht; exact ⟨ho, h⟩)
theorem w_getF {k ci kd : Nat} {f a o : Int} (ha : am_at c pc = some (len, .getfield k)) (hp : (pgL N).1 own k = some (kd, ci, f)) (hkd : kd = 8 ∨ kd = 11) (hof : pg_off ci f = some o) (ho : am_ob S ci a) (h : am_h N own ret c d Q (pc + len) L ((2, a + o) :: st) S M) : am_h N own ret c d Q pc L ((2, a) :: st) S M := am_W_step (am_Cc_cal pg d) ha (by
  have e : (pgL N).2.2.2.2.2.2.1 ci f = some o := hof
  unfold am_step; dsimp only; rw [hp]
  rcases hkd with rfl | rfl <;> (refine ⟨ho, ?_⟩; rw [e]; exact h))
theorem w_putf0 {k ci : Nat} {f a v : Int} (ha : am_at c pc = some (len, .putfield k)) (hp : (pgL N).1 own k = some (1, ci, f)) (ht : pg_tag ci f = 0) (ho : am_ob S ci a) (h : am_h N own ret c d Q (pc + len) L st S (am_up M a f v)) : am_h N own ret c d Q pc L ((0, v) :: (2, a) :: st) S M := am_W_step (am_Cc_cal pg d) ha (by
  have e : (pgL N).2.2.1 ci f = 0 := ht
  unfold am_step; dsimp only; rw [hp]; refine ⟨ho, ?_⟩; rw [e]; exact h)
theorem w_putf1 {k ci : Nat} {f a v : Int} (ha : am_at c pc = some (len, .putfield k)) (hp : (pgL N).1 own k = some (1, ci, f)) (ht : pg_tag ci f = 1) (ho : am_ob S ci a) (h : am_h N own ret c d Q (pc + len) L st S (am_up M a f v)) : am_h N own ret c d Q pc L ((1, v) :: (2, a) :: st) S M := am_W_step (am_Cc_cal pg d) ha (by
  have e : (pgL N).2.2.1 ci f = 1 := ht
  unfold am_step; dsimp only; rw [hp]; refine ⟨ho, ?_⟩; rw [e]; exact h)
theorem w_putf2 {k ci : Nat} {f a v : Int} (ha : am_at c pc = some (len, .putfield k)) (hp : (pgL N).1 own k = some (1, ci, f)) (ht : pg_tag ci f = 2) (ho : am_ob S ci a) (h : am_h N own ret c d Q (pc + len) L st S (am_up M a f v)) : am_h N own ret c d Q pc L ((2, v) :: (2, a) :: st) S M := am_W_step (am_Cc_cal pg d) ha (by
  have e : (pgL N).2.2.1 ci f = 2 := ht
  unfold am_step; dsimp only; rw [hp]; refine ⟨ho, ?_⟩; rw [e]; exact h)
theorem w_putf5 {k ci : Nat} {f a v : Int} (ha : am_at c pc = some (len, .putfield k)) (hp : (pgL N).1 own k = some (1, ci, f)) (ht : pg_tag ci f = 5) (ho : am_ob S ci a) (hv : v = 0 ∨ v = 1) (h : am_h N own ret c d Q (pc + len) L st S (am_up M a f v)) : am_h N own ret c d Q pc L ((0, v) :: (2, a) :: st) S M := am_W_step (am_Cc_cal pg d) ha (by
  have e : (pgL N).2.2.1 ci f = 5 := ht
  unfold am_step; dsimp only; rw [hp]; refine ⟨ho, ?_⟩; rw [e]; exact ⟨hv, h⟩)
theorem w_iald {a i : Int} (ha : am_at c pc = some (len, .iaload)) (hi : am_in (pgL N) S 1 a i) (h : am_h N own ret c d Q (pc + len) L ((0, M a i) :: st) S M) : am_h N own ret c d Q pc L ((0, i) :: (2, a) :: st) S M := am_W_step (am_Cc_cal pg d) ha ⟨hi, h⟩
theorem w_cald {a i : Int} (ha : am_at c pc = some (len, .caload)) (hi : am_in (pgL N) S 2 a i) (h : am_h N own ret c d Q (pc + len) L ((0, M a i) :: st) S M) : am_h N own ret c d Q pc L ((0, i) :: (2, a) :: st) S M := am_W_step (am_Cc_cal pg d) ha ⟨hi, h⟩
theorem w_lald {a i : Int} (ha : am_at c pc = some (len, .laload)) (hi : am_in (pgL N) S 3 a i) (h : am_h N own ret c d Q (pc + len) L ((1, M a i) :: st) S M) : am_h N own ret c d Q pc L ((0, i) :: (2, a) :: st) S M := am_W_step (am_Cc_cal pg d) ha ⟨hi, h⟩
theorem w_aald {a i : Int} (ha : am_at c pc = some (len, .aaload)) (hi : am_in (pgL N) S 4 a i) (h : am_h N own ret c d Q (pc + len) L ((2, a + 1 + 2 * i) :: st) S M) : am_h N own ret c d Q pc L ((0, i) :: (2, a) :: st) S M := am_W_step (am_Cc_cal pg d) ha ⟨hi, h⟩
theorem w_iast {a i v : Int} (ha : am_at c pc = some (len, .iastore)) (hi : am_own S 1 a i) (h : am_h N own ret c d Q (pc + len) L st S (am_up M a i v)) : am_h N own ret c d Q pc L ((0, v) :: (0, i) :: (2, a) :: st) S M := am_W_step (am_Cc_cal pg d) ha ⟨hi, h⟩
theorem w_last {a i v : Int} (ha : am_at c pc = some (len, .lastore)) (hi : am_own S 3 a i) (h : am_h N own ret c d Q (pc + len) L st S (am_up M a i v)) : am_h N own ret c d Q pc L ((1, v) :: (0, i) :: (2, a) :: st) S M := am_W_step (am_Cc_cal pg d) ha ⟨hi, h⟩
theorem w_alen {a : Int} {n : Nat} (ha : am_at c pc = some (len, .arraylength)) (hn : am_alen (pgL N) S a = some n) (h : am_h N own ret c d Q (pc + len) L ((0, (n : Int)) :: st) S M) : am_h N own ret c d Q pc L ((2, a) :: st) S M := am_W_step (am_Cc_cal pg d) ha ⟨n, hn, h⟩
theorem w_dup0 {x : Int} (ha : am_at c pc = some (len, .dup)) (h : am_h N own ret c d Q (pc + len) L ((0, x) :: (0, x) :: st) S M) : am_h N own ret c d Q pc L ((0, x) :: st) S M := am_W_step (am_Cc_cal pg d) ha h
theorem w_dup2' {x : Int} (ha : am_at c pc = some (len, .dup)) (h : am_h N own ret c d Q (pc + len) L ((2, x) :: (2, x) :: st) S M) : am_h N own ret c d Q pc L ((2, x) :: st) S M := am_W_step (am_Cc_cal pg d) ha h
theorem w_dup2 {x y : Int} (ha : am_at c pc = some (len, .dup2)) (h : am_h N own ret c d Q (pc + len) L ((0, x) :: (2, y) :: (0, x) :: (2, y) :: st) S M) : am_h N own ret c d Q pc L ((0, x) :: (2, y) :: st) S M := am_W_step (am_Cc_cal pg d) ha h
theorem w_pop0 {x : Int} (ha : am_at c pc = some (len, .pop)) (h : am_h N own ret c d Q (pc + len) L st S M) : am_h N own ret c d Q pc L ((0, x) :: st) S M := am_W_step (am_Cc_cal pg d) ha h
theorem w_pop2 {x : Int} (ha : am_at c pc = some (len, .pop)) (h : am_h N own ret c d Q (pc + len) L st S M) : am_h N own ret c d Q pc L ((2, x) :: st) S M := am_W_step (am_Cc_cal pg d) ha h
theorem wm_Cc_use {cal : am_L} (hc : am_Cc cal) {mid : Nat} {vs : List am_V} {Q Q' : am_Q} (h : cal mid vs S M Q) (hq : ∀ r, Q r → Q' r) : cal mid vs S M Q' := by
  obtain ⟨r, h1, h2⟩ := hc _ _ _ _ _ h
  exact h2 _ (hq r h1)
/-- a call of the machine's: what comes behind it -/
theorem w_callV {k mid n ci n' rt mx : Nat} {co : am_C} {a : Int} {As : List am_V} {rest : List am_V} {G : am_Q} (ha : am_at c pc = some (len, .invokevirtual k)) (hp : (pgL N).1 own k = some (2, mid, (n : Int))) (hm : pg.2.1 mid = some (ci, n', rt, mx, co)) (hv : (st.take n).reverse = (2, a) :: As) (hr : st.drop n = rest) (hb : (Nat.ble n st.length && Nat.ble (am_cats rest) 8) = true) (ho : am_ob S ci a) (h : am_cal pg d mid ((2, a) :: As) S M G) (hk : ∀ r, G r → am_back (am_h N own ret c d Q) (pc + len) L rest r) : am_h N own ret c d Q pc L st S M := am_W_step (am_Cc_cal pg d) ha (by
  subst hr
  have e1 : am_mc pg mid = ci := by unfold am_mc; rw [hm]
  unfold am_step; dsimp only; rw [hp]
  have h3 : am_call (am_cal pg d) mid ((n : Int)).toNat (pc + len) L st S M (am_h N own ret c d Q) := by
    rw [Int.toNat_natCast]
    unfold am_call
    rw [hb, hv]
    exact am_Cc_use (am_Cc_cal pg d) h hk
  show (match (st.take ((n : Int)).toNat).reverse with
    | (2, a) :: _ => am_ob S (am_mc pg mid) a ∧ am_call (am_cal pg d) mid ((n : Int)).toNat (pc + len) L st S M (am_h N own ret c d Q)
    | _ => False)
  rw [Int.toNat_natCast] at h3 ⊢
  rw [hv]
  exact ⟨by rw [e1]; exact ho, h3⟩)
theorem w_callS {k mid n : Nat} {vs rest : List am_V} {G : am_Q} (ha : am_at c pc = some (len, .invokestatic k)) (hp : (pgL N).1 own k = some (12, mid, (n : Int))) (hv : (st.take n).reverse = vs) (hr : st.drop n = rest) (hb : (Nat.ble n st.length && Nat.ble (am_cats rest) 8) = true) (h : am_cal pg d mid vs S M G) (hk : ∀ r, G r → am_back (am_h N own ret c d Q) (pc + len) L rest r) : am_h N own ret c d Q pc L st S M := am_W_step (am_Cc_cal pg d) ha (by
  subst hr
  unfold am_step; dsimp only; rw [hp]
  show am_call (am_cal pg d) mid ((n : Int)).toNat (pc + len) L st S M (am_h N own ret c d Q)
  rw [Int.toNat_natCast]
  unfold am_call
  rw [hb, hv]
  exact am_Cc_use (am_Cc_cal pg d) h hk)
theorem w_k0 {nx : Nat} {rest : List am_V} {f : Int → am_M → Prop} (h : ∀ x M, f x M → am_h N own ret c d Q nx L ((0, x) :: rest) S M) : ∀ r, am_c0 S f r → am_back (am_h N own ret c d Q) nx L rest r := by
  intro r hr
  unfold am_c0 at hr
  split at hr
  · obtain ⟨rfl, hr⟩ := hr; exact h _ _ hr
  · exact hr.elim
theorem w_k1 {nx : Nat} {rest : List am_V} {f : Int → am_M → Prop} (h : ∀ x M, f x M → am_h N own ret c d Q nx L ((1, x) :: rest) S M) : ∀ r, am_c1 S f r → am_back (am_h N own ret c d Q) nx L rest r := by
  intro r hr
  unfold am_c1 at hr
  split at hr
  · obtain ⟨rfl, hr⟩ := hr; exact h _ _ hr
  · exact hr.elim
theorem w_k2 {nx : Nat} {rest : List am_V} {f : Int → am_M → Prop} (h : ∀ x M, f x M → am_h N own ret c d Q nx L ((2, x) :: rest) S M) : ∀ r, am_c2 S f r → am_back (am_h N own ret c d Q) nx L rest r := by
  intro r hr
  unfold am_c2 at hr
  split at hr
  · obtain ⟨rfl, hr⟩ := hr; exact h _ _ hr
  · exact hr.elim
theorem w_kv {nx : Nat} {rest : List am_V} {f : am_M → Prop} (h : ∀ M, f M → am_h N own ret c d Q nx L rest S M) : ∀ r, am_cv S f r → am_back (am_h N own ret c d Q) nx L rest r := by
  intro r hr
  unfold am_cv at hr
  split at hr
  · obtain ⟨rfl, hr⟩ := hr; exact h _ hr
  · exact hr.elim
theorem w_iret {x : Int} (ha : am_at c pc = some (len, .ireturn)) (h : Q (some (0, x), S, M)) : am_h N own 0 c d Q pc L [(0, x)] S M := am_W_step (am_Cc_cal pg d) ha h
theorem w_zret {x : Int} (ha : am_at c pc = some (len, .ireturn)) (hx : x = 0 ∨ x = 1) (h : Q (some (0, x), S, M)) : am_h N own 5 c d Q pc L [(0, x)] S M := am_W_step (am_Cc_cal pg d) ha ⟨hx, h⟩
theorem w_lret {x : Int} (ha : am_at c pc = some (len, .lreturn)) (h : Q (some (1, x), S, M)) : am_h N own 1 c d Q pc L [(1, x)] S M := am_W_step (am_Cc_cal pg d) ha h
theorem w_aret {x : Int} (ha : am_at c pc = some (len, .areturn)) (h : Q (some (2, x), S, M)) : am_h N own 2 c d Q pc L [(2, x)] S M := am_W_step (am_Cc_cal pg d) ha h
theorem w_vret (ha : am_at c pc = some (len, .return_)) (h : Q (none, S, M)) : am_h N own 9 c d Q pc L [] S M := am_W_step (am_Cc_cal pg d) ha h
theorem w_ext {kd k a : Nat} {n : Int} (i : Instr) (hi : i = .invokestatic k ∨ i = .invokevirtual k) (ha : am_at c pc = some (len, i)) (hp : (pgL N).1 own k = some (kd, a, n)) (hkd : kd = 20 ∧ i = .invokestatic k ∨ kd = 21 ∧ i = .invokevirtual k ∨ kd = 22 ∧ i = .invokevirtual k) (h : am_ext (pgL N) kd st S M fun st' M' => am_h N own ret c d Q (pc + len) L st' S M') : am_h N own ret c d Q pc L st S M := am_W_step (am_Cc_cal pg d) ha (by
  rcases hkd with ⟨rfl, rfl⟩ | ⟨rfl, rfl⟩ | ⟨rfl, rfl⟩ <;> (unfold am_step; dsimp only; rw [hp]; exact h))
end WR

theorem w_weak {N own ret d : Nat} {c : am_C} {Q : am_Q} {pc : Nat} {W L st : List am_V} {S : am_S} {M : am_M} (hle : am_le W L) (h : am_h N own ret c d Q pc W st S M) : am_h N own ret c d Q pc L st S M := by
  obtain ⟨n, h⟩ := h
  exact ⟨n, am_wp_le (am_Cc_cal pg d) n _ _ _ _ _ h L hle⟩
theorem w_top0 {N own ret d : Nat} {c : am_C} {Q : am_Q} {pc : Nat} {L st : List am_V} {S : am_S} {M : am_M} {x y : Int} (e : x = y) (h : am_h N own ret c d Q pc L ((0, y) :: st) S M) : am_h N own ret c d Q pc L ((0, x) :: st) S M := by subst e; exact h
theorem lw_in {N : Nat} {i : Int} (h1 : 0 ≤ i) (h2 : i < (N : Int)) : am_in (pgL N) sh_T 1 2000003 i := ⟨h1, h2⟩
