/-! THE SMALL MACHINE: a pure picture of a run: values with a tag (0 int, 1 long, 2 an object by its number, -1 null), locals, a stack, shapes of the cells made so far, a memory of whole numbers. Its rows are proved over the great machine once, in the next part; all else is said over it. -/
abbrev am_V : Type := Nat × Int
abbrev am_M : Type := Int → Int → Int
/-- shapes: what kind (0 an object, 1 ints, 2 chars, 3 longs, 4 references), its class, its length -/
abbrev am_S : Type := List (Nat × Nat × Nat)
abbrev am_R : Type := Option am_V × am_S × am_M
abbrev am_C : Type := List (Nat × Nat × Instr)
/-- a method: its class's number, how many values it takes, the tag of its answer (9 none, 5 a boolean), its locals, its code -/
abbrev am_I : Type := Nat × Nat × Nat × Nat × am_C
/-- the program: entries of the constant pools (class, index), methods by their numbers, fields' tags and counts (class, field), lengths of the static rows, the signs of the texts; where the parts of an object lie that are never put elsewhere, and whether all cells are made (then an object's row of references holds the cells behind it) -/
abbrev am_P : Type := (Nat → Nat → Option (Nat × Nat × Int)) × (Nat → Option am_I) × (Nat → Int → Nat) × (Nat → Nat) × (Int → Option Nat) × (Int → List Int) × (Nat → Int → Option Int) × Bool
abbrev am_Q : Type := am_R → Prop
abbrev am_K : Type := Nat → List am_V → List am_V → am_S → am_M → Prop
abbrev am_L : Type := Nat → List am_V → am_S → am_M → am_Q → Prop
def am_w (x : Int) : Int := x.bmod 4294967296
def am_wl (x : Int) : Int := x.bmod 18446744073709551616
def am_up (M : am_M) (a k v : Int) : am_M := fun b j => if b = a ∧ j = k then v else M b j
def am_row (M : am_M) (a : Int) (f : Int → Int) : am_M := fun b j => if b = a then f j else M b j
def am_kill (L : List am_V) (k : Nat) : List am_V := match k with
  | 0 => L
  | k + 1 => match L[k]? with
    | some (1, _) => L.set k (3, 0)
    | _ => L
def am_st (L : List am_V) (k : Nat) (v : am_V) : List am_V := (am_kill L k).set k v
def am_st2 (L : List am_V) (k : Nat) (v : am_V) : List am_V := ((am_kill L k).set k v).set (k + 1) (3, 0)
def am_cat (v : am_V) : Nat := if v.1 = 1 then 2 else 1
def am_cats : List am_V → Nat
  | [] => 0
  | v :: l => am_cat v + am_cats l
/-- the length of a row of a kind; 0 where there is none such -/
def am_len (P : am_P) (S : am_S) (kd : Nat) (a : Int) : Nat :=
  if a < 0 then 0 else if a < 1000000 then (match S[a.toNat]? with
    | some (k, _, n) => if k = kd then n else 0
    | none => 0) else match P.2.2.2.2.1 a with
    | some n => if kd = 1 then n else 0
    | none => 0
def am_in (P : am_P) (S : am_S) (kd : Nat) (a i : Int) : Prop := 0 ≤ i ∧ i < am_len P S kd a
def am_own (S : am_S) (kd : Nat) (a i : Int) : Prop := 0 ≤ a ∧ a < 1000000 ∧ 0 ≤ i ∧ ∃ c n, S[a.toNat]? = some (kd, c, n) ∧ i < (n : Int)
def am_ob (S : am_S) (ci : Nat) (a : Int) : Prop := 0 ≤ a ∧ a < 1000000 ∧ ∃ n, S[a.toNat]? = some (0, ci, n)
def am_alen (P : am_P) (S : am_S) (a : Int) : Option Nat :=
  if a < 0 then none else if a < 1000000 then (match S[a.toNat]? with
    | some (0, _, _) => none
    | some (_, _, n) => some n
    | none => none) else P.2.2.2.2.1 a
def am_tag (t : Nat) : Nat := if t = 5 then 0 else t
def am_ld0 (L : List am_V) (k : Nat) (f : Int → Prop) : Prop := match L[k]? with
  | some (0, x) => f x
  | _ => False
def am_ld1 (L : List am_V) (k : Nat) (f : Int → Prop) : Prop := match L[k]? with
  | some (1, x) => f x
  | _ => False
def am_ld2 (L : List am_V) (k : Nat) (f : Int → Prop) : Prop := match L[k]? with
  | some (2, x) => f x
  | _ => False
/-- a value put into a field of a tag -/
def am_put (tag : Nat) (v : am_V) (f : Int → Prop) : Prop := match tag, v with
  | 0, (0, x) => f x
  | 1, (1, x) => f x
  | 2, (2, x) => f x
  | 5, (0, x) => (x = 0 ∨ x = 1) ∧ f x
  | _, _ => False
def am_bin (st : List am_V) (f : Int → Int → List am_V → Prop) : Prop := match st with
  | (0, y) :: (0, x) :: t => f x y t
  | _ => False
def am_binl (st : List am_V) (f : Int → Int → List am_V → Prop) : Prop := match st with
  | (1, y) :: (1, x) :: t => f x y t
  | _ => False
def am_un (st : List am_V) (f : Int → List am_V → Prop) : Prop := match st with
  | (0, x) :: t => f x t
  | _ => False
def am_if (c : Prop) (a b : Prop) : Prop := (c → a) ∧ (¬ c → b)
def am_cmp (c : ClassFile.Cond) (x y : Int) : Prop := match c with
  | .eq => x = y
  | .ne => ¬ x = y
  | .lt => x < y
  | .ge => y ≤ x
  | .gt => y < x
  | .le => x ≤ y
def am_to (pc : Nat) (off : Int) : Nat := ((pc : Int) + off).toNat
def am_band (x y : Int) : Int := (Int32.ofInt x &&& Int32.ofInt y).toInt
def am_bor (x y : Int) : Int := (Int32.ofInt x ||| Int32.ofInt y).toInt
def am_bxor (x y : Int) : Int := (Int32.ofInt x ^^^ Int32.ofInt y).toInt
def am_shl (x y : Int) : Int := (Int32.ofInt x <<< (Int32.ofInt y &&& 31)).toInt
def am_shr (x y : Int) : Int := (Int32.ofInt x >>> (Int32.ofInt y &&& 31)).toInt
def am_ushr (x y : Int) : Int := ((Int32.ofInt x).toUInt32 >>> ((Int32.ofInt y).toUInt32 &&& Int32.toUInt32 31)).toInt32.toInt
def am_land (x y : Int) : Int := (Int64.ofInt x &&& Int64.ofInt y).toInt
def am_back (K : am_K) (nx : Nat) (L rest : List am_V) : am_Q := fun r => match r with
  | (none, S, M) => K nx L rest S M
  | (some v, S, M) => K nx L (v :: rest) S M
/-- a call: of the n values on top (the deepest first) -/
def am_call (cal : am_L) (mid n nx : Nat) (L st : List am_V) (S : am_S) (M : am_M) (K : am_K) : Prop :=
  match Nat.ble n st.length && Nat.ble (am_cats (st.drop n)) 8 with
  | true => cal mid (st.take n).reverse S M (am_back K nx L (st.drop n))
  | false => False
/-- a stretch of a row is laid over one of another -/
def am_cpy (M : am_M) (src sp dst dp n : Int) : am_M := fun b j => if b = dst ∧ dp ≤ j ∧ j < dp + n then M src (sp + (j - dp)) else M b j
/-- members of the JDK's that are taken as they are: 20 arraycopy of ints, 21 a text's length, 22 its sign -/
def am_ext (P : am_P) (kd : Nat) (st : List am_V) (S : am_S) (M : am_M) (K : List am_V → am_M → Prop) : Prop := match kd, st with
  | 20, [(0, n), (0, dp), (2, dst), (0, sp), (2, src)] => ((0 ≤ n ∧ 0 ≤ sp ∧ 0 ≤ dp) ∧ (0 ≤ src ∧ src < 1000000 ∧ 0 ≤ dst ∧ dst < 1000000) ∧ src ≠ dst ∧ ∃ c1 n1 c2 n2, S[src.toNat]? = some (1, c1, n1) ∧ S[dst.toNat]? = some (1, c2, n2) ∧ sp + n ≤ (n1 : Int) ∧ dp + n ≤ (n2 : Int)) ∧ K [] (am_cpy M src sp dst dp n)
  | 21, (2, a) :: t => (P.2.2.2.2.2.1 a ≠ [] ∧ am_cats t ≤ 8) ∧ K ((0, (P.2.2.2.2.2.1 a).length) :: t) M
  | 22, (0, i) :: (2, a) :: t => ((0 ≤ i ∧ i < (P.2.2.2.2.2.1 a).length) ∧ am_cats t ≤ 8) ∧ K ((0, (P.2.2.2.2.2.1 a).getD i.toNat 0) :: t) M
  | _, _ => False
/-- the class of a method -/
def am_mc (P : am_P) (mid : Nat) : Nat := match P.2.1 mid with
  | some (o, _) => o
  | none => 0
def am_step (P : am_P) (own ret : Nat) (cal : am_L) (i : Instr) (pc nx : Nat) (L st : List am_V) (S : am_S) (M : am_M) (K : am_K) (Q : am_Q) : Prop :=
  match i with
  | .iconst n => K nx L ((0, n) :: st) S M
  | .bipush n => K nx L ((0, n) :: st) S M
  | .sipush n => K nx L ((0, n) :: st) S M
  | .lconst n => K nx L ((1, ((n : Nat) : Int)) :: st) S M
  | .aconst_null => K nx L ((2, -1) :: st) S M
  | .ldc k => match P.1 own k with
    | some (4, _, n) => K nx L ((0, n) :: st) S M
    | some (6, _, n) => K nx L ((2, n) :: st) S M
    | _ => False
  | .ldc_w k => match P.1 own k with
    | some (4, _, n) => K nx L ((0, n) :: st) S M
    | _ => False
  | .ldc2_w k => match P.1 own k with
    | some (5, _, n) => K nx L ((1, n) :: st) S M
    | _ => False
  | .getstatic k => match P.1 own k with
    | some (7, _, n) => K nx L ((2, n) :: st) S M
    | _ => False
  | .iload_n k => am_ld0 L k fun x => K nx L ((0, x) :: st) S M
  | .iload k => am_ld0 L k fun x => K nx L ((0, x) :: st) S M
  | .lload_n k => am_ld1 L k fun x => K nx L ((1, x) :: st) S M
  | .lload k => am_ld1 L k fun x => K nx L ((1, x) :: st) S M
  | .aload_n k => am_ld2 L k fun x => K nx L ((2, x) :: st) S M
  | .aload k => am_ld2 L k fun x => K nx L ((2, x) :: st) S M
  | .istore_n k => match st with
    | (0, x) :: t => K nx (am_st L k (0, x)) t S M
    | _ => False
  | .istore k => match st with
    | (0, x) :: t => K nx (am_st L k (0, x)) t S M
    | _ => False
  | .astore_n k => match st with
    | (2, x) :: t => K nx (am_st L k (2, x)) t S M
    | _ => False
  | .astore k => match st with
    | (2, x) :: t => K nx (am_st L k (2, x)) t S M
    | _ => False
  | .lstore_n k => match st with
    | (1, x) :: t => K nx (am_st2 L k (1, x)) t S M
    | _ => False
  | .lstore k => match st with
    | (1, x) :: t => K nx (am_st2 L k (1, x)) t S M
    | _ => False
  | .iinc k n => am_ld0 L k fun x => K nx (am_st L k (0, am_w (x + n))) st S M
  | .iadd => am_bin st fun x y t => K nx L ((0, am_w (x + y)) :: t) S M
  | .isub => am_bin st fun x y t => K nx L ((0, am_w (x - y)) :: t) S M
  | .imul => am_bin st fun x y t => K nx L ((0, am_w (x * y)) :: t) S M
  | .idiv => am_bin st fun x y t => ¬ y = 0 ∧ K nx L ((0, am_w (x.tdiv y)) :: t) S M
  | .irem => am_bin st fun x y t => ¬ y = 0 ∧ K nx L ((0, x.tmod y) :: t) S M
  | .iand => am_bin st fun x y t => K nx L ((0, am_band x y) :: t) S M
  | .ior => am_bin st fun x y t => K nx L ((0, am_bor x y) :: t) S M
  | .ixor => am_bin st fun x y t => K nx L ((0, am_bxor x y) :: t) S M
  | .ishl => am_bin st fun x y t => K nx L ((0, am_shl x y) :: t) S M
  | .ishr => am_bin st fun x y t => K nx L ((0, am_shr x y) :: t) S M
  | .iushr => am_bin st fun x y t => K nx L ((0, am_ushr x y) :: t) S M
  | .ladd => am_binl st fun x y t => K nx L ((1, am_wl (x + y)) :: t) S M
  | .lsub => am_binl st fun x y t => K nx L ((1, am_wl (x - y)) :: t) S M
  | .lmul => am_binl st fun x y t => K nx L ((1, am_wl (x * y)) :: t) S M
  | .ldiv => am_binl st fun x y t => ¬ y = 0 ∧ K nx L ((1, am_wl (x.tdiv y)) :: t) S M
  | .lrem => am_binl st fun x y t => ¬ y = 0 ∧ K nx L ((1, x.tmod y) :: t) S M
  | .land => am_binl st fun x y t => K nx L ((1, am_land x y) :: t) S M
  | .lcmp => am_binl st fun x y t => K nx L ((0, if y < x then 1 else if x = y then 0 else -1) :: t) S M
  | .i2l => am_un st fun x t => K nx L ((1, x) :: t) S M
  | .l2i => match st with
    | (1, x) :: t => K nx L ((0, am_w x) :: t) S M
    | _ => False
  | .ifCond c off => am_un st fun x t => am_if (am_cmp c x 0) (K (am_to pc off) L t S M) (K nx L t S M)
  | .if_icmp c off => am_bin st fun x y t => am_if (am_cmp c x y) (K (am_to pc off) L t S M) (K nx L t S M)
  | .ifnull off => match st with
    | (2, a) :: t => am_if (a < 0) (K (am_to pc off) L t S M) (K nx L t S M)
    | _ => False
  | .ifnonnull off => match st with
    | (2, a) :: t => am_if (a < 0) (K nx L t S M) (K (am_to pc off) L t S M)
    | _ => False
  | .goto off => K (am_to pc off) L st S M
  | .tableswitch d lo hi offs => am_un st fun x t => am_if (x < lo ∨ hi < x) (K (am_to pc d) L t S M) (match offs[(x - lo).toNat]? with
    | some o => K (am_to pc o) L t S M
    | none => False)
  | .lookupswitch d ps => am_un st fun x t => K (am_to pc (Op.lookupswitch.offset ps.toList d x)) L t S M
  | .getfield k => match P.1 own k with
    | some (1, ci, f) => match st with
      | (2, a) :: t => am_ob S ci a ∧ K nx L ((am_tag (P.2.2.1 ci f), M a f) :: t) S M
      | _ => False
    | some (8, ci, f) => match st with
      | (2, a) :: t => am_ob S ci a ∧ (match P.2.2.2.2.2.2.1 ci f with
        | some o => K nx L ((2, a + o) :: t) S M
        | none => K nx L ((am_tag (P.2.2.1 ci f), M a f) :: t) S M)
      | _ => False
    | some (11, ci, f) => match st with
      | (2, a) :: t => am_ob S ci a ∧ (match P.2.2.2.2.2.2.1 ci f with
        | some o => K nx L ((2, a + o) :: t) S M
        | none => K nx L ((am_tag (P.2.2.1 ci f), M a f) :: t) S M)
      | _ => False
    | _ => False
  | .putfield k => match P.1 own k with
    | some (1, ci, f) => match st with
      | v :: (2, a) :: t => am_ob S ci a ∧ am_put (P.2.2.1 ci f) v fun x => K nx L t S (am_up M a f x)
      | _ => False
    | some (11, ci, f) => match st with
      | v :: (2, a) :: t => (ret = 8 ∧ P.2.2.2.2.2.2.2 = false) ∧ am_ob S ci a ∧ am_put (P.2.2.1 ci f) v fun x => K nx L t S (am_up M a f x)
      | _ => False
    | _ => False
  | .iaload => match st with
    | (0, i) :: (2, a) :: t => am_in P S 1 a i ∧ K nx L ((0, M a i) :: t) S M
    | _ => False
  | .caload => match st with
    | (0, i) :: (2, a) :: t => am_in P S 2 a i ∧ K nx L ((0, M a i) :: t) S M
    | _ => False
  | .laload => match st with
    | (0, i) :: (2, a) :: t => am_in P S 3 a i ∧ K nx L ((1, M a i) :: t) S M
    | _ => False
  | .aaload => match st with
    | (0, i) :: (2, a) :: t => am_in P S 4 a i ∧ (match P.2.2.2.2.2.2.2 with
      | true => K nx L ((2, a + 1 + 2 * i) :: t) S M
      | false => K nx L ((2, M a i) :: t) S M)
    | _ => False
  | .iastore => match st with
    | (0, v) :: (0, i) :: (2, a) :: t => am_own S 1 a i ∧ K nx L t S (am_up M a i v)
    | _ => False
  | .castore => match st with
    | (0, v) :: (0, i) :: (2, a) :: t => am_own S 2 a i ∧ (0 ≤ v ∧ v ≤ 65535) ∧ K nx L t S (am_up M a i v)
    | _ => False
  | .lastore => match st with
    | (1, v) :: (0, i) :: (2, a) :: t => am_own S 3 a i ∧ K nx L t S (am_up M a i v)
    | _ => False
  | .aastore => match st with
    | (2, v) :: (0, i) :: (2, a) :: t => (am_own S 4 a i ∧ P.2.2.2.2.2.2.2 = false) ∧ (∃ ci n, S[a.toNat]? = some (4, ci, n) ∧ am_ob S ci v) ∧ K nx L t S (am_up M a i v)
    | _ => False
  | .arraylength => match st with
    | (2, a) :: t => ∃ n : Nat, am_alen P S a = some n ∧ K nx L ((0, (n : Int)) :: t) S M
    | _ => False
  | .newarray ty => match st with
    | (0, n) :: t => (0 ≤ n ∧ n ≤ 65536) ∧ (S.length < 1000000 ∧ P.2.2.2.2.2.2.2 = false) ∧ (match ty with
      | .int => K nx L ((2, S.length) :: t) (S ++ [(1, 0, n.toNat)]) (am_row M S.length fun _ => 0)
      | .char => K nx L ((2, S.length) :: t) (S ++ [(2, 0, n.toNat)]) (am_row M S.length fun _ => 0)
      | .long => K nx L ((2, S.length) :: t) (S ++ [(3, 0, n.toNat)]) (am_row M S.length fun _ => 0)
      | _ => False)
    | _ => False
  | .anewarray k => match P.1 own k with
    | some (10, ci, _) => match st with
      | (0, n) :: t => (0 ≤ n ∧ n ≤ 65536) ∧ (S.length < 1000000 ∧ P.2.2.2.2.2.2.2 = false) ∧ K nx L ((2, S.length) :: t) (S ++ [(4, ci, n.toNat)]) (am_row M S.length fun _ => -1)
      | _ => False
    | some (14, ci, _) => match st with
      | (0, n) :: t => (0 ≤ n ∧ n ≤ 65536) ∧ (S.length < 1000000 ∧ P.2.2.2.2.2.2.2 = false) ∧ K nx L ((2, S.length) :: t) (S ++ [(4, ci, n.toNat)]) (am_row M S.length fun _ => -1)
      | _ => False
    | _ => False
  | .new k => match P.1 own k with
    | some (3, ci, _) => (S.length < 1000000 ∧ P.2.2.2.2.2.2.2 = false) ∧ K nx L ((2, S.length) :: st) (S ++ [(0, ci, P.2.2.2.1 ci)]) (am_row M S.length fun f => if P.2.2.1 ci f = 2 then -1 else 0)
    | some (14, ci, _) => (S.length < 1000000 ∧ P.2.2.2.2.2.2.2 = false) ∧ K nx L ((2, S.length) :: st) (S ++ [(0, ci, P.2.2.2.1 ci)]) (am_row M S.length fun f => if P.2.2.1 ci f = 2 then -1 else 0)
    | _ => False
  | .dup => match st with
    | (0, x) :: t => K nx L ((0, x) :: (0, x) :: t) S M
    | (2, x) :: t => K nx L ((2, x) :: (2, x) :: t) S M
    | _ => False
  | .pop => match st with
    | (0, _) :: t => K nx L t S M
    | (2, _) :: t => K nx L t S M
    | _ => False
  | .dup2 => match st with
    | (0, x) :: (2, y) :: t => K nx L ((0, x) :: (2, y) :: (0, x) :: (2, y) :: t) S M
    | _ => False
  | .invokevirtual k => match P.1 own k with
    | some (2, mid, n) => match (st.take n.toNat).reverse with
      | (2, a) :: _ => am_ob S (am_mc P mid) a ∧ am_call cal mid n.toNat nx L st S M K
      | _ => False
    | some (21, _, _) => am_ext P 21 st S M fun st' M' => K nx L st' S M'
    | some (22, _, _) => am_ext P 22 st S M fun st' M' => K nx L st' S M'
    | _ => False
  | .invokestatic k => match P.1 own k with
    | some (12, mid, n) => am_call cal mid n.toNat nx L st S M K
    | some (20, _, _) => am_ext P 20 st S M fun st' M' => K nx L st' S M'
    | _ => False
  | .invokespecial k => match P.1 own k with
    | some (13, mid, n) => match (st.take n.toNat).reverse with
      | (2, a) :: _ => 0 ≤ a ∧ am_call cal mid n.toNat nx L st S M K
      | _ => False
    | some (9, _, _) => match st with
      | (2, a) :: t => (0 ≤ a ∧ am_cats t ≤ 8) ∧ K nx L t S M
      | _ => False
    | _ => False
  | .ireturn => match ret, st with
    | 0, [(0, x)] => Q (some (0, x), S, M)
    | 5, [(0, x)] => (x = 0 ∨ x = 1) ∧ Q (some (0, x), S, M)
    | _, _ => False
  | .lreturn => match ret, st with
    | 1, [(1, x)] => Q (some (1, x), S, M)
    | _, _ => False
  | .areturn => match ret, st with
    | 2, [(2, x)] => Q (some (2, x), S, M)
    | _, _ => False
  | .return_ => match ret, st with
    | 8, [] => Q (none, S, M)
    | 9, [] => Q (none, S, M)
    | _, _ => False
  | _ => False
def am_at (c : am_C) (pc : Nat) : Option (Nat × Instr) := c.lookup pc
def am_wp (P : am_P) (own ret : Nat) (c : am_C) (cal : am_L) : Nat → Nat → List am_V → List am_V → am_S → am_M → am_Q → Prop
  | 0, _, _, _, _, _, _ => False
  | n + 1, pc, L, st, S, M, Q => match am_at c pc with
    | some (len, i) => am_step P own ret cal i pc (pc + len) L st S M (fun pc' L' st' S' M' => am_wp P own ret c cal n pc' L' st' S' M' Q) Q
    | none => False
/-- some run of it ends, and there holds Q -/
def am_W (P : am_P) (own ret : Nat) (c : am_C) (cal : am_L) (Q : am_Q) (pc : Nat) (L st : List am_V) (S : am_S) (M : am_M) : Prop := ∃ n, am_wp P own ret c cal n pc L st S M Q
/-- how the values given lie in the locals -/
def am_args : List am_V → List am_V
  | [] => []
  | (1, x) :: l => (1, x) :: (3, 0) :: am_args l
  | v :: l => v :: am_args l
def am_init (n : Nat) (vs : List am_V) : List am_V := am_args vs ++ List.replicate (n - (am_args vs).length) (3, 0)
/-- a call's meaning, at a depth -/
def am_cal (P : am_P) : Nat → am_L
  | 0 => fun _ _ _ _ _ => False
  | d + 1 => fun mid vs S M Q => match P.2.1 mid with
    | some (own, n, ret, mx, c) => (vs.length = n ∧ (am_args vs).length ≤ mx) ∧ ∃ r, am_W P own ret c (am_cal P d) (fun r' => r' = r) 0 (am_init mx vs) [] S M ∧ Q r
    | none => False
