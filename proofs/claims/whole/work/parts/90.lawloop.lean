/-! THE LAW'S LOOP, from what is wanted of each pair of methods (printed by wip/whole/lawloop.py) -/
theorem am_c0_mono {S : am_S} {f g : Int → am_M → Prop} (h : ∀ x M, f x M → g x M) : ∀ r, am_c0 S f r → am_c0 S g r := by
  intro r hr
  unfold am_c0 at hr ⊢
  split at hr
  · exact ⟨hr.1, h _ _ hr.2⟩
  · exact hr.elim
theorem am_c1_mono {S : am_S} {f g : Int → am_M → Prop} (h : ∀ x M, f x M → g x M) : ∀ r, am_c1 S f r → am_c1 S g r := by
  intro r hr
  unfold am_c1 at hr ⊢
  split at hr
  · exact ⟨hr.1, h _ _ hr.2⟩
  · exact hr.elim
theorem am_cal0 {d mid : Nat} {vs : List am_V} {S : am_S} {M : am_M} {f g : Int → am_M → Prop} (h : am_cal pg d mid vs S M (am_c0 S f)) (hf : ∀ x M, f x M → g x M) : am_cal pg d mid vs S M (am_c0 S g) := am_Cc_use (am_Cc_cal pg d) h (am_c0_mono hf)
theorem am_cal1 {d mid : Nat} {vs : List am_V} {S : am_S} {M : am_M} {f g : Int → am_M → Prop} (h : am_cal pg d mid vs S M (am_c1 S f)) (hf : ∀ x M, f x M → g x M) : am_cal pg d mid vs S M (am_c1 S g) := am_Cc_use (am_Cc_cal pg d) h (am_c1_mono hf)
/-- the class's method and the reference's, one behind the other: they answer alike, and what is between the two memories stays -/
def lw_two0 (d : Nat) (Inv : Nat → am_M → Prop) (mc mr : Nat) (As : List am_V) : Prop := ∀ n M, n < 600 → Inv n M → am_cal pg d mc ((2, 0) :: As) sh_T M (am_c0 sh_T fun x M1 => (∀ j, M1 2000003 j = M 2000003 j) ∧ am_cal pg d mr ((2, 152) :: As) sh_T M1 (am_c0 sh_T fun y M2 => x = y ∧ Inv (n + 1) M2))
def lw_two1 (d : Nat) (Inv : Nat → am_M → Prop) (mc mr : Nat) (As : List am_V) : Prop := ∀ n M, n < 600 → Inv n M → am_cal pg d mc ((2, 0) :: As) sh_T M (am_c1 sh_T fun x M1 => (∀ j, M1 2000003 j = M 2000003 j) ∧ am_cal pg d mr ((2, 152) :: As) sh_T M1 (am_c1 sh_T fun y M2 => x = y ∧ Inv (n + 1) M2))
theorem lw_use0 {d n : Nat} {Inv : Nat → am_M → Prop} {mc mr : Nat} {As : List am_V} {M : am_M} {F : Int → am_M → Prop} (h : lw_two0 d Inv mc mr As) (hn : n < 600) (hI : Inv n M) (hF : ∀ x M1, (∀ j, M1 2000003 j = M 2000003 j) → am_cal pg d mr ((2, 152) :: As) sh_T M1 (am_c0 sh_T fun y M2 => x = y ∧ Inv (n + 1) M2) → F x M1) : am_cal pg d mc ((2, 0) :: As) sh_T M (am_c0 sh_T F) := am_cal0 (h n M hn hI) fun x M1 q => hF x M1 q.1 q.2
theorem lw_use1 {d n : Nat} {Inv : Nat → am_M → Prop} {mc mr : Nat} {As : List am_V} {M : am_M} {F : Int → am_M → Prop} (h : lw_two1 d Inv mc mr As) (hn : n < 600) (hI : Inv n M) (hF : ∀ x M1, (∀ j, M1 2000003 j = M 2000003 j) → am_cal pg d mr ((2, 152) :: As) sh_T M1 (am_c1 sh_T fun y M2 => x = y ∧ Inv (n + 1) M2) → F x M1) : am_cal pg d mc ((2, 0) :: As) sh_T M (am_c1 sh_T F) := am_cal1 (h n M hn hI) fun x M1 q => hF x M1 q.1 q.2
theorem lw_end0 {d n : Nat} {Inv : Nat → am_M → Prop} {mr : Nat} {As : List am_V} {M : am_M} {x : Int} {F : am_M → Prop} {Z : Int → am_M → Prop} (h : am_cal pg d mr As sh_T M (am_c0 sh_T fun y M2 => x = y ∧ Inv (n + 1) M2)) (hF : ∀ M2, Inv (n + 1) M2 → F M2) : am_cal pg d mr As sh_T M (am_c0 sh_T fun y M2 => (x = y → F M2) ∧ (¬ x = y → Z y M2)) := am_cal0 h fun y M2 q => ⟨fun _ => hF M2 q.2, fun z => absurd q.1 z⟩
theorem lw_end1 {d n : Nat} {Inv : Nat → am_M → Prop} {mr : Nat} {As : List am_V} {M : am_M} {x : Int} {F : am_M → Prop} {Z : Int → am_M → Prop} (h : am_cal pg d mr As sh_T M (am_c1 sh_T fun y M2 => x = y ∧ Inv (n + 1) M2)) (hF : ∀ M2, Inv (n + 1) M2 → F M2) : am_cal pg d mr As sh_T M (am_c1 sh_T fun y M2 => (x = y → F M2) ∧ (¬ x = y → Z y M2)) := am_cal1 h fun y M2 q => ⟨fun _ => hF M2 q.2, fun z => absurd q.1 z⟩
/-- ALL THAT IS WANTED of the class and the reference -/
def lw_Sim (d : Nat) (Inv : Nat → am_M → Prop) : Prop :=
  (∀ a b c e f : Int, am_r a → am_r b → am_r c → am_r e → am_r f → lw_two0 d Inv 126 170 [(0, a), (0, b), (0, c), (0, e), (0, f)]) ∧
  (∀ a : Int, am_r a → lw_two0 d Inv 127 171 [(0, a)]) ∧
  (lw_two0 d Inv 128 194 []) ∧
  (∀ a : Int, am_r a → lw_two0 d Inv 129 206 [(0, a)]) ∧
  (∀ a : Int, am_r a → lw_two0 d Inv 130 232 [(0, a)]) ∧
  (∀ a b c : Int, am_r a → am_r b → am_r c → lw_two0 d Inv 131 233 [(0, a), (0, b), (0, c)]) ∧
  (∀ a b : Int, am_r a → am_r b → lw_two0 d Inv 132 234 [(0, a), (0, b)]) ∧
  (∀ a b c : Int, am_r a → am_r b → am_r c → lw_two0 d Inv 133 235 [(0, a), (0, b), (0, c)]) ∧
  (∀ a : Int, am_r a → lw_two0 d Inv 134 236 [(0, a)]) ∧
  (∀ a b : Int, am_r a → am_r b → lw_two0 d Inv 135 238 [(0, a), (0, b)]) ∧
  (∀ a b c : Int, am_r a → am_r b → am_r c → lw_two0 d Inv 136 239 [(0, a), (0, b), (0, c)]) ∧
  (∀ a : Int, am_r a → lw_two0 d Inv 137 240 [(0, a)]) ∧
  (∀ a b : Int, am_r a → am_r b → lw_two0 d Inv 138 243 [(0, a), (0, b)]) ∧
  (∀ a b : Int, am_r a → am_r b → lw_two0 d Inv 139 247 [(0, a), (0, b)]) ∧
  (∀ a b : Int, am_r a → am_r b → lw_two0 d Inv 140 248 [(0, a), (0, b)]) ∧
  (∀ a b : Int, am_r a → am_r b → lw_two0 d Inv 141 249 [(0, a), (0, b)]) ∧
  (∀ a b c : Int, am_r a → am_r b → am_r c → lw_two0 d Inv 142 252 [(0, a), (0, b), (0, c)]) ∧
  (∀ a b c : Int, am_r a → am_r b → am_r c → lw_two0 d Inv 143 254 [(0, a), (0, b), (0, c)]) ∧
  (∀ a b : Int, am_r a → am_r b → lw_two0 d Inv 144 261 [(0, a), (0, b)]) ∧
  (∀ a b : Int, am_r a → am_r b → lw_two0 d Inv 145 263 [(0, a), (0, b)]) ∧
  (∀ a b : Int, am_r a → (b = 0 ∨ b = 1) → lw_two0 d Inv 146 267 [(0, a), (0, b)]) ∧
  (∀ a b : Int, am_r a → am_r b → lw_two0 d Inv 147 268 [(0, a), (0, b)]) ∧
  (∀ a b : Int, am_r a → am_r b → lw_two0 d Inv 148 269 [(0, a), (0, b)]) ∧
  (∀ a b c : Int, am_r a → am_r b → am_r c → lw_two0 d Inv 149 270 [(0, a), (0, b), (0, c)]) ∧
  (∀ a b : Int, am_r a → am_r b → lw_two0 d Inv 150 273 [(0, a), (0, b)]) ∧
  (lw_two0 d Inv 151 265 []) ∧
  (∀ a : Int, am_r a → lw_two0 d Inv 152 271 [(0, a)]) ∧
  (∀ a : Int, am_r a → lw_two0 d Inv 153 274 [(0, a)]) ∧
  (∀ a b : Int, am_r a → am_r b → lw_two0 d Inv 154 276 [(0, a), (0, b)]) ∧
  (∀ a : Int, am_r a → lw_two1 d Inv 155 305 [(0, a)]) ∧
  (lw_two0 d Inv 156 309 []) ∧
  (∀ a : Int, am_r a → lw_two0 d Inv 157 310 [(0, a)]) ∧
  (lw_two0 d Inv 158 312 []) ∧
  (∀ a : Int, am_r a → lw_two0 d Inv 159 313 [(0, a)])
set_option maxHeartbeats 4000000 in
set_option maxRecDepth 20000 in
theorem law_loop {d N : Nat} {Inv : Nat → am_M → Prop} (hS : lw_Sim d Inv) (hsc : ∀ n M, Inv n M → ∀ j, am_r (M 2000003 j)) (hN : N ≤ 3072) : ∀ (k : Nat) (i : Int), 0 ≤ i → i ≤ 4000 → (N : Int) - i < k → ∀ (n : Nat) (M : am_M), 6 * (n : Int) ≤ i → Inv n M → am_h N 13 5 co_L_law d (fun r => ∃ M', r = (some (0, 1), sh_T, M')) 18 [(2, 2000003), (2, 0), (2, 152), (0, i)] [] sh_T M := by
  intro k
  induction k with
  | zero =>
    intro i h0 h1 hk n M hni hI
    refine bk_L_law_18 ⟨⟨by omega, by omega⟩, fun _ => ⟨M, rfl⟩, fun q => ?_⟩
    omega
  | succ k ih =>
    intro i h0 h1 hk n M hni hI
    refine bk_L_law_18 ⟨⟨by omega, by omega⟩, fun _ => ⟨M, rfl⟩, fun q => ?_⟩
    have hn6 : n < 600 := by omega
    have go0 : ∀ n2 : Nat, n2 ≤ n + 1 → ∀ M2, Inv n2 M2 → am_h N 13 5 co_L_law d (fun r => ∃ M', r = (some (0, 1), sh_T, M')) 1233 [(2, 2000003), (2, 0), (2, 152), (0, i)] [] sh_T M2 := fun n2 hn2 M2 h2 => bk_L_law_1233 ⟨⟨by omega, by omega⟩, ih (i + 6) (by omega) (by omega) (by omega) n2 M2 (by omega) h2⟩
    have go := go0 (n + 1) (Nat.le_refl _)
    refine ⟨⟨by omega, by omega⟩, fun _ => go0 n (Nat.le_succ n) M hI, ?_, ?_, ?_, ?_, ?_, ?_, ?_, ?_, ?_, ?_, ?_, ?_, ?_, ?_, ?_, ?_, ?_, ?_, ?_, ?_, ?_, ?_, ?_, ?_, ?_, ?_, ?_, ?_, ?_, ?_, ?_, ?_, ?_, ?_⟩
    · intro _
      refine ⟨⟨by omega, by omega⟩, ⟨by omega, by omega⟩, ⟨by omega, by omega⟩, ⟨by omega, by omega⟩, ⟨by omega, by omega⟩, ⟨by omega, by omega⟩, ⟨by omega, by omega⟩, ⟨by omega, by omega⟩, ⟨by omega, by omega⟩, ⟨by omega, by omega⟩, ?_⟩
      refine lw_use0 (hS.1 _ _ _ _ _ (hsc n M hI _) (hsc n M hI _) (hsc n M hI _) (hsc n M hI _) (hsc n M hI _)) hn6 hI (fun x M1 hj hr => ?_)
      refine ⟨⟨by omega, by omega⟩, ⟨by omega, by omega⟩, ⟨by omega, by omega⟩, ⟨by omega, by omega⟩, ⟨by omega, by omega⟩, ?_⟩
      simp only [hj]
      exact lw_end0 hr (fun M2 h2 => go M2 h2)
    · intro _
      refine ⟨⟨by omega, by omega⟩, ⟨by omega, by omega⟩, ?_⟩
      refine lw_use0 (hS.2.1 _ (hsc n M hI _)) hn6 hI (fun x M1 hj hr => ?_)
      refine ⟨⟨by omega, by omega⟩, ?_⟩
      simp only [hj]
      exact lw_end0 hr (fun M2 h2 => go M2 h2)
    · intro _
      refine lw_use0 (hS.2.2.1) hn6 hI (fun x M1 hj hr => ?_)
      exact lw_end0 hr (fun M2 h2 => go M2 h2)
    · intro _
      refine ⟨⟨by omega, by omega⟩, ⟨by omega, by omega⟩, ?_⟩
      refine lw_use0 (hS.2.2.2.1 _ (hsc n M hI _)) hn6 hI (fun x M1 hj hr => ?_)
      refine ⟨⟨by omega, by omega⟩, ?_⟩
      simp only [hj]
      exact lw_end0 hr (fun M2 h2 => go M2 h2)
    · intro _
      refine ⟨⟨by omega, by omega⟩, ⟨by omega, by omega⟩, ?_⟩
      refine lw_use0 (hS.2.2.2.2.1 _ (hsc n M hI _)) hn6 hI (fun x M1 hj hr => ?_)
      refine ⟨⟨by omega, by omega⟩, ?_⟩
      simp only [hj]
      exact lw_end0 hr (fun M2 h2 => go M2 h2)
    · intro _
      refine ⟨⟨by omega, by omega⟩, ⟨by omega, by omega⟩, ⟨by omega, by omega⟩, ⟨by omega, by omega⟩, ⟨by omega, by omega⟩, ⟨by omega, by omega⟩, ?_⟩
      refine lw_use0 (hS.2.2.2.2.2.1 _ _ _ (hsc n M hI _) (hsc n M hI _) (hsc n M hI _)) hn6 hI (fun x M1 hj hr => ?_)
      refine ⟨⟨by omega, by omega⟩, ⟨by omega, by omega⟩, ⟨by omega, by omega⟩, ?_⟩
      simp only [hj]
      exact lw_end0 hr (fun M2 h2 => go M2 h2)
    · intro _
      refine ⟨⟨by omega, by omega⟩, ⟨by omega, by omega⟩, ⟨by omega, by omega⟩, ⟨by omega, by omega⟩, ?_⟩
      refine lw_use0 (hS.2.2.2.2.2.2.1 _ _ (hsc n M hI _) (hsc n M hI _)) hn6 hI (fun x M1 hj hr => ?_)
      refine ⟨⟨by omega, by omega⟩, ⟨by omega, by omega⟩, ?_⟩
      simp only [hj]
      exact lw_end0 hr (fun M2 h2 => go M2 h2)
    · intro _
      refine ⟨⟨by omega, by omega⟩, ⟨by omega, by omega⟩, ⟨by omega, by omega⟩, ⟨by omega, by omega⟩, ⟨by omega, by omega⟩, ⟨by omega, by omega⟩, ?_⟩
      refine lw_use0 (hS.2.2.2.2.2.2.2.1 _ _ _ (hsc n M hI _) (hsc n M hI _) (hsc n M hI _)) hn6 hI (fun x M1 hj hr => ?_)
      refine ⟨⟨by omega, by omega⟩, ⟨by omega, by omega⟩, ⟨by omega, by omega⟩, ?_⟩
      simp only [hj]
      exact lw_end0 hr (fun M2 h2 => go M2 h2)
    · intro _
      refine ⟨⟨by omega, by omega⟩, ⟨by omega, by omega⟩, ?_⟩
      refine lw_use0 (hS.2.2.2.2.2.2.2.2.1 _ (hsc n M hI _)) hn6 hI (fun x M1 hj hr => ?_)
      refine ⟨⟨by omega, by omega⟩, ?_⟩
      simp only [hj]
      exact lw_end0 hr (fun M2 h2 => go M2 h2)
    · intro _
      refine ⟨⟨by omega, by omega⟩, ⟨by omega, by omega⟩, ⟨by omega, by omega⟩, ⟨by omega, by omega⟩, ?_⟩
      refine lw_use0 (hS.2.2.2.2.2.2.2.2.2.1 _ _ (hsc n M hI _) (hsc n M hI _)) hn6 hI (fun x M1 hj hr => ?_)
      refine ⟨⟨by omega, by omega⟩, ⟨by omega, by omega⟩, ?_⟩
      simp only [hj]
      exact lw_end0 hr (fun M2 h2 => go M2 h2)
    · intro _
      refine ⟨⟨by omega, by omega⟩, ⟨by omega, by omega⟩, ⟨by omega, by omega⟩, ⟨by omega, by omega⟩, ⟨by omega, by omega⟩, ⟨by omega, by omega⟩, ?_⟩
      refine lw_use0 (hS.2.2.2.2.2.2.2.2.2.2.1 _ _ _ (hsc n M hI _) (hsc n M hI _) (hsc n M hI _)) hn6 hI (fun x M1 hj hr => ?_)
      refine ⟨⟨by omega, by omega⟩, ⟨by omega, by omega⟩, ⟨by omega, by omega⟩, ?_⟩
      simp only [hj]
      exact lw_end0 hr (fun M2 h2 => go M2 h2)
    · intro _
      refine ⟨⟨by omega, by omega⟩, ⟨by omega, by omega⟩, ?_⟩
      refine lw_use0 (hS.2.2.2.2.2.2.2.2.2.2.2.1 _ (hsc n M hI _)) hn6 hI (fun x M1 hj hr => ?_)
      refine ⟨⟨by omega, by omega⟩, ?_⟩
      simp only [hj]
      exact lw_end0 hr (fun M2 h2 => go M2 h2)
    · intro _
      refine ⟨⟨by omega, by omega⟩, ⟨by omega, by omega⟩, ⟨by omega, by omega⟩, ⟨by omega, by omega⟩, ?_⟩
      refine lw_use0 (hS.2.2.2.2.2.2.2.2.2.2.2.2.1 _ _ (hsc n M hI _) (hsc n M hI _)) hn6 hI (fun x M1 hj hr => ?_)
      refine ⟨⟨by omega, by omega⟩, ⟨by omega, by omega⟩, ?_⟩
      simp only [hj]
      exact lw_end0 hr (fun M2 h2 => go M2 h2)
    · intro _
      refine ⟨⟨by omega, by omega⟩, ⟨by omega, by omega⟩, ⟨by omega, by omega⟩, ⟨by omega, by omega⟩, ?_⟩
      refine lw_use0 (hS.2.2.2.2.2.2.2.2.2.2.2.2.2.1 _ _ (hsc n M hI _) (hsc n M hI _)) hn6 hI (fun x M1 hj hr => ?_)
      refine ⟨⟨by omega, by omega⟩, ⟨by omega, by omega⟩, ?_⟩
      simp only [hj]
      exact lw_end0 hr (fun M2 h2 => go M2 h2)
    · intro _
      refine ⟨⟨by omega, by omega⟩, ⟨by omega, by omega⟩, ⟨by omega, by omega⟩, ⟨by omega, by omega⟩, ?_⟩
      refine lw_use0 (hS.2.2.2.2.2.2.2.2.2.2.2.2.2.2.1 _ _ (hsc n M hI _) (hsc n M hI _)) hn6 hI (fun x M1 hj hr => ?_)
      refine ⟨⟨by omega, by omega⟩, ⟨by omega, by omega⟩, ?_⟩
      simp only [hj]
      exact lw_end0 hr (fun M2 h2 => go M2 h2)
    · intro _
      refine ⟨⟨by omega, by omega⟩, ⟨by omega, by omega⟩, ⟨by omega, by omega⟩, ⟨by omega, by omega⟩, ?_⟩
      refine lw_use0 (hS.2.2.2.2.2.2.2.2.2.2.2.2.2.2.2.1 _ _ (hsc n M hI _) (hsc n M hI _)) hn6 hI (fun x M1 hj hr => ?_)
      refine ⟨⟨by omega, by omega⟩, ⟨by omega, by omega⟩, ?_⟩
      simp only [hj]
      exact lw_end0 hr (fun M2 h2 => go M2 h2)
    · intro _
      refine ⟨⟨by omega, by omega⟩, ⟨by omega, by omega⟩, ⟨by omega, by omega⟩, ⟨by omega, by omega⟩, ⟨by omega, by omega⟩, ⟨by omega, by omega⟩, ?_⟩
      refine lw_use0 (hS.2.2.2.2.2.2.2.2.2.2.2.2.2.2.2.2.1 _ _ _ (hsc n M hI _) (hsc n M hI _) (hsc n M hI _)) hn6 hI (fun x M1 hj hr => ?_)
      refine ⟨⟨by omega, by omega⟩, ⟨by omega, by omega⟩, ⟨by omega, by omega⟩, ?_⟩
      simp only [hj]
      exact lw_end0 hr (fun M2 h2 => go M2 h2)
    · intro _
      refine ⟨⟨by omega, by omega⟩, ⟨by omega, by omega⟩, ⟨by omega, by omega⟩, ⟨by omega, by omega⟩, ⟨by omega, by omega⟩, ⟨by omega, by omega⟩, ?_⟩
      refine lw_use0 (hS.2.2.2.2.2.2.2.2.2.2.2.2.2.2.2.2.2.1 _ _ _ (hsc n M hI _) (hsc n M hI _) (hsc n M hI _)) hn6 hI (fun x M1 hj hr => ?_)
      refine ⟨⟨by omega, by omega⟩, ⟨by omega, by omega⟩, ⟨by omega, by omega⟩, ?_⟩
      simp only [hj]
      exact lw_end0 hr (fun M2 h2 => go M2 h2)
    · intro _
      refine ⟨⟨by omega, by omega⟩, ⟨by omega, by omega⟩, ⟨by omega, by omega⟩, ⟨by omega, by omega⟩, ?_⟩
      refine lw_use0 (hS.2.2.2.2.2.2.2.2.2.2.2.2.2.2.2.2.2.2.1 _ _ (hsc n M hI _) (hsc n M hI _)) hn6 hI (fun x M1 hj hr => ?_)
      refine ⟨⟨by omega, by omega⟩, ⟨by omega, by omega⟩, ?_⟩
      simp only [hj]
      exact lw_end0 hr (fun M2 h2 => go M2 h2)
    · intro _
      refine ⟨⟨by omega, by omega⟩, ⟨by omega, by omega⟩, ⟨by omega, by omega⟩, ⟨by omega, by omega⟩, ?_⟩
      refine lw_use0 (hS.2.2.2.2.2.2.2.2.2.2.2.2.2.2.2.2.2.2.2.1 _ _ (hsc n M hI _) (hsc n M hI _)) hn6 hI (fun x M1 hj hr => ?_)
      refine ⟨⟨by omega, by omega⟩, ⟨by omega, by omega⟩, ?_⟩
      simp only [hj]
      exact lw_end0 hr (fun M2 h2 => go M2 h2)
    · intro _
      refine ⟨⟨by omega, by omega⟩, ⟨by omega, by omega⟩, ⟨by omega, by omega⟩, ⟨by omega, by omega⟩, fun q => ?_, fun q => ?_⟩
      ·
        refine lw_use0 (hS.2.2.2.2.2.2.2.2.2.2.2.2.2.2.2.2.2.2.2.2.1 _ _ (hsc n M hI _) (Or.inl rfl)) hn6 hI (fun x M1 hj hr => ?_)
        refine ⟨⟨by omega, by omega⟩, ⟨by omega, by omega⟩, ?_⟩
        simp only [hj]
        exact ⟨fun _ => lw_end0 hr (fun M2 h2 => go M2 h2), fun z => absurd q z⟩
      ·
        refine lw_use0 (hS.2.2.2.2.2.2.2.2.2.2.2.2.2.2.2.2.2.2.2.2.1 _ _ (hsc n M hI _) (Or.inr rfl)) hn6 hI (fun x M1 hj hr => ?_)
        refine ⟨⟨by omega, by omega⟩, ⟨by omega, by omega⟩, ?_⟩
        simp only [hj]
        exact ⟨fun z => absurd z q, fun _ => lw_end0 hr (fun M2 h2 => go M2 h2)⟩
    · intro _
      refine ⟨⟨by omega, by omega⟩, ⟨by omega, by omega⟩, ⟨by omega, by omega⟩, ⟨by omega, by omega⟩, ?_⟩
      refine lw_use0 (hS.2.2.2.2.2.2.2.2.2.2.2.2.2.2.2.2.2.2.2.2.2.1 _ _ (hsc n M hI _) (hsc n M hI _)) hn6 hI (fun x M1 hj hr => ?_)
      refine ⟨⟨by omega, by omega⟩, ⟨by omega, by omega⟩, ?_⟩
      simp only [hj]
      exact lw_end0 hr (fun M2 h2 => go M2 h2)
    · intro _
      refine ⟨⟨by omega, by omega⟩, ⟨by omega, by omega⟩, ⟨by omega, by omega⟩, ⟨by omega, by omega⟩, ?_⟩
      refine lw_use0 (hS.2.2.2.2.2.2.2.2.2.2.2.2.2.2.2.2.2.2.2.2.2.2.1 _ _ (hsc n M hI _) (hsc n M hI _)) hn6 hI (fun x M1 hj hr => ?_)
      refine ⟨⟨by omega, by omega⟩, ⟨by omega, by omega⟩, ?_⟩
      simp only [hj]
      exact lw_end0 hr (fun M2 h2 => go M2 h2)
    · intro _
      refine ⟨⟨by omega, by omega⟩, ⟨by omega, by omega⟩, ⟨by omega, by omega⟩, ⟨by omega, by omega⟩, ⟨by omega, by omega⟩, ⟨by omega, by omega⟩, ?_⟩
      refine lw_use0 (hS.2.2.2.2.2.2.2.2.2.2.2.2.2.2.2.2.2.2.2.2.2.2.2.1 _ _ _ (hsc n M hI _) (hsc n M hI _) (hsc n M hI _)) hn6 hI (fun x M1 hj hr => ?_)
      refine ⟨⟨by omega, by omega⟩, ⟨by omega, by omega⟩, ⟨by omega, by omega⟩, ?_⟩
      simp only [hj]
      exact lw_end0 hr (fun M2 h2 => go M2 h2)
    · intro _
      refine ⟨⟨by omega, by omega⟩, ⟨by omega, by omega⟩, ⟨by omega, by omega⟩, ⟨by omega, by omega⟩, ?_⟩
      refine lw_use0 (hS.2.2.2.2.2.2.2.2.2.2.2.2.2.2.2.2.2.2.2.2.2.2.2.2.1 _ _ (hsc n M hI _) (hsc n M hI _)) hn6 hI (fun x M1 hj hr => ?_)
      refine ⟨⟨by omega, by omega⟩, ⟨by omega, by omega⟩, ?_⟩
      simp only [hj]
      exact lw_end0 hr (fun M2 h2 => go M2 h2)
    · intro _
      refine lw_use0 (hS.2.2.2.2.2.2.2.2.2.2.2.2.2.2.2.2.2.2.2.2.2.2.2.2.2.1) hn6 hI (fun x M1 hj hr => ?_)
      exact lw_end0 hr (fun M2 h2 => go M2 h2)
    · intro _
      refine ⟨⟨by omega, by omega⟩, ⟨by omega, by omega⟩, ?_⟩
      refine lw_use0 (hS.2.2.2.2.2.2.2.2.2.2.2.2.2.2.2.2.2.2.2.2.2.2.2.2.2.2.1 _ (hsc n M hI _)) hn6 hI (fun x M1 hj hr => ?_)
      refine ⟨⟨by omega, by omega⟩, ?_⟩
      simp only [hj]
      exact lw_end0 hr (fun M2 h2 => go M2 h2)
    · intro _
      refine ⟨⟨by omega, by omega⟩, ⟨by omega, by omega⟩, ?_⟩
      refine lw_use0 (hS.2.2.2.2.2.2.2.2.2.2.2.2.2.2.2.2.2.2.2.2.2.2.2.2.2.2.2.1 _ (hsc n M hI _)) hn6 hI (fun x M1 hj hr => ?_)
      refine ⟨⟨by omega, by omega⟩, ?_⟩
      simp only [hj]
      exact lw_end0 hr (fun M2 h2 => go M2 h2)
    · intro _
      refine ⟨⟨by omega, by omega⟩, ⟨by omega, by omega⟩, ⟨by omega, by omega⟩, ⟨by omega, by omega⟩, ?_⟩
      refine lw_use0 (hS.2.2.2.2.2.2.2.2.2.2.2.2.2.2.2.2.2.2.2.2.2.2.2.2.2.2.2.2.1 _ _ (hsc n M hI _) (hsc n M hI _)) hn6 hI (fun x M1 hj hr => ?_)
      refine ⟨⟨by omega, by omega⟩, ⟨by omega, by omega⟩, ?_⟩
      simp only [hj]
      exact lw_end0 hr (fun M2 h2 => go M2 h2)
    · intro _
      refine ⟨⟨by omega, by omega⟩, ⟨by omega, by omega⟩, ?_⟩
      refine lw_use1 (hS.2.2.2.2.2.2.2.2.2.2.2.2.2.2.2.2.2.2.2.2.2.2.2.2.2.2.2.2.2.1 _ (hsc n M hI _)) hn6 hI (fun x M1 hj hr => ?_)
      refine ⟨⟨by omega, by omega⟩, ?_⟩
      simp only [hj]
      exact lw_end1 hr (fun M2 h2 => go M2 h2)
    · intro _
      refine lw_use0 (hS.2.2.2.2.2.2.2.2.2.2.2.2.2.2.2.2.2.2.2.2.2.2.2.2.2.2.2.2.2.2.1) hn6 hI (fun x M1 hj hr => ?_)
      exact lw_end0 hr (fun M2 h2 => go M2 h2)
    · intro _
      refine ⟨⟨by omega, by omega⟩, ⟨by omega, by omega⟩, ?_⟩
      refine lw_use0 (hS.2.2.2.2.2.2.2.2.2.2.2.2.2.2.2.2.2.2.2.2.2.2.2.2.2.2.2.2.2.2.2.1 _ (hsc n M hI _)) hn6 hI (fun x M1 hj hr => ?_)
      refine ⟨⟨by omega, by omega⟩, ?_⟩
      simp only [hj]
      exact lw_end0 hr (fun M2 h2 => go M2 h2)
    · intro _
      refine lw_use0 (hS.2.2.2.2.2.2.2.2.2.2.2.2.2.2.2.2.2.2.2.2.2.2.2.2.2.2.2.2.2.2.2.2.1) hn6 hI (fun x M1 hj hr => ?_)
      exact lw_end0 hr (fun M2 h2 => go M2 h2)
    · intro _
      refine ⟨⟨by omega, by omega⟩, ⟨by omega, by omega⟩, ?_⟩
      refine lw_use0 (hS.2.2.2.2.2.2.2.2.2.2.2.2.2.2.2.2.2.2.2.2.2.2.2.2.2.2.2.2.2.2.2.2.2 _ (hsc n M hI _)) hn6 hI (fun x M1 hj hr => ?_)
      refine ⟨⟨by omega, by omega⟩, ?_⟩
      simp only [hj]
      exact lw_end0 hr (fun M2 h2 => go M2 h2)
