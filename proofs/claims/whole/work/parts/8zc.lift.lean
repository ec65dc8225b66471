/-! ALL THE PAIRS THAT STAND, from one call to the next; letter -/
theorem tw_c0 {S : am_S} {f g : Int → am_M → Prop} (h : ∀ x M, f x M → g x M) : ∀ r, am_c0 S f r → am_c0 S g r := by
  intro r hr
  unfold am_c0 at hr ⊢
  split at hr
  · exact ⟨hr.1, h _ _ hr.2⟩
  · exact hr.elim
theorem tw_cal {d mid : Nat} {vs : List am_V} {S : am_S} {M : am_M} {f g : Int → am_M → Prop} (h : am_cal pg d mid vs S M (am_c0 S f)) (hf : ∀ x M, f x M → g x M) : am_cal pg d mid vs S M (am_c0 S g) := am_Cc_use (am_Cc_cal pg d) h (tw_c0 hf)
theorem tr_mono {d mc mr : Nat} {As : List am_V} {M : am_M} {P P' : am_M → Prop} (h : tr_two d mc mr As M P) (hp : ∀ M2, P M2 → P' M2) : tr_two d mc mr As M P' := tw_cal h fun _ _ q => ⟨q.1, tw_cal q.2 fun _ _ r => ⟨r.1, hp _ r.2⟩⟩
/-- behind a question -/
theorem iv_sc {n : Nat} {M M' : am_M} (h : iv_ n M) (hf : sc_fr M M') : iv_ (n + 1) M' := by
  obtain ⟨⟨D, ⟨G, W, a⟩, h2, h3, h4⟩, ⟨T, h5⟩, ⟨t1, t2, t3, t4⟩, ⟨l1, l2⟩, h6, ⟨p1, p2, p3⟩, ⟨x1, x2, x3⟩, h9⟩ := h
  have hu : (M 0 4 = 11 ∨ M 0 4 = 24) ∧ (M 0 5 = 11 ∨ M 0 5 = 24) := ⟨h6.1, h6.2.1⟩
  have e : ∀ x j, ¬ sc_ x j → M' x j = M x j := hf
  have e04 : M' 0 4 = M 0 4 := e 0 4 (by unfold sc_; omega)
  have b := at_ok_fr hf a
  refine ⟨⟨D, ⟨G, W, b.1, b.2.1, rq_ok_s b.2.2.1, b.2.2.2⟩, to_ok_fr hf h2, h3, h4⟩, ⟨T, h5.1, ⟨fun k k0 k1 => ?_, fun k k0 k1 i j i1 j1 => ?_⟩, fun k k0 k1 => ?_, fun k k0 k1 i i1 => ?_⟩, ⟨fun j => ?_, ?_, ?_, fun j j0 j1 => ?_⟩, ⟨?_, ?_⟩, ?_, ⟨?_, ?_, fun j j0 j1 => ?_⟩, ⟨fun k k0 k1 => ?_, fun i hi => ?_, fun j => ?_⟩, fun x hx => ?_⟩
  · rw [e04, e _ _ (by unfold sc_; omega)]; exact h5.2.1.1 k k0 k1
  · rw [e04, e _ _ (by unfold sc_; omega)]; exact h5.2.1.2 k k0 k1 i j i1 j1
  · rw [e _ _ (by unfold sc_; omega)]; exact h5.2.2.1 k k0 k1
  · rw [e _ _ (by unfold sc_; omega)]; exact h5.2.2.2 k k0 k1 i i1
  · rw [e 2 j (by unfold sc_; omega), e 153 j (by unfold sc_; omega)]; exact t1 j
  · rw [e 1 1 (by unfold sc_; omega), e 152 1 (by unfold sc_; omega)]; exact t2
  · rw [e 1 1 (by unfold sc_; omega)]; exact t3
  · rw [e 1 1 (by unfold sc_; omega)] at j1
    rw [e 2 j (by unfold sc_; omega)]; exact t4 j j0 j1
  · rw [e 1 3 (by unfold sc_; omega), e 152 7 (by unfold sc_; omega)]; exact l1
  · rw [e 1 4 (by unfold sc_; omega), e 152 8 (by unfold sc_; omega)]; exact l2
  · unfold so_
    rw [e04, e 0 5 (by unfold sc_; omega)]; exact h6
  · rw [e 0 15 (by unfold sc_; omega), e 152 93 (by unfold sc_; omega)]; exact p1
  · rw [e 0 15 (by unfold sc_; omega)]; exact p2
  · rw [e 0 15 (by unfold sc_; omega)] at j1
    rw [e 150 j (by unfold sc_; omega), e 214 j (by unfold sc_; omega)]; exact p3 j j0 j1
  · rw [e _ _ (by unfold sc_; omega)]; exact x1 k k0 k1
  · rw [e 2000001 i (by unfold sc_; omega), e 2000002 i (by unfold sc_; omega)]; exact x2 i hi
  · rw [e 2000003 j (by unfold sc_; omega)]; exact x3 j
  · obtain ⟨w1, w2, w3, w4⟩ := h9 x hx
    have hi := rws_ab x hx
    exact ⟨w1, w2, fun i hl => (e x.1 i (by unfold sc_; omega)).trans (w3 i hl), w4⟩
theorem iv_qu {d mc mr n : Nat} {As : List am_V} {M : am_M} (h : iv_ n M) (hq : qu_two d mc mr As M) : tr_two d mc mr As M (iv_ (n + 1)) := tw_cal hq fun _ _ q => ⟨fun j => q.1 2000003 j (by unfold sc_; omega), tw_cal q.2 fun _ _ r => ⟨r.1, iv_sc h r.2⟩⟩
/-- behind an act -/
theorem iv_af {n : Nat} {M M' : am_M} {D : dm_D} (h : iv_ n M) (h2 : to_ok M D) (h3 : (0 ≤ dL D ∧ dL D ≤ 100) ∧ (0 ≤ dS D ∧ dS D ≤ 999)) (hp : at_P n M D M') : iv_ (n + 1) M' := by
  obtain ⟨-, ⟨T, h5⟩, ⟨t1, t2, t3, t4⟩, ⟨l1, l2⟩, h6, ⟨p1, p2, p3⟩, ⟨x1, x2, x3⟩, h9⟩ := h
  obtain ⟨⟨G, W, b⟩, e⟩ := hp
  have hu : (M 0 4 = 11 ∨ M 0 4 = 24) ∧ (M 0 5 = 11 ∨ M 0 5 = 24) := ⟨h6.1, h6.2.1⟩
  have e : ∀ x j, ¬ af_ x j → M' x j = M x j := e
  have e04 : M' 0 4 = M 0 4 := e 0 4 (by unfold af_ sc_; omega)
  refine ⟨⟨D, ⟨G, W, b⟩, ?_, h3⟩, ⟨T, h5.1, ⟨fun k k0 k1 => ?_, fun k k0 k1 i j i1 j1 => ?_⟩, fun k k0 k1 => ?_, fun k k0 k1 i i1 => ?_⟩, ⟨fun j => ?_, ?_, ?_, fun j j0 j1 => ?_⟩, ⟨?_, ?_⟩, ?_, ⟨?_, ?_, fun j j0 j1 => ?_⟩, ⟨fun k k0 k1 => ?_, fun i hi => ?_, fun j => ?_⟩, fun x hx => ?_⟩
  · have e1 : M' 0 13 = M 0 13 := e _ _ (by unfold af_ sc_; omega)
    have e2 : M' 174 4 = M 174 4 := e _ _ (by unfold af_ sc_; omega)
    have e3 : M' 152 61 = M 152 61 := e _ _ (by unfold af_ sc_; omega)
    rcases h2 with ⟨q1, q2⟩ | ⟨R, q1, q2, q3, q4, q5, q6⟩
    · exact Or.inl ⟨by rw [e1, e2]; exact q1, by rw [e3]; exact q2⟩
    · refine Or.inr ⟨R, q1, by rw [e3]; exact q2, ?_, ?_, ?_, fun t ht => ?_⟩
      · rw [e 0 12 (by unfold af_ sc_; omega)]; exact q3
      · rw [e1, e 152 62 (by unfold af_ sc_; omega)]; exact q4
      · rw [e 152 62 (by unfold af_ sc_; omega), e2]; exact q5
      · rw [e 149 _ (by unfold af_ sc_; omega), e 192 _ (by unfold af_ sc_; omega)]; exact q6 t ht
  · rw [e04, e _ _ (by unfold af_ sc_; omega)]; exact h5.2.1.1 k k0 k1
  · rw [e04, e _ _ (by unfold af_ sc_; omega)]; exact h5.2.1.2 k k0 k1 i j i1 j1
  · rw [e _ _ (by unfold af_ sc_; omega)]; exact h5.2.2.1 k k0 k1
  · rw [e _ _ (by unfold af_ sc_; omega)]; exact h5.2.2.2 k k0 k1 i i1
  · rw [e 2 j (by unfold af_ sc_; omega), e 153 j (by unfold af_ sc_; omega)]; exact t1 j
  · rw [e 1 1 (by unfold af_ sc_; omega), e 152 1 (by unfold af_ sc_; omega)]; exact t2
  · rw [e 1 1 (by unfold af_ sc_; omega)]; exact t3
  · rw [e 1 1 (by unfold af_ sc_; omega)] at j1
    rw [e 2 j (by unfold af_ sc_; omega)]; exact t4 j j0 j1
  · rw [e 1 3 (by unfold af_ sc_; omega), e 152 7 (by unfold af_ sc_; omega)]; exact l1
  · rw [e 1 4 (by unfold af_ sc_; omega), e 152 8 (by unfold af_ sc_; omega)]; exact l2
  · unfold so_
    rw [e04, e 0 5 (by unfold af_ sc_; omega)]; exact h6
  · rw [e 0 15 (by unfold af_ sc_; omega), e 152 93 (by unfold af_ sc_; omega)]; exact p1
  · rw [e 0 15 (by unfold af_ sc_; omega)]; exact p2
  · rw [e 0 15 (by unfold af_ sc_; omega)] at j1
    rw [e 150 j (by unfold af_ sc_; omega), e 214 j (by unfold af_ sc_; omega)]; exact p3 j j0 j1
  · rw [e _ _ (by unfold af_ sc_; omega)]; exact x1 k k0 k1
  · rw [e 2000001 i (by unfold af_ sc_; omega), e 2000002 i (by unfold af_ sc_; omega)]; exact x2 i hi
  · rw [e 2000003 j (by unfold af_ sc_; omega)]; exact x3 j
  · obtain ⟨w1, w2, w3, w4⟩ := h9 x hx
    have hi := rws_ab x hx
    exact ⟨w1, w2, fun i hl => (e x.1 i (by unfold af_ sc_; omega)).trans (w3 i hl), w4⟩
theorem iv_till {n : Nat} {M : am_M} {a : Int} (h : iv_ n M) : tr_two 301 137 240 [(0, a)] M (iv_ (n + 1)) := by
  obtain ⟨D, ⟨G, W, k⟩, -⟩ := h.1
  exact iv_qu h (qu_till (d := 294) k.1)
theorem iv_room {n : Nat} {M : am_M} {a b : Int} (h : iv_ n M) : tr_two 301 135 238 [(0, a), (0, b)] M (iv_ (n + 1)) := by
  obtain ⟨D, ⟨G, W, k⟩, -⟩ := h.1
  exact iv_qu h (qu_room (d := 294) k.1)
theorem iv_later {n : Nat} {M : am_M} {a b c : Int} (h : iv_ n M) : tr_two 301 136 239 [(0, a), (0, b), (0, c)] M (iv_ (n + 1)) := by
  obtain ⟨D, ⟨G, W, k⟩, -⟩ := h.1
  exact iv_qu h (qu_later (d := 294) k.1)
theorem iv_again {n : Nat} {M : am_M} {a b : Int} (h : iv_ n M) : tr_two 301 138 243 [(0, a), (0, b)] M (iv_ (n + 1)) := by
  obtain ⟨D, ⟨G, W, k⟩, -⟩ := h.1
  exact iv_qu h (qu_again (d := 294) k.1)
theorem iv_guide {n : Nat} {M : am_M} {a : Int} (h : iv_ n M) : tr_two 301 134 236 [(0, a)] M (iv_ (n + 1)) := by
  obtain ⟨D, ⟨G, W, k⟩, -⟩ := h.1
  exact iv_qu h (qu_guide (d := 294) k.1)
theorem iv_dreamer {n : Nat} {M : am_M} {a b : Int} (h : iv_ n M) : tr_two 301 132 234 [(0, a), (0, b)] M (iv_ (n + 1)) := by
  obtain ⟨D, ⟨G, W, k⟩, -⟩ := h.1
  exact iv_qu h (qu_dreamer (d := 294) k.1)
theorem iv_weigh {n : Nat} {M : am_M} {a b c : Int} (h : iv_ n M) : tr_two 301 133 235 [(0, a), (0, b), (0, c)] M (iv_ (n + 1)) := by
  obtain ⟨D, ⟨G, W, k⟩, -⟩ := h.1
  exact iv_qu h (qu_weigh (d := 294) k.1)
theorem iv_hand {n : Nat} {M : am_M} {a b c : Int} (h : iv_ n M) : tr_two 301 143 254 [(0, a), (0, b), (0, c)] M (iv_ (n + 1)) := by
  obtain ⟨D, ⟨G, W, k⟩, -⟩ := h.1
  exact iv_qu h (qu_hand (d := 294) k.1)
theorem iv_soonest {n : Nat} {M : am_M} {a b : Int} (h : iv_ n M) : tr_two 301 139 247 [(0, a), (0, b)] M (iv_ (n + 1)) := by
  obtain ⟨D, ⟨G, W, k⟩, -⟩ := h.1
  exact iv_qu h (qu_soonest (d := 269) k.1)
theorem iv_least {n : Nat} {M : am_M} {a b : Int} (h : iv_ n M) : tr_two 301 140 248 [(0, a), (0, b)] M (iv_ (n + 1)) := by
  obtain ⟨D, ⟨G, W, k⟩, -⟩ := h.1
  exact iv_qu h (qu_least (d := 269) k.1)
theorem iv_along {n : Nat} {M : am_M} {a b : Int} (h : iv_ n M) : tr_two 301 141 249 [(0, a), (0, b)] M (iv_ (n + 1)) := by
  obtain ⟨D, ⟨G, W, k⟩, -⟩ := h.1
  exact iv_qu h (qu_along (d := 268) k.1)
theorem iv_has {n : Nat} {M : am_M} {a : Int} (h : iv_ n M) : tr_two 301 130 232 [(0, a)] M (iv_ (n + 1)) := by
  obtain ⟨D, ⟨G, W, k⟩, -⟩ := h.1
  obtain ⟨na, ha, x1, ⟨x2, x3⟩, -⟩ := k.2.1
  exact iv_qu h (qu_has (d := 294) k.1 (x2.trans x3.symm))
theorem iv_fits {n : Nat} {M : am_M} {a b : Int} (h : iv_ n M) : tr_two 301 154 276 [(0, a), (0, b)] M (iv_ (n + 1)) := by
  obtain ⟨D, ⟨G, W, k⟩, ht, -⟩ := h.1
  exact iv_qu h (qu_fits (d := 293) k.1 ht)
theorem iv_against {n : Nat} {M : am_M} {a b : Int} (h : iv_ n M) : tr_two 301 144 261 [(0, a), (0, b)] M (iv_ (n + 1)) := by
  obtain ⟨D, ⟨G, W, k⟩, ht, hL, hS⟩ := h.1
  exact iv_qu h (qu_against (d := 285) k.1 ⟨hS.1, by omega⟩)
theorem iv_chance {n : Nat} {M : am_M} {a b : Int} (h : iv_ n M) : tr_two 301 145 263 [(0, a), (0, b)] M (iv_ (n + 1)) := by
  obtain ⟨D, ⟨G, W, k⟩, ht, hL, hS⟩ := h.1
  exact iv_qu h (qu_chance (d := 293) k.1 hL)
theorem iv_meet {n : Nat} {M : am_M} {a b : Int} (hn : n < 600) (h : iv_ n M) (hb : b = 0 ∨ b = 1) : tr_two 301 146 267 [(0, a), (0, b)] M (iv_ (n + 1)) := by
  obtain ⟨D, ⟨G, W, k⟩, ht, hL⟩ := h.1
  exact tr_mono (ac_meet (d := 294) hn k hb) (fun M2 p => iv_af h ht hL p)
theorem iv_seed {n : Nat} {M : am_M} {a : Int} (ha : am_r a) (hn : n < 600) (h : iv_ n M) : tr_two 301 152 271 [(0, a)] M (iv_ (n + 1)) := by
  obtain ⟨D, ⟨G, W, k⟩, ht, hL⟩ := h.1
  exact tr_mono (ac_seed (d := 294) ha hn k) (fun M2 p => iv_af h ht hL p)
theorem iv_day {n : Nat} {M : am_M} {a b : Int} (hn : n < 600) (h : iv_ n M) : tr_two 301 147 268 [(0, a), (0, b)] M (iv_ (n + 1)) := by
  obtain ⟨D, ⟨G, W, k⟩, ht, hL⟩ := h.1
  exact tr_mono (ac_day (d := 294) hn k) (fun M2 p => iv_af h ht hL p)
theorem iv_set {n : Nat} {M : am_M} {a b c : Int} (hn : n < 600) (h : iv_ n M) : tr_two 301 149 270 [(0, a), (0, b), (0, c)] M (iv_ (n + 1)) := by
  obtain ⟨D, ⟨G, W, k⟩, ht, hL⟩ := h.1
  exact tr_mono (ac_set (d := 294) hn k) (fun M2 p => iv_af h ht hL p)
theorem iv_take {n : Nat} {M : am_M} {a b : Int} (hn : n < 600) (h : iv_ n M) : tr_two 301 148 269 [(0, a), (0, b)] M (iv_ (n + 1)) := by
  obtain ⟨D, ⟨G, W, k⟩, ht, hL⟩ := h.1
  exact tr_mono (ac_take (d := 294) hn k) (fun M2 p => iv_af h ht hL p)
theorem iv_undo {n : Nat} {M : am_M} (hn : n < 600) (h : iv_ n M) : tr_two 301 151 265 [] M (iv_ (n + 1)) := by
  obtain ⟨D, ⟨G, W, k⟩, ht, hL⟩ := h.1
  exact tr_mono (ac_undo (d := 294) hn k) (fun M2 p => iv_af h ht hL p)
theorem iv_night {n : Nat} {M : am_M} {a b : Int} (hn : n < 600) (h : iv_ n M) : tr_two 301 150 273 [(0, a), (0, b)] M (iv_ (n + 1)) := by
  obtain ⟨D, ⟨G, W, k⟩, ht, hL⟩ := h.1
  exact tr_mono (ac_night (d := 294) hn k) (fun M2 p => iv_af h ht hL p)
