/-! A ROOM in the reference; that both make the same of the same weights -/
def we_eq (w v : Int → Int) : Prop := ∀ k : Int, 0 ≤ k → k < 6 → w k = v k
theorem we_eq_rf {w : Int → Int} : we_eq w w := fun _ _ _ => rfl
theorem we_eq_sy {w v : Int → Int} (h : we_eq w v) : we_eq v w := fun k h0 h1 => (h k h0 h1).symm
theorem we_eq_tr {w v u : Int → Int} (h : we_eq w v) (h2 : we_eq v u) : we_eq w u := fun k h0 h1 => (h k h0 h1).trans (h2 k h0 h1)
theorem we_ok_eq {w v : Int → Int} (h : we_eq w v) (hw : we_ok w) : we_ok v := fun k h0 h1 => by rw [← h k h0 h1]; exact hw k h0 h1
theorem pu_wst_eq {n : Nat} {g r : Int} {w v : Int → Int} (hn : n ≤ 6) (h : we_eq w v) : pu_wst n g r w = pu_wst n g r v := pu_wo_eq n (fun k hk => by show pu_cnt g r (w k) k = pu_cnt g r (v k) k; rw [h k (by omega) (by omega)])
theorem pu_snd_eq {n : Nat} {g r : Int} {w v : Int → Int} (hn : n ≤ 6) (h : we_eq w v) : pu_snd n g r w = pu_snd n g r v := by
  unfold pu_snd
  rw [pu_wst_eq hn h]
  exact pu_wo_eq n (fun k hk => by show pu_cnt g r (w k) k = pu_cnt g r (v k) k; rw [h k (by omega) (by omega)])
theorem pu_made_eq {o : Option (List Int)} {w v : Int → Int} {n : Nat} {k b : Int} (hn : n ≤ 6) (h : we_eq w v) (hk : 0 ≤ k ∧ k < 6) : pu_made o w n k b = pu_made o v n k b := by
  cases o with
  | none => exact h k hk.1 hk.2
  | some cs => show pu_mk cs _ = pu_mk cs _; rw [pu_ask_eq hn h hk]
theorem pu_up_eq {w v : Int → Int} {a x : Int} (h : we_eq w v) : we_eq (pu_up w a x) (pu_up v a x) := fun k h0 h1 => by
  unfold pu_up
  rw [h k h0 h1]
theorem pu_with_eq {n : Nat} {g r : Int} {round : Bool} {w v : Int → Int} (hn : n ≤ 6) (h : we_eq w v) : pu_with n g r round w = pu_with n g r round v := by
  unfold pu_with
  rw [pu_wst_eq hn h, pu_snd_eq hn h]
theorem pu_go_eq {n m : Nat} {g r b : Int} {om os : Option (List Int)} {round : Bool} {w v : Int → Int} (hn : 0 < n ∧ n ≤ 6) (hr : round = true → 1 < n) (hm : m ≤ 6) (h : we_eq w v) : we_eq (pu_go n m g r om os b round w) (pu_go n m g r om os b round v) := by
  have h1 := pu_wst_in (g := g) (r := r) (w := v) hn.1
  have e1 := pu_wst_eq (g := g) (r := r) hn.2 h
  have e2 := pu_snd_eq (g := g) (r := r) hn.2 h
  unfold pu_go
  by_cases q : round = true
  · have h2 := pu_snd_in (g := g) (r := r) (w := v) (hr q)
    rw [if_pos q, if_pos q, e1, e2, pu_made_eq hm h (by omega), pu_made_eq hm h (by omega)]
    exact pu_up_eq (pu_up_eq h)
  · rw [if_neg q, if_neg q, e1, pu_made_eq hm h (by omega)]
    exact pu_up_eq h
/-- no more weighs anything than there are dreads -/
def we_z (n : Nat) (w : Int → Int) : Prop := ∀ k : Int, (n : Int) ≤ k → k < 6 → w k = 0
theorem pu_ask_z {n : Nat} {w : Int → Int} {k b : Int} (hn : n ≤ 6) (hw : we_ok w) (hz : we_z n w) : pu_ask w 6 k b = pu_ask w n k b := by
  have key : pu_max w 6 = pu_max w n ∧ pu_sum w 6 = pu_sum w n ∧ pu_many w 6 = pu_many w n := by
    obtain ⟨u, e, hz', h0'⟩ : ∃ u : Int → Int, (∀ j : Nat, j < 6 → w j = u j) ∧ (∀ j : Nat, n ≤ j → u j = 0) ∧ (∀ j : Nat, 0 ≤ u j) := by
      refine ⟨fun k : Int => if 0 ≤ k ∧ k < 6 then w k else 0, fun j hj => ?_, fun j hj => ?_, fun j => ?_⟩
      · dsimp only
        rw [if_pos ⟨by omega, by omega⟩]
      · dsimp only
        split
        · exact hz j (by omega) (by omega)
        · rfl
      · dsimp only
        split
        · exact (hw j (by omega) (by omega)).1
        · exact Int.le_refl _
    rw [pu_max_eq 6 e, pu_sum_eq 6 e, pu_many_eq 6 e, pu_max_z hz' h0' 6 hn, pu_sum_z hz' 6 hn, pu_many_z hz' 6 hn]
    exact ⟨(pu_max_eq n (fun j hj => e j (by omega))).symm, (pu_sum_eq n (fun j hj => e j (by omega))).symm, (pu_many_eq n (fun j hj => e j (by omega))).symm⟩
  obtain ⟨e1, e2, e3⟩ := key
  funext i
  unfold pu_ask
  rw [e1, e2, e3]
theorem pu_sum_6 {n : Nat} {w : Int → Int} (hn : n ≤ 6) (hw : we_ok w) (hz : we_z n w) : pu_sum w 6 = pu_sum w n := by
  have h := congrFun (pu_ask_z (k := 0) (b := 0) hn hw hz) 2
  exact h
theorem pu_max_6 {n : Nat} {w : Int → Int} (hn : n ≤ 6) (hw : we_ok w) (hz : we_z n w) : pu_max w 6 = pu_max w n := by
  have h := congrFun (pu_ask_z (k := 0) (b := 0) hn hw hz) 1
  exact h
theorem pu_many_6 {n : Nat} {w : Int → Int} (hn : n ≤ 6) (hw : we_ok w) (hz : we_z n w) : pu_many w 6 = pu_many w n := by
  have h := congrFun (pu_ask_z (k := 0) (b := 0) hn hw hz) 3
  exact h
theorem pu_made_6 {o : Option (List Int)} {n : Nat} {w : Int → Int} {k b : Int} (hn : n ≤ 6) (hw : we_ok w) (hz : we_z n w) : pu_made o w 6 k b = pu_made o w n k b := by
  cases o with
  | none => rfl
  | some cs => show pu_mk cs _ = pu_mk cs _; rw [pu_ask_z hn hw hz]
theorem pu_go_6 {n : Nat} {g r b : Int} {om os : Option (List Int)} {round : Bool} {w : Int → Int} (hn : n ≤ 6) (hw : we_ok w) (hz : we_z n w) : pu_go n 6 g r om os b round w = pu_go n n g r om os b round w := by
  unfold pu_go
  rw [pu_made_6 hn hw hz, pu_made_6 hn hw hz, pu_made_6 hn hw hz]
theorem pu_up_z {n : Nat} {w : Int → Int} {a x : Int} (ha : a < n) (hz : we_z n w) : we_z n (pu_up w a x) := fun k h0 h1 => by
  unfold pu_up
  rw [if_neg (by omega)]
  exact hz k h0 h1
theorem pu_go_z {n m : Nat} {g r b : Int} {om os : Option (List Int)} {round : Bool} {w : Int → Int} (hn : 0 < n) (hr : round = true → 1 < n) (hz : we_z n w) : we_z n (pu_go n m g r om os b round w) := by
  have h1 := pu_wst_in (g := g) (r := r) (w := w) hn
  unfold pu_go
  split
  · rename_i q
    have h2 := pu_snd_in (g := g) (r := r) (w := w) (hr q)
    exact pu_up_z h2.2.1 (pu_up_z h1.2 hz)
  · exact pu_up_z h1.2 hz
/-- what a room writes in the reference: the pile, what is asked, the row -/
def ro_fr (r : Int) (M M' : am_M) : Prop := ∀ a j, ¬ a = 184 → ¬ a = 185 → ¬ (a = 152 ∧ j = 46) → ¬ (a = 187 ∧ r ≤ j ∧ j < r + 6) → M' a j = M a j
/-- all that a room needs of the reference -/
def rg_ok (M : am_M) (r a g : Int) (om os : Option (List Int)) : Prop := rf_cn M ∧ ro_ok M r ∧ (0 ≤ a ∧ a < 4) ∧ (-1 ≤ g ∧ g < 4) ∧ (0 ≤ M 176 (4 + a) ∧ M 176 (4 + a) ≤ 9) ∧ rf_sum M 0 om ∧ rf_sum M 1 os
theorem rf_sum_fr {M M' : am_M} {w : Int} {o : Option (List Int)} (h180 : ∀ j, M' 180 j = M 180 j) (h181 : ∀ j, M' 181 j = M 181 j) (h182 : ∀ j, M' 182 j = M 182 j) (ho : rf_sum M w o) : rf_sum M' w o := by
  cases o with
  | none => show M' 180 (3 + w) = -1; rw [h180]; exact ho
  | some cs =>
    obtain ⟨o1, o2, o3, o4, o5, o6⟩ := ho
    exact ⟨by rw [h180]; exact o1, by rw [h180]; exact o2, by rw [h181]; exact o3, by rw [h180, h181]; exact o4, fun i hi => by rw [h182, h180]; exact o5 i hi, o6⟩
theorem sp_roomGoes {d : Nat} {M : am_M} {f : Int → am_M → Prop} {r a g : Int} {om os : Option (List Int)} {round : Bool} (hok : rg_ok M r a g om os) (hn : 0 < M 174 3) (hr : round = true → 1 < M 174 3)
    (h : ∀ M', ro_fr r M M' → (∀ k : Int, 0 ≤ k → k < 6 → M' 187 (r + k) = pu_go (M 174 3).toNat (M 174 3).toNat g (M 178 (4 + g)) om os (M 176 (4 + a)) round (ro M r) k) → f (pu_with (M 174 3).toNat g (M 178 (4 + g)) round (ro M r)) M') : am_cal pg (d + 4) 228 [(2, 152), (0, r), (0, a), (0, g), (0, am_b (round = true))] sh_T M (am_c0 sh_T f) := by
  obtain ⟨hc, hro, ha, hg, hb, hom, hos⟩ := hok
  have hro0 := hro
  obtain ⟨r0, r1, hw⟩ := hro0
  have hc0 := hc
  obtain ⟨c0, c1⟩ := hc0
  have hn0 : 0 < (M 174 3).toNat := by omega
  have hw1 := pu_wst_in (g := g) (r := M 178 (4 + g)) (w := ro M r) hn0
  refine en_X12_roomGoes (bk_X12_roomGoes_0 (sp_worstAt hc hro hg ?_))
  show (¬ am_b (round = true) = 0 → _) ∧ (am_b (round = true) = 0 → _)
  have ew : pu_wo (ro_cnt M r g) (-1) (M 174 3).toNat = pu_wst (M 174 3).toNat g (M 178 (4 + g)) (ro M r) := rfl
  rw [ew]
  refine ⟨fun qr => ?_, fun qr => ?_⟩
  · have hrd : round = true := Classical.byContradiction fun z => qr (am_b_z.mpr z)
    have hn1 : 1 < (M 174 3).toNat := by have := hr hrd; omega
    have hw2 := pu_snd_in (g := g) (r := M 178 (4 + g)) (w := ro M r) hn1
    refine sp_worstAt hc hro hg ?_
    have ew2 : pu_wo (ro_cnt M r g) (pu_wst (M 174 3).toNat g (M 178 (4 + g)) (ro M r)) (M 174 3).toNat = pu_snd (M 174 3).toNat g (M 178 (4 + g)) (ro M r) := rfl
    rw [ew2]
    refine sp_made (by decide) hc hro (by omega) ha hb hom (fun M1 hf1 => ⟨⟨by omega, by omega⟩, ?_⟩)
    have ero : ∀ k, M1 187 (r + k) = M 187 (r + k) := fun k => hf1 187 _ (by decide) (by decide) (by omega)
    have ero' : ro M1 r = ro M r := by funext k; exact ero k
    have e174 : M1 174 3 = M 174 3 := hf1 174 3 (by decide) (by decide) (by decide)
    have e176 : M1 176 (4 + a) = M 176 (4 + a) := hf1 176 _ (by decide) (by decide) (by omega)
    have hc1 : rf_cn M1 := by unfold rf_cn; rw [e174]; exact hc
    have hro1 : ro_ok M1 r := ⟨r0, r1, fun k k0 k1 => by rw [ero]; exact hw k k0 k1⟩
    have hos1 : rf_sum M1 1 os := rf_sum_fr (fun j => hf1 180 j (by decide) (by decide) (by omega)) (fun j => hf1 181 j (by decide) (by decide) (by omega)) (fun j => hf1 182 j (by decide) (by decide) (by omega)) hos
    refine sp_made (by decide) hc1 hro1 (by omega) ha (by rw [e176]; exact hb) hos1 (fun M2 hf2 => ?_)
    rw [ero', e174, e176]
    refine ⟨⟨by omega, by omega⟩, ⟨by omega, by omega⟩, ⟨by omega, by omega⟩, am_c0_i ?_⟩
    have hp : pu_with (M 174 3).toNat g (M 178 (4 + g)) round (ro M r) = pu_snd (M 174 3).toNat g (M 178 (4 + g)) (ro M r) := by unfold pu_with; rw [if_pos hrd]
    rw [hp] at h
    refine h _ ?_ ?_
    · intro b j p1 p2 p3 p4
      rw [am_up_el (by omega), am_up_el (by omega), hf2 b j p1 p2 p3, hf1 b j p1 p2 p3]
    · intro k k0 k1
      unfold pu_go
      rw [if_pos hrd]
      unfold pu_up
      have e2 : M2 187 (r + k) = M 187 (r + k) := by rw [hf2 187 _ (by decide) (by decide) (by omega), ero]
      by_cases j1 : k = pu_snd (M 174 3).toNat g (M 178 (4 + g)) (ro M r)
      · rw [if_pos j1, j1]
        exact am_up_at
      · rw [if_neg j1, am_up_el (by omega)]
        by_cases j2 : k = pu_wst (M 174 3).toNat g (M 178 (4 + g)) (ro M r)
        · rw [if_pos j2, j2]
          exact am_up_at
        · rw [if_neg j2, am_up_el (by omega)]
          exact e2
  · have hrd : ¬ round = true := am_b_z.mp qr
    refine ⟨⟨by omega, by omega⟩, sp_made (by decide) hc hro (by omega) ha hb hom (fun M1 hf1 => ⟨⟨by omega, by omega⟩, am_c0_i ?_⟩)⟩
    have hp : pu_with (M 174 3).toNat g (M 178 (4 + g)) round (ro M r) = pu_wst (M 174 3).toNat g (M 178 (4 + g)) (ro M r) := by unfold pu_with; rw [if_neg hrd]
    rw [hp] at h
    refine h _ ?_ ?_
    · intro b j p1 p2 p3 p4
      rw [am_up_el (by omega), hf1 b j p1 p2 p3]
    · intro k k0 k1
      unfold pu_go
      rw [if_neg hrd]
      unfold pu_up
      by_cases j2 : k = pu_wst (M 174 3).toNat g (M 178 (4 + g)) (ro M r)
      · rw [if_pos j2, j2]
        exact am_up_at
      · rw [if_neg j2, am_up_el (by omega)]
        exact hf1 187 _ (by decide) (by decide) (by omega)
