/-! THE REFERENCE'S DREAM, as it is told -/
def yc_ (x j : Int) : Prop := (x = 152 ∧ (j = 2 ∨ (4 ≤ j ∧ j ≤ 6) ∨ j = 29 ∨ j = 38 ∨ j = 40 ∨ (42 ≤ j ∧ j ≤ 44) ∨ j = 83 ∨ (85 ≤ j ∧ j ≤ 87))) ∨ (x = 174 ∧ j < 3) ∨ (x = 175 ∧ j < 18) ∨ (x = 176 ∧ j < 4) ∨ x = 177 ∨ (x = 178 ∧ j < 4) ∨ (x = 179 ∧ j < 3) ∨ (x = 180 ∧ j < 3) ∨ (x = 181 ∧ j < 3) ∨ (x = 182 ∧ 0 ≤ j ∧ j < 1600) ∨ x = 183 ∨ x = 211 ∨ x = 212
def yf_ (M0 M : am_M) : Prop := ∀ x j, ¬ yc_ x j → M x j = M0 x j
def tr_ (M : am_M) (T : tt_) : Prop := (∀ k : Int, 0 ≤ k → k < 3 → M 174 k = ((tN T k).length : Int)) ∧ (∀ k : Int, 0 ≤ k → k < 3 → ∀ i : Nat, i < (tN T k).length → M 175 (6 * k + i) = nv_ ((tN T k).getD i []) 0) ∧ (∀ a : Int, 0 ≤ a → a < ((tN T 1).length : Int) → M 176 a = tBr T a) ∧ (∀ j : Int, 0 ≤ j → j < 24 → M 177 j = tFe T j) ∧ (∀ g : Int, 0 ≤ g → g < ((tN T 2).length : Int) → M 178 g = tGu T g) ∧ (M 179 0 = tHo T ∧ M 179 1 = tLa T ∧ M 179 2 = tSp T) ∧ (∀ k : Int, 0 ≤ k → k < 3 → (tS T k = none ∧ M 180 k = -1) ∨ ∃ f g : Nat, tS T k = some (f, g) ∧ M 180 k = f ∧ M 181 k = g)
def tcd_ (M : am_M) (C : List Int) : Prop := M 152 40 = C.length ∧ C.length ≤ 1600 ∧ ∀ i : Nat, i < C.length → M 182 i = C.getD i 0
def ys_ (M0 M : am_M) (p en : Int) (T : tt_) (n : Int) : Prop := yf_ M0 M ∧ rx_ M M p en ∧ tr_ M T ∧ tcd_ M (tC T) ∧ M 152 38 = n
def yz_ (M0 M : am_M) (k z n : Int) : Prop := yf_ M0 M ∧ ru_ M M k z ∧ M 152 38 = n
section YT
variable {M0 M : am_M} {p en n : Int} {T : tt_}
theorem yf_tr {M1 M2 : am_M} (h : yf_ M0 M1) (k : yf_ M1 M2) : yf_ M0 M2 := fun x j y => (k x j y).trans (h x j y)
theorem yf_rp {M1 : am_M} (h : rp_fr M M1) : yf_ M M1 := fun x j y => by
  unfold yc_ at y
  exact h x j (by omega) (by omega) (by omega) (by omega) (by omega)
theorem yf_t (h : yf_ M0 M) : M 153 = M0 153 ∧ M 152 3 = M0 152 3 := ⟨funext fun j => h 153 j (by unfold yc_; omega), h 152 3 (by unfold yc_; omega)⟩
theorem rx_self (h : rx_ M0 M p en) : rx_ M M p en := ⟨rp_rf, h.2⟩
theorem ru_self {k z : Int} (h : ru_ M0 M k z) : ru_ M M k z := ⟨rp_rf, h.2⟩
theorem rws_no : ∀ x ∈ rws, ¬ (174 ≤ x.1 ∧ x.1 ≤ 183) := by decide +kernel
theorem rw_yf (hw : rw_all M0) (h : yf_ M0 M) : rw_all M := fun x hx => by
  obtain ⟨h1, h2, h3, h4⟩ := hw x hx
  have hi := rws_in x hx
  have h6 : ¬ (174 ≤ x.1 ∧ x.1 ≤ 183) := rws_no x hx
  exact ⟨h1, h2, fun i hl => (h x.1 i (by unfold yc_; omega)).trans (h3 i hl), h4⟩
theorem tr_rp {M1 : am_M} (h : rp_fr M M1) (ht : tr_ M T) : tr_ M1 T := by
  obtain ⟨a1, a2, a3, a4, a5, ⟨a6, a7, a8⟩, a9⟩ := ht
  have e : ∀ x j, 174 ≤ x → x ≤ 181 → M1 x j = M x j := fun x j y1 y2 => h x j (by omega) (by omega) (by omega) (by omega) (by omega)
  refine ⟨fun k k0 k1 => ?_, fun k k0 k1 i i1 => ?_, fun a x y => ?_, fun j x y => ?_, fun g x y => ?_, ⟨?_, ?_, ?_⟩, fun k k0 k1 => ?_⟩
  · rw [e _ _ (by decide) (by decide)]; exact a1 k k0 k1
  · rw [e _ _ (by decide) (by decide)]; exact a2 k k0 k1 i i1
  · rw [e _ _ (by decide) (by decide)]; exact a3 a x y
  · rw [e _ _ (by decide) (by decide)]; exact a4 j x y
  · rw [e _ _ (by decide) (by decide)]; exact a5 g x y
  · rw [e _ _ (by decide) (by decide)]; exact a6
  · rw [e _ _ (by decide) (by decide)]; exact a7
  · rw [e _ _ (by decide) (by decide)]; exact a8
  · rw [e _ _ (by decide) (by decide), e _ _ (by decide) (by decide)]; exact a9 k k0 k1
theorem rp_tf {M1 : am_M} (h : tf_ M M1) : rp_fr M M1 := fun x j a b c d f => h x j (by omega)
theorem ys_tf {M1 : am_M} {p1 en1 : Int} (h : ys_ M0 M p en T n) (h1 : rx_ M M1 p1 en1) (t : tf_ M M1) : ys_ M0 M1 p1 en1 T n := by
  obtain ⟨g1, g2, g3, ⟨g4, g5, g6⟩, g7⟩ := h
  refine ⟨yf_tr g1 (yf_rp h1.1), rx_self h1, tr_rp h1.1 g3, ⟨?_, g5, fun i hi => ?_⟩, ?_⟩
  · rw [t 152 40 (by omega)]; exact g4
  · rw [t 182 i (by omega)]; exact g6 i hi
  · rw [t 152 38 (by omega)]; exact g7
theorem yz_ru {M1 : am_M} {k z : Int} (h : yf_ M0 M) (hn : M 152 38 = n) (h1 : ru_ M M1 k z) : yz_ M0 M1 k z n := ⟨yf_tr h (yf_rp h1.1), ru_self h1, (h1.1 152 38 (by omega) (by omega) (by omega) (by omega) (by omega)).trans hn⟩
/-- a name looked up -/
theorem rt_nameOf {d : Nat} {f : Int → am_M → Prop} {k : Int} {x : List Int} (hk : 0 ≤ k ∧ k < 3) (hT : tkn_ T) (h : tr_ M T) (hx : nk_ x) (hf : f (fn_ (tN T k) x 0) M) : am_cal pg (d + 1) 185 [(2, 152), (0, k), (1, nv_ x 0)] sh_T M (am_c0 sh_T f) := by
  have hl := (tn_len hT hk).1
  have e := h.1 k hk.1 hk.2
  have loop : ∀ (m i : Nat), i + m = (tN T k).length → f (fn_ ((tN T k).drop i) x i) M → am_g 12 0 co_X12_nameOf d (am_c0 sh_T f) 3 [(2, 152), (0, k), (1, nv_ x 0), (3, 0), (0, (i : Int))] [] sh_T M := by
    intro m
    induction m with
    | zero =>
      intro i hi h
      refine bk_X12_nameOf_3 ⟨⟨by omega, by omega⟩, fun _ => am_c0_i ?_, fun y => by omega⟩
      rw [List.drop_of_length_le (by omega)] at h
      exact h
    | succ m ih =>
      intro i hi hf
      have hlt : i < (tN T k).length := by omega
      rw [List.drop_eq_getElem_cons hlt] at hf
      have ex : (tN T k)[i] = (tN T k).getD i [] := by rw [List.getD_eq_getElem?_getD, List.getElem?_eq_getElem hlt]; rfl
      have hf : f (if (tN T k)[i] = x then (i : Int) else fn_ ((tN T k).drop (i + 1)) x ((i : Int) + 1)) M := hf
      have hm : nk_ (tN T k)[i] := hT.1 k hk.1 hk.2 _ (List.getElem_mem hlt)
      have ev := h.2.1 k hk.1 hk.2 i hlt
      rw [← ex] at ev
      refine bk_X12_nameOf_3 ⟨⟨by omega, by omega⟩, fun y => by omega, fun _ => ⟨⟨by omega, by omega⟩, ⟨by omega, by omega⟩, ⟨by omega, by omega⟩, fun y => ⟨⟨by omega, by omega⟩, ih (i + 1) (by omega) ?_⟩, fun y => am_c0_i ?_⟩⟩
      · rw [if_neg (fun z => y (by rw [ev, z]))] at hf
        exact hf
      · rw [if_pos (nv_inj hm hx (by rw [← ev]; exact y))] at hf
        exact hf
  exact en_X12_nameOf (bk_X12_nameOf_0 (loop (tN T k).length 0 (by omega) hf))
/-- behind a fault: any answer -/
theorem rt_nameOf_any {d : Nat} {f : Int → am_M → Prop} {k v : Int} (hk : 0 ≤ k ∧ k < 3) (hT : tkn_ T) (h : tr_ M T) (hf : ∀ x, f x M) : am_cal pg (d + 1) 185 [(2, 152), (0, k), (1, v)] sh_T M (am_c0 sh_T f) := by
  have hl := (tn_len hT hk).1
  have e := h.1 k hk.1 hk.2
  have loop : ∀ (m i : Nat), i + m = 6 → am_g 12 0 co_X12_nameOf d (am_c0 sh_T f) 3 [(2, 152), (0, k), (1, v), (3, 0), (0, (i : Int))] [] sh_T M := by
    intro m
    induction m with
    | zero => exact fun i hi => bk_X12_nameOf_3 ⟨⟨by omega, by omega⟩, fun _ => am_c0_i (hf _), fun y => by omega⟩
    | succ m ih => exact fun i hi => bk_X12_nameOf_3 ⟨⟨by omega, by omega⟩, fun y => am_c0_i (hf _), fun _ => ⟨⟨by omega, by omega⟩, ⟨by omega, by omega⟩, ⟨by omega, by omega⟩, fun y => ⟨⟨by omega, by omega⟩, ih (i + 1) (by omega)⟩, fun y => am_c0_i (hf _)⟩⟩
  exact en_X12_nameOf (bk_X12_nameOf_0 (loop 6 0 rfl))
/-- a known name -/
theorem ru_name {d : Nat} {f : Int → am_M → Prop} {k z : Int} (h : ru_ M0 M k z) (hf : f 0 M) : am_cal pg (d + 1) 183 [(2, 152)] sh_T M (am_c1 sh_T f) := en_X12_name (bk_X12_name_0 ⟨fun y => absurd y (ru_b h), fun _ => am_c1_i hf⟩)
theorem yz_one {d : Nat} {f : Int → am_M → Prop} {k z e : Int} (hk : 0 ≤ k ∧ k < 3) (hT : tkn_ T) (ht : tr_ M T) (h : yz_ M0 M e z n) (hf : f 0 M) : am_cal pg (d + 2) 187 [(2, 152), (0, k)] sh_T M (am_c0 sh_T f) :=
  en_X12_oneOf (bk_X12_oneOf_0 (ru_name h.2.1 (rt_nameOf_any hk hT ht (fun x => ⟨fun _ => am_c0_i hf, fun y => absurd y (ru_b h.2.1)⟩))))
theorem rt_one {d : Nat} {f : Int → am_M → Prop} {k : Int} (hw : rw_all M0) (hk : 0 ≤ k ∧ k < 3) (hT : tkn_ T) (h : ys_ M0 M p en T n) (h1 : ∀ e z, pz_known (M0 153) (M0 152 3) T k p en = .error (e, z) → ∀ M', yz_ M0 M' e z n → tr_ M' T → f 0 M') (h2 : ∀ p1 en1 a, pz_known (M0 153) (M0 152 3) T k p en = .ok (p1, en1, a) → ∀ M', ys_ M0 M' p1 en1 T n → f a M') : am_cal pg (d + 5) 187 [(2, 152), (0, k)] sh_T M (am_c0 sh_T f) := by
  obtain ⟨e1, e2⟩ := yf_t h.1
  have hwM := rw_yf hw h.1
  unfold pz_known at h1 h2
  refine en_X12_oneOf (bk_X12_oneOf_0 (rt_name hwM h.2.1 (fun e z hx M1 m1 t1 => ?_) (fun p1 en1 x hx M1 m1 t1 h29 => ?_)))
  · rw [e1, e2] at hx
    rw [hx] at h1
    have ht := tr_rp m1.1 h.2.2.1
    exact rt_nameOf_any hk hT ht (fun x => ⟨fun _ => am_c0_i (h1 e z rfl M1 (yz_ru h.1 h.2.2.2.2 m1) ht), fun y => absurd y (ru_b m1)⟩)
  · rw [e1, e2] at hx
    rw [hx] at h1 h2
    have s1 := ys_tf h m1 t1
    have hxk := (pr_name_o hx).1
    refine rt_nameOf hk hT s1.2.2.1 hxk ⟨fun y => absurd m1.2.2.2.2.1 y, fun _ => ⟨fun y => am_c0_i (h2 p1 en1 _ (if_neg y) M1 s1), fun y => sp_fail ?_⟩⟩
    have rb := rx_bl s1.2.1 (k := 3) (z := M1 152 29) (by decide)
    rw [h29] at rb ⊢
    have ht := tr_rp rb.1 s1.2.2.1
    exact ⟨fun _ => am_c0_i (h1 3 p (if_pos y) _ (yz_ru s1.1 s1.2.2.2.2 rb) ht), fun y2 => absurd y2 (ru_b rb)⟩
/-- a new name -/
theorem rt_new {d : Nat} {f : Int → am_M → Prop} (hw : rw_all M0) (hT : tkn_ T) (h : ys_ M0 M p en T n) (h1 : ∀ e z, pz_new (M0 153) (M0 152 3) T p en = .error (e, z) → ∀ x M', yz_ M0 M' e z n → tr_ M' T → f x M') (h2 : ∀ p1 en1 x, pz_new (M0 153) (M0 152 3) T p en = .ok (p1, en1, x) → ∀ M', ys_ M0 M' p1 en1 T n → f (nv_ x 0) M') : am_cal pg (d + 5) 186 [(2, 152)] sh_T M (am_c1 sh_T f) := by
  obtain ⟨e1, e2⟩ := yf_t h.1
  have hwM := rw_yf hw h.1
  unfold pz_new at h1 h2
  -- behind a fault
  have bad : ∀ (m i : Nat), i + m = 3 → ∀ (M1 : am_M) (e z v : Int), ru_ M M1 e z → f v M1 → am_g 12 1 co_X12_newName (d + 4) (am_c1 sh_T f) 7 [(2, 152), (1, v), (3, 0), (0, (i : Int))] [] sh_T M1 := by
    intro m
    induction m with
    | zero => exact fun i hi M1 e z v m1 hf => bk_X12_newName_7 ⟨fun _ => am_c1_i hf, fun y => by omega⟩
    | succ m ih => exact fun i hi M1 e z v m1 hf => bk_X12_newName_7 ⟨fun y => by omega, fun _ => ⟨fun _ => ⟨⟨by omega, by omega⟩, ih (i + 1) (by omega) M1 e z v m1 hf⟩, fun y => absurd y (ru_b m1)⟩⟩
  refine en_X12_newName (bk_X12_newName_0 (rt_name hwM h.2.1 (fun e z hx M1 m1 t1 => ?_) (fun p1 en1 x hx M1 m1 t1 h29 => ?_)))
  · rw [e1, e2] at hx
    rw [hx] at h1
    exact bad 3 0 rfl M1 e z 0 m1 (h1 e z rfl _ M1 (yz_ru h.1 h.2.2.2.2 m1) (tr_rp m1.1 h.2.2.1))
  · rw [e1, e2] at hx
    rw [hx] at h1 h2
    have s1 := ys_tf h m1 t1
    have hxk := (pr_name_o hx).1
    have loop : ∀ (m i : Nat), i + m = 3 → (∀ i' : Int, 0 ≤ i' → i' < i → fn_ (tN T i') x 0 = -1) → am_g 12 1 co_X12_newName (d + 4) (am_c1 sh_T f) 7 [(2, 152), (1, nv_ x 0), (3, 0), (0, (i : Int))] [] sh_T M1 := by
      intro m
      induction m with
      | zero => exact fun i hi hbe => bk_X12_newName_7 ⟨fun _ => am_c1_i (h2 p1 en1 x (if_pos ⟨hbe 0 (by decide) (by omega), hbe 1 (by decide) (by omega), hbe 2 (by decide) (by omega)⟩) M1 s1), fun y => by omega⟩
      | succ m ih =>
        intro i hi hbe
        refine bk_X12_newName_7 ⟨fun y => by omega, fun _ => ⟨fun y => absurd m1.2.2.2.2.1 y, fun _ => rt_nameOf ⟨by omega, by omega⟩ hT s1.2.2.1 hxk ⟨fun y => ⟨⟨by omega, by omega⟩, ih (i + 1) (by omega) (fun i' i0 i1 => ?_)⟩, fun y => sp_fail ⟨⟨by omega, by omega⟩, ?_⟩⟩⟩⟩
        · by_cases z : i' = (i : Int)
          · rw [z]; exact y
          · exact hbe i' i0 (by omega)
        · have rb := rx_bl m1 (k := 3) (z := M1 152 29) (by decide)
          have rb2 := rx_bl s1.2.1 (k := 3) (z := M1 152 29) (by decide)
          rw [h29] at rb rb2 ⊢
          refine bad m (i + 1) (by omega) _ 3 p _ rb (h1 3 p (if_neg (fun b => y ?_)) _ _ (yz_ru s1.1 s1.2.2.2.2 rb2) (tr_rp rb2.1 s1.2.2.1))
          rcases (show i = 0 ∨ i = 1 ∨ i = 2 by omega) with z | z | z <;> subst z
          · exact b.1
          · exact b.2.1
          · exact b.2.2
    exact loop 3 0 rfl (fun i' i0 i1 => by omega)
end YT
