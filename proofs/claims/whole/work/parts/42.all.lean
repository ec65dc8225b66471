/-! ALL THAT THE TABLES MUST SAY (am_All), for the program while cells are made and behind that -/
theorem tb_in {own ix kd a : Nat} {n : Int} (h : pg_pool own ix = some (kd, a, n)) : (own = 0 ∧ (ix, kd, a, n) ∈ pl_0) ∨ (own = 1 ∧ (ix, kd, a, n) ∈ pl_1) ∨ (own = 2 ∧ (ix, kd, a, n) ∈ pl_2) ∨ (own = 3 ∧ (ix, kd, a, n) ∈ pl_3) ∨ (own = 4 ∧ (ix, kd, a, n) ∈ pl_4) ∨ (own = 5 ∧ (ix, kd, a, n) ∈ pl_5) ∨ (own = 6 ∧ (ix, kd, a, n) ∈ pl_6) ∨ (own = 7 ∧ (ix, kd, a, n) ∈ pl_7) ∨ (own = 8 ∧ (ix, kd, a, n) ∈ pl_8) ∨ (own = 9 ∧ (ix, kd, a, n) ∈ pl_9) ∨ (own = 10 ∧ (ix, kd, a, n) ∈ pl_10) ∨ (own = 11 ∧ (ix, kd, a, n) ∈ pl_11) ∨ (own = 12 ∧ (ix, kd, a, n) ∈ pl_12) ∨ (own = 13 ∧ (ix, kd, a, n) ∈ pl_13) ∨ (own = 15 ∧ (ix, kd, a, n) ∈ pl_15) := by
  unfold pg_pool at h
  split at h
  · exact Or.inl ⟨rfl, tb_lookup h⟩
  · exact Or.inr (Or.inl ⟨rfl, tb_lookup h⟩)
  · exact Or.inr (Or.inr (Or.inl ⟨rfl, tb_lookup h⟩))
  · exact Or.inr (Or.inr (Or.inr (Or.inl ⟨rfl, tb_lookup h⟩)))
  · exact Or.inr (Or.inr (Or.inr (Or.inr (Or.inl ⟨rfl, tb_lookup h⟩))))
  · exact Or.inr (Or.inr (Or.inr (Or.inr (Or.inr (Or.inl ⟨rfl, tb_lookup h⟩)))))
  · exact Or.inr (Or.inr (Or.inr (Or.inr (Or.inr (Or.inr (Or.inl ⟨rfl, tb_lookup h⟩))))))
  · exact Or.inr (Or.inr (Or.inr (Or.inr (Or.inr (Or.inr (Or.inr (Or.inl ⟨rfl, tb_lookup h⟩)))))))
  · exact Or.inr (Or.inr (Or.inr (Or.inr (Or.inr (Or.inr (Or.inr (Or.inr (Or.inl ⟨rfl, tb_lookup h⟩))))))))
  · exact Or.inr (Or.inr (Or.inr (Or.inr (Or.inr (Or.inr (Or.inr (Or.inr (Or.inr (Or.inl ⟨rfl, tb_lookup h⟩)))))))))
  · exact Or.inr (Or.inr (Or.inr (Or.inr (Or.inr (Or.inr (Or.inr (Or.inr (Or.inr (Or.inr (Or.inl ⟨rfl, tb_lookup h⟩))))))))))
  · exact Or.inr (Or.inr (Or.inr (Or.inr (Or.inr (Or.inr (Or.inr (Or.inr (Or.inr (Or.inr (Or.inr (Or.inl ⟨rfl, tb_lookup h⟩)))))))))))
  · exact Or.inr (Or.inr (Or.inr (Or.inr (Or.inr (Or.inr (Or.inr (Or.inr (Or.inr (Or.inr (Or.inr (Or.inr (Or.inl ⟨rfl, tb_lookup h⟩))))))))))))
  · exact Or.inr (Or.inr (Or.inr (Or.inr (Or.inr (Or.inr (Or.inr (Or.inr (Or.inr (Or.inr (Or.inr (Or.inr (Or.inr (Or.inl ⟨rfl, tb_lookup h⟩)))))))))))))
  · exact Or.inr (Or.inr (Or.inr (Or.inr (Or.inr (Or.inr (Or.inr (Or.inr (Or.inr (Or.inr (Or.inr (Or.inr (Or.inr (Or.inr (⟨rfl, tb_lookup h⟩))))))))))))))
  · cases h
theorem tb_le {own ix kd a : Nat} {n : Int} (h : pg_pool own ix = some (kd, a, n)) : tb_Le own (ix, kd, a, n) := by
  rcases tb_in h with ⟨rfl, hm⟩ | ⟨rfl, hm⟩ | ⟨rfl, hm⟩ | ⟨rfl, hm⟩ | ⟨rfl, hm⟩ | ⟨rfl, hm⟩ | ⟨rfl, hm⟩ | ⟨rfl, hm⟩ | ⟨rfl, hm⟩ | ⟨rfl, hm⟩ | ⟨rfl, hm⟩ | ⟨rfl, hm⟩ | ⟨rfl, hm⟩ | ⟨rfl, hm⟩ | ⟨rfl, hm⟩
  · exact le_0 _ hm
  · exact le_1 _ hm
  · exact le_2 _ hm
  · exact le_3 _ hm
  · exact le_4 _ hm
  · exact le_5 _ hm
  · exact le_6 _ hm
  · exact le_7 _ hm
  · exact le_8 _ hm
  · exact le_9 _ hm
  · exact le_10 _ hm
  · exact le_11 _ hm
  · exact le_12 _ hm
  · exact le_13 _ hm
  · exact le_15 _ hm
theorem tb_pk {off : Nat → Int → Option Int} {ln : Int → Option Nat} {fx : Bool} {A : Nat → Prop} {sa : Int → Nat} {args : Array Value} {s : State} (ho : tb_of off) (hts : ∀ w ∈ tb_TT, w.before args s = true) (hE : tb_En A sa s) {own ix kd a : Nat} {n : Int} (h : pg_pool own ix = some (kd, a, n)) : tb_G off ln fx A sa (tb_nmf own) args s (ix, kd, a, n) := by
  rcases tb_in h with ⟨rfl, hm⟩ | ⟨rfl, hm⟩ | ⟨rfl, hm⟩ | ⟨rfl, hm⟩ | ⟨rfl, hm⟩ | ⟨rfl, hm⟩ | ⟨rfl, hm⟩ | ⟨rfl, hm⟩ | ⟨rfl, hm⟩ | ⟨rfl, hm⟩ | ⟨rfl, hm⟩ | ⟨rfl, hm⟩ | ⟨rfl, hm⟩ | ⟨rfl, hm⟩ | ⟨rfl, hm⟩
  · exact pk_0 ho hts hE _ hm
  · exact pk_1 ho hts hE _ hm
  · exact pk_2 ho hts hE _ hm
  · exact pk_3 ho hts hE _ hm
  · exact pk_4 ho hts hE _ hm
  · exact pk_5 ho hts hE _ hm
  · exact pk_6 ho hts hE _ hm
  · exact pk_7 ho hts hE _ hm
  · exact pk_8 ho hts hE _ hm
  · exact pk_9 ho hts hE _ hm
  · exact pk_10 ho hts hE _ hm
  · exact pk_11 ho hts hE _ hm
  · exact pk_12 ho hts hE _ hm
  · exact pk_13 ho hts hE _ hm
  · exact pk_15 ho hts hE _ hm
theorem tb_ext {own ix kd a : Nat} {n : Int} (h : pg_pool own ix = some (kd, a, n)) : (kd = 20 → own = 10 ∧ ix = 81) ∧ (kd = 21 → own = 9 ∧ ix = 67) ∧ (kd = 22 → own = 9 ∧ ix = 72) := by
  rcases tb_in h with ⟨rfl, hm⟩ | ⟨rfl, hm⟩ | ⟨rfl, hm⟩ | ⟨rfl, hm⟩ | ⟨rfl, hm⟩ | ⟨rfl, hm⟩ | ⟨rfl, hm⟩ | ⟨rfl, hm⟩ | ⟨rfl, hm⟩ | ⟨rfl, hm⟩ | ⟨rfl, hm⟩ | ⟨rfl, hm⟩ | ⟨rfl, hm⟩ | ⟨rfl, hm⟩ | ⟨rfl, hm⟩
  · exact (show ∀ e ∈ pl_0, (e.2.1 = 20 → (0 : Nat) = 10 ∧ e.1 = 81) ∧ (e.2.1 = 21 → (0 : Nat) = 9 ∧ e.1 = 67) ∧ (e.2.1 = 22 → (0 : Nat) = 9 ∧ e.1 = 72) by decide +kernel) _ hm
  · exact (show ∀ e ∈ pl_1, (e.2.1 = 20 → (1 : Nat) = 10 ∧ e.1 = 81) ∧ (e.2.1 = 21 → (1 : Nat) = 9 ∧ e.1 = 67) ∧ (e.2.1 = 22 → (1 : Nat) = 9 ∧ e.1 = 72) by decide +kernel) _ hm
  · exact (show ∀ e ∈ pl_2, (e.2.1 = 20 → (2 : Nat) = 10 ∧ e.1 = 81) ∧ (e.2.1 = 21 → (2 : Nat) = 9 ∧ e.1 = 67) ∧ (e.2.1 = 22 → (2 : Nat) = 9 ∧ e.1 = 72) by decide +kernel) _ hm
  · exact (show ∀ e ∈ pl_3, (e.2.1 = 20 → (3 : Nat) = 10 ∧ e.1 = 81) ∧ (e.2.1 = 21 → (3 : Nat) = 9 ∧ e.1 = 67) ∧ (e.2.1 = 22 → (3 : Nat) = 9 ∧ e.1 = 72) by decide +kernel) _ hm
  · exact (show ∀ e ∈ pl_4, (e.2.1 = 20 → (4 : Nat) = 10 ∧ e.1 = 81) ∧ (e.2.1 = 21 → (4 : Nat) = 9 ∧ e.1 = 67) ∧ (e.2.1 = 22 → (4 : Nat) = 9 ∧ e.1 = 72) by decide +kernel) _ hm
  · exact (show ∀ e ∈ pl_5, (e.2.1 = 20 → (5 : Nat) = 10 ∧ e.1 = 81) ∧ (e.2.1 = 21 → (5 : Nat) = 9 ∧ e.1 = 67) ∧ (e.2.1 = 22 → (5 : Nat) = 9 ∧ e.1 = 72) by decide +kernel) _ hm
  · exact (show ∀ e ∈ pl_6, (e.2.1 = 20 → (6 : Nat) = 10 ∧ e.1 = 81) ∧ (e.2.1 = 21 → (6 : Nat) = 9 ∧ e.1 = 67) ∧ (e.2.1 = 22 → (6 : Nat) = 9 ∧ e.1 = 72) by decide +kernel) _ hm
  · exact (show ∀ e ∈ pl_7, (e.2.1 = 20 → (7 : Nat) = 10 ∧ e.1 = 81) ∧ (e.2.1 = 21 → (7 : Nat) = 9 ∧ e.1 = 67) ∧ (e.2.1 = 22 → (7 : Nat) = 9 ∧ e.1 = 72) by decide +kernel) _ hm
  · exact (show ∀ e ∈ pl_8, (e.2.1 = 20 → (8 : Nat) = 10 ∧ e.1 = 81) ∧ (e.2.1 = 21 → (8 : Nat) = 9 ∧ e.1 = 67) ∧ (e.2.1 = 22 → (8 : Nat) = 9 ∧ e.1 = 72) by decide +kernel) _ hm
  · exact (show ∀ e ∈ pl_9, (e.2.1 = 20 → (9 : Nat) = 10 ∧ e.1 = 81) ∧ (e.2.1 = 21 → (9 : Nat) = 9 ∧ e.1 = 67) ∧ (e.2.1 = 22 → (9 : Nat) = 9 ∧ e.1 = 72) by decide +kernel) _ hm
  · exact (show ∀ e ∈ pl_10, (e.2.1 = 20 → (10 : Nat) = 10 ∧ e.1 = 81) ∧ (e.2.1 = 21 → (10 : Nat) = 9 ∧ e.1 = 67) ∧ (e.2.1 = 22 → (10 : Nat) = 9 ∧ e.1 = 72) by decide +kernel) _ hm
  · exact (show ∀ e ∈ pl_11, (e.2.1 = 20 → (11 : Nat) = 10 ∧ e.1 = 81) ∧ (e.2.1 = 21 → (11 : Nat) = 9 ∧ e.1 = 67) ∧ (e.2.1 = 22 → (11 : Nat) = 9 ∧ e.1 = 72) by decide +kernel) _ hm
  · exact (show ∀ e ∈ pl_12, (e.2.1 = 20 → (12 : Nat) = 10 ∧ e.1 = 81) ∧ (e.2.1 = 21 → (12 : Nat) = 9 ∧ e.1 = 67) ∧ (e.2.1 = 22 → (12 : Nat) = 9 ∧ e.1 = 72) by decide +kernel) _ hm
  · exact (show ∀ e ∈ pl_13, (e.2.1 = 20 → (13 : Nat) = 10 ∧ e.1 = 81) ∧ (e.2.1 = 21 → (13 : Nat) = 9 ∧ e.1 = 67) ∧ (e.2.1 = 22 → (13 : Nat) = 9 ∧ e.1 = 72) by decide +kernel) _ hm
  · exact (show ∀ e ∈ pl_15, (e.2.1 = 20 → (15 : Nat) = 10 ∧ e.1 = 81) ∧ (e.2.1 = 21 → (15 : Nat) = 9 ∧ e.1 = 67) ∧ (e.2.1 = 22 → (15 : Nat) = 9 ∧ e.1 = 72) by decide +kernel) _ hm
theorem tb_str {a : Int} (h : pg_str a ≠ []) : ∃ i : Nat, i < 11 ∧ a = 1000000 + (i : Int) ∧ pg_str a = pg_texts.getD i [] := by
  unfold pg_str at h
  by_cases h1 : a < 1000000
  · rw [if_pos h1] at h; exact absurd rfl h
  · by_cases h2 : 2000000 ≤ a
    · rw [if_neg h1, if_pos h2] at h; exact absurd rfl h
    · rw [if_neg h1, if_neg h2] at h
      refine ⟨(a - 1000000).toNat, ?_, by omega, by unfold pg_str; rw [if_neg h1, if_neg h2]⟩
      by_cases h3 : (a - 1000000).toNat < 11
      · exact h3
      · rw [List.getD_eq_getElem?_getD, List.getElem?_eq_none (by show pg_texts.length ≤ _; exact Nat.le_trans (show pg_texts.length ≤ 11 by decide) (by omega))] at h
        exact absurd rfl h
theorem tb_chr : ∀ i, i < 11 → (pg_texts.getD i []).length = tb_len.getD i 0 ∧ ∀ k, k < tb_len.getD i 0 → ((tb_byt.getD i []).getD k 0).toInt = (pg_texts.getD i []).getD k 0 := by decide +kernel
theorem jk_cwI {R : Room} {s : State} {args : Array Value} {own : String} {ix : Nat} {y : MethodName} {b : ByteArray} {mx f lo : Nat} {rt : Option FieldType} (n : Nat) (hts : ∀ w ∈ tb_TT, w.before args s = true) (hc : Cond.code y b mx rt ∈ tb_TT) (hi : Cond.initialized y.cls ∈ tb_TT) (hl : Cond.methodLink own ix y ∈ tb_TT) (hne : y.cls ≠ "java/lang/invoke/MethodHandle" ∧ y.cls ≠ "java/lang/invoke/VarHandle") (hd : (parseMethodDescriptor y.desc).map (fun d => d.parameters.length) = some n) (h1 : f + 1 ≤ R.frames) (h2 : 8 + (mx + 11) + lo ≤ R.locals) :
    CallB R s args own ix y b mx rt (Cond.code y b mx rt :: tb_TT) (jk_rm f lo) 0 0 n := jk_cwS n hts hc hi hl hne hd h1 h2
theorem am_Wd_L {P : am_P} {D : va_G} {cl : List vw_C} {A : Nat → Prop} {sa : Int → Nat} {sc : Int → Int → Int} {a0 : List Nat} {s : State} {ad : List Nat} {tys : List (ClassId × FieldType)} {ws : va_W} {S : am_S} {M : am_M} {H : Heap} {locs : List Loc} (h : am_Wd P D cl A sa sc a0 s ad tys ws S M H locs) {L : List Loc} (hL : ∀ q ∈ L, A q.base) : am_Wd P D cl A sa sc a0 s ad tys ws S M H (locs ++ L) := ⟨h.1, h.2.1, h.2.2.1, jk_S h.2.2.2.1 hL, h.2.2.2.2⟩
theorem am_ext20 {P : am_P} {st : List am_V} {S : am_S} {M : am_M} {K : List am_V → am_M → Prop} (h : am_ext P 20 st S M K) : ∃ n dp dst sp src, st = [(0, n), (0, dp), (2, dst), (0, sp), (2, src)] ∧ ((0 ≤ n ∧ 0 ≤ sp ∧ 0 ≤ dp) ∧ (0 ≤ src ∧ src < 1000000 ∧ 0 ≤ dst ∧ dst < 1000000) ∧ src ≠ dst ∧ ∃ c1 n1 c2 n2, S[src.toNat]? = some (1, c1, n1) ∧ S[dst.toNat]? = some (1, c2, n2) ∧ sp + n ≤ (n1 : Int) ∧ dp + n ≤ (n2 : Int)) ∧ K [] (am_cpy M src sp dst dp n) := by
  unfold am_ext at h
  split at h
  · exact ⟨_, _, _, _, _, rfl, h.1, h.2⟩
  all_goals first | exact h.elim | omega | contradiction
theorem am_ext21 {P : am_P} {st : List am_V} {S : am_S} {M : am_M} {K : List am_V → am_M → Prop} (h : am_ext P 21 st S M K) : ∃ a t, st = (2, a) :: t ∧ (P.2.2.2.2.2.1 a ≠ [] ∧ am_cats t ≤ 8) ∧ K ((0, (P.2.2.2.2.2.1 a).length) :: t) M := by
  unfold am_ext at h
  split at h
  case h_2 => exact ⟨_, _, rfl, h.1, h.2⟩
  all_goals first | exact h.elim | omega | contradiction
theorem am_ext22 {P : am_P} {st : List am_V} {S : am_S} {M : am_M} {K : List am_V → am_M → Prop} (h : am_ext P 22 st S M K) : ∃ i a t, st = (0, i) :: (2, a) :: t ∧ ((0 ≤ i ∧ i < (P.2.2.2.2.2.1 a).length) ∧ am_cats t ≤ 8) ∧ K ((0, (P.2.2.2.2.2.1 a).getD i.toNat 0) :: t) M := by
  unfold am_ext at h
  split at h
  case h_3 => exact ⟨_, _, _, rfl, h.1, h.2⟩
  all_goals first | exact h.elim | omega | contradiction
theorem te21 {off : Nat → Int → Option Int} {ln : Int → Option Nat} {fx : Bool} {st : List am_V} {S : am_S} {M : am_M} {K : List am_V → am_M → Prop} (h : am_ext (tb_P off ln fx) 21 st S M K) : ∃ a t, st = (2, a) :: t ∧ (pg_str a ≠ [] ∧ am_cats t ≤ 8) ∧ K ((0, ((pg_str a).length : Int)) :: t) M := am_ext21 h
theorem te22 {off : Nat → Int → Option Int} {ln : Int → Option Nat} {fx : Bool} {st : List am_V} {S : am_S} {M : am_M} {K : List am_V → am_M → Prop} (h : am_ext (tb_P off ln fx) 22 st S M K) : ∃ i a t, st = (0, i) :: (2, a) :: t ∧ ((0 ≤ i ∧ i < ((pg_str a).length : Int)) ∧ am_cats t ≤ 8) ∧ K ((0, (pg_str a).getD i.toNat 0) :: t) M := am_ext22 h
theorem te_v {ad : List Nat} {sa : Int → Nat} {z : Int32} {x : Int} (h : z.toInt = x) : am_val ad sa (0, x) (.int z) := ⟨z, rfl, h⟩
set_option maxHeartbeats 2000000 in
theorem tb_Ex (D : va_G) {off : Nat → Int → Option Int} {ln : Int → Option Nat} {fx : Bool} {A : Nat → Prop} {sa : Int → Nat} {sc : Int → Int → Int} {l : Launch} : am_Ex (tb_P off ln fx) D tb_cl A sa sc tb_nmf tb_TT (tb_En A sa) l := by
  intro own ix kd a n hp pc i hi p e R s m args below meth c nL c0 s0 mc ms a0 Q hx hml hown hts hE hR1 hR2 hRc hA hd L st S M hcap hext
  have hp : pg_pool own ix = some (kd, a, n) := hp
  rcases hi with ⟨rfl, rfl⟩ | ⟨hk, rfl⟩
  · obtain ⟨rfl, rfl⟩ := (tb_ext hp).1 rfl
    obtain ⟨n, dp, dst, sp, src, rfl, ⟨⟨hn0, hsp0, hdp0⟩, ⟨hs0, hs1, hd0, hd1⟩, hne, x1, n1, x2, n2, hS1, hS2, hb1, hb2⟩, hext⟩ := am_ext20 hext
    ·
      intro ad tys ws H locs cells slots ls stv hW hst hlo h1 h2
      obtain ⟨zn, t1, rfl, hzn, hst⟩ := am_v0 hst
      obtain ⟨zd, t2, rfl, hzd, hst⟩ := am_v0 hst
      obtain ⟨t3, rfl, -, hst⟩ := am_v2 hst
      obtain ⟨zs, t4, rfl, hzs, hst⟩ := am_v0 hst
      obtain ⟨t5, rfl, -, hst⟩ := am_v2 hst
      have ht5 : t5 = [] := by
        cases t5 with
        | nil => rfl
        | cons _ _ => exact hst.elim
      subst ht5
      obtain ⟨q1, e1, hw1, ⟨cA1, g1, t01, rfl, ht1, hn1, hg1⟩, hr1, -⟩ := am_Wd_at hW hs0 hs1 hS1
      obtain ⟨q2, e2, hw2, ⟨cA2, g2, t02, rfl, ht2, hn2, hg2⟩, hr2, -⟩ := am_Wd_at hW hd0 hd1 hS2
      rw [hr1, hr2]
      have en : ((zn.toNatClampNeg : Nat) : Int) = n := by
        have : zn.toNatClampNeg = zn.toInt.toNat := rfl
        omega
      have ed : ((zd.toNatClampNeg : Nat) : Int) = dp := by
        have : zd.toNatClampNeg = zd.toInt.toNat := rfl
        omega
      have es : ((zs.toNatClampNeg : Nat) : Int) = sp := by
        have : zs.toNatClampNeg = zs.toInt.toNat := rfl
        omega
      have neg : ∀ z : Int32, 0 ≤ z.toInt → ¬ z < 0 := fun z hz => Int32.not_lt.mpr (Int32.le_iff_toInt_le.mpr hz)
      have hsz : ls.size = nL := by obtain ⟨lv, q, -⟩ := hlo; exact q.1
      refine va_copyi hx rfl (by rw [hml, hsz]) hown (hts _ (tg (tw (List.mem_of_getElem? (i := 918) (by decide +kernel))) rfl)) (hts _ (tg tw_920 rfl)) (hts _ (tg tw_919 rfl)) (hts _ (tg tw_19 rfl)) hW.1 hW.2.1 hW.2.2.1 hW.2.2.2.1 src.toNat dst.toNat t01 t02 hw1 hw2 ht1 ht2 rfl (neg _ (by omega)) (neg _ (by omega)) (neg _ (by omega)) (by omega) (by omega) (fun _ _ => rfl) (by omega) (Nat.le_trans (Nat.le_of_ble_eq_true rfl) hR2) hd (fun H1 locs1 hP1 hD1 hS1' => ?_)
      refine hext ad tys (ws.set dst.toNat (q2, .inl (cA2, n2, .inl (va_cpy g1 g2 zs.toNatClampNeg zd.toNatClampNeg zn.toNatClampNeg)))) H1 locs1 cells slots ls [] ?_ trivial hlo h1 h2
      refine am_Wd_set hW hS2 hw2 hP1 hD1 hS1' ?_ (by omega) ?_ ?_
      · refine ⟨cA2, _, t02, rfl, ht2, hn2, fun j hj => ?_⟩
        unfold va_cpy am_cpy
        have ea : ((dst.toNat : Nat) : Int) = dst := Int.toNat_of_nonneg hd0
        by_cases hj2 : zd.toNatClampNeg ≤ j ∧ j < zd.toNatClampNeg + zn.toNatClampNeg
        · rw [if_pos hj2, if_pos ⟨ea, by omega, by omega⟩]
          rw [hg1 _ (by omega)]
          congr 1
          omega
        · rw [if_neg hj2, if_neg (by omega)]
          have := hg2 j hj
          rw [this, ea]
      · intro b hb
        funext j
        unfold am_cpy
        rw [if_neg (by omega)]
      · obtain ⟨hf1, hf2⟩ := hW.2.2.2.2.2.2.2.2.2
        have hx4 : ∀ (i : Nat) (kd c nn : Nat), S[i]? = some (kd, c, nn) → kd ≠ 1 → ∀ j, am_cpy M src sp dst dp n i j = M i j := by
          intro i kd c nn hi hk j
          unfold am_cpy
          rw [if_neg]
          intro hq
          have : i = dst.toNat := by omega
          subst this
          cases hi.symm.trans hS2
          exact hk rfl
        exact ⟨fun i ci nn hi f o ho => by rw [hx4 i 0 ci nn hi (by decide)]; exact hf1 i ci nn hi f o ho, fun hb i cc nn hi j j0 j1 => by rw [hx4 i 4 cc nn hi (by decide)]; exact hf2 hb i cc nn hi j j0 j1⟩
  · rcases hk with rfl | rfl
    · obtain ⟨rfl, rfl⟩ := (tb_ext hp).2.1 rfl
      obtain ⟨b, t, rfl, ⟨hne, hc8⟩, hext⟩ := te21 hext
      ·
        obtain ⟨j, hj, hbj, hpj⟩ := tb_str hne
        intro ad tys ws H locs cells slots ls stv hW hst hlo h1 h2
        obtain ⟨t1, rfl, -, hst⟩ := am_v2 hst
        have hr : am_rf ad sa b = .ref (sa (1000000 + (j : Int))) := by
          unfold am_rf am_ad
          rw [if_neg (by omega), if_neg (by omega), hbj]
        rw [hr]
        have hsz : ls.size = nL := by obtain ⟨lv, q, -⟩ := hlo; exact q.1
        have hfix : CallFix p m c c.code nL s args tb_TT (tb_nmf 9) := ⟨hx, rfl, hml, hown, hts⟩
        have hS := hW.2.2.2.1
        refine jk_go (va_runV (As := []) (rest := t1) hfix (jk_length l (sa := sa) (A := A) hj) ⟨jk_cwS 0 hts (tg tw_467 rfl) (tg tw_14 rfl) (tg (tw (List.mem_of_getElem? (i := 464) (by decide +kernel))) rfl) (by decide +kernel) (by decide +kernel) (by omega) (by omega), hts _ (tg tw_465 rfl), hts _ (tg tw_466 rfl)⟩ ⟨jk_blind, vk_recv hE.2.2.2.2.2.2.2 hj hS, jk_pre hE hA hS⟩ rfl rfl hsz rfl (lv_room (by rw [am_cats_eq _ _ hst]; exact hc8)) hd ⟨by omega, by omega⟩) (fun L' hL => ?_)
        refine hext ad tys ws H (locs ++ L') cells slots ls _ (am_Wd_L hW hL) ⟨te_v ?_, hst⟩ hlo h1 h2
        have hq := tb_chr j hj
        have h31 := (jk_byt j hj).2.1
        rw [hpj, hq.1, Int32.toInt_ofNat']
        exact Int.bmod_eq_of_le (by simp only [Int32.size]; omega) (by simp only [Int32.size]; omega)
    · obtain ⟨rfl, rfl⟩ := (tb_ext hp).2.2 rfl
      obtain ⟨k, b, t, rfl, ⟨⟨hk0, hk1⟩, hc8⟩, hext⟩ := te22 hext
      ·
        have hne : pg_str b ≠ [] := fun q => by
          rw [q] at hk1
          simp at hk1
          omega
        obtain ⟨j, hj, hbj, hpj⟩ := tb_str hne
        intro ad tys ws H locs cells slots ls stv hW hst hlo h1 h2
        obtain ⟨z, t0, rfl, hz, hst⟩ := am_v0 hst
        obtain ⟨t1, rfl, -, hst⟩ := am_v2 hst
        have hr : am_rf ad sa b = .ref (sa (1000000 + (j : Int))) := by
          unfold am_rf am_ad
          rw [if_neg (by omega), if_neg (by omega), hbj]
        rw [hr]
        have hsz : ls.size = nL := by obtain ⟨lv, q, -⟩ := hlo; exact q.1
        have hfix : CallFix p m c c.code nL s args tb_TT (tb_nmf 9) := ⟨hx, rfl, hml, hown, hts⟩
        have hS := hW.2.2.2.1
        have hq := tb_chr j hj
        have hk1' := hk1
        rw [hpj, hq.1] at hk1'
        refine jk_go (va_runV (As := [.int z]) (rest := t1) hfix (jk_charAt l (sa := sa) (A := A) hj (k := z) (by omega) (by omega)) ⟨jk_cwS 1 hts (tg tw_477 rfl) (tg tw_14 rfl) (tg (tw (List.mem_of_getElem? (i := 474) (by decide +kernel))) rfl) (by decide +kernel) (by decide +kernel) (by omega) (by omega), hts _ (tg tw_475 rfl), hts _ (tg tw_476 rfl)⟩ ⟨jk_blind, vk_recv hE.2.2.2.2.2.2.2 hj hS, jk_pre hE hA hS⟩ rfl rfl hsz rfl (lv_room (by rw [am_cats_eq _ _ hst]; exact hc8)) hd ⟨by omega, by omega⟩) (fun L' hL => ?_)
        refine hext ad tys ws H (locs ++ L') cells slots ls _ (am_Wd_L hW hL) ⟨te_v ?_, hst⟩ hlo h1 h2
        rw [hpj, hz]
        exact hq.2 _ (by omega)
theorem tb_Lk {off : Nat → Int → Option Int} {ln : Int → Option Nat} {fx : Bool} {A : Nat → Prop} {sa : Int → Nat} : am_Lk (tb_P off ln fx) tb_nmf tb_ym tb_rt tb_TT (tb_En A sa) := by
  intro own ix mid kd n hp hk
  obtain ⟨⟨ow, n1, ret, mx, code, h1, h2, h3, h4, h5, h6, h7, h8, h9⟩, hl⟩ := tb_le (show pg_pool own ix = some (kd, mid, n) from hp) hk
  refine ⟨ow, n1, ret, mx, code, h1, h2, h3, h4, h5, h6, ?_, h7, h8, h9⟩
  rcases hl with hl | ⟨host, hl⟩
  · exact Or.inl hl
  · exact Or.inr ⟨host, fun s hE => hE.1 _ hl⟩
theorem tb_Pgm {off : Nat → Int → Option Int} {ln : Int → Option Nat} {fx : Bool} : am_Pg (tb_P off ln fx) tb_nmf tb_ym tb_bm tb_rt tb_TT := by
  intro mid own n ret mx code h
  have h1 := tb_each_get mg_all (show pg_ms[mid]? = some (own, n, ret, mx, code) from h)
  rw [Nat.zero_add] at h1
  exact h1
theorem tb_clf : ∀ (ci : Nat) (C : String) (T : u_T) (N : Nat), tb_cl[ci]? = some (C, T, N) → C = tb_nmf ci := by
  intro ci C T N h
  have h1 : ci < 13 := (List.getElem?_eq_some_iff.mp h).1
  have h2 : ∀ k, k < 13 → (tb_cl[k]?).map Prod.fst = some (tb_nmf k) := by decide +kernel
  have h3 := h2 ci h1
  rw [h] at h3
  exact Option.some.inj h3
/-- the static rows' numbers; ahead of them none -/
def tb_sc (f : Int → Int) : Int → Int → Int := fun a j => if a = 2000003 then f j else if a < 2000000 then 0 else (tb_rows.getD (a - 2000000).toNat []).getD j.toNat 0 |>.toInt
theorem tb_Stat {off : Nat → Int → Option Int} {fx : Bool} {A : Nat → Prop} {sa : Int → Nat} {f : Int → Int} {s : State} (hE : tb_En A sa s) : am_Stat (tb_P off pg_len fx) A sa (tb_sc f) s := by
  intro a n h
  have h : pg_len a = some n := h
  unfold pg_len at h
  by_cases h0 : a < 2000000
  · rw [if_pos h0] at h; cases h
  · rw [if_neg h0] at h
    have h1 : (a - 2000000).toNat < 3 := (List.getElem?_eq_some_iff.mp h).1
    obtain ⟨k, hk, rfl⟩ : ∃ k : Nat, k < 3 ∧ a = 2000000 + (k : Int) := ⟨(a - 2000000).toNat, h1, by omega⟩
    have e1 : (2000000 + (k : Int) - 2000000).toNat = k := by omega
    rw [e1] at h
    have hl : ∀ k, k < 3 → pg_stl[k]? = some (tb_rows.getD k []).length := by decide +kernel
    rw [hl k hk] at h
    cases h
    refine ⟨by omega, ?_, fun j => (tb_rows.getD k []).getD j 0, hE.2.2.2.1 k hk, fun j hj => ?_⟩
    · exact (show ∀ k, k < 3 → (tb_rows.getD k []).length < 2147483648 by decide +kernel) k hk
    · unfold tb_sc
      rw [if_neg (by omega), if_neg (by omega), e1]
      rfl
theorem tb_All (D : va_G) {off : Nat → Int → Option Int} {ln : Int → Option Nat} {fx : Bool} {A : Nat → Prop} {sa : Int → Nat} {sc : Int → Int → Int} {l : Launch} (ho : tb_of off) (hof : fx = false → ∀ ci f, off ci f = none) (hst : ∀ s, tb_En A sa s → am_Stat (tb_P off ln fx) A sa sc s) : am_All (tb_P off ln fx) D tb_cl A sa sc l tb_nmf tb_ym tb_bm tb_rt tb_TT (tb_En A sa) := by
  refine ⟨fun w hw => (List.mem_filter.mp hw).2, tb_Pgm, tb_Lk, tb_clf, ?_, hst, fun s U locs hE hW hS => tb_En_move hE hW hS, fun a U g mk hE => tb_En_call a U g mk hE, hof, ?_, tb_Ex D⟩
  · intro own s args hE hts ix kd a n h
    exact tb_pk ho hts hE (show pg_pool own ix = some (kd, a, n) from h)
  · intro t h
    rcases h with rfl | rfl | rfl
    · exact tg tw_66 rfl
    · exact tg tw_1486 rfl
    · exact tg tw_1487 rfl
