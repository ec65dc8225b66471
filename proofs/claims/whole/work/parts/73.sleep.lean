/-! THE CLASS'S SLEEPERS AND WHAT THEIR WEIGHTS MAKE: sums, the greatest, how many; the one that counts most -/
/-- an object is a sleeper: its weights lie in the cell behind it -/
def sl_is (v : Int) : Prop := am_ob sh_T 7 v ∧ am_alen pg sh_T (v + 1) = some 6 ∧ (∀ i, 0 ≤ i → i < 6 → am_in pg sh_T 1 (v + 1) i) ∧ (∀ i, 0 ≤ i → i < 6 → am_own sh_T 1 (v + 1) i) ∧ 38 ≤ v ∧ v ≤ 147
theorem sl_38 : sl_is 38 := ⟨ob_38, rfl, fun i h1 h2 => ia_39 h1 h2, fun i h1 h2 => ow_39 h1 h2, by decide, by decide⟩
theorem sl_40 : sl_is 40 := ⟨ob_40, rfl, fun i h1 h2 => ia_41 h1 h2, fun i h1 h2 => ow_41 h1 h2, by decide, by decide⟩
theorem sl_42 : sl_is 42 := ⟨ob_42, rfl, fun i h1 h2 => ia_43 h1 h2, fun i h1 h2 => ow_43 h1 h2, by decide, by decide⟩
theorem sl_44 : sl_is 44 := ⟨ob_44, rfl, fun i h1 h2 => ia_45 h1 h2, fun i h1 h2 => ow_45 h1 h2, by decide, by decide⟩
theorem sl_48 : sl_is 48 := ⟨ob_48, rfl, fun i h1 h2 => ia_49 h1 h2, fun i h1 h2 => ow_49 h1 h2, by decide, by decide⟩
theorem sl_50 : sl_is 50 := ⟨ob_50, rfl, fun i h1 h2 => ia_51 h1 h2, fun i h1 h2 => ow_51 h1 h2, by decide, by decide⟩
theorem sl_52 : sl_is 52 := ⟨ob_52, rfl, fun i h1 h2 => ia_53 h1 h2, fun i h1 h2 => ow_53 h1 h2, by decide, by decide⟩
theorem sl_54 : sl_is 54 := ⟨ob_54, rfl, fun i h1 h2 => ia_55 h1 h2, fun i h1 h2 => ow_55 h1 h2, by decide, by decide⟩
theorem sl_56 : sl_is 56 := ⟨ob_56, rfl, fun i h1 h2 => ia_57 h1 h2, fun i h1 h2 => ow_57 h1 h2, by decide, by decide⟩
theorem sl_58 : sl_is 58 := ⟨ob_58, rfl, fun i h1 h2 => ia_59 h1 h2, fun i h1 h2 => ow_59 h1 h2, by decide, by decide⟩
theorem sl_60 : sl_is 60 := ⟨ob_60, rfl, fun i h1 h2 => ia_61 h1 h2, fun i h1 h2 => ow_61 h1 h2, by decide, by decide⟩
theorem sl_62 : sl_is 62 := ⟨ob_62, rfl, fun i h1 h2 => ia_63 h1 h2, fun i h1 h2 => ow_63 h1 h2, by decide, by decide⟩
theorem sl_64 : sl_is 64 := ⟨ob_64, rfl, fun i h1 h2 => ia_65 h1 h2, fun i h1 h2 => ow_65 h1 h2, by decide, by decide⟩
theorem sl_66 : sl_is 66 := ⟨ob_66, rfl, fun i h1 h2 => ia_67 h1 h2, fun i h1 h2 => ow_67 h1 h2, by decide, by decide⟩
theorem sl_68 : sl_is 68 := ⟨ob_68, rfl, fun i h1 h2 => ia_69 h1 h2, fun i h1 h2 => ow_69 h1 h2, by decide, by decide⟩
theorem sl_70 : sl_is 70 := ⟨ob_70, rfl, fun i h1 h2 => ia_71 h1 h2, fun i h1 h2 => ow_71 h1 h2, by decide, by decide⟩
theorem sl_72 : sl_is 72 := ⟨ob_72, rfl, fun i h1 h2 => ia_73 h1 h2, fun i h1 h2 => ow_73 h1 h2, by decide, by decide⟩
theorem sl_74 : sl_is 74 := ⟨ob_74, rfl, fun i h1 h2 => ia_75 h1 h2, fun i h1 h2 => ow_75 h1 h2, by decide, by decide⟩
theorem sl_76 : sl_is 76 := ⟨ob_76, rfl, fun i h1 h2 => ia_77 h1 h2, fun i h1 h2 => ow_77 h1 h2, by decide, by decide⟩
theorem sl_78 : sl_is 78 := ⟨ob_78, rfl, fun i h1 h2 => ia_79 h1 h2, fun i h1 h2 => ow_79 h1 h2, by decide, by decide⟩
theorem sl_80 : sl_is 80 := ⟨ob_80, rfl, fun i h1 h2 => ia_81 h1 h2, fun i h1 h2 => ow_81 h1 h2, by decide, by decide⟩
theorem sl_82 : sl_is 82 := ⟨ob_82, rfl, fun i h1 h2 => ia_83 h1 h2, fun i h1 h2 => ow_83 h1 h2, by decide, by decide⟩
theorem sl_84 : sl_is 84 := ⟨ob_84, rfl, fun i h1 h2 => ia_85 h1 h2, fun i h1 h2 => ow_85 h1 h2, by decide, by decide⟩
theorem sl_86 : sl_is 86 := ⟨ob_86, rfl, fun i h1 h2 => ia_87 h1 h2, fun i h1 h2 => ow_87 h1 h2, by decide, by decide⟩
theorem sl_91 : sl_is 91 := ⟨ob_91, rfl, fun i h1 h2 => ia_92 h1 h2, fun i h1 h2 => ow_92 h1 h2, by decide, by decide⟩
theorem sl_93 : sl_is 93 := ⟨ob_93, rfl, fun i h1 h2 => ia_94 h1 h2, fun i h1 h2 => ow_94 h1 h2, by decide, by decide⟩
theorem sl_97 : sl_is 97 := ⟨ob_97, rfl, fun i h1 h2 => ia_98 h1 h2, fun i h1 h2 => ow_98 h1 h2, by decide, by decide⟩
theorem sl_99 : sl_is 99 := ⟨ob_99, rfl, fun i h1 h2 => ia_100 h1 h2, fun i h1 h2 => ow_100 h1 h2, by decide, by decide⟩
theorem sl_101 : sl_is 101 := ⟨ob_101, rfl, fun i h1 h2 => ia_102 h1 h2, fun i h1 h2 => ow_102 h1 h2, by decide, by decide⟩
theorem sl_103 : sl_is 103 := ⟨ob_103, rfl, fun i h1 h2 => ia_104 h1 h2, fun i h1 h2 => ow_104 h1 h2, by decide, by decide⟩
theorem sl_105 : sl_is 105 := ⟨ob_105, rfl, fun i h1 h2 => ia_106 h1 h2, fun i h1 h2 => ow_106 h1 h2, by decide, by decide⟩
theorem sl_107 : sl_is 107 := ⟨ob_107, rfl, fun i h1 h2 => ia_108 h1 h2, fun i h1 h2 => ow_108 h1 h2, by decide, by decide⟩
theorem sl_109 : sl_is 109 := ⟨ob_109, rfl, fun i h1 h2 => ia_110 h1 h2, fun i h1 h2 => ow_110 h1 h2, by decide, by decide⟩
theorem sl_111 : sl_is 111 := ⟨ob_111, rfl, fun i h1 h2 => ia_112 h1 h2, fun i h1 h2 => ow_112 h1 h2, by decide, by decide⟩
theorem sl_113 : sl_is 113 := ⟨ob_113, rfl, fun i h1 h2 => ia_114 h1 h2, fun i h1 h2 => ow_114 h1 h2, by decide, by decide⟩
theorem sl_115 : sl_is 115 := ⟨ob_115, rfl, fun i h1 h2 => ia_116 h1 h2, fun i h1 h2 => ow_116 h1 h2, by decide, by decide⟩
theorem sl_117 : sl_is 117 := ⟨ob_117, rfl, fun i h1 h2 => ia_118 h1 h2, fun i h1 h2 => ow_118 h1 h2, by decide, by decide⟩
theorem sl_121 : sl_is 121 := ⟨ob_121, rfl, fun i h1 h2 => ia_122 h1 h2, fun i h1 h2 => ow_122 h1 h2, by decide, by decide⟩
theorem sl_123 : sl_is 123 := ⟨ob_123, rfl, fun i h1 h2 => ia_124 h1 h2, fun i h1 h2 => ow_124 h1 h2, by decide, by decide⟩
theorem sl_130 : sl_is 130 := ⟨ob_130, rfl, fun i h1 h2 => ia_131 h1 h2, fun i h1 h2 => ow_131 h1 h2, by decide, by decide⟩
theorem sl_132 : sl_is 132 := ⟨ob_132, rfl, fun i h1 h2 => ia_133 h1 h2, fun i h1 h2 => ow_133 h1 h2, by decide, by decide⟩
theorem sl_134 : sl_is 134 := ⟨ob_134, rfl, fun i h1 h2 => ia_135 h1 h2, fun i h1 h2 => ow_135 h1 h2, by decide, by decide⟩
theorem sl_136 : sl_is 136 := ⟨ob_136, rfl, fun i h1 h2 => ia_137 h1 h2, fun i h1 h2 => ow_137 h1 h2, by decide, by decide⟩
theorem sl_139 : sl_is 139 := ⟨ob_139, rfl, fun i h1 h2 => ia_140 h1 h2, fun i h1 h2 => ow_140 h1 h2, by decide, by decide⟩
theorem sl_141 : sl_is 141 := ⟨ob_141, rfl, fun i h1 h2 => ia_142 h1 h2, fun i h1 h2 => ow_142 h1 h2, by decide, by decide⟩
theorem sl_143 : sl_is 143 := ⟨ob_143, rfl, fun i h1 h2 => ia_144 h1 h2, fun i h1 h2 => ow_144 h1 h2, by decide, by decide⟩
theorem sl_145 : sl_is 145 := ⟨ob_145, rfl, fun i h1 h2 => ia_146 h1 h2, fun i h1 h2 => ow_146 h1 h2, by decide, by decide⟩
theorem sl_147 : sl_is 147 := ⟨ob_147, rfl, fun i h1 h2 => ia_148 h1 h2, fun i h1 h2 => ow_148 h1 h2, by decide, by decide⟩
theorem sl_row_37 {i : Int} (h0 : 0 ≤ i) (h1 : i < 4) : sl_is (37 + 1 + 2 * i) := by
  rcases (show i = 0 ∨ i = 1 ∨ i = 2 ∨ i = 3 by omega) with rfl | rfl | rfl | rfl
  · exact sl_38
  · exact sl_40
  · exact sl_42
  · exact sl_44
theorem sl_row_47 {i : Int} (h0 : 0 ≤ i) (h1 : i < 20) : sl_is (47 + 1 + 2 * i) := by
  rcases (show i = 0 ∨ i = 1 ∨ i = 2 ∨ i = 3 ∨ i = 4 ∨ i = 5 ∨ i = 6 ∨ i = 7 ∨ i = 8 ∨ i = 9 ∨ i = 10 ∨ i = 11 ∨ i = 12 ∨ i = 13 ∨ i = 14 ∨ i = 15 ∨ i = 16 ∨ i = 17 ∨ i = 18 ∨ i = 19 by omega) with rfl | rfl | rfl | rfl | rfl | rfl | rfl | rfl | rfl | rfl | rfl | rfl | rfl | rfl | rfl | rfl | rfl | rfl | rfl | rfl
  · exact sl_48
  · exact sl_50
  · exact sl_52
  · exact sl_54
  · exact sl_56
  · exact sl_58
  · exact sl_60
  · exact sl_62
  · exact sl_64
  · exact sl_66
  · exact sl_68
  · exact sl_70
  · exact sl_72
  · exact sl_74
  · exact sl_76
  · exact sl_78
  · exact sl_80
  · exact sl_82
  · exact sl_84
  · exact sl_86
theorem sl_row_96 {i : Int} (h0 : 0 ≤ i) (h1 : i < 11) : sl_is (96 + 1 + 2 * i) := by
  rcases (show i = 0 ∨ i = 1 ∨ i = 2 ∨ i = 3 ∨ i = 4 ∨ i = 5 ∨ i = 6 ∨ i = 7 ∨ i = 8 ∨ i = 9 ∨ i = 10 by omega) with rfl | rfl | rfl | rfl | rfl | rfl | rfl | rfl | rfl | rfl | rfl
  · exact sl_97
  · exact sl_99
  · exact sl_101
  · exact sl_103
  · exact sl_105
  · exact sl_107
  · exact sl_109
  · exact sl_111
  · exact sl_113
  · exact sl_115
  · exact sl_117
theorem sl_row_129 {i : Int} (h0 : 0 ≤ i) (h1 : i < 4) : sl_is (129 + 1 + 2 * i) := by
  rcases (show i = 0 ∨ i = 1 ∨ i = 2 ∨ i = 3 by omega) with rfl | rfl | rfl | rfl
  · exact sl_130
  · exact sl_132
  · exact sl_134
  · exact sl_136
theorem sl_row_138 {i : Int} (h0 : 0 ≤ i) (h1 : i < 4) : sl_is (138 + 1 + 2 * i) := by
  rcases (show i = 0 ∨ i = 1 ∨ i = 2 ∨ i = 3 by omega) with rfl | rfl | rfl | rfl
  · exact sl_139
  · exact sl_141
  · exact sl_143
  · exact sl_145
/-- the sum of the first n, the greatest of them, how many are above 0 -/
def pu_sum (w : Int → Int) : Nat → Int
  | 0 => 0
  | n + 1 => pu_sum w n + w n
def pu_max (w : Int → Int) : Nat → Int
  | 0 => 0
  | n + 1 => if pu_max w n < w n then w n else pu_max w n
def pu_many (w : Int → Int) : Nat → Int
  | 0 => 0
  | n + 1 => pu_many w n + (if 0 < w n then 1 else 0)
theorem pu_sum_le {w : Int → Int} {b : Int} (hw : ∀ k : Nat, 0 ≤ w k ∧ w k ≤ b) : ∀ n : Nat, 0 ≤ pu_sum w n ∧ pu_sum w n ≤ n * b
  | 0 => ⟨Int.le_refl _, by show (0 : Int) ≤ _; simp⟩
  | n + 1 => by
    obtain ⟨h1, h2⟩ := pu_sum_le hw n
    obtain ⟨h3, h4⟩ := hw n
    unfold pu_sum
    refine ⟨by omega, ?_⟩
    have : ((n + 1 : Nat) : Int) * b = n * b + b := by
      rw [show ((n + 1 : Nat) : Int) = (n : Int) + 1 by omega, Int.add_mul, Int.one_mul]
    omega
theorem pu_max_le {w : Int → Int} {b : Int} (hb : 0 ≤ b) (hw : ∀ k : Nat, 0 ≤ w k ∧ w k ≤ b) : ∀ n : Nat, 0 ≤ pu_max w n ∧ pu_max w n ≤ b
  | 0 => ⟨Int.le_refl _, hb⟩
  | n + 1 => by
    obtain ⟨h1, h2⟩ := pu_max_le hb hw n
    obtain ⟨h3, h4⟩ := hw n
    unfold pu_max
    split <;> omega
theorem pu_many_le {w : Int → Int} : ∀ n : Nat, 0 ≤ pu_many w n ∧ pu_many w n ≤ n
  | 0 => ⟨Int.le_refl _, Int.le_refl _⟩
  | n + 1 => by
    obtain ⟨h1, h2⟩ := pu_many_le (w := w) n
    unfold pu_many
    split <;> omega
/-- where nothing stands behind the first c, the first n tell as much -/
theorem pu_sum_z {w : Int → Int} {c : Nat} (hw : ∀ k : Nat, c ≤ k → w k = 0) : ∀ n : Nat, c ≤ n → pu_sum w n = pu_sum w c
  | 0, h => by rw [Nat.le_zero.mp h]
  | n + 1, h => by
    by_cases q : c = n + 1
    · rw [q]
    · unfold pu_sum
      rw [hw n (by omega), Int.add_zero]
      rw [pu_sum_z hw n (by omega)]
      cases c <;> rfl
theorem pu_max_z {w : Int → Int} {c : Nat} (hw : ∀ k : Nat, c ≤ k → w k = 0) (h0 : ∀ k : Nat, 0 ≤ w k) : ∀ n : Nat, c ≤ n → pu_max w n = pu_max w c
  | 0, h => by rw [Nat.le_zero.mp h]
  | n + 1, h => by
    by_cases q : c = n + 1
    · rw [q]
    · have e : pu_max w (n + 1) = pu_max w n := by
        have : 0 ≤ pu_max w n := by
          have : ∀ m, 0 ≤ pu_max w m := by
            intro m
            induction m with
            | zero => exact Int.le_refl _
            | succ m ih => unfold pu_max; split
                           · exact h0 m
                           · exact ih
          exact this n
        show (if pu_max w n < w n then w n else pu_max w n) = _
        rw [hw n (by omega), if_neg (by omega)]
      rw [e]
      exact pu_max_z hw h0 n (by omega)
theorem pu_many_z {w : Int → Int} {c : Nat} (hw : ∀ k : Nat, c ≤ k → w k = 0) : ∀ n : Nat, c ≤ n → pu_many w n = pu_many w c
  | 0, h => by rw [Nat.le_zero.mp h]
  | n + 1, h => by
    by_cases q : c = n + 1
    · rw [q]
    · have e : pu_many w (n + 1) = pu_many w n := by
        show pu_many w n + (if 0 < w n then 1 else 0) = _
        rw [hw n (by omega), if_neg (by omega), Int.add_zero]
      rw [e]
      exact pu_many_z hw n (by omega)
theorem pu_sum_eq {w v : Int → Int} : ∀ n : Nat, (∀ k : Nat, k < n → w k = v k) → pu_sum w n = pu_sum v n
  | 0, _ => rfl
  | n + 1, h => by unfold pu_sum; rw [pu_sum_eq n (fun k hk => h k (by omega)), h n (by omega)]
theorem pu_max_eq {w v : Int → Int} : ∀ n : Nat, (∀ k : Nat, k < n → w k = v k) → pu_max w n = pu_max v n
  | 0, _ => rfl
  | n + 1, h => by unfold pu_max; rw [pu_max_eq n (fun k hk => h k (by omega)), h n (by omega)]
theorem pu_many_eq {w v : Int → Int} : ∀ n : Nat, (∀ k : Nat, k < n → w k = v k) → pu_many w n = pu_many v n
  | 0, _ => rfl
  | n + 1, h => by unfold pu_many; rw [pu_many_eq n (fun k hk => h k (by omega)), h n (by omega)]
/-- weights as they may be -/
def we_ok (w : Int → Int) : Prop := ∀ k : Int, 0 ≤ k → k < 6 → 0 ≤ w k ∧ w k ≤ 999
theorem st_max {d : Nat} {M : am_M} {f : Int → am_M → Prop} {x y : Int} (h : f (if x < y then y else x) M) : am_cal pg (d + 1) 316 [(0, x), (0, y)] sh_T M (am_c0 sh_T f) := by
  refine en_J9_max_7cf53 (bk_J9_max_7cf53_0 ⟨fun c => am_c0_i ?_, fun c => am_c0_i ?_⟩)
  · first | (rw [if_pos c] at h; exact h) | (rw [if_neg (by omega)] at h; exact h)
  · first | (rw [if_pos c] at h; exact h) | (rw [if_neg (by omega)] at h; exact h)
theorem st_total {d : Nat} {M : am_M} {f : Int → am_M → Prop} {v : Int} (hv : sl_is v) (hw : we_ok (M (v + 1))) (h : f (pu_sum (M (v + 1)) 6) M) : am_cal pg (d + 1) 74 [(2, v)] sh_T M (am_c0 sh_T f) := by
  obtain ⟨h1, h2, h3, h4, -⟩ := hv
  have go : ∀ (n k : Nat) (x : Int), k + n = 6 → x = pu_sum (M (v + 1)) k → 0 ≤ x → x ≤ k * 999 → am_g 7 0 co_X7_total d (am_c0 sh_T f) 4 [(2, v), (0, x), (0, (k : Int))] [] sh_T M := by
    intro n
    induction n with
    | zero =>
      intro k x hk hx x0 x1
      have : k = 6 := by omega
      subst this
      exact bk_X7_total_4 ⟨h1, _, h2, fun _ => am_c0_i (by rw [hx]; exact h), fun c => by omega⟩
    | succ n ih =>
      intro k x hk hx x0 x1
      obtain ⟨w0, w1⟩ := hw k (by omega) (by omega)
      exact bk_X7_total_4 ⟨h1, _, h2, fun c => by omega, fun c => ⟨h3 k (by omega) (by omega), ⟨by omega, by omega⟩, ⟨by omega, by omega⟩, ih (k + 1) _ (by omega) (by rw [hx]; rfl) (by omega) (by omega)⟩⟩
  exact en_X7_total (bk_X7_total_0 (go 6 0 0 rfl rfl (Int.le_refl _) (by decide)))
theorem st_at {d : Nat} {M : am_M} {f : Int → am_M → Prop} {v k : Int} (hv : sl_is v) (h : f (if 0 ≤ k ∧ k < 6 then M (v + 1) k else 0) M) : am_cal pg (d + 1) 72 [(2, v), (0, k)] sh_T M (am_c0 sh_T f) := by
  obtain ⟨h1, h2, h3, h4, -⟩ := hv
  refine en_X7_at (bk_X7_at_0 ⟨fun c => am_c0_i ?_, fun c => ⟨h1, _, h2, fun c2 => am_c0_i ?_, fun c2 => ⟨h3 k c (by omega), am_c0_i ?_⟩⟩⟩)
  · rw [if_neg (by omega)] at h; exact h
  · rw [if_neg (by omega)] at h; exact h
  · rw [if_pos ⟨c, by omega⟩] at h; exact h
theorem st_put {d : Nat} {M : am_M} {f : am_M → Prop} {v k x : Int} (hv : sl_is v) (h0 : 0 ≤ k) (h1 : k < 6) (h : f (am_up M (v + 1) k x)) : am_cal pg (d + 1) 73 [(2, v), (0, k), (0, x)] sh_T M (am_cv sh_T f) := by
  obtain ⟨a1, a2, a3, a4, -⟩ := hv
  exact en_X7_put (bk_X7_put_0 ⟨fun c => by omega, fun c => ⟨a1, _, a2, fun c2 => by omega, fun c2 => ⟨a4 k c (by omega), am_cv_i h⟩⟩⟩)
theorem st_put_no {d : Nat} {M : am_M} {f : am_M → Prop} {v k x : Int} (hv : sl_is v) (h0 : k < 0 ∨ 6 ≤ k) (h : f M) : am_cal pg (d + 1) 73 [(2, v), (0, k), (0, x)] sh_T M (am_cv sh_T f) := by
  obtain ⟨a1, a2, a3, a4, -⟩ := hv
  exact en_X7_put (bk_X7_put_0 ⟨fun c => am_cv_i h, fun c => ⟨a1, _, a2, fun c2 => am_cv_i h, fun c2 => by omega⟩⟩)
theorem st_greatest {d : Nat} {M : am_M} {f : Int → am_M → Prop} {v : Int} (hv : sl_is v) (h : f (pu_max (M (v + 1)) 6) M) : am_cal pg (d + 2) 75 [(2, v)] sh_T M (am_c0 sh_T f) := by
  obtain ⟨h1, h2, h3, h4, -⟩ := hv
  have go : ∀ (n k : Nat) (x : Int), k + n = 6 → x = pu_max (M (v + 1)) k → am_g 7 0 co_X7_greatest (d + 1) (am_c0 sh_T f) 4 [(2, v), (0, x), (0, (k : Int))] [] sh_T M := by
    intro n
    induction n with
    | zero =>
      intro k x hk hx
      have : k = 6 := by omega
      subst this
      exact bk_X7_greatest_4 ⟨h1, _, h2, fun _ => am_c0_i (by rw [hx]; exact h), fun c => by omega⟩
    | succ n ih =>
      intro k x hk hx
      exact bk_X7_greatest_4 ⟨h1, _, h2, fun c => by omega, fun c => ⟨h3 k (by omega) (by omega), st_max ⟨⟨by omega, by omega⟩, ih (k + 1) _ (by omega) (by rw [hx]; rfl)⟩⟩⟩
  exact en_X7_greatest (bk_X7_greatest_0 (go 6 0 0 rfl rfl))
theorem st_countHeavy {d : Nat} {M : am_M} {f : Int → am_M → Prop} {v : Int} (hv : sl_is v) (h : f (pu_many (M (v + 1)) 6) M) : am_cal pg (d + 1) 76 [(2, v)] sh_T M (am_c0 sh_T f) := by
  obtain ⟨h1, h2, h3, h4, -⟩ := hv
  have go : ∀ (n k : Nat) (x : Int), k + n = 6 → x = pu_many (M (v + 1)) k → am_g 7 0 co_X7_countHeavy d (am_c0 sh_T f) 4 [(2, v), (0, x), (0, (k : Int))] [] sh_T M := by
    intro n
    induction n with
    | zero =>
      intro k x hk hx
      have : k = 6 := by omega
      subst this
      exact bk_X7_countHeavy_4 ⟨h1, _, h2, fun _ => am_c0_i (by rw [hx]; exact h), fun c => by omega⟩
    | succ n ih =>
      intro k x hk hx
      have hb := pu_many_le (w := M (v + 1)) k
      exact bk_X7_countHeavy_4 ⟨h1, _, h2, fun c => by omega, fun c => ⟨h3 k (by omega) (by omega), fun c2 => ⟨⟨by omega, by omega⟩, ⟨by omega, by omega⟩, ih (k + 1) _ (by omega) (by
        show _ = pu_many (M (v + 1)) k + (if 0 < M (v + 1) k then 1 else 0)
        rw [if_neg (by omega), hx])⟩, fun c2 => ⟨⟨by omega, by omega⟩, ⟨by omega, by omega⟩, ih (k + 1) _ (by omega) (by
        show _ = pu_many (M (v + 1)) k + (if 0 < M (v + 1) k then 1 else 0)
        rw [if_pos c2, hx])⟩⟩⟩
  exact en_X7_countHeavy (bk_X7_countHeavy_0 (go 6 0 0 rfl rfl))
/-- a stretch of a row is laid -/
def am_rs (M : am_M) (a lo : Int) (g : Int → Int) (n : Nat) : am_M := fun b j => if b = a ∧ lo ≤ j ∧ j < lo + n then g (j - lo) else M b j
theorem am_rs_0 {M : am_M} {a lo : Int} {g : Int → Int} : am_rs M a lo g 0 = M := by
  funext b j
  unfold am_rs
  rw [if_neg (by omega)]
theorem am_rs_s {M : am_M} {a lo : Int} {g : Int → Int} {n : Nat} {x y : Int} (hx : x = lo + n) (hy : y = g n) : am_up (am_rs M a lo g n) a x y = am_rs M a lo g (n + 1) := by
  subst hx; subst hy
  funext b j
  unfold am_up am_rs
  by_cases h : b = a ∧ j = lo + n
  · rw [if_pos h, if_pos (by omega), h.2]
    rw [show lo + (n : Int) - lo = n by omega]
  · rw [if_neg h]
    by_cases h2 : b = a ∧ lo ≤ j ∧ j < lo + n
    · rw [if_pos h2, if_pos (by omega)]
    · rw [if_neg h2, if_neg (by omega)]
theorem am_rs_el {M : am_M} {a lo : Int} {g : Int → Int} {n : Nat} {b : Int} (h : ¬ b = a) : am_rs M a lo g n b = M b := by
  funext j
  unfold am_rs
  rw [if_neg (fun q => h q.1)]
theorem am_rs_at {M : am_M} {a lo : Int} {g : Int → Int} {n : Nat} {j : Int} (h0 : lo ≤ j) (h1 : j < lo + n) : am_rs M a lo g n a j = g (j - lo) := if_pos ⟨rfl, h0, h1⟩
theorem am_rs_out {M : am_M} {a lo : Int} {g : Int → Int} {n : Nat} {j : Int} (h : j < lo ∨ lo + n ≤ j) : am_rs M a lo g n a j = M a j := if_neg (fun q => by omega)
theorem am_rs_eq {M : am_M} {a lo : Int} {g k : Int → Int} {n : Nat} (h : ∀ i : Int, 0 ≤ i → i < n → g i = k i) : am_rs M a lo g n = am_rs M a lo k n := by
  funext b j
  unfold am_rs
  by_cases q : b = a ∧ lo ≤ j ∧ j < lo + n
  · rw [if_pos q, if_pos q, h _ (by omega) (by omega)]
  · rw [if_neg q, if_neg q]
theorem am_fr_rs {lo hi : Int} {M M1 : am_M} (h : am_fr lo hi M M1) {a l : Int} {g : Int → Int} {n : Nat} (h1 : lo ≤ a) (h2 : a ≤ hi) : am_fr lo hi M (am_rs M1 a l g n) := fun b hb => by
  rw [← h b hb, am_rs_el (by omega)]
/-- one sleeper becomes as another is -/
def sl_cp (M : am_M) (v u : Int) : am_M := am_rs (am_up (am_up M v 1 (M u 1)) v 2 (M u 2)) (v + 1) 0 (M (u + 1)) 6
theorem st_copy {d : Nat} {M : am_M} {f : am_M → Prop} {v u : Int} (hv : sl_is v) (hu : sl_is u) (hne : ¬ v = u) (h1 : ¬ v = u + 1) (h2 : ¬ v + 1 = u) (h : f (sl_cp M v u)) : am_cal pg (d + 1) 71 [(2, v), (2, u)] sh_T M (am_cv sh_T f) := by
  obtain ⟨a1, a2, a3, a4, -⟩ := hv
  obtain ⟨b1, b2, b3, b4, -⟩ := hu
  refine en_X7_copy (bk_X7_copy_0 ⟨b1, a1, ?_⟩)
  rw [am_up_el (M := M) (b := u) (fun q => hne q.1.symm)]
  generalize hM : am_up (am_up M v 1 (M u 1)) v 2 (M u 2) = M0
  have hu0 : M0 (u + 1) = M (u + 1) := by
    rw [← hM]
    funext j
    rw [am_up_el (by omega), am_up_el (by omega)]
  have go : ∀ (n k : Nat), k + n = 6 → am_g 7 9 co_X7_copy d (am_cv sh_T f) 18 [(2, v), (2, u), (0, (k : Int))] [] sh_T (am_rs M0 (v + 1) 0 (M (u + 1)) k) := by
    intro n
    induction n with
    | zero =>
      intro k hk
      have : k = 6 := by omega
      subst this
      refine bk_X7_copy_18 ⟨fun _ => am_cv_i ?_, fun c => by omega⟩
      rw [← hM]; exact h
    | succ n ih =>
      intro k hk
      refine bk_X7_copy_18 ⟨fun c => by omega, fun c => ⟨a1, b1, b3 k (by omega) c, a4 k (by omega) c, ⟨by omega, by omega⟩, ?_⟩⟩
      rw [am_rs_el (b := u + 1) (by omega), hu0, am_rs_s (x := (k : Int)) (by omega) rfl]
      exact ih (k + 1) (by omega)
  have := go 6 0 rfl
  rw [am_rs_0] at this
  exact this
/-- what a weight counts with a guide (g: his number, -1 none; r: what he is afraid of) -/
def pu_cnt (g r w k : Int) : Int := if g = -1 then w else if r = k then 2 * w else w.tdiv 2
theorem pu_cnt_0 {g r w k : Int} (h : 0 ≤ w ∧ w ≤ 999) : 0 ≤ pu_cnt g r w k ∧ pu_cnt g r w k ≤ 1998 := by
  unfold pu_cnt
  have : w.tdiv 2 = w / 2 := Int.tdiv_eq_ediv_of_nonneg h.1
  split
  · omega
  · split
    · omega
    · rw [this]; omega
/-- the first of n that counts most, but for one; -1 if there is none -/
def pu_wo (v : Int → Int) (but : Int) : Nat → Int
  | 0 => -1
  | n + 1 => if (n : Int) = but then pu_wo v but n else if pu_wo v but n = -1 then n else if v (pu_wo v but n) < v n then n else pu_wo v but n
theorem pu_wo_le {v : Int → Int} {but : Int} : ∀ n : Nat, -1 ≤ pu_wo v but n ∧ pu_wo v but n < n
  | 0 => ⟨Int.le_refl _, by show (-1 : Int) < 0; decide⟩
  | n + 1 => by
    obtain ⟨h1, h2⟩ := pu_wo_le (v := v) (but := but) n
    unfold pu_wo
    split
    · omega
    · split
      · omega
      · split <;> omega
theorem pu_wo_eq {v w : Int → Int} {but : Int} : ∀ n : Nat, (∀ k : Nat, k < n → v k = w k) → pu_wo v but n = pu_wo w but n
  | 0, _ => rfl
  | n + 1, h => by
    have ih := pu_wo_eq (but := but) n (fun k hk => h k (by omega))
    have hl := pu_wo_le (v := w) (but := but) n
    unfold pu_wo
    rw [ih]
    by_cases c : (n : Int) = but
    · rw [if_pos c, if_pos c]
    · rw [if_neg c, if_neg c]
      by_cases c2 : pu_wo w but n = -1
      · rw [if_pos c2, if_pos c2]
      · rw [if_neg c2, if_neg c2, h n (by omega)]
        have : v (pu_wo w but n) = w (pu_wo w but n) := by
          have := h (pu_wo w but n).toNat (by omega)
          rw [show (((pu_wo w but n).toNat : Nat) : Int) = pu_wo w but n by omega] at this
          exact this
        rw [this]
/-- an object is a dream -/
def dr_is (c : Int) : Prop := c = 11 ∨ c = 24
/-- how many there are in a dream -/
def dr_ok (M : am_M) (c : Int) : Prop := (0 ≤ M (c + 2) 0 ∧ M (c + 2) 0 ≤ 6) ∧ (0 ≤ M (c + 2) 1 ∧ M (c + 2) 1 ≤ 4) ∧ (0 ≤ M (c + 2) 2 ∧ M (c + 2) 2 ≤ 4)
theorem st_count {d : Nat} {M : am_M} {f : Int → am_M → Prop} {c k : Int} (hc : dr_is c) (h : f (if 0 ≤ k ∧ k < 3 then M (c + 2) k else 0) M) : am_cal pg (d + 1) 14 [(2, c), (0, k)] sh_T M (am_c0 sh_T f) := by
  rcases hc with rfl | rfl
  · refine en_X2_count (bk_X2_count_0 ⟨fun q => am_c0_i ?_, fun q => ⟨ob_11, 3, rfl, fun q2 => am_c0_i ?_, fun q2 => ⟨ia_13 q (by omega), am_c0_i ?_⟩⟩⟩)
    · rw [if_neg (by omega)] at h; exact h
    · rw [if_neg (by omega)] at h; exact h
    · rw [if_pos ⟨q, by omega⟩] at h; exact h
  · refine en_X2_count (bk_X2_count_0 ⟨fun q => am_c0_i ?_, fun q => ⟨ob_24, 3, rfl, fun q2 => am_c0_i ?_, fun q2 => ⟨ia_26 q (by omega), am_c0_i ?_⟩⟩⟩)
    · rw [if_neg (by omega)] at h; exact h
    · rw [if_neg (by omega)] at h; exact h
    · rw [if_pos ⟨q, by omega⟩] at h; exact h
theorem dr_ob {c : Int} (hc : dr_is c) : am_ob sh_T 2 c := by
  rcases hc with rfl | rfl
  · exact ob_11
  · exact ob_24
theorem st_isThere {d : Nat} {M : am_M} {f : Int → am_M → Prop} {c k i : Int} (hc : dr_is c) (hk : 0 ≤ k ∧ k < 3) (h : f (am_b (0 ≤ i ∧ i < M (c + 2) k)) M) : am_cal pg (d + 2) 15 [(2, c), (0, k), (0, i)] sh_T M (am_c0 sh_T f) := by
  refine en_X2_isThere (bk_X2_isThere_0 ⟨fun q => am_c0_i ?_, fun q => ⟨dr_ob hc, st_count hc ?_⟩⟩)
  · rw [am_b_0 (by omega)] at h; exact h
  · rw [if_pos hk]
    refine ⟨fun q2 => am_c0_i ?_, fun q2 => am_c0_i ?_⟩
    · rw [am_b_0 (by omega)] at h; exact h
    · rw [am_b_1 ⟨q, q2⟩] at h; exact h
theorem st_dreadOf {d : Nat} {M : am_M} {f : Int → am_M → Prop} {c g : Int} (hc : dr_is c) (h0 : 0 ≤ g) (h1 : g < 4) (h : f (M (c + 5) g) M) : am_cal pg (d + 1) 27 [(2, c), (0, g)] sh_T M (am_c0 sh_T f) := by
  rcases hc with rfl | rfl
  · exact en_X2_dreadOf (bk_X2_dreadOf_0 ⟨fun q => by omega, fun q => ⟨ob_11, 4, rfl, fun q2 => by omega, fun q2 => ⟨ia_16 h0 h1, am_c0_i h⟩⟩⟩)
  · exact en_X2_dreadOf (bk_X2_dreadOf_0 ⟨fun q => by omega, fun q => ⟨ob_24, 4, rfl, fun q2 => by omega, fun q2 => ⟨ia_29 h0 h1, am_c0_i h⟩⟩⟩)
/-- what a sleeper's dread counts in a dream -/
abbrev sl_cnt (M : am_M) (c v : Int) : Int → Int := fun k => pu_cnt (M v 2) (M (c + 5) (M v 2)) (M (v + 1) k) k
theorem st_counts {d : Nat} {M : am_M} {f : Int → am_M → Prop} {c v k : Int} (hc : dr_is c) (hv : sl_is v) (hg : -1 ≤ M v 2 ∧ M v 2 < 4) (h0 : 0 ≤ k) (h1 : k < 6) (hw : we_ok (M (v + 1))) (h : f (sl_cnt M c v k) M) : am_cal pg (d + 2) 29 [(2, c), (2, v), (0, k)] sh_T M (am_c0 sh_T f) := by
  have hwk := hw k h0 h1
  have e2 : (M (v + 1) k).tdiv 2 = M (v + 1) k / 2 := Int.tdiv_eq_ediv_of_nonneg hwk.1
  unfold sl_cnt pu_cnt at h
  refine en_X2_counts (bk_X2_counts_0 ⟨hv.1, st_at hv ?_⟩)
  rw [if_pos ⟨h0, h1⟩]
  refine ⟨fun q => ⟨dr_ob hc, st_dreadOf hc (by omega) hg.2 ⟨fun q2 => ⟨by rw [e2]; exact ⟨by omega, by omega⟩, am_c0_i ?_⟩, fun q2 => ⟨⟨by omega, by omega⟩, am_c0_i ?_⟩⟩⟩, fun q => am_c0_i ?_⟩
  · rw [if_neg q, if_neg q2] at h; exact h
  · rw [if_neg q, if_pos q2] at h; exact h
  · rw [if_pos q] at h; exact h
theorem st_heaviest {d : Nat} {M : am_M} {f : Int → am_M → Prop} {c v but : Int} (hc : dr_is c) (hv : sl_is v) (hg : -1 ≤ M v 2 ∧ M v 2 < 4) (hw : we_ok (M (v + 1))) (hd : 0 ≤ M (c + 2) 0 ∧ M (c + 2) 0 ≤ 6) (h : f (pu_wo (sl_cnt M c v) but (M (c + 2) 0).toNat) M) : am_cal pg (d + 3) 30 [(2, c), (2, v), (0, but)] sh_T M (am_c0 sh_T f) := by
  have go : ∀ (n k : Nat) (b m : Int), k + n = (M (c + 2) 0).toNat → b = pu_wo (sl_cnt M c v) but k → m = (if b = -1 then -1 else sl_cnt M c v b) → am_g 2 0 co_X2_heaviest (d + 2) (am_c0 sh_T f) 8 [(2, c), (2, v), (0, but), (0, b), (0, m), (0, (k : Int)), (3, 0)] [] sh_T M := by
    intro n
    induction n with
    | zero =>
      intro k b m hk hb hm
      refine bk_X2_heaviest_8 ⟨dr_ob hc, st_count hc ?_⟩
      rw [if_pos ⟨by decide, by decide⟩]
      refine ⟨fun q => am_c0_i ?_, fun q => by omega⟩
      rw [hb, show k = (M (c + 2) 0).toNat by omega]; exact h
    | succ n ih =>
      intro k b m hk hb hm
      have hl := pu_wo_le (v := sl_cnt M c v) (but := but) k
      have hk6 : (k : Int) < 6 := by omega
      have hck := pu_cnt_0 (g := M v 2) (r := M (c + 5) (M v 2)) (k := k) (hw k (by omega) hk6)
      refine bk_X2_heaviest_8 ⟨dr_ob hc, st_count hc ?_⟩
      rw [if_pos ⟨by decide, by decide⟩]
      refine ⟨fun q => by omega, fun q => st_counts hc hv hg (by omega) hk6 hw ⟨fun q2 => ⟨⟨by omega, by omega⟩, ih (k + 1) b m (by omega) ?_ hm⟩, fun q2 => ⟨fun q3 => ⟨⟨by omega, by omega⟩, ih (k + 1) b m (by omega) ?_ hm⟩, fun q3 => ⟨⟨by omega, by omega⟩, ih (k + 1) k _ (by omega) ?_ ?_⟩⟩⟩⟩
      · show b = (if (k : Int) = but then _ else _)
        rw [if_pos q2]; exact hb
      · show b = (if (k : Int) = but then _ else if pu_wo (sl_cnt M c v) but k = -1 then _ else if sl_cnt M c v (pu_wo (sl_cnt M c v) but k) < sl_cnt M c v k then _ else _)
        rw [← hb] at hl ⊢
        have hb1 : ¬ b = -1 := fun z => by
          rw [if_pos z] at hm
          have : sl_cnt M c v k ≤ m := q3
          have : 0 ≤ sl_cnt M c v k := hck.1
          omega
        rw [if_neg hb1] at hm
        have q3' : sl_cnt M c v k ≤ m := q3
        rw [if_neg q2, if_neg hb1, if_neg (by omega)]
      · show (k : Int) = (if (k : Int) = but then _ else if pu_wo (sl_cnt M c v) but k = -1 then _ else if sl_cnt M c v (pu_wo (sl_cnt M c v) but k) < sl_cnt M c v k then _ else _)
        rw [← hb] at hl ⊢
        rw [if_neg q2]
        by_cases hb1 : b = -1
        · rw [if_pos hb1]
        · rw [if_neg hb1] at hm ⊢
          have q3' : m < sl_cnt M c v k := q3
          rw [if_pos (by omega)]
      · rw [if_neg (by omega)]
  exact en_X2_heaviest (bk_X2_heaviest_0 (go (M (c + 2) 0).toNat 0 (-1) (-1) (Nat.zero_add _) rfl rfl))
theorem st_isHome {d : Nat} {M : am_M} {f : Int → am_M → Prop} {c v : Int} (hc : dr_is c) (hv : sl_is v) (hw : we_ok (M (v + 1))) (h : f (am_b (pu_sum (M (v + 1)) 6 ≤ M c 5)) M) : am_cal pg (d + 2) 31 [(2, c), (2, v)] sh_T M (am_c0 sh_T f) :=
  en_X2_isHome (bk_X2_isHome_0 ⟨hv.1, st_total hv hw ⟨dr_ob hc, fun q => am_c0_i (by rw [am_b_0 (by omega)] at h; exact h), fun q => am_c0_i (by rw [am_b_1 q] at h; exact h)⟩⟩)
