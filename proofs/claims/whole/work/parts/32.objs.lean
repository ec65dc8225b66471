/-- what arraycopy asks of rows of int -/
abbrev am_cp (S : am_S) (src sp dst dp n : Int) : Prop := (0 ≤ n ∧ 0 ≤ sp ∧ 0 ≤ dp) ∧ (0 ≤ src ∧ src < 1000000 ∧ 0 ≤ dst ∧ dst < 1000000) ∧ src ≠ dst ∧ ∃ c1 n1 c2 n2, S[src.toNat]? = some (1, c1, n1) ∧ S[dst.toNat]? = some (1, c2, n2) ∧ sp + n ≤ (n1 : Int) ∧ dp + n ≤ (n2 : Int)
/-! the cells behind the constructors (printed) -/
set_option maxRecDepth 4000
theorem ob_0 : am_ob sh_T 11 0 := ⟨by decide, by decide, 18, by rfl⟩
theorem ob_1 : am_ob sh_T 9 1 := ⟨by decide, by decide, 8, by rfl⟩
theorem al_2 : am_len pg sh_T 1 2 = 1600 := by rfl
theorem ia_2 {i : Int} (h1 : 0 ≤ i) (h2 : i < 1600) : am_in pg sh_T 1 2 i := ⟨h1, by rw [al_2]; exact h2⟩
theorem ow_2 {i : Int} (h1 : 0 ≤ i) (h2 : i < 1600) : am_own sh_T 1 2 i := ⟨by decide, by decide, h1, 0, 1600, by rfl, h2⟩
theorem ob_3 : am_ob sh_T 8 3 := ⟨by decide, by decide, 3, by rfl⟩
theorem ob_4 : am_ob sh_T 3 4 := ⟨by decide, by decide, 2, by rfl⟩
theorem ob_5 : am_ob sh_T 5 5 := ⟨by decide, by decide, 4, by rfl⟩
theorem ob_6 : am_ob sh_T 6 6 := ⟨by decide, by decide, 6, by rfl⟩
theorem al_7 : am_len pg sh_T 1 7 = 1600 := by rfl
theorem ia_7 {i : Int} (h1 : 0 ≤ i) (h2 : i < 1600) : am_in pg sh_T 1 7 i := ⟨h1, by rw [al_7]; exact h2⟩
theorem ow_7 {i : Int} (h1 : 0 ≤ i) (h2 : i < 1600) : am_own sh_T 1 7 i := ⟨by decide, by decide, h1, 0, 1600, by rfl, h2⟩
theorem al_8 : am_len pg sh_T 1 8 = 64 := by rfl
theorem ia_8 {i : Int} (h1 : 0 ≤ i) (h2 : i < 64) : am_in pg sh_T 1 8 i := ⟨h1, by rw [al_8]; exact h2⟩
theorem ow_8 {i : Int} (h1 : 0 ≤ i) (h2 : i < 64) : am_own sh_T 1 8 i := ⟨by decide, by decide, h1, 0, 64, by rfl, h2⟩
theorem al_9 : am_len pg sh_T 1 9 = 7 := by rfl
theorem ia_9 {i : Int} (h1 : 0 ≤ i) (h2 : i < 7) : am_in pg sh_T 1 9 i := ⟨h1, by rw [al_9]; exact h2⟩
theorem ow_9 {i : Int} (h1 : 0 ≤ i) (h2 : i < 7) : am_own sh_T 1 9 i := ⟨by decide, by decide, h1, 0, 7, by rfl, h2⟩
theorem al_10 : am_len pg sh_T 1 10 = 6 := by rfl
theorem ia_10 {i : Int} (h1 : 0 ≤ i) (h2 : i < 6) : am_in pg sh_T 1 10 i := ⟨h1, by rw [al_10]; exact h2⟩
theorem ow_10 {i : Int} (h1 : 0 ≤ i) (h2 : i < 6) : am_own sh_T 1 10 i := ⟨by decide, by decide, h1, 0, 6, by rfl, h2⟩
theorem ob_11 : am_ob sh_T 2 11 := ⟨by decide, by decide, 11, by rfl⟩
theorem al_12 : am_len pg sh_T 1 12 = 84 := by rfl
theorem ia_12 {i : Int} (h1 : 0 ≤ i) (h2 : i < 84) : am_in pg sh_T 1 12 i := ⟨h1, by rw [al_12]; exact h2⟩
theorem ow_12 {i : Int} (h1 : 0 ≤ i) (h2 : i < 84) : am_own sh_T 1 12 i := ⟨by decide, by decide, h1, 0, 84, by rfl, h2⟩
theorem al_13 : am_len pg sh_T 1 13 = 3 := by rfl
theorem ia_13 {i : Int} (h1 : 0 ≤ i) (h2 : i < 3) : am_in pg sh_T 1 13 i := ⟨h1, by rw [al_13]; exact h2⟩
theorem ow_13 {i : Int} (h1 : 0 ≤ i) (h2 : i < 3) : am_own sh_T 1 13 i := ⟨by decide, by decide, h1, 0, 3, by rfl, h2⟩
theorem al_14 : am_len pg sh_T 1 14 = 4 := by rfl
theorem ia_14 {i : Int} (h1 : 0 ≤ i) (h2 : i < 4) : am_in pg sh_T 1 14 i := ⟨h1, by rw [al_14]; exact h2⟩
theorem ow_14 {i : Int} (h1 : 0 ≤ i) (h2 : i < 4) : am_own sh_T 1 14 i := ⟨by decide, by decide, h1, 0, 4, by rfl, h2⟩
theorem al_15 : am_len pg sh_T 1 15 = 24 := by rfl
theorem ia_15 {i : Int} (h1 : 0 ≤ i) (h2 : i < 24) : am_in pg sh_T 1 15 i := ⟨h1, by rw [al_15]; exact h2⟩
theorem ow_15 {i : Int} (h1 : 0 ≤ i) (h2 : i < 24) : am_own sh_T 1 15 i := ⟨by decide, by decide, h1, 0, 24, by rfl, h2⟩
theorem al_16 : am_len pg sh_T 1 16 = 4 := by rfl
theorem ia_16 {i : Int} (h1 : 0 ≤ i) (h2 : i < 4) : am_in pg sh_T 1 16 i := ⟨h1, by rw [al_16]; exact h2⟩
theorem ow_16 {i : Int} (h1 : 0 ≤ i) (h2 : i < 4) : am_own sh_T 1 16 i := ⟨by decide, by decide, h1, 0, 4, by rfl, h2⟩
theorem ob_17 : am_ob sh_T 6 17 := ⟨by decide, by decide, 6, by rfl⟩
theorem al_18 : am_len pg sh_T 1 18 = 1600 := by rfl
theorem ia_18 {i : Int} (h1 : 0 ≤ i) (h2 : i < 1600) : am_in pg sh_T 1 18 i := ⟨h1, by rw [al_18]; exact h2⟩
theorem ow_18 {i : Int} (h1 : 0 ≤ i) (h2 : i < 1600) : am_own sh_T 1 18 i := ⟨by decide, by decide, h1, 0, 1600, by rfl, h2⟩
theorem al_19 : am_len pg sh_T 1 19 = 64 := by rfl
theorem ia_19 {i : Int} (h1 : 0 ≤ i) (h2 : i < 64) : am_in pg sh_T 1 19 i := ⟨h1, by rw [al_19]; exact h2⟩
theorem ow_19 {i : Int} (h1 : 0 ≤ i) (h2 : i < 64) : am_own sh_T 1 19 i := ⟨by decide, by decide, h1, 0, 64, by rfl, h2⟩
theorem al_20 : am_len pg sh_T 1 20 = 7 := by rfl
theorem ia_20 {i : Int} (h1 : 0 ≤ i) (h2 : i < 7) : am_in pg sh_T 1 20 i := ⟨h1, by rw [al_20]; exact h2⟩
theorem ow_20 {i : Int} (h1 : 0 ≤ i) (h2 : i < 7) : am_own sh_T 1 20 i := ⟨by decide, by decide, h1, 0, 7, by rfl, h2⟩
theorem al_21 : am_len pg sh_T 1 21 = 6 := by rfl
theorem ia_21 {i : Int} (h1 : 0 ≤ i) (h2 : i < 6) : am_in pg sh_T 1 21 i := ⟨h1, by rw [al_21]; exact h2⟩
theorem ow_21 {i : Int} (h1 : 0 ≤ i) (h2 : i < 6) : am_own sh_T 1 21 i := ⟨by decide, by decide, h1, 0, 6, by rfl, h2⟩
theorem al_22 : am_len pg sh_T 1 22 = 3 := by rfl
theorem ia_22 {i : Int} (h1 : 0 ≤ i) (h2 : i < 3) : am_in pg sh_T 1 22 i := ⟨h1, by rw [al_22]; exact h2⟩
theorem ow_22 {i : Int} (h1 : 0 ≤ i) (h2 : i < 3) : am_own sh_T 1 22 i := ⟨by decide, by decide, h1, 0, 3, by rfl, h2⟩
theorem al_23 : am_len pg sh_T 1 23 = 3 := by rfl
theorem ia_23 {i : Int} (h1 : 0 ≤ i) (h2 : i < 3) : am_in pg sh_T 1 23 i := ⟨h1, by rw [al_23]; exact h2⟩
theorem ow_23 {i : Int} (h1 : 0 ≤ i) (h2 : i < 3) : am_own sh_T 1 23 i := ⟨by decide, by decide, h1, 0, 3, by rfl, h2⟩
theorem ob_24 : am_ob sh_T 2 24 := ⟨by decide, by decide, 11, by rfl⟩
theorem al_25 : am_len pg sh_T 1 25 = 84 := by rfl
theorem ia_25 {i : Int} (h1 : 0 ≤ i) (h2 : i < 84) : am_in pg sh_T 1 25 i := ⟨h1, by rw [al_25]; exact h2⟩
theorem ow_25 {i : Int} (h1 : 0 ≤ i) (h2 : i < 84) : am_own sh_T 1 25 i := ⟨by decide, by decide, h1, 0, 84, by rfl, h2⟩
theorem al_26 : am_len pg sh_T 1 26 = 3 := by rfl
theorem ia_26 {i : Int} (h1 : 0 ≤ i) (h2 : i < 3) : am_in pg sh_T 1 26 i := ⟨h1, by rw [al_26]; exact h2⟩
theorem ow_26 {i : Int} (h1 : 0 ≤ i) (h2 : i < 3) : am_own sh_T 1 26 i := ⟨by decide, by decide, h1, 0, 3, by rfl, h2⟩
theorem al_27 : am_len pg sh_T 1 27 = 4 := by rfl
theorem ia_27 {i : Int} (h1 : 0 ≤ i) (h2 : i < 4) : am_in pg sh_T 1 27 i := ⟨h1, by rw [al_27]; exact h2⟩
theorem ow_27 {i : Int} (h1 : 0 ≤ i) (h2 : i < 4) : am_own sh_T 1 27 i := ⟨by decide, by decide, h1, 0, 4, by rfl, h2⟩
theorem al_28 : am_len pg sh_T 1 28 = 24 := by rfl
theorem ia_28 {i : Int} (h1 : 0 ≤ i) (h2 : i < 24) : am_in pg sh_T 1 28 i := ⟨h1, by rw [al_28]; exact h2⟩
theorem ow_28 {i : Int} (h1 : 0 ≤ i) (h2 : i < 24) : am_own sh_T 1 28 i := ⟨by decide, by decide, h1, 0, 24, by rfl, h2⟩
theorem al_29 : am_len pg sh_T 1 29 = 4 := by rfl
theorem ia_29 {i : Int} (h1 : 0 ≤ i) (h2 : i < 4) : am_in pg sh_T 1 29 i := ⟨h1, by rw [al_29]; exact h2⟩
theorem ow_29 {i : Int} (h1 : 0 ≤ i) (h2 : i < 4) : am_own sh_T 1 29 i := ⟨by decide, by decide, h1, 0, 4, by rfl, h2⟩
theorem ob_30 : am_ob sh_T 6 30 := ⟨by decide, by decide, 6, by rfl⟩
theorem al_31 : am_len pg sh_T 1 31 = 1600 := by rfl
theorem ia_31 {i : Int} (h1 : 0 ≤ i) (h2 : i < 1600) : am_in pg sh_T 1 31 i := ⟨h1, by rw [al_31]; exact h2⟩
theorem ow_31 {i : Int} (h1 : 0 ≤ i) (h2 : i < 1600) : am_own sh_T 1 31 i := ⟨by decide, by decide, h1, 0, 1600, by rfl, h2⟩
theorem al_32 : am_len pg sh_T 1 32 = 64 := by rfl
theorem ia_32 {i : Int} (h1 : 0 ≤ i) (h2 : i < 64) : am_in pg sh_T 1 32 i := ⟨h1, by rw [al_32]; exact h2⟩
theorem ow_32 {i : Int} (h1 : 0 ≤ i) (h2 : i < 64) : am_own sh_T 1 32 i := ⟨by decide, by decide, h1, 0, 64, by rfl, h2⟩
theorem al_33 : am_len pg sh_T 1 33 = 7 := by rfl
theorem ia_33 {i : Int} (h1 : 0 ≤ i) (h2 : i < 7) : am_in pg sh_T 1 33 i := ⟨h1, by rw [al_33]; exact h2⟩
theorem ow_33 {i : Int} (h1 : 0 ≤ i) (h2 : i < 7) : am_own sh_T 1 33 i := ⟨by decide, by decide, h1, 0, 7, by rfl, h2⟩
theorem al_34 : am_len pg sh_T 1 34 = 6 := by rfl
theorem ia_34 {i : Int} (h1 : 0 ≤ i) (h2 : i < 6) : am_in pg sh_T 1 34 i := ⟨h1, by rw [al_34]; exact h2⟩
theorem ow_34 {i : Int} (h1 : 0 ≤ i) (h2 : i < 6) : am_own sh_T 1 34 i := ⟨by decide, by decide, h1, 0, 6, by rfl, h2⟩
theorem al_35 : am_len pg sh_T 1 35 = 3 := by rfl
theorem ia_35 {i : Int} (h1 : 0 ≤ i) (h2 : i < 3) : am_in pg sh_T 1 35 i := ⟨h1, by rw [al_35]; exact h2⟩
theorem ow_35 {i : Int} (h1 : 0 ≤ i) (h2 : i < 3) : am_own sh_T 1 35 i := ⟨by decide, by decide, h1, 0, 3, by rfl, h2⟩
theorem al_36 : am_len pg sh_T 1 36 = 3 := by rfl
theorem ia_36 {i : Int} (h1 : 0 ≤ i) (h2 : i < 3) : am_in pg sh_T 1 36 i := ⟨h1, by rw [al_36]; exact h2⟩
theorem ow_36 {i : Int} (h1 : 0 ≤ i) (h2 : i < 3) : am_own sh_T 1 36 i := ⟨by decide, by decide, h1, 0, 3, by rfl, h2⟩
theorem al_37 : am_len pg sh_T 4 37 = 4 := by rfl
theorem ia_37 {i : Int} (h1 : 0 ≤ i) (h2 : i < 4) : am_in pg sh_T 4 37 i := ⟨h1, by rw [al_37]; exact h2⟩
theorem ob_38 : am_ob sh_T 7 38 := ⟨by decide, by decide, 3, by rfl⟩
theorem al_39 : am_len pg sh_T 1 39 = 6 := by rfl
theorem ia_39 {i : Int} (h1 : 0 ≤ i) (h2 : i < 6) : am_in pg sh_T 1 39 i := ⟨h1, by rw [al_39]; exact h2⟩
theorem ow_39 {i : Int} (h1 : 0 ≤ i) (h2 : i < 6) : am_own sh_T 1 39 i := ⟨by decide, by decide, h1, 0, 6, by rfl, h2⟩
theorem ob_40 : am_ob sh_T 7 40 := ⟨by decide, by decide, 3, by rfl⟩
theorem al_41 : am_len pg sh_T 1 41 = 6 := by rfl
theorem ia_41 {i : Int} (h1 : 0 ≤ i) (h2 : i < 6) : am_in pg sh_T 1 41 i := ⟨h1, by rw [al_41]; exact h2⟩
theorem ow_41 {i : Int} (h1 : 0 ≤ i) (h2 : i < 6) : am_own sh_T 1 41 i := ⟨by decide, by decide, h1, 0, 6, by rfl, h2⟩
theorem ob_42 : am_ob sh_T 7 42 := ⟨by decide, by decide, 3, by rfl⟩
theorem al_43 : am_len pg sh_T 1 43 = 6 := by rfl
theorem ia_43 {i : Int} (h1 : 0 ≤ i) (h2 : i < 6) : am_in pg sh_T 1 43 i := ⟨h1, by rw [al_43]; exact h2⟩
theorem ow_43 {i : Int} (h1 : 0 ≤ i) (h2 : i < 6) : am_own sh_T 1 43 i := ⟨by decide, by decide, h1, 0, 6, by rfl, h2⟩
theorem ob_44 : am_ob sh_T 7 44 := ⟨by decide, by decide, 3, by rfl⟩
theorem al_45 : am_len pg sh_T 1 45 = 6 := by rfl
theorem ia_45 {i : Int} (h1 : 0 ≤ i) (h2 : i < 6) : am_in pg sh_T 1 45 i := ⟨h1, by rw [al_45]; exact h2⟩
theorem ow_45 {i : Int} (h1 : 0 ≤ i) (h2 : i < 6) : am_own sh_T 1 45 i := ⟨by decide, by decide, h1, 0, 6, by rfl, h2⟩
theorem ob_46 : am_ob sh_T 0 46 := ⟨by decide, by decide, 3, by rfl⟩
theorem al_47 : am_len pg sh_T 4 47 = 20 := by rfl
theorem ia_47 {i : Int} (h1 : 0 ≤ i) (h2 : i < 20) : am_in pg sh_T 4 47 i := ⟨h1, by rw [al_47]; exact h2⟩
theorem ob_48 : am_ob sh_T 7 48 := ⟨by decide, by decide, 3, by rfl⟩
theorem al_49 : am_len pg sh_T 1 49 = 6 := by rfl
theorem ia_49 {i : Int} (h1 : 0 ≤ i) (h2 : i < 6) : am_in pg sh_T 1 49 i := ⟨h1, by rw [al_49]; exact h2⟩
theorem ow_49 {i : Int} (h1 : 0 ≤ i) (h2 : i < 6) : am_own sh_T 1 49 i := ⟨by decide, by decide, h1, 0, 6, by rfl, h2⟩
theorem ob_50 : am_ob sh_T 7 50 := ⟨by decide, by decide, 3, by rfl⟩
theorem al_51 : am_len pg sh_T 1 51 = 6 := by rfl
theorem ia_51 {i : Int} (h1 : 0 ≤ i) (h2 : i < 6) : am_in pg sh_T 1 51 i := ⟨h1, by rw [al_51]; exact h2⟩
theorem ow_51 {i : Int} (h1 : 0 ≤ i) (h2 : i < 6) : am_own sh_T 1 51 i := ⟨by decide, by decide, h1, 0, 6, by rfl, h2⟩
theorem ob_52 : am_ob sh_T 7 52 := ⟨by decide, by decide, 3, by rfl⟩
theorem al_53 : am_len pg sh_T 1 53 = 6 := by rfl
theorem ia_53 {i : Int} (h1 : 0 ≤ i) (h2 : i < 6) : am_in pg sh_T 1 53 i := ⟨h1, by rw [al_53]; exact h2⟩
theorem ow_53 {i : Int} (h1 : 0 ≤ i) (h2 : i < 6) : am_own sh_T 1 53 i := ⟨by decide, by decide, h1, 0, 6, by rfl, h2⟩
theorem ob_54 : am_ob sh_T 7 54 := ⟨by decide, by decide, 3, by rfl⟩
theorem al_55 : am_len pg sh_T 1 55 = 6 := by rfl
theorem ia_55 {i : Int} (h1 : 0 ≤ i) (h2 : i < 6) : am_in pg sh_T 1 55 i := ⟨h1, by rw [al_55]; exact h2⟩
theorem ow_55 {i : Int} (h1 : 0 ≤ i) (h2 : i < 6) : am_own sh_T 1 55 i := ⟨by decide, by decide, h1, 0, 6, by rfl, h2⟩
theorem ob_56 : am_ob sh_T 7 56 := ⟨by decide, by decide, 3, by rfl⟩
theorem al_57 : am_len pg sh_T 1 57 = 6 := by rfl
theorem ia_57 {i : Int} (h1 : 0 ≤ i) (h2 : i < 6) : am_in pg sh_T 1 57 i := ⟨h1, by rw [al_57]; exact h2⟩
theorem ow_57 {i : Int} (h1 : 0 ≤ i) (h2 : i < 6) : am_own sh_T 1 57 i := ⟨by decide, by decide, h1, 0, 6, by rfl, h2⟩
theorem ob_58 : am_ob sh_T 7 58 := ⟨by decide, by decide, 3, by rfl⟩
theorem al_59 : am_len pg sh_T 1 59 = 6 := by rfl
theorem ia_59 {i : Int} (h1 : 0 ≤ i) (h2 : i < 6) : am_in pg sh_T 1 59 i := ⟨h1, by rw [al_59]; exact h2⟩
theorem ow_59 {i : Int} (h1 : 0 ≤ i) (h2 : i < 6) : am_own sh_T 1 59 i := ⟨by decide, by decide, h1, 0, 6, by rfl, h2⟩
theorem ob_60 : am_ob sh_T 7 60 := ⟨by decide, by decide, 3, by rfl⟩
theorem al_61 : am_len pg sh_T 1 61 = 6 := by rfl
theorem ia_61 {i : Int} (h1 : 0 ≤ i) (h2 : i < 6) : am_in pg sh_T 1 61 i := ⟨h1, by rw [al_61]; exact h2⟩
theorem ow_61 {i : Int} (h1 : 0 ≤ i) (h2 : i < 6) : am_own sh_T 1 61 i := ⟨by decide, by decide, h1, 0, 6, by rfl, h2⟩
theorem ob_62 : am_ob sh_T 7 62 := ⟨by decide, by decide, 3, by rfl⟩
theorem al_63 : am_len pg sh_T 1 63 = 6 := by rfl
theorem ia_63 {i : Int} (h1 : 0 ≤ i) (h2 : i < 6) : am_in pg sh_T 1 63 i := ⟨h1, by rw [al_63]; exact h2⟩
theorem ow_63 {i : Int} (h1 : 0 ≤ i) (h2 : i < 6) : am_own sh_T 1 63 i := ⟨by decide, by decide, h1, 0, 6, by rfl, h2⟩
theorem ob_64 : am_ob sh_T 7 64 := ⟨by decide, by decide, 3, by rfl⟩
theorem al_65 : am_len pg sh_T 1 65 = 6 := by rfl
theorem ia_65 {i : Int} (h1 : 0 ≤ i) (h2 : i < 6) : am_in pg sh_T 1 65 i := ⟨h1, by rw [al_65]; exact h2⟩
theorem ow_65 {i : Int} (h1 : 0 ≤ i) (h2 : i < 6) : am_own sh_T 1 65 i := ⟨by decide, by decide, h1, 0, 6, by rfl, h2⟩
theorem ob_66 : am_ob sh_T 7 66 := ⟨by decide, by decide, 3, by rfl⟩
theorem al_67 : am_len pg sh_T 1 67 = 6 := by rfl
theorem ia_67 {i : Int} (h1 : 0 ≤ i) (h2 : i < 6) : am_in pg sh_T 1 67 i := ⟨h1, by rw [al_67]; exact h2⟩
theorem ow_67 {i : Int} (h1 : 0 ≤ i) (h2 : i < 6) : am_own sh_T 1 67 i := ⟨by decide, by decide, h1, 0, 6, by rfl, h2⟩
theorem ob_68 : am_ob sh_T 7 68 := ⟨by decide, by decide, 3, by rfl⟩
theorem al_69 : am_len pg sh_T 1 69 = 6 := by rfl
theorem ia_69 {i : Int} (h1 : 0 ≤ i) (h2 : i < 6) : am_in pg sh_T 1 69 i := ⟨h1, by rw [al_69]; exact h2⟩
theorem ow_69 {i : Int} (h1 : 0 ≤ i) (h2 : i < 6) : am_own sh_T 1 69 i := ⟨by decide, by decide, h1, 0, 6, by rfl, h2⟩
theorem ob_70 : am_ob sh_T 7 70 := ⟨by decide, by decide, 3, by rfl⟩
theorem al_71 : am_len pg sh_T 1 71 = 6 := by rfl
theorem ia_71 {i : Int} (h1 : 0 ≤ i) (h2 : i < 6) : am_in pg sh_T 1 71 i := ⟨h1, by rw [al_71]; exact h2⟩
theorem ow_71 {i : Int} (h1 : 0 ≤ i) (h2 : i < 6) : am_own sh_T 1 71 i := ⟨by decide, by decide, h1, 0, 6, by rfl, h2⟩
theorem ob_72 : am_ob sh_T 7 72 := ⟨by decide, by decide, 3, by rfl⟩
theorem al_73 : am_len pg sh_T 1 73 = 6 := by rfl
theorem ia_73 {i : Int} (h1 : 0 ≤ i) (h2 : i < 6) : am_in pg sh_T 1 73 i := ⟨h1, by rw [al_73]; exact h2⟩
theorem ow_73 {i : Int} (h1 : 0 ≤ i) (h2 : i < 6) : am_own sh_T 1 73 i := ⟨by decide, by decide, h1, 0, 6, by rfl, h2⟩
theorem ob_74 : am_ob sh_T 7 74 := ⟨by decide, by decide, 3, by rfl⟩
theorem al_75 : am_len pg sh_T 1 75 = 6 := by rfl
theorem ia_75 {i : Int} (h1 : 0 ≤ i) (h2 : i < 6) : am_in pg sh_T 1 75 i := ⟨h1, by rw [al_75]; exact h2⟩
theorem ow_75 {i : Int} (h1 : 0 ≤ i) (h2 : i < 6) : am_own sh_T 1 75 i := ⟨by decide, by decide, h1, 0, 6, by rfl, h2⟩
theorem ob_76 : am_ob sh_T 7 76 := ⟨by decide, by decide, 3, by rfl⟩
theorem al_77 : am_len pg sh_T 1 77 = 6 := by rfl
theorem ia_77 {i : Int} (h1 : 0 ≤ i) (h2 : i < 6) : am_in pg sh_T 1 77 i := ⟨h1, by rw [al_77]; exact h2⟩
theorem ow_77 {i : Int} (h1 : 0 ≤ i) (h2 : i < 6) : am_own sh_T 1 77 i := ⟨by decide, by decide, h1, 0, 6, by rfl, h2⟩
theorem ob_78 : am_ob sh_T 7 78 := ⟨by decide, by decide, 3, by rfl⟩
theorem al_79 : am_len pg sh_T 1 79 = 6 := by rfl
theorem ia_79 {i : Int} (h1 : 0 ≤ i) (h2 : i < 6) : am_in pg sh_T 1 79 i := ⟨h1, by rw [al_79]; exact h2⟩
theorem ow_79 {i : Int} (h1 : 0 ≤ i) (h2 : i < 6) : am_own sh_T 1 79 i := ⟨by decide, by decide, h1, 0, 6, by rfl, h2⟩
theorem ob_80 : am_ob sh_T 7 80 := ⟨by decide, by decide, 3, by rfl⟩
theorem al_81 : am_len pg sh_T 1 81 = 6 := by rfl
theorem ia_81 {i : Int} (h1 : 0 ≤ i) (h2 : i < 6) : am_in pg sh_T 1 81 i := ⟨h1, by rw [al_81]; exact h2⟩
theorem ow_81 {i : Int} (h1 : 0 ≤ i) (h2 : i < 6) : am_own sh_T 1 81 i := ⟨by decide, by decide, h1, 0, 6, by rfl, h2⟩
theorem ob_82 : am_ob sh_T 7 82 := ⟨by decide, by decide, 3, by rfl⟩
theorem al_83 : am_len pg sh_T 1 83 = 6 := by rfl
theorem ia_83 {i : Int} (h1 : 0 ≤ i) (h2 : i < 6) : am_in pg sh_T 1 83 i := ⟨h1, by rw [al_83]; exact h2⟩
theorem ow_83 {i : Int} (h1 : 0 ≤ i) (h2 : i < 6) : am_own sh_T 1 83 i := ⟨by decide, by decide, h1, 0, 6, by rfl, h2⟩
theorem ob_84 : am_ob sh_T 7 84 := ⟨by decide, by decide, 3, by rfl⟩
theorem al_85 : am_len pg sh_T 1 85 = 6 := by rfl
theorem ia_85 {i : Int} (h1 : 0 ≤ i) (h2 : i < 6) : am_in pg sh_T 1 85 i := ⟨h1, by rw [al_85]; exact h2⟩
theorem ow_85 {i : Int} (h1 : 0 ≤ i) (h2 : i < 6) : am_own sh_T 1 85 i := ⟨by decide, by decide, h1, 0, 6, by rfl, h2⟩
theorem ob_86 : am_ob sh_T 7 86 := ⟨by decide, by decide, 3, by rfl⟩
theorem al_87 : am_len pg sh_T 1 87 = 6 := by rfl
theorem ia_87 {i : Int} (h1 : 0 ≤ i) (h2 : i < 6) : am_in pg sh_T 1 87 i := ⟨h1, by rw [al_87]; exact h2⟩
theorem ow_87 {i : Int} (h1 : 0 ≤ i) (h2 : i < 6) : am_own sh_T 1 87 i := ⟨by decide, by decide, h1, 0, 6, by rfl, h2⟩
theorem ob_88 : am_ob sh_T 1 88 := ⟨by decide, by decide, 6, by rfl⟩
theorem al_89 : am_len pg sh_T 1 89 = 1206 := by rfl
theorem ia_89 {i : Int} (h1 : 0 ≤ i) (h2 : i < 1206) : am_in pg sh_T 1 89 i := ⟨h1, by rw [al_89]; exact h2⟩
theorem ow_89 {i : Int} (h1 : 0 ≤ i) (h2 : i < 1206) : am_own sh_T 1 89 i := ⟨by decide, by decide, h1, 0, 1206, by rfl, h2⟩
theorem al_90 : am_len pg sh_T 1 90 = 200 := by rfl
theorem ia_90 {i : Int} (h1 : 0 ≤ i) (h2 : i < 200) : am_in pg sh_T 1 90 i := ⟨h1, by rw [al_90]; exact h2⟩
theorem ow_90 {i : Int} (h1 : 0 ≤ i) (h2 : i < 200) : am_own sh_T 1 90 i := ⟨by decide, by decide, h1, 0, 200, by rfl, h2⟩
theorem ob_91 : am_ob sh_T 7 91 := ⟨by decide, by decide, 3, by rfl⟩
theorem al_92 : am_len pg sh_T 1 92 = 6 := by rfl
theorem ia_92 {i : Int} (h1 : 0 ≤ i) (h2 : i < 6) : am_in pg sh_T 1 92 i := ⟨h1, by rw [al_92]; exact h2⟩
theorem ow_92 {i : Int} (h1 : 0 ≤ i) (h2 : i < 6) : am_own sh_T 1 92 i := ⟨by decide, by decide, h1, 0, 6, by rfl, h2⟩
theorem ob_93 : am_ob sh_T 7 93 := ⟨by decide, by decide, 3, by rfl⟩
theorem al_94 : am_len pg sh_T 1 94 = 6 := by rfl
theorem ia_94 {i : Int} (h1 : 0 ≤ i) (h2 : i < 6) : am_in pg sh_T 1 94 i := ⟨h1, by rw [al_94]; exact h2⟩
theorem ow_94 {i : Int} (h1 : 0 ≤ i) (h2 : i < 6) : am_own sh_T 1 94 i := ⟨by decide, by decide, h1, 0, 6, by rfl, h2⟩
theorem ob_95 : am_ob sh_T 10 95 := ⟨by decide, by decide, 13, by rfl⟩
theorem al_96 : am_len pg sh_T 4 96 = 11 := by rfl
theorem ia_96 {i : Int} (h1 : 0 ≤ i) (h2 : i < 11) : am_in pg sh_T 4 96 i := ⟨h1, by rw [al_96]; exact h2⟩
theorem ob_97 : am_ob sh_T 7 97 := ⟨by decide, by decide, 3, by rfl⟩
theorem al_98 : am_len pg sh_T 1 98 = 6 := by rfl
theorem ia_98 {i : Int} (h1 : 0 ≤ i) (h2 : i < 6) : am_in pg sh_T 1 98 i := ⟨h1, by rw [al_98]; exact h2⟩
theorem ow_98 {i : Int} (h1 : 0 ≤ i) (h2 : i < 6) : am_own sh_T 1 98 i := ⟨by decide, by decide, h1, 0, 6, by rfl, h2⟩
theorem ob_99 : am_ob sh_T 7 99 := ⟨by decide, by decide, 3, by rfl⟩
theorem al_100 : am_len pg sh_T 1 100 = 6 := by rfl
theorem ia_100 {i : Int} (h1 : 0 ≤ i) (h2 : i < 6) : am_in pg sh_T 1 100 i := ⟨h1, by rw [al_100]; exact h2⟩
theorem ow_100 {i : Int} (h1 : 0 ≤ i) (h2 : i < 6) : am_own sh_T 1 100 i := ⟨by decide, by decide, h1, 0, 6, by rfl, h2⟩
theorem ob_101 : am_ob sh_T 7 101 := ⟨by decide, by decide, 3, by rfl⟩
theorem al_102 : am_len pg sh_T 1 102 = 6 := by rfl
theorem ia_102 {i : Int} (h1 : 0 ≤ i) (h2 : i < 6) : am_in pg sh_T 1 102 i := ⟨h1, by rw [al_102]; exact h2⟩
theorem ow_102 {i : Int} (h1 : 0 ≤ i) (h2 : i < 6) : am_own sh_T 1 102 i := ⟨by decide, by decide, h1, 0, 6, by rfl, h2⟩
theorem ob_103 : am_ob sh_T 7 103 := ⟨by decide, by decide, 3, by rfl⟩
theorem al_104 : am_len pg sh_T 1 104 = 6 := by rfl
theorem ia_104 {i : Int} (h1 : 0 ≤ i) (h2 : i < 6) : am_in pg sh_T 1 104 i := ⟨h1, by rw [al_104]; exact h2⟩
theorem ow_104 {i : Int} (h1 : 0 ≤ i) (h2 : i < 6) : am_own sh_T 1 104 i := ⟨by decide, by decide, h1, 0, 6, by rfl, h2⟩
theorem ob_105 : am_ob sh_T 7 105 := ⟨by decide, by decide, 3, by rfl⟩
theorem al_106 : am_len pg sh_T 1 106 = 6 := by rfl
theorem ia_106 {i : Int} (h1 : 0 ≤ i) (h2 : i < 6) : am_in pg sh_T 1 106 i := ⟨h1, by rw [al_106]; exact h2⟩
theorem ow_106 {i : Int} (h1 : 0 ≤ i) (h2 : i < 6) : am_own sh_T 1 106 i := ⟨by decide, by decide, h1, 0, 6, by rfl, h2⟩
theorem ob_107 : am_ob sh_T 7 107 := ⟨by decide, by decide, 3, by rfl⟩
theorem al_108 : am_len pg sh_T 1 108 = 6 := by rfl
theorem ia_108 {i : Int} (h1 : 0 ≤ i) (h2 : i < 6) : am_in pg sh_T 1 108 i := ⟨h1, by rw [al_108]; exact h2⟩
theorem ow_108 {i : Int} (h1 : 0 ≤ i) (h2 : i < 6) : am_own sh_T 1 108 i := ⟨by decide, by decide, h1, 0, 6, by rfl, h2⟩
theorem ob_109 : am_ob sh_T 7 109 := ⟨by decide, by decide, 3, by rfl⟩
theorem al_110 : am_len pg sh_T 1 110 = 6 := by rfl
theorem ia_110 {i : Int} (h1 : 0 ≤ i) (h2 : i < 6) : am_in pg sh_T 1 110 i := ⟨h1, by rw [al_110]; exact h2⟩
theorem ow_110 {i : Int} (h1 : 0 ≤ i) (h2 : i < 6) : am_own sh_T 1 110 i := ⟨by decide, by decide, h1, 0, 6, by rfl, h2⟩
theorem ob_111 : am_ob sh_T 7 111 := ⟨by decide, by decide, 3, by rfl⟩
theorem al_112 : am_len pg sh_T 1 112 = 6 := by rfl
theorem ia_112 {i : Int} (h1 : 0 ≤ i) (h2 : i < 6) : am_in pg sh_T 1 112 i := ⟨h1, by rw [al_112]; exact h2⟩
theorem ow_112 {i : Int} (h1 : 0 ≤ i) (h2 : i < 6) : am_own sh_T 1 112 i := ⟨by decide, by decide, h1, 0, 6, by rfl, h2⟩
theorem ob_113 : am_ob sh_T 7 113 := ⟨by decide, by decide, 3, by rfl⟩
theorem al_114 : am_len pg sh_T 1 114 = 6 := by rfl
theorem ia_114 {i : Int} (h1 : 0 ≤ i) (h2 : i < 6) : am_in pg sh_T 1 114 i := ⟨h1, by rw [al_114]; exact h2⟩
theorem ow_114 {i : Int} (h1 : 0 ≤ i) (h2 : i < 6) : am_own sh_T 1 114 i := ⟨by decide, by decide, h1, 0, 6, by rfl, h2⟩
theorem ob_115 : am_ob sh_T 7 115 := ⟨by decide, by decide, 3, by rfl⟩
theorem al_116 : am_len pg sh_T 1 116 = 6 := by rfl
theorem ia_116 {i : Int} (h1 : 0 ≤ i) (h2 : i < 6) : am_in pg sh_T 1 116 i := ⟨h1, by rw [al_116]; exact h2⟩
theorem ow_116 {i : Int} (h1 : 0 ≤ i) (h2 : i < 6) : am_own sh_T 1 116 i := ⟨by decide, by decide, h1, 0, 6, by rfl, h2⟩
theorem ob_117 : am_ob sh_T 7 117 := ⟨by decide, by decide, 3, by rfl⟩
theorem al_118 : am_len pg sh_T 1 118 = 6 := by rfl
theorem ia_118 {i : Int} (h1 : 0 ≤ i) (h2 : i < 6) : am_in pg sh_T 1 118 i := ⟨h1, by rw [al_118]; exact h2⟩
theorem ow_118 {i : Int} (h1 : 0 ≤ i) (h2 : i < 6) : am_own sh_T 1 118 i := ⟨by decide, by decide, h1, 0, 6, by rfl, h2⟩
theorem al_119 : am_len pg sh_T 1 119 = 10 := by rfl
theorem ia_119 {i : Int} (h1 : 0 ≤ i) (h2 : i < 10) : am_in pg sh_T 1 119 i := ⟨h1, by rw [al_119]; exact h2⟩
theorem ow_119 {i : Int} (h1 : 0 ≤ i) (h2 : i < 10) : am_own sh_T 1 119 i := ⟨by decide, by decide, h1, 0, 10, by rfl, h2⟩
theorem al_120 : am_len pg sh_T 1 120 = 10 := by rfl
theorem ia_120 {i : Int} (h1 : 0 ≤ i) (h2 : i < 10) : am_in pg sh_T 1 120 i := ⟨h1, by rw [al_120]; exact h2⟩
theorem ow_120 {i : Int} (h1 : 0 ≤ i) (h2 : i < 10) : am_own sh_T 1 120 i := ⟨by decide, by decide, h1, 0, 10, by rfl, h2⟩
theorem ob_121 : am_ob sh_T 7 121 := ⟨by decide, by decide, 3, by rfl⟩
theorem al_122 : am_len pg sh_T 1 122 = 6 := by rfl
theorem ia_122 {i : Int} (h1 : 0 ≤ i) (h2 : i < 6) : am_in pg sh_T 1 122 i := ⟨h1, by rw [al_122]; exact h2⟩
theorem ow_122 {i : Int} (h1 : 0 ≤ i) (h2 : i < 6) : am_own sh_T 1 122 i := ⟨by decide, by decide, h1, 0, 6, by rfl, h2⟩
theorem ob_123 : am_ob sh_T 7 123 := ⟨by decide, by decide, 3, by rfl⟩
theorem al_124 : am_len pg sh_T 1 124 = 6 := by rfl
theorem ia_124 {i : Int} (h1 : 0 ≤ i) (h2 : i < 6) : am_in pg sh_T 1 124 i := ⟨h1, by rw [al_124]; exact h2⟩
theorem ow_124 {i : Int} (h1 : 0 ≤ i) (h2 : i < 6) : am_own sh_T 1 124 i := ⟨by decide, by decide, h1, 0, 6, by rfl, h2⟩
theorem al_125 : am_len pg sh_T 1 125 = 4 := by rfl
theorem ia_125 {i : Int} (h1 : 0 ≤ i) (h2 : i < 4) : am_in pg sh_T 1 125 i := ⟨h1, by rw [al_125]; exact h2⟩
theorem ow_125 {i : Int} (h1 : 0 ≤ i) (h2 : i < 4) : am_own sh_T 1 125 i := ⟨by decide, by decide, h1, 0, 4, by rfl, h2⟩
theorem al_126 : am_len pg sh_T 1 126 = 4 := by rfl
theorem ia_126 {i : Int} (h1 : 0 ≤ i) (h2 : i < 4) : am_in pg sh_T 1 126 i := ⟨h1, by rw [al_126]; exact h2⟩
theorem ow_126 {i : Int} (h1 : 0 ≤ i) (h2 : i < 4) : am_own sh_T 1 126 i := ⟨by decide, by decide, h1, 0, 4, by rfl, h2⟩
theorem al_127 : am_len pg sh_T 1 127 = 144 := by rfl
theorem ia_127 {i : Int} (h1 : 0 ≤ i) (h2 : i < 144) : am_in pg sh_T 1 127 i := ⟨h1, by rw [al_127]; exact h2⟩
theorem ow_127 {i : Int} (h1 : 0 ≤ i) (h2 : i < 144) : am_own sh_T 1 127 i := ⟨by decide, by decide, h1, 0, 144, by rfl, h2⟩
theorem ob_128 : am_ob sh_T 4 128 := ⟨by decide, by decide, 3, by rfl⟩
theorem al_129 : am_len pg sh_T 4 129 = 4 := by rfl
theorem ia_129 {i : Int} (h1 : 0 ≤ i) (h2 : i < 4) : am_in pg sh_T 4 129 i := ⟨h1, by rw [al_129]; exact h2⟩
theorem ob_130 : am_ob sh_T 7 130 := ⟨by decide, by decide, 3, by rfl⟩
theorem al_131 : am_len pg sh_T 1 131 = 6 := by rfl
theorem ia_131 {i : Int} (h1 : 0 ≤ i) (h2 : i < 6) : am_in pg sh_T 1 131 i := ⟨h1, by rw [al_131]; exact h2⟩
theorem ow_131 {i : Int} (h1 : 0 ≤ i) (h2 : i < 6) : am_own sh_T 1 131 i := ⟨by decide, by decide, h1, 0, 6, by rfl, h2⟩
theorem ob_132 : am_ob sh_T 7 132 := ⟨by decide, by decide, 3, by rfl⟩
theorem al_133 : am_len pg sh_T 1 133 = 6 := by rfl
theorem ia_133 {i : Int} (h1 : 0 ≤ i) (h2 : i < 6) : am_in pg sh_T 1 133 i := ⟨h1, by rw [al_133]; exact h2⟩
theorem ow_133 {i : Int} (h1 : 0 ≤ i) (h2 : i < 6) : am_own sh_T 1 133 i := ⟨by decide, by decide, h1, 0, 6, by rfl, h2⟩
theorem ob_134 : am_ob sh_T 7 134 := ⟨by decide, by decide, 3, by rfl⟩
theorem al_135 : am_len pg sh_T 1 135 = 6 := by rfl
theorem ia_135 {i : Int} (h1 : 0 ≤ i) (h2 : i < 6) : am_in pg sh_T 1 135 i := ⟨h1, by rw [al_135]; exact h2⟩
theorem ow_135 {i : Int} (h1 : 0 ≤ i) (h2 : i < 6) : am_own sh_T 1 135 i := ⟨by decide, by decide, h1, 0, 6, by rfl, h2⟩
theorem ob_136 : am_ob sh_T 7 136 := ⟨by decide, by decide, 3, by rfl⟩
theorem al_137 : am_len pg sh_T 1 137 = 6 := by rfl
theorem ia_137 {i : Int} (h1 : 0 ≤ i) (h2 : i < 6) : am_in pg sh_T 1 137 i := ⟨h1, by rw [al_137]; exact h2⟩
theorem ow_137 {i : Int} (h1 : 0 ≤ i) (h2 : i < 6) : am_own sh_T 1 137 i := ⟨by decide, by decide, h1, 0, 6, by rfl, h2⟩
theorem al_138 : am_len pg sh_T 4 138 = 4 := by rfl
theorem ia_138 {i : Int} (h1 : 0 ≤ i) (h2 : i < 4) : am_in pg sh_T 4 138 i := ⟨h1, by rw [al_138]; exact h2⟩
theorem ob_139 : am_ob sh_T 7 139 := ⟨by decide, by decide, 3, by rfl⟩
theorem al_140 : am_len pg sh_T 1 140 = 6 := by rfl
theorem ia_140 {i : Int} (h1 : 0 ≤ i) (h2 : i < 6) : am_in pg sh_T 1 140 i := ⟨h1, by rw [al_140]; exact h2⟩
theorem ow_140 {i : Int} (h1 : 0 ≤ i) (h2 : i < 6) : am_own sh_T 1 140 i := ⟨by decide, by decide, h1, 0, 6, by rfl, h2⟩
theorem ob_141 : am_ob sh_T 7 141 := ⟨by decide, by decide, 3, by rfl⟩
theorem al_142 : am_len pg sh_T 1 142 = 6 := by rfl
theorem ia_142 {i : Int} (h1 : 0 ≤ i) (h2 : i < 6) : am_in pg sh_T 1 142 i := ⟨h1, by rw [al_142]; exact h2⟩
theorem ow_142 {i : Int} (h1 : 0 ≤ i) (h2 : i < 6) : am_own sh_T 1 142 i := ⟨by decide, by decide, h1, 0, 6, by rfl, h2⟩
theorem ob_143 : am_ob sh_T 7 143 := ⟨by decide, by decide, 3, by rfl⟩
theorem al_144 : am_len pg sh_T 1 144 = 6 := by rfl
theorem ia_144 {i : Int} (h1 : 0 ≤ i) (h2 : i < 6) : am_in pg sh_T 1 144 i := ⟨h1, by rw [al_144]; exact h2⟩
theorem ow_144 {i : Int} (h1 : 0 ≤ i) (h2 : i < 6) : am_own sh_T 1 144 i := ⟨by decide, by decide, h1, 0, 6, by rfl, h2⟩
theorem ob_145 : am_ob sh_T 7 145 := ⟨by decide, by decide, 3, by rfl⟩
theorem al_146 : am_len pg sh_T 1 146 = 6 := by rfl
theorem ia_146 {i : Int} (h1 : 0 ≤ i) (h2 : i < 6) : am_in pg sh_T 1 146 i := ⟨h1, by rw [al_146]; exact h2⟩
theorem ow_146 {i : Int} (h1 : 0 ≤ i) (h2 : i < 6) : am_own sh_T 1 146 i := ⟨by decide, by decide, h1, 0, 6, by rfl, h2⟩
theorem ob_147 : am_ob sh_T 7 147 := ⟨by decide, by decide, 3, by rfl⟩
theorem al_148 : am_len pg sh_T 1 148 = 6 := by rfl
theorem ia_148 {i : Int} (h1 : 0 ≤ i) (h2 : i < 6) : am_in pg sh_T 1 148 i := ⟨h1, by rw [al_148]; exact h2⟩
theorem ow_148 {i : Int} (h1 : 0 ≤ i) (h2 : i < 6) : am_own sh_T 1 148 i := ⟨by decide, by decide, h1, 0, 6, by rfl, h2⟩
theorem al_149 : am_len pg sh_T 1 149 = 20 := by rfl
theorem ia_149 {i : Int} (h1 : 0 ≤ i) (h2 : i < 20) : am_in pg sh_T 1 149 i := ⟨h1, by rw [al_149]; exact h2⟩
theorem ow_149 {i : Int} (h1 : 0 ≤ i) (h2 : i < 20) : am_own sh_T 1 149 i := ⟨by decide, by decide, h1, 0, 20, by rfl, h2⟩
theorem al_150 : am_len pg sh_T 1 150 = 53 := by rfl
theorem ia_150 {i : Int} (h1 : 0 ≤ i) (h2 : i < 53) : am_in pg sh_T 1 150 i := ⟨h1, by rw [al_150]; exact h2⟩
theorem ow_150 {i : Int} (h1 : 0 ≤ i) (h2 : i < 53) : am_own sh_T 1 150 i := ⟨by decide, by decide, h1, 0, 53, by rfl, h2⟩
theorem al_151 : am_len pg sh_T 1 151 = 6 := by rfl
theorem ia_151 {i : Int} (h1 : 0 ≤ i) (h2 : i < 6) : am_in pg sh_T 1 151 i := ⟨h1, by rw [al_151]; exact h2⟩
theorem ow_151 {i : Int} (h1 : 0 ≤ i) (h2 : i < 6) : am_own sh_T 1 151 i := ⟨by decide, by decide, h1, 0, 6, by rfl, h2⟩
theorem ob_152 : am_ob sh_T 12 152 := ⟨by decide, by decide, 94, by rfl⟩
theorem al_153 : am_len pg sh_T 1 153 = 1600 := by rfl
theorem ia_153 {i : Int} (h1 : 0 ≤ i) (h2 : i < 1600) : am_in pg sh_T 1 153 i := ⟨h1, by rw [al_153]; exact h2⟩
theorem ow_153 {i : Int} (h1 : 0 ≤ i) (h2 : i < 1600) : am_own sh_T 1 153 i := ⟨by decide, by decide, h1, 0, 1600, by rfl, h2⟩
theorem al_154 : am_len pg sh_T 1 154 = 6 := by rfl
theorem ia_154 {i : Int} (h1 : 0 ≤ i) (h2 : i < 6) : am_in pg sh_T 1 154 i := ⟨h1, by rw [al_154]; exact h2⟩
theorem ow_154 {i : Int} (h1 : 0 ≤ i) (h2 : i < 6) : am_own sh_T 1 154 i := ⟨by decide, by decide, h1, 0, 6, by rfl, h2⟩
theorem al_155 : am_len pg sh_T 2 155 = 5 := by rfl
theorem ia_155 {i : Int} (h1 : 0 ≤ i) (h2 : i < 5) : am_in pg sh_T 2 155 i := ⟨h1, by rw [al_155]; exact h2⟩
theorem ow_155 {i : Int} (h1 : 0 ≤ i) (h2 : i < 5) : am_own sh_T 2 155 i := ⟨by decide, by decide, h1, 0, 5, by rfl, h2⟩
theorem al_156 : am_len pg sh_T 2 156 = 7 := by rfl
theorem ia_156 {i : Int} (h1 : 0 ≤ i) (h2 : i < 7) : am_in pg sh_T 2 156 i := ⟨h1, by rw [al_156]; exact h2⟩
theorem ow_156 {i : Int} (h1 : 0 ≤ i) (h2 : i < 7) : am_own sh_T 2 156 i := ⟨by decide, by decide, h1, 0, 7, by rfl, h2⟩
theorem al_157 : am_len pg sh_T 2 157 = 5 := by rfl
theorem ia_157 {i : Int} (h1 : 0 ≤ i) (h2 : i < 5) : am_in pg sh_T 2 157 i := ⟨h1, by rw [al_157]; exact h2⟩
theorem ow_157 {i : Int} (h1 : 0 ≤ i) (h2 : i < 5) : am_own sh_T 2 157 i := ⟨by decide, by decide, h1, 0, 5, by rfl, h2⟩
theorem al_158 : am_len pg sh_T 2 158 = 5 := by rfl
theorem ia_158 {i : Int} (h1 : 0 ≤ i) (h2 : i < 5) : am_in pg sh_T 2 158 i := ⟨h1, by rw [al_158]; exact h2⟩
theorem ow_158 {i : Int} (h1 : 0 ≤ i) (h2 : i < 5) : am_own sh_T 2 158 i := ⟨by decide, by decide, h1, 0, 5, by rfl, h2⟩
theorem al_159 : am_len pg sh_T 2 159 = 5 := by rfl
theorem ia_159 {i : Int} (h1 : 0 ≤ i) (h2 : i < 5) : am_in pg sh_T 2 159 i := ⟨h1, by rw [al_159]; exact h2⟩
theorem ow_159 {i : Int} (h1 : 0 ≤ i) (h2 : i < 5) : am_own sh_T 2 159 i := ⟨by decide, by decide, h1, 0, 5, by rfl, h2⟩
theorem al_160 : am_len pg sh_T 2 160 = 2 := by rfl
theorem ia_160 {i : Int} (h1 : 0 ≤ i) (h2 : i < 2) : am_in pg sh_T 2 160 i := ⟨h1, by rw [al_160]; exact h2⟩
theorem ow_160 {i : Int} (h1 : 0 ≤ i) (h2 : i < 2) : am_own sh_T 2 160 i := ⟨by decide, by decide, h1, 0, 2, by rfl, h2⟩
theorem al_161 : am_len pg sh_T 2 161 = 4 := by rfl
theorem ia_161 {i : Int} (h1 : 0 ≤ i) (h2 : i < 4) : am_in pg sh_T 2 161 i := ⟨h1, by rw [al_161]; exact h2⟩
theorem ow_161 {i : Int} (h1 : 0 ≤ i) (h2 : i < 4) : am_own sh_T 2 161 i := ⟨by decide, by decide, h1, 0, 4, by rfl, h2⟩
theorem al_162 : am_len pg sh_T 2 162 = 4 := by rfl
theorem ia_162 {i : Int} (h1 : 0 ≤ i) (h2 : i < 4) : am_in pg sh_T 2 162 i := ⟨h1, by rw [al_162]; exact h2⟩
theorem ow_162 {i : Int} (h1 : 0 ≤ i) (h2 : i < 4) : am_own sh_T 2 162 i := ⟨by decide, by decide, h1, 0, 4, by rfl, h2⟩
theorem al_163 : am_len pg sh_T 2 163 = 5 := by rfl
theorem ia_163 {i : Int} (h1 : 0 ≤ i) (h2 : i < 5) : am_in pg sh_T 2 163 i := ⟨h1, by rw [al_163]; exact h2⟩
theorem ow_163 {i : Int} (h1 : 0 ≤ i) (h2 : i < 5) : am_own sh_T 2 163 i := ⟨by decide, by decide, h1, 0, 5, by rfl, h2⟩
theorem al_164 : am_len pg sh_T 2 164 = 4 := by rfl
theorem ia_164 {i : Int} (h1 : 0 ≤ i) (h2 : i < 4) : am_in pg sh_T 2 164 i := ⟨h1, by rw [al_164]; exact h2⟩
theorem ow_164 {i : Int} (h1 : 0 ≤ i) (h2 : i < 4) : am_own sh_T 2 164 i := ⟨by decide, by decide, h1, 0, 4, by rfl, h2⟩
theorem al_165 : am_len pg sh_T 2 165 = 5 := by rfl
theorem ia_165 {i : Int} (h1 : 0 ≤ i) (h2 : i < 5) : am_in pg sh_T 2 165 i := ⟨h1, by rw [al_165]; exact h2⟩
theorem ow_165 {i : Int} (h1 : 0 ≤ i) (h2 : i < 5) : am_own sh_T 2 165 i := ⟨by decide, by decide, h1, 0, 5, by rfl, h2⟩
theorem al_166 : am_len pg sh_T 2 166 = 5 := by rfl
theorem ia_166 {i : Int} (h1 : 0 ≤ i) (h2 : i < 5) : am_in pg sh_T 2 166 i := ⟨h1, by rw [al_166]; exact h2⟩
theorem ow_166 {i : Int} (h1 : 0 ≤ i) (h2 : i < 5) : am_own sh_T 2 166 i := ⟨by decide, by decide, h1, 0, 5, by rfl, h2⟩
theorem al_167 : am_len pg sh_T 2 167 = 5 := by rfl
theorem ia_167 {i : Int} (h1 : 0 ≤ i) (h2 : i < 5) : am_in pg sh_T 2 167 i := ⟨h1, by rw [al_167]; exact h2⟩
theorem ow_167 {i : Int} (h1 : 0 ≤ i) (h2 : i < 5) : am_own sh_T 2 167 i := ⟨by decide, by decide, h1, 0, 5, by rfl, h2⟩
theorem al_168 : am_len pg sh_T 2 168 = 5 := by rfl
theorem ia_168 {i : Int} (h1 : 0 ≤ i) (h2 : i < 5) : am_in pg sh_T 2 168 i := ⟨h1, by rw [al_168]; exact h2⟩
theorem ow_168 {i : Int} (h1 : 0 ≤ i) (h2 : i < 5) : am_own sh_T 2 168 i := ⟨by decide, by decide, h1, 0, 5, by rfl, h2⟩
theorem al_169 : am_len pg sh_T 2 169 = 3 := by rfl
theorem ia_169 {i : Int} (h1 : 0 ≤ i) (h2 : i < 3) : am_in pg sh_T 2 169 i := ⟨h1, by rw [al_169]; exact h2⟩
theorem ow_169 {i : Int} (h1 : 0 ≤ i) (h2 : i < 3) : am_own sh_T 2 169 i := ⟨by decide, by decide, h1, 0, 3, by rfl, h2⟩
theorem al_170 : am_len pg sh_T 2 170 = 4 := by rfl
theorem ia_170 {i : Int} (h1 : 0 ≤ i) (h2 : i < 4) : am_in pg sh_T 2 170 i := ⟨h1, by rw [al_170]; exact h2⟩
theorem ow_170 {i : Int} (h1 : 0 ≤ i) (h2 : i < 4) : am_own sh_T 2 170 i := ⟨by decide, by decide, h1, 0, 4, by rfl, h2⟩
theorem al_171 : am_len pg sh_T 2 171 = 6 := by rfl
theorem ia_171 {i : Int} (h1 : 0 ≤ i) (h2 : i < 6) : am_in pg sh_T 2 171 i := ⟨h1, by rw [al_171]; exact h2⟩
theorem ow_171 {i : Int} (h1 : 0 ≤ i) (h2 : i < 6) : am_own sh_T 2 171 i := ⟨by decide, by decide, h1, 0, 6, by rfl, h2⟩
theorem al_172 : am_len pg sh_T 2 172 = 3 := by rfl
theorem ia_172 {i : Int} (h1 : 0 ≤ i) (h2 : i < 3) : am_in pg sh_T 2 172 i := ⟨h1, by rw [al_172]; exact h2⟩
theorem ow_172 {i : Int} (h1 : 0 ≤ i) (h2 : i < 3) : am_own sh_T 2 172 i := ⟨by decide, by decide, h1, 0, 3, by rfl, h2⟩
theorem al_173 : am_len pg sh_T 2 173 = 3 := by rfl
theorem ia_173 {i : Int} (h1 : 0 ≤ i) (h2 : i < 3) : am_in pg sh_T 2 173 i := ⟨h1, by rw [al_173]; exact h2⟩
theorem ow_173 {i : Int} (h1 : 0 ≤ i) (h2 : i < 3) : am_own sh_T 2 173 i := ⟨by decide, by decide, h1, 0, 3, by rfl, h2⟩
theorem al_174 : am_len pg sh_T 1 174 = 6 := by rfl
theorem ia_174 {i : Int} (h1 : 0 ≤ i) (h2 : i < 6) : am_in pg sh_T 1 174 i := ⟨h1, by rw [al_174]; exact h2⟩
theorem ow_174 {i : Int} (h1 : 0 ≤ i) (h2 : i < 6) : am_own sh_T 1 174 i := ⟨by decide, by decide, h1, 0, 6, by rfl, h2⟩
theorem al_175 : am_len pg sh_T 3 175 = 36 := by rfl
theorem ia_175 {i : Int} (h1 : 0 ≤ i) (h2 : i < 36) : am_in pg sh_T 3 175 i := ⟨h1, by rw [al_175]; exact h2⟩
theorem ow_175 {i : Int} (h1 : 0 ≤ i) (h2 : i < 36) : am_own sh_T 3 175 i := ⟨by decide, by decide, h1, 0, 36, by rfl, h2⟩
theorem al_176 : am_len pg sh_T 1 176 = 8 := by rfl
theorem ia_176 {i : Int} (h1 : 0 ≤ i) (h2 : i < 8) : am_in pg sh_T 1 176 i := ⟨h1, by rw [al_176]; exact h2⟩
theorem ow_176 {i : Int} (h1 : 0 ≤ i) (h2 : i < 8) : am_own sh_T 1 176 i := ⟨by decide, by decide, h1, 0, 8, by rfl, h2⟩
theorem al_177 : am_len pg sh_T 1 177 = 24 := by rfl
theorem ia_177 {i : Int} (h1 : 0 ≤ i) (h2 : i < 24) : am_in pg sh_T 1 177 i := ⟨h1, by rw [al_177]; exact h2⟩
theorem ow_177 {i : Int} (h1 : 0 ≤ i) (h2 : i < 24) : am_own sh_T 1 177 i := ⟨by decide, by decide, h1, 0, 24, by rfl, h2⟩
theorem al_178 : am_len pg sh_T 1 178 = 8 := by rfl
theorem ia_178 {i : Int} (h1 : 0 ≤ i) (h2 : i < 8) : am_in pg sh_T 1 178 i := ⟨h1, by rw [al_178]; exact h2⟩
theorem ow_178 {i : Int} (h1 : 0 ≤ i) (h2 : i < 8) : am_own sh_T 1 178 i := ⟨by decide, by decide, h1, 0, 8, by rfl, h2⟩
theorem al_179 : am_len pg sh_T 1 179 = 6 := by rfl
theorem ia_179 {i : Int} (h1 : 0 ≤ i) (h2 : i < 6) : am_in pg sh_T 1 179 i := ⟨h1, by rw [al_179]; exact h2⟩
theorem ow_179 {i : Int} (h1 : 0 ≤ i) (h2 : i < 6) : am_own sh_T 1 179 i := ⟨by decide, by decide, h1, 0, 6, by rfl, h2⟩
theorem al_180 : am_len pg sh_T 1 180 = 6 := by rfl
theorem ia_180 {i : Int} (h1 : 0 ≤ i) (h2 : i < 6) : am_in pg sh_T 1 180 i := ⟨h1, by rw [al_180]; exact h2⟩
theorem ow_180 {i : Int} (h1 : 0 ≤ i) (h2 : i < 6) : am_own sh_T 1 180 i := ⟨by decide, by decide, h1, 0, 6, by rfl, h2⟩
theorem al_181 : am_len pg sh_T 1 181 = 6 := by rfl
theorem ia_181 {i : Int} (h1 : 0 ≤ i) (h2 : i < 6) : am_in pg sh_T 1 181 i := ⟨h1, by rw [al_181]; exact h2⟩
theorem ow_181 {i : Int} (h1 : 0 ≤ i) (h2 : i < 6) : am_own sh_T 1 181 i := ⟨by decide, by decide, h1, 0, 6, by rfl, h2⟩
theorem al_182 : am_len pg sh_T 1 182 = 3200 := by rfl
theorem ia_182 {i : Int} (h1 : 0 ≤ i) (h2 : i < 3200) : am_in pg sh_T 1 182 i := ⟨h1, by rw [al_182]; exact h2⟩
theorem ow_182 {i : Int} (h1 : 0 ≤ i) (h2 : i < 3200) : am_own sh_T 1 182 i := ⟨by decide, by decide, h1, 0, 3200, by rfl, h2⟩
theorem al_183 : am_len pg sh_T 1 183 = 1700 := by rfl
theorem ia_183 {i : Int} (h1 : 0 ≤ i) (h2 : i < 1700) : am_in pg sh_T 1 183 i := ⟨h1, by rw [al_183]; exact h2⟩
theorem ow_183 {i : Int} (h1 : 0 ≤ i) (h2 : i < 1700) : am_own sh_T 1 183 i := ⟨by decide, by decide, h1, 0, 1700, by rfl, h2⟩
theorem al_184 : am_len pg sh_T 3 184 = 1700 := by rfl
theorem ia_184 {i : Int} (h1 : 0 ≤ i) (h2 : i < 1700) : am_in pg sh_T 3 184 i := ⟨h1, by rw [al_184]; exact h2⟩
theorem ow_184 {i : Int} (h1 : 0 ≤ i) (h2 : i < 1700) : am_own sh_T 3 184 i := ⟨by decide, by decide, h1, 0, 1700, by rfl, h2⟩
theorem al_185 : am_len pg sh_T 1 185 = 6 := by rfl
theorem ia_185 {i : Int} (h1 : 0 ≤ i) (h2 : i < 6) : am_in pg sh_T 1 185 i := ⟨h1, by rw [al_185]; exact h2⟩
theorem ow_185 {i : Int} (h1 : 0 ≤ i) (h2 : i < 6) : am_own sh_T 1 185 i := ⟨by decide, by decide, h1, 0, 6, by rfl, h2⟩
theorem al_186 : am_len pg sh_T 1 186 = 28 := by rfl
theorem ia_186 {i : Int} (h1 : 0 ≤ i) (h2 : i < 28) : am_in pg sh_T 1 186 i := ⟨h1, by rw [al_186]; exact h2⟩
theorem ow_186 {i : Int} (h1 : 0 ≤ i) (h2 : i < 28) : am_own sh_T 1 186 i := ⟨by decide, by decide, h1, 0, 28, by rfl, h2⟩
theorem al_187 : am_len pg sh_T 1 187 = 1500 := by rfl
theorem ia_187 {i : Int} (h1 : 0 ≤ i) (h2 : i < 1500) : am_in pg sh_T 1 187 i := ⟨h1, by rw [al_187]; exact h2⟩
theorem ow_187 {i : Int} (h1 : 0 ≤ i) (h2 : i < 1500) : am_own sh_T 1 187 i := ⟨by decide, by decide, h1, 0, 1500, by rfl, h2⟩
theorem al_188 : am_len pg sh_T 1 188 = 200 := by rfl
theorem ia_188 {i : Int} (h1 : 0 ≤ i) (h2 : i < 200) : am_in pg sh_T 1 188 i := ⟨h1, by rw [al_188]; exact h2⟩
theorem ow_188 {i : Int} (h1 : 0 ≤ i) (h2 : i < 200) : am_own sh_T 1 188 i := ⟨by decide, by decide, h1, 0, 200, by rfl, h2⟩
theorem al_189 : am_len pg sh_T 1 189 = 4 := by rfl
theorem ia_189 {i : Int} (h1 : 0 ≤ i) (h2 : i < 4) : am_in pg sh_T 1 189 i := ⟨h1, by rw [al_189]; exact h2⟩
theorem ow_189 {i : Int} (h1 : 0 ≤ i) (h2 : i < 4) : am_own sh_T 1 189 i := ⟨by decide, by decide, h1, 0, 4, by rfl, h2⟩
theorem al_190 : am_len pg sh_T 1 190 = 4 := by rfl
theorem ia_190 {i : Int} (h1 : 0 ≤ i) (h2 : i < 4) : am_in pg sh_T 1 190 i := ⟨h1, by rw [al_190]; exact h2⟩
theorem ow_190 {i : Int} (h1 : 0 ≤ i) (h2 : i < 4) : am_own sh_T 1 190 i := ⟨by decide, by decide, h1, 0, 4, by rfl, h2⟩
theorem al_191 : am_len pg sh_T 1 191 = 560 := by rfl
theorem ia_191 {i : Int} (h1 : 0 ≤ i) (h2 : i < 560) : am_in pg sh_T 1 191 i := ⟨h1, by rw [al_191]; exact h2⟩
theorem ow_191 {i : Int} (h1 : 0 ≤ i) (h2 : i < 560) : am_own sh_T 1 191 i := ⟨by decide, by decide, h1, 0, 560, by rfl, h2⟩
theorem al_192 : am_len pg sh_T 1 192 = 20 := by rfl
theorem ia_192 {i : Int} (h1 : 0 ≤ i) (h2 : i < 20) : am_in pg sh_T 1 192 i := ⟨h1, by rw [al_192]; exact h2⟩
theorem ow_192 {i : Int} (h1 : 0 ≤ i) (h2 : i < 20) : am_own sh_T 1 192 i := ⟨by decide, by decide, h1, 0, 20, by rfl, h2⟩
theorem al_193 : am_len pg sh_T 2 193 = 5 := by rfl
theorem ia_193 {i : Int} (h1 : 0 ≤ i) (h2 : i < 5) : am_in pg sh_T 2 193 i := ⟨h1, by rw [al_193]; exact h2⟩
theorem ow_193 {i : Int} (h1 : 0 ≤ i) (h2 : i < 5) : am_own sh_T 2 193 i := ⟨by decide, by decide, h1, 0, 5, by rfl, h2⟩
theorem al_194 : am_len pg sh_T 2 194 = 4 := by rfl
theorem ia_194 {i : Int} (h1 : 0 ≤ i) (h2 : i < 4) : am_in pg sh_T 2 194 i := ⟨h1, by rw [al_194]; exact h2⟩
theorem ow_194 {i : Int} (h1 : 0 ≤ i) (h2 : i < 4) : am_own sh_T 2 194 i := ⟨by decide, by decide, h1, 0, 4, by rfl, h2⟩
theorem al_195 : am_len pg sh_T 2 195 = 5 := by rfl
theorem ia_195 {i : Int} (h1 : 0 ≤ i) (h2 : i < 5) : am_in pg sh_T 2 195 i := ⟨h1, by rw [al_195]; exact h2⟩
theorem ow_195 {i : Int} (h1 : 0 ≤ i) (h2 : i < 5) : am_own sh_T 2 195 i := ⟨by decide, by decide, h1, 0, 5, by rfl, h2⟩
theorem al_196 : am_len pg sh_T 2 196 = 5 := by rfl
theorem ia_196 {i : Int} (h1 : 0 ≤ i) (h2 : i < 5) : am_in pg sh_T 2 196 i := ⟨h1, by rw [al_196]; exact h2⟩
theorem ow_196 {i : Int} (h1 : 0 ≤ i) (h2 : i < 5) : am_own sh_T 2 196 i := ⟨by decide, by decide, h1, 0, 5, by rfl, h2⟩
theorem al_197 : am_len pg sh_T 2 197 = 4 := by rfl
theorem ia_197 {i : Int} (h1 : 0 ≤ i) (h2 : i < 4) : am_in pg sh_T 2 197 i := ⟨h1, by rw [al_197]; exact h2⟩
theorem ow_197 {i : Int} (h1 : 0 ≤ i) (h2 : i < 4) : am_own sh_T 2 197 i := ⟨by decide, by decide, h1, 0, 4, by rfl, h2⟩
theorem al_198 : am_len pg sh_T 2 198 = 5 := by rfl
theorem ia_198 {i : Int} (h1 : 0 ≤ i) (h2 : i < 5) : am_in pg sh_T 2 198 i := ⟨h1, by rw [al_198]; exact h2⟩
theorem ow_198 {i : Int} (h1 : 0 ≤ i) (h2 : i < 5) : am_own sh_T 2 198 i := ⟨by decide, by decide, h1, 0, 5, by rfl, h2⟩
theorem al_199 : am_len pg sh_T 2 199 = 3 := by rfl
theorem ia_199 {i : Int} (h1 : 0 ≤ i) (h2 : i < 3) : am_in pg sh_T 2 199 i := ⟨h1, by rw [al_199]; exact h2⟩
theorem ow_199 {i : Int} (h1 : 0 ≤ i) (h2 : i < 3) : am_own sh_T 2 199 i := ⟨by decide, by decide, h1, 0, 3, by rfl, h2⟩
theorem al_200 : am_len pg sh_T 2 200 = 3 := by rfl
theorem ia_200 {i : Int} (h1 : 0 ≤ i) (h2 : i < 3) : am_in pg sh_T 2 200 i := ⟨h1, by rw [al_200]; exact h2⟩
theorem ow_200 {i : Int} (h1 : 0 ≤ i) (h2 : i < 3) : am_own sh_T 2 200 i := ⟨by decide, by decide, h1, 0, 3, by rfl, h2⟩
theorem al_201 : am_len pg sh_T 2 201 = 2 := by rfl
theorem ia_201 {i : Int} (h1 : 0 ≤ i) (h2 : i < 2) : am_in pg sh_T 2 201 i := ⟨h1, by rw [al_201]; exact h2⟩
theorem ow_201 {i : Int} (h1 : 0 ≤ i) (h2 : i < 2) : am_own sh_T 2 201 i := ⟨by decide, by decide, h1, 0, 2, by rfl, h2⟩
theorem al_202 : am_len pg sh_T 2 202 = 3 := by rfl
theorem ia_202 {i : Int} (h1 : 0 ≤ i) (h2 : i < 3) : am_in pg sh_T 2 202 i := ⟨h1, by rw [al_202]; exact h2⟩
theorem ow_202 {i : Int} (h1 : 0 ≤ i) (h2 : i < 3) : am_own sh_T 2 202 i := ⟨by decide, by decide, h1, 0, 3, by rfl, h2⟩
theorem al_203 : am_len pg sh_T 2 203 = 3 := by rfl
theorem ia_203 {i : Int} (h1 : 0 ≤ i) (h2 : i < 3) : am_in pg sh_T 2 203 i := ⟨h1, by rw [al_203]; exact h2⟩
theorem ow_203 {i : Int} (h1 : 0 ≤ i) (h2 : i < 3) : am_own sh_T 2 203 i := ⟨by decide, by decide, h1, 0, 3, by rfl, h2⟩
theorem al_204 : am_len pg sh_T 2 204 = 3 := by rfl
theorem ia_204 {i : Int} (h1 : 0 ≤ i) (h2 : i < 3) : am_in pg sh_T 2 204 i := ⟨h1, by rw [al_204]; exact h2⟩
theorem ow_204 {i : Int} (h1 : 0 ≤ i) (h2 : i < 3) : am_own sh_T 2 204 i := ⟨by decide, by decide, h1, 0, 3, by rfl, h2⟩
theorem al_205 : am_len pg sh_T 2 205 = 4 := by rfl
theorem ia_205 {i : Int} (h1 : 0 ≤ i) (h2 : i < 4) : am_in pg sh_T 2 205 i := ⟨h1, by rw [al_205]; exact h2⟩
theorem ow_205 {i : Int} (h1 : 0 ≤ i) (h2 : i < 4) : am_own sh_T 2 205 i := ⟨by decide, by decide, h1, 0, 4, by rfl, h2⟩
theorem al_206 : am_len pg sh_T 2 206 = 5 := by rfl
theorem ia_206 {i : Int} (h1 : 0 ≤ i) (h2 : i < 5) : am_in pg sh_T 2 206 i := ⟨h1, by rw [al_206]; exact h2⟩
theorem ow_206 {i : Int} (h1 : 0 ≤ i) (h2 : i < 5) : am_own sh_T 2 206 i := ⟨by decide, by decide, h1, 0, 5, by rfl, h2⟩
theorem al_207 : am_len pg sh_T 2 207 = 5 := by rfl
theorem ia_207 {i : Int} (h1 : 0 ≤ i) (h2 : i < 5) : am_in pg sh_T 2 207 i := ⟨h1, by rw [al_207]; exact h2⟩
theorem ow_207 {i : Int} (h1 : 0 ≤ i) (h2 : i < 5) : am_own sh_T 2 207 i := ⟨by decide, by decide, h1, 0, 5, by rfl, h2⟩
theorem al_208 : am_len pg sh_T 2 208 = 3 := by rfl
theorem ia_208 {i : Int} (h1 : 0 ≤ i) (h2 : i < 3) : am_in pg sh_T 2 208 i := ⟨h1, by rw [al_208]; exact h2⟩
theorem ow_208 {i : Int} (h1 : 0 ≤ i) (h2 : i < 3) : am_own sh_T 2 208 i := ⟨by decide, by decide, h1, 0, 3, by rfl, h2⟩
theorem al_209 : am_len pg sh_T 2 209 = 4 := by rfl
theorem ia_209 {i : Int} (h1 : 0 ≤ i) (h2 : i < 4) : am_in pg sh_T 2 209 i := ⟨h1, by rw [al_209]; exact h2⟩
theorem ow_209 {i : Int} (h1 : 0 ≤ i) (h2 : i < 4) : am_own sh_T 2 209 i := ⟨by decide, by decide, h1, 0, 4, by rfl, h2⟩
theorem al_210 : am_len pg sh_T 2 210 = 5 := by rfl
theorem ia_210 {i : Int} (h1 : 0 ≤ i) (h2 : i < 5) : am_in pg sh_T 2 210 i := ⟨h1, by rw [al_210]; exact h2⟩
theorem ow_210 {i : Int} (h1 : 0 ≤ i) (h2 : i < 5) : am_own sh_T 2 210 i := ⟨by decide, by decide, h1, 0, 5, by rfl, h2⟩
theorem al_211 : am_len pg sh_T 1 211 = 1700 := by rfl
theorem ia_211 {i : Int} (h1 : 0 ≤ i) (h2 : i < 1700) : am_in pg sh_T 1 211 i := ⟨h1, by rw [al_211]; exact h2⟩
theorem ow_211 {i : Int} (h1 : 0 ≤ i) (h2 : i < 1700) : am_own sh_T 1 211 i := ⟨by decide, by decide, h1, 0, 1700, by rfl, h2⟩
theorem al_212 : am_len pg sh_T 1 212 = 1700 := by rfl
theorem ia_212 {i : Int} (h1 : 0 ≤ i) (h2 : i < 1700) : am_in pg sh_T 1 212 i := ⟨h1, by rw [al_212]; exact h2⟩
theorem ow_212 {i : Int} (h1 : 0 ≤ i) (h2 : i < 1700) : am_own sh_T 1 212 i := ⟨by decide, by decide, h1, 0, 1700, by rfl, h2⟩
theorem al_213 : am_len pg sh_T 3 213 = 1700 := by rfl
theorem ia_213 {i : Int} (h1 : 0 ≤ i) (h2 : i < 1700) : am_in pg sh_T 3 213 i := ⟨h1, by rw [al_213]; exact h2⟩
theorem ow_213 {i : Int} (h1 : 0 ≤ i) (h2 : i < 1700) : am_own sh_T 3 213 i := ⟨by decide, by decide, h1, 0, 1700, by rfl, h2⟩
theorem al_214 : am_len pg sh_T 1 214 = 53 := by rfl
theorem ia_214 {i : Int} (h1 : 0 ≤ i) (h2 : i < 53) : am_in pg sh_T 1 214 i := ⟨h1, by rw [al_214]; exact h2⟩
theorem ow_214 {i : Int} (h1 : 0 ≤ i) (h2 : i < 53) : am_own sh_T 1 214 i := ⟨by decide, by decide, h1, 0, 53, by rfl, h2⟩
theorem al_2000000 : am_len pg sh_T 1 2000000 = 4 := by rfl
theorem ia_2000000 {i : Int} (h1 : 0 ≤ i) (h2 : i < 4) : am_in pg sh_T 1 2000000 i := ⟨h1, by rw [al_2000000]; exact h2⟩
theorem al_2000001 : am_len pg sh_T 1 2000001 = 8 := by rfl
theorem ia_2000001 {i : Int} (h1 : 0 ≤ i) (h2 : i < 8) : am_in pg sh_T 1 2000001 i := ⟨h1, by rw [al_2000001]; exact h2⟩
theorem al_2000002 : am_len pg sh_T 1 2000002 = 8 := by rfl
theorem ia_2000002 {i : Int} (h1 : 0 ≤ i) (h2 : i < 8) : am_in pg sh_T 1 2000002 i := ⟨h1, by rw [al_2000002]; exact h2⟩
