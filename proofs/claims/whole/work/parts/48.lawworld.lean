/-! THE LAW'S START (printed by wip/whole/lawstart.py) -/
abbrev lw_g : Cond := Jvm.Cond.and given_1 narrow_1
def tb_tm : Nat → Term := fun i => match tb_strs[i]? with
  | some q => .string q.1 q.2.1
  | none => .string "" 0
theorem lw_fl {args : Array Value} {s : State} (h : lw_g.before args s = true) {i : Nat} {c : Cond} (hi : (flatC lw_g)[i]? = some c) : c.before args s = true := flat_of_before _ h _ (List.mem_of_getElem? hi)
def lx_ex : List Nat := [38, 208, 219, 325, 413, 397, 368, 382, 228, 275, 100]
def lx_co : List Nat := [39, 209, 220, 326, 414, 398, 369, 383, 229, 276, 101]
def lx_ar : List Nat := [40, 210, 221, 327, 415, 399, 370, 384, 230, 277, 102]
def lx_le : List Nat := [41, 211, 222, 328, 416, 400, 371, 385, 231, 278, 103]
def lx_el : List (List Nat) := [[42, 43, 44, 45, 46, 47, 48, 49, 50, 51, 52, 53, 54, 55, 56, 57, 58, 59, 60, 61, 62, 63, 64, 65, 66, 67, 68, 69, 70, 71, 72, 73, 74, 75, 76, 77, 78, 79, 80, 81, 82, 83, 84, 85, 86, 87, 88, 89, 90, 91, 92, 93, 94, 95, 96, 97, 98, 99], [212, 213, 214, 215, 216], [223, 224], [329, 330, 331, 332, 333, 334, 335, 336, 337, 338, 339, 340, 341, 342, 343, 344, 345, 346, 347, 348, 349, 350, 351, 352, 353, 354, 355, 356, 357, 358, 359, 360, 361], [417, 418], [401, 402, 403], [372, 373, 374], [386, 387, 388], [232, 233, 234, 235, 236, 237, 238, 239, 240, 241, 242, 243, 244, 245, 246, 247, 248, 249, 250, 251, 252, 253, 254, 255, 256, 257, 258, 259, 260, 261, 262, 263, 264, 265, 266, 267, 268, 269, 270], [279, 280, 281, 282, 283, 284, 285, 286, 287, 288, 289, 290, 291, 292, 293, 294, 295, 296, 297, 298, 299, 300, 301, 302, 303, 304, 305, 306, 307, 308, 309, 310, 311, 312, 313, 314, 315, 316, 317, 318, 319], [104, 105, 106, 107, 108, 109, 110, 111, 112, 113, 114, 115, 116, 117, 118, 119, 120, 121, 122, 123, 124, 125, 126, 127, 128, 129, 130, 131, 132, 133, 134, 135, 136, 137, 138, 139, 140, 141, 142, 143, 144, 145, 146, 147, 148, 149, 150, 151, 152, 153, 154, 155, 156, 157, 158, 159, 160, 161, 162, 163, 164, 165, 166, 167, 168, 169, 170, 171, 172, 173, 174, 175, 176, 177, 178, 179, 180, 181, 182, 183, 184, 185, 186, 187, 188, 189, 190, 191, 192, 193, 194, 195, 196, 197, 198, 199, 200, 201, 202, 203, 204, 205, 206]]
def lx_ne : List (List Nat) := [[0, 217, 225, 362, 419, 404, 375, 389, 271, 320, 207], [217, 0, 227, 364, 421, 406, 377, 391, 273, 322, 218], [225, 227, 0, 365, 422, 407, 378, 392, 274, 323, 226], [362, 364, 365, 0, 425, 410, 381, 395, 366, 367, 363], [419, 421, 422, 425, 0, 428, 426, 427, 423, 424, 420], [404, 406, 407, 410, 428, 0, 411, 412, 408, 409, 405], [375, 377, 378, 381, 426, 411, 0, 396, 379, 380, 376], [389, 391, 392, 395, 427, 412, 396, 0, 393, 394, 390], [271, 273, 274, 366, 423, 408, 379, 393, 0, 324, 272], [320, 322, 323, 367, 424, 409, 380, 394, 324, 0, 321], [207, 218, 226, 363, 420, 405, 376, 390, 272, 321, 0]]
theorem lk_ex : ∀ i, i < 11 → (flatC lw_g)[lx_ex.getD i 0]? = some (Cond.exactly (tb_tm i) "java/lang/String") := by decide +kernel
theorem lk_co : ∀ i, i < 11 → (flatC lw_g)[lx_co.getD i 0]? = some (Cond.eq (.field (tb_tm i) "java/lang/String" "coder" "B") (.int 0)) := by decide +kernel
theorem lk_ar : ∀ i, i < 11 → (flatC lw_g)[lx_ar.getD i 0]? = some (Cond.arrayOf (.field (tb_tm i) "java/lang/String" "value" "[B") .byte) := by decide +kernel
theorem lk_le : ∀ i, i < 11 → (flatC lw_g)[lx_le.getD i 0]? = some (Cond.eq (.length (.field (tb_tm i) "java/lang/String" "value" "[B")) (.int (Int32.ofNat (tb_len.getD i 0)))) := by decide +kernel
theorem lk_el : ∀ i, i < 11 → ∀ j, j < tb_len.getD i 0 → (flatC lw_g)[(lx_el.getD i []).getD j 0]? = some (Cond.eq (.elem (.field (tb_tm i) "java/lang/String" "value" "[B") (.int (Int32.ofNat j))) (.int ((tb_byt.getD i []).getD j 0))) := by decide +kernel
theorem lk_ne : ∀ i, i < 11 → ∀ j, j < 11 → i ≠ j → (flatC lw_g)[(lx_ne.getD i []).getD j 0]? = some (Cond.not (Cond.eq (tb_tm i) (tb_tm j))) ∨ (flatC lw_g)[(lx_ne.getD i []).getD j 0]? = some (Cond.not (Cond.eq (tb_tm j) (tb_tm i))) := by decide +kernel
def lx_s0 : List Nat := [12, 13, 14, 15]
theorem ls_0 {A : Nat → Prop} {args : Array Value} {s : State} (hts : ∀ w ∈ lw_tbl, w.before args s = true) (hgv : lw_g.before args s = true) (hA : ∀ a : Nat, a < s.heap.size → ¬ A a) : ∃ t : Nat, va_Z "NightDoors" "FIRST_NAME" "[I" (.ref t) A s s.heap ∧ va_T .int t (tb_rows.getD 0 []).length (fun j => .int ((tb_rows.getD 0 []).getD j 0)) A s s.heap := by
  have he : ∀ j, j < 4 → (flatC lw_g)[lx_s0.getD j 0]? = some (Cond.eq (.elem (.static "NightDoors" "FIRST_NAME" "[I") (.int (Int32.ofNat j))) (.int ((tb_rows.getD 0 []).getD j 0))) := by decide +kernel
  obtain ⟨t, h1, h2⟩ := va_Tof (ty := .int) (tm := .static "NightDoors" "FIRST_NAME" "[I") (N := (tb_rows.getD 0 []).length) (f := fun j => .int ((tb_rows.getD 0 []).getD j 0)) (A := A) (by decide) (lw_fl hgv (i := 10) (by decide +kernel)) (va_eqt (lw_fl hgv (i := 11) (by decide +kernel))) (fun j hj => va_eqt (lw_fl hgv (he j hj))) hA
  exact ⟨t, va_Zref (hts _ tw_528) (hts _ tw_1) h1 hA, h2⟩
def lx_s1 : List Nat := [19, 20, 21, 22, 23, 24, 25, 26]
theorem ls_1 {A : Nat → Prop} {args : Array Value} {s : State} (hts : ∀ w ∈ lw_tbl, w.before args s = true) (hgv : lw_g.before args s = true) (hA : ∀ a : Nat, a < s.heap.size → ¬ A a) : ∃ t : Nat, va_Z "NightDoors" "DREAM_STEPS" "[I" (.ref t) A s s.heap ∧ va_T .int t (tb_rows.getD 1 []).length (fun j => .int ((tb_rows.getD 1 []).getD j 0)) A s s.heap := by
  have he : ∀ j, j < 8 → (flatC lw_g)[lx_s1.getD j 0]? = some (Cond.eq (.elem (.static "NightDoors" "DREAM_STEPS" "[I") (.int (Int32.ofNat j))) (.int ((tb_rows.getD 1 []).getD j 0))) := by decide +kernel
  obtain ⟨t, h1, h2⟩ := va_Tof (ty := .int) (tm := .static "NightDoors" "DREAM_STEPS" "[I") (N := (tb_rows.getD 1 []).length) (f := fun j => .int ((tb_rows.getD 1 []).getD j 0)) (A := A) (by decide) (lw_fl hgv (i := 17) (by decide +kernel)) (va_eqt (lw_fl hgv (i := 18) (by decide +kernel))) (fun j hj => va_eqt (lw_fl hgv (he j hj))) hA
  exact ⟨t, va_Zref (hts _ tw_673) (hts _ tw_1) h1 hA, h2⟩
def lx_s2 : List Nat := [30, 31, 32, 33, 34, 35, 36, 37]
theorem ls_2 {A : Nat → Prop} {args : Array Value} {s : State} (hts : ∀ w ∈ lw_tbl, w.before args s = true) (hgv : lw_g.before args s = true) (hA : ∀ a : Nat, a < s.heap.size → ¬ A a) : ∃ t : Nat, va_Z "NightDoors" "QUESTION_STEPS" "[I" (.ref t) A s s.heap ∧ va_T .int t (tb_rows.getD 2 []).length (fun j => .int ((tb_rows.getD 2 []).getD j 0)) A s s.heap := by
  have he : ∀ j, j < 8 → (flatC lw_g)[lx_s2.getD j 0]? = some (Cond.eq (.elem (.static "NightDoors" "QUESTION_STEPS" "[I") (.int (Int32.ofNat j))) (.int ((tb_rows.getD 2 []).getD j 0))) := by decide +kernel
  obtain ⟨t, h1, h2⟩ := va_Tof (ty := .int) (tm := .static "NightDoors" "QUESTION_STEPS" "[I") (N := (tb_rows.getD 2 []).length) (f := fun j => .int ((tb_rows.getD 2 []).getD j 0)) (A := A) (by decide) (lw_fl hgv (i := 28) (by decide +kernel)) (va_eqt (lw_fl hgv (i := 29) (by decide +kernel))) (fun j hj => va_eqt (lw_fl hgv (he j hj))) hA
  exact ⟨t, va_Zref (hts _ tw_675) (hts _ tw_1) h1 hA, h2⟩
theorem lw_En {A : Nat → Prop} {args : Array Value} {s : State} (hts : ∀ w ∈ lw_tbl, w.before args s = true) (hgv : lw_g.before args s = true) (hA : ∀ a : Nat, a < s.heap.size → ¬ A a) (b : Nat) : ∃ sa : Int → Nat, sa 2000003 = b ∧ tb_En A sa s := by
  obtain ⟨t0, z0, y0⟩ := ls_0 hts hgv hA
  obtain ⟨t1, z1, y1⟩ := ls_1 hts hgv hA
  obtain ⟨t2, z2, y2⟩ := ls_2 hts hgv hA
  obtain ⟨adK, adV, hK, hev⟩ := vk_Sof (args := args) (s := s) (N := 11) (tm := tb_tm) (len := tb_len) (byt := tb_byt) (A := A) (fun i hi => (jk_byt i hi).2.1) (fun i hi => lw_fl hgv (lk_ex i hi)) (fun i hi => lw_fl hgv (lk_co i hi)) (fun i hi => lw_fl hgv (lk_ar i hi)) (fun i hi => lw_fl hgv (lk_le i hi)) (fun i hi j hj => lw_fl hgv (lk_el i hi j hj)) (fun i j hi hj hij => by
    rcases lk_ne i hi j hj hij with h | h
    · exact Or.inl (lw_fl hgv h)
    · exact Or.inr (lw_fl hgv h)) hA
  refine ⟨fun a => if a = 2000003 then b else if a = 2000002 then t2 else if a = 2000001 then t1 else if a = 2000000 then t0 else if 1500000 ≤ a then adV (a - 1500000).toNat else adK (a - 1000000).toNat, rfl, ?_, ?_, ?_, ?_, va_AO.of (hts _ tw_198), va_Zof (hts _ tw_473) (hts _ tw_14) (va_eqt (lw_fl hgv (i := 4) (by decide +kernel))) hA, va_Zqof (hts _ tw_489) (hts _ tw_16) (lw_fl hgv (i := 5) (by decide +kernel)) hA, ?_⟩
  · intro w hw
    obtain ⟨h1, h2⟩ := List.mem_filter.mp hw
    have h3 := hts w h1
    cases w <;> first | exact va_Nw.of rfl h3 | (simp [tb_isN] at h2; done)
  · intro q hq
    have hall : ∀ i : Nat, i < 11 → ∀ q, tb_strs[i]? = some q → vk_R q.1 q.2.1 q.2.2.1 (adK i) s ∧ q.2.2.2 = 1000000 + (i : Int) := by
      intro i hi q hq
      have he := hev i hi
      have h1 : tb_tm i = .string q.1 q.2.1 := by unfold tb_tm; rw [hq]
      rw [h1] at he
      have h2 : ∀ i : Nat, i < 11 → ∀ q, tb_strs[i]? = some q → Cond.stringRef q.1 q.2.1 q.2.2.1 ∈ lw_tbl ∧ q.2.2.2 = 1000000 + (i : Int) := by
        intro i hi q hq
        match i, hi with
        | 0, _ => cases hq; exact ⟨tw (List.mem_of_getElem? (i := 455) (by decide +kernel)), rfl⟩
        | 1, _ => cases hq; exact ⟨tw (List.mem_of_getElem? (i := 572) (by decide +kernel)), rfl⟩
        | 2, _ => cases hq; exact ⟨tw (List.mem_of_getElem? (i := 613) (by decide +kernel)), rfl⟩
        | 3, _ => cases hq; exact ⟨tw (List.mem_of_getElem? (i := 1123) (by decide +kernel)), rfl⟩
        | 4, _ => cases hq; exact ⟨tw (List.mem_of_getElem? (i := 1150) (by decide +kernel)), rfl⟩
        | 5, _ => cases hq; exact ⟨tw (List.mem_of_getElem? (i := 1149) (by decide +kernel)), rfl⟩
        | 6, _ => cases hq; exact ⟨tw (List.mem_of_getElem? (i := 1139) (by decide +kernel)), rfl⟩
        | 7, _ => cases hq; exact ⟨tw (List.mem_of_getElem? (i := 1145) (by decide +kernel)), rfl⟩
        | 8, _ => cases hq; exact ⟨tw (List.mem_of_getElem? (i := 669) (by decide +kernel)), rfl⟩
        | 9, _ => cases hq; exact ⟨tw (List.mem_of_getElem? (i := 670) (by decide +kernel)), rfl⟩
        | 10, _ => cases hq; exact ⟨tw (List.mem_of_getElem? (i := 545) (by decide +kernel)), rfl⟩
      obtain ⟨h3, h4⟩ := h2 i hi q hq
      exact ⟨⟨by have := hts _ h3; exact this, by first | exact he | (simpa [Term.eval] using he)⟩, h4⟩
    obtain ⟨i, hi⟩ := List.getElem?_of_mem hq
    have hl : i < 11 := (List.getElem?_eq_some_iff.mp hi).1
    obtain ⟨h1, h2⟩ := hall i hl q hi
    rw [h2]
    dsimp only
    rw [if_neg (by omega), if_neg (by omega), if_neg (by omega), if_neg (by omega), if_neg (by omega)]
    rw [show (1000000 + (i : Int) - 1000000).toNat = i by omega]
    exact h1
  · intro q hq
    simp only [tb_sts, List.mem_cons, List.not_mem_nil, or_false] at hq
    rcases hq with rfl | rfl | rfl
    · exact z0
    · exact z1
    · exact z2
  · intro k hk
    rcases (show k = 0 ∨ k = 1 ∨ k = 2 by omega) with rfl | rfl | rfl
    · exact y0
    · exact y1
    · exact y2
  · have e1 : ∀ i : Nat, i < 11 → (if (1000000 + (i : Int)) = 2000003 then b else if (1000000 + (i : Int)) = 2000002 then t2 else if (1000000 + (i : Int)) = 2000001 then t1 else if (1000000 + (i : Int)) = 2000000 then t0 else if 1500000 ≤ (1000000 + (i : Int)) then adV ((1000000 + (i : Int)) - 1500000).toNat else adK ((1000000 + (i : Int)) - 1000000).toNat) = adK i := by
      intro i hi
      rw [if_neg (by omega), if_neg (by omega), if_neg (by omega), if_neg (by omega), if_neg (by omega)]
      rw [show (1000000 + (i : Int) - 1000000).toNat = i by omega]
    have e2 : ∀ i : Nat, i < 11 → (if (1500000 + (i : Int)) = 2000003 then b else if (1500000 + (i : Int)) = 2000002 then t2 else if (1500000 + (i : Int)) = 2000001 then t1 else if (1500000 + (i : Int)) = 2000000 then t0 else if 1500000 ≤ (1500000 + (i : Int)) then adV ((1500000 + (i : Int)) - 1500000).toNat else adK ((1500000 + (i : Int)) - 1000000).toNat) = adV i := by
      intro i hi
      rw [if_neg (by omega), if_neg (by omega), if_neg (by omega), if_neg (by omega), if_pos (by omega)]
      rw [show (1500000 + (i : Int) - 1500000).toNat = i by omega]
    refine ⟨fun i hi => ?_, fun i j hi hj => ?_⟩
    · have h := hK.1 i hi
      rw [← e1 i hi, ← e2 i hi] at h
      exact h
    · intro h
      dsimp only at h
      rw [e1 i hi, e1 j hj] at h
      exact hK.2 i j hi hj h
