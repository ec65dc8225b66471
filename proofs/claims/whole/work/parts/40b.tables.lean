/-! classes and methods (printed) -/
set_option maxRecDepth 20000 in
theorem uw_0 : ∀ w ∈ u_ws RX0 TX0 3, w ∈ tb_TT := by
  intro w hw
  have h1 : (u_ws RX0 TX0 3).all (fun w => goodWord w) = true := by decide +kernel
  have h2 : (u_ws RX0 TX0 3).map some = ([231, 233, 235] : List Nat).map (fun i => tables_1[i]?) := by decide +kernel
  have h3 : some w ∈ (u_ws RX0 TX0 3).map some := List.mem_map.mpr ⟨w, hw, rfl⟩
  rw [h2] at h3
  obtain ⟨i, -, hi⟩ := List.mem_map.mp h3
  exact tg (tw (List.mem_of_getElem? hi)) (List.all_eq_true.mp h1 w hw)
theorem at_0 : ∀ k : Nat, k < 3 → am_ty (pg_tag 0 (k : Int)) (tyX0 k) := fun k hk => tb_tyb_ok ((show ∀ k : Nat, k < 3 → tb_tyb (pg_tag 0 (k : Int)) (tyX0 k) = true by decide +kernel) k hk)
theorem fk_0 {off : Nat → Int → Option Int} {ln : Int → Option Nat} {fx : Bool} {oc : String} {ix : Nat} {args : Array Value} {s : State} (j : Nat) (hj : j < 3) {fin : Bool} (hf : (TX0 j).2.2.2 = fin) (hl : (Cond.fieldLink oc ix (TX0 j).1 (TX0 j).2.1 (TX0 j).2.2.1).before args s = true ∨ ∃ host, (Cond.fieldLinkNest oc ix (TX0 j).1 (TX0 j).2.1 (TX0 j).2.2.1 host).before args s = true) : am_Fk (tb_P off ln fx) tb_cl tb_TT oc args s ix 0 j fin := ⟨RX0, TX0, 3, tyX0, j, rfl, rfl, hj, hf, uw_0, tyX0_ok, nmX0, at_0, hl⟩
set_option maxRecDepth 20000 in
theorem uw_1 : ∀ w ∈ u_ws RX1 TX1 6, w ∈ tb_TT := by
  intro w hw
  have h1 : (u_ws RX1 TX1 6).all (fun w => goodWord w) = true := by decide +kernel
  have h2 : (u_ws RX1 TX1 6).map some = ([256, 258, 260, 262, 264, 266] : List Nat).map (fun i => tables_1[i]?) := by decide +kernel
  have h3 : some w ∈ (u_ws RX1 TX1 6).map some := List.mem_map.mpr ⟨w, hw, rfl⟩
  rw [h2] at h3
  obtain ⟨i, -, hi⟩ := List.mem_map.mp h3
  exact tg (tw (List.mem_of_getElem? hi)) (List.all_eq_true.mp h1 w hw)
theorem at_1 : ∀ k : Nat, k < 6 → am_ty (pg_tag 1 (k : Int)) (tyX1 k) := fun k hk => tb_tyb_ok ((show ∀ k : Nat, k < 6 → tb_tyb (pg_tag 1 (k : Int)) (tyX1 k) = true by decide +kernel) k hk)
theorem fk_1 {off : Nat → Int → Option Int} {ln : Int → Option Nat} {fx : Bool} {oc : String} {ix : Nat} {args : Array Value} {s : State} (j : Nat) (hj : j < 6) {fin : Bool} (hf : (TX1 j).2.2.2 = fin) (hl : (Cond.fieldLink oc ix (TX1 j).1 (TX1 j).2.1 (TX1 j).2.2.1).before args s = true ∨ ∃ host, (Cond.fieldLinkNest oc ix (TX1 j).1 (TX1 j).2.1 (TX1 j).2.2.1 host).before args s = true) : am_Fk (tb_P off ln fx) tb_cl tb_TT oc args s ix 1 j fin := ⟨RX1, TX1, 6, tyX1, j, rfl, rfl, hj, hf, uw_1, tyX1_ok, nmX1, at_1, hl⟩
set_option maxRecDepth 20000 in
theorem uw_2 : ∀ w ∈ u_ws RX2 TX2 11, w ∈ tb_TT := by
  intro w hw
  have h1 : (u_ws RX2 TX2 11).all (fun w => goodWord w) = true := by decide +kernel
  have h2 : (u_ws RX2 TX2 11).map some = ([171, 173, 175, 177, 179, 181, 183, 185, 187, 189, 191] : List Nat).map (fun i => tables_1[i]?) := by decide +kernel
  have h3 : some w ∈ (u_ws RX2 TX2 11).map some := List.mem_map.mpr ⟨w, hw, rfl⟩
  rw [h2] at h3
  obtain ⟨i, -, hi⟩ := List.mem_map.mp h3
  exact tg (tw (List.mem_of_getElem? hi)) (List.all_eq_true.mp h1 w hw)
theorem at_2 : ∀ k : Nat, k < 11 → am_ty (pg_tag 2 (k : Int)) (tyX2 k) := fun k hk => tb_tyb_ok ((show ∀ k : Nat, k < 11 → tb_tyb (pg_tag 2 (k : Int)) (tyX2 k) = true by decide +kernel) k hk)
theorem fk_2 {off : Nat → Int → Option Int} {ln : Int → Option Nat} {fx : Bool} {oc : String} {ix : Nat} {args : Array Value} {s : State} (j : Nat) (hj : j < 11) {fin : Bool} (hf : (TX2 j).2.2.2 = fin) (hl : (Cond.fieldLink oc ix (TX2 j).1 (TX2 j).2.1 (TX2 j).2.2.1).before args s = true ∨ ∃ host, (Cond.fieldLinkNest oc ix (TX2 j).1 (TX2 j).2.1 (TX2 j).2.2.1 host).before args s = true) : am_Fk (tb_P off ln fx) tb_cl tb_TT oc args s ix 2 j fin := ⟨RX2, TX2, 11, tyX2, j, rfl, rfl, hj, hf, uw_2, tyX2_ok, nmX2, at_2, hl⟩
set_option maxRecDepth 20000 in
theorem uw_3 : ∀ w ∈ u_ws RX3 TX3 2, w ∈ tb_TT := by
  intro w hw
  have h1 : (u_ws RX3 TX3 2).all (fun w => goodWord w) = true := by decide +kernel
  have h2 : (u_ws RX3 TX3 2).map some = ([91, 93] : List Nat).map (fun i => tables_1[i]?) := by decide +kernel
  have h3 : some w ∈ (u_ws RX3 TX3 2).map some := List.mem_map.mpr ⟨w, hw, rfl⟩
  rw [h2] at h3
  obtain ⟨i, -, hi⟩ := List.mem_map.mp h3
  exact tg (tw (List.mem_of_getElem? hi)) (List.all_eq_true.mp h1 w hw)
theorem at_3 : ∀ k : Nat, k < 2 → am_ty (pg_tag 3 (k : Int)) (tyX3 k) := fun k hk => tb_tyb_ok ((show ∀ k : Nat, k < 2 → tb_tyb (pg_tag 3 (k : Int)) (tyX3 k) = true by decide +kernel) k hk)
theorem fk_3 {off : Nat → Int → Option Int} {ln : Int → Option Nat} {fx : Bool} {oc : String} {ix : Nat} {args : Array Value} {s : State} (j : Nat) (hj : j < 2) {fin : Bool} (hf : (TX3 j).2.2.2 = fin) (hl : (Cond.fieldLink oc ix (TX3 j).1 (TX3 j).2.1 (TX3 j).2.2.1).before args s = true ∨ ∃ host, (Cond.fieldLinkNest oc ix (TX3 j).1 (TX3 j).2.1 (TX3 j).2.2.1 host).before args s = true) : am_Fk (tb_P off ln fx) tb_cl tb_TT oc args s ix 3 j fin := ⟨RX3, TX3, 2, tyX3, j, rfl, rfl, hj, hf, uw_3, tyX3_ok, nmX3, at_3, hl⟩
set_option maxRecDepth 20000 in
theorem uw_4 : ∀ w ∈ u_ws RX4 TX4 3, w ∈ tb_TT := by
  intro w hw
  have h1 : (u_ws RX4 TX4 3).all (fun w => goodWord w) = true := by decide +kernel
  have h2 : (u_ws RX4 TX4 3).map some = ([332, 334, 336] : List Nat).map (fun i => tables_1[i]?) := by decide +kernel
  have h3 : some w ∈ (u_ws RX4 TX4 3).map some := List.mem_map.mpr ⟨w, hw, rfl⟩
  rw [h2] at h3
  obtain ⟨i, -, hi⟩ := List.mem_map.mp h3
  exact tg (tw (List.mem_of_getElem? hi)) (List.all_eq_true.mp h1 w hw)
theorem at_4 : ∀ k : Nat, k < 3 → am_ty (pg_tag 4 (k : Int)) (tyX4 k) := fun k hk => tb_tyb_ok ((show ∀ k : Nat, k < 3 → tb_tyb (pg_tag 4 (k : Int)) (tyX4 k) = true by decide +kernel) k hk)
theorem fk_4 {off : Nat → Int → Option Int} {ln : Int → Option Nat} {fx : Bool} {oc : String} {ix : Nat} {args : Array Value} {s : State} (j : Nat) (hj : j < 3) {fin : Bool} (hf : (TX4 j).2.2.2 = fin) (hl : (Cond.fieldLink oc ix (TX4 j).1 (TX4 j).2.1 (TX4 j).2.2.1).before args s = true ∨ ∃ host, (Cond.fieldLinkNest oc ix (TX4 j).1 (TX4 j).2.1 (TX4 j).2.2.1 host).before args s = true) : am_Fk (tb_P off ln fx) tb_cl tb_TT oc args s ix 4 j fin := ⟨RX4, TX4, 3, tyX4, j, rfl, rfl, hj, hf, uw_4, tyX4_ok, nmX4, at_4, hl⟩
set_option maxRecDepth 20000 in
theorem uw_5 : ∀ w ∈ u_ws RX5 TX5 4, w ∈ tb_TT := by
  intro w hw
  have h1 : (u_ws RX5 TX5 4).all (fun w => goodWord w) = true := by decide +kernel
  have h2 : (u_ws RX5 TX5 4).map some = ([134, 136, 138, 140] : List Nat).map (fun i => tables_1[i]?) := by decide +kernel
  have h3 : some w ∈ (u_ws RX5 TX5 4).map some := List.mem_map.mpr ⟨w, hw, rfl⟩
  rw [h2] at h3
  obtain ⟨i, -, hi⟩ := List.mem_map.mp h3
  exact tg (tw (List.mem_of_getElem? hi)) (List.all_eq_true.mp h1 w hw)
theorem at_5 : ∀ k : Nat, k < 4 → am_ty (pg_tag 5 (k : Int)) (tyX5 k) := fun k hk => tb_tyb_ok ((show ∀ k : Nat, k < 4 → tb_tyb (pg_tag 5 (k : Int)) (tyX5 k) = true by decide +kernel) k hk)
theorem fk_5 {off : Nat → Int → Option Int} {ln : Int → Option Nat} {fx : Bool} {oc : String} {ix : Nat} {args : Array Value} {s : State} (j : Nat) (hj : j < 4) {fin : Bool} (hf : (TX5 j).2.2.2 = fin) (hl : (Cond.fieldLink oc ix (TX5 j).1 (TX5 j).2.1 (TX5 j).2.2.1).before args s = true ∨ ∃ host, (Cond.fieldLinkNest oc ix (TX5 j).1 (TX5 j).2.1 (TX5 j).2.2.1 host).before args s = true) : am_Fk (tb_P off ln fx) tb_cl tb_TT oc args s ix 5 j fin := ⟨RX5, TX5, 4, tyX5, j, rfl, rfl, hj, hf, uw_5, tyX5_ok, nmX5, at_5, hl⟩
set_option maxRecDepth 20000 in
theorem uw_6 : ∀ w ∈ u_ws RX6 TX6 6, w ∈ tb_TT := by
  intro w hw
  have h1 : (u_ws RX6 TX6 6).all (fun w => goodWord w) = true := by decide +kernel
  have h2 : (u_ws RX6 TX6 6).map some = ([117, 119, 121, 123, 125, 127] : List Nat).map (fun i => tables_1[i]?) := by decide +kernel
  have h3 : some w ∈ (u_ws RX6 TX6 6).map some := List.mem_map.mpr ⟨w, hw, rfl⟩
  rw [h2] at h3
  obtain ⟨i, -, hi⟩ := List.mem_map.mp h3
  exact tg (tw (List.mem_of_getElem? hi)) (List.all_eq_true.mp h1 w hw)
theorem at_6 : ∀ k : Nat, k < 6 → am_ty (pg_tag 6 (k : Int)) (tyX6 k) := fun k hk => tb_tyb_ok ((show ∀ k : Nat, k < 6 → tb_tyb (pg_tag 6 (k : Int)) (tyX6 k) = true by decide +kernel) k hk)
theorem fk_6 {off : Nat → Int → Option Int} {ln : Int → Option Nat} {fx : Bool} {oc : String} {ix : Nat} {args : Array Value} {s : State} (j : Nat) (hj : j < 6) {fin : Bool} (hf : (TX6 j).2.2.2 = fin) (hl : (Cond.fieldLink oc ix (TX6 j).1 (TX6 j).2.1 (TX6 j).2.2.1).before args s = true ∨ ∃ host, (Cond.fieldLinkNest oc ix (TX6 j).1 (TX6 j).2.1 (TX6 j).2.2.1 host).before args s = true) : am_Fk (tb_P off ln fx) tb_cl tb_TT oc args s ix 6 j fin := ⟨RX6, TX6, 6, tyX6, j, rfl, rfl, hj, hf, uw_6, tyX6_ok, nmX6, at_6, hl⟩
set_option maxRecDepth 20000 in
theorem uw_7 : ∀ w ∈ u_ws RX7 TX7 3, w ∈ tb_TT := by
  intro w hw
  have h1 : (u_ws RX7 TX7 3).all (fun w => goodWord w) = true := by decide +kernel
  have h2 : (u_ws RX7 TX7 3).map some = ([213, 215, 217] : List Nat).map (fun i => tables_1[i]?) := by decide +kernel
  have h3 : some w ∈ (u_ws RX7 TX7 3).map some := List.mem_map.mpr ⟨w, hw, rfl⟩
  rw [h2] at h3
  obtain ⟨i, -, hi⟩ := List.mem_map.mp h3
  exact tg (tw (List.mem_of_getElem? hi)) (List.all_eq_true.mp h1 w hw)
theorem at_7 : ∀ k : Nat, k < 3 → am_ty (pg_tag 7 (k : Int)) (tyX7 k) := fun k hk => tb_tyb_ok ((show ∀ k : Nat, k < 3 → tb_tyb (pg_tag 7 (k : Int)) (tyX7 k) = true by decide +kernel) k hk)
theorem fk_7 {off : Nat → Int → Option Int} {ln : Int → Option Nat} {fx : Bool} {oc : String} {ix : Nat} {args : Array Value} {s : State} (j : Nat) (hj : j < 3) {fin : Bool} (hf : (TX7 j).2.2.2 = fin) (hl : (Cond.fieldLink oc ix (TX7 j).1 (TX7 j).2.1 (TX7 j).2.2.1).before args s = true ∨ ∃ host, (Cond.fieldLinkNest oc ix (TX7 j).1 (TX7 j).2.1 (TX7 j).2.2.1 host).before args s = true) : am_Fk (tb_P off ln fx) tb_cl tb_TT oc args s ix 7 j fin := ⟨RX7, TX7, 3, tyX7, j, rfl, rfl, hj, hf, uw_7, tyX7_ok, nmX7, at_7, hl⟩
set_option maxRecDepth 20000 in
theorem uw_8 : ∀ w ∈ u_ws RX8 TX8 3, w ∈ tb_TT := by
  intro w hw
  have h1 : (u_ws RX8 TX8 3).all (fun w => goodWord w) = true := by decide +kernel
  have h2 : (u_ws RX8 TX8 3).map some = ([76, 78, 80] : List Nat).map (fun i => tables_1[i]?) := by decide +kernel
  have h3 : some w ∈ (u_ws RX8 TX8 3).map some := List.mem_map.mpr ⟨w, hw, rfl⟩
  rw [h2] at h3
  obtain ⟨i, -, hi⟩ := List.mem_map.mp h3
  exact tg (tw (List.mem_of_getElem? hi)) (List.all_eq_true.mp h1 w hw)
theorem at_8 : ∀ k : Nat, k < 3 → am_ty (pg_tag 8 (k : Int)) (tyX8 k) := fun k hk => tb_tyb_ok ((show ∀ k : Nat, k < 3 → tb_tyb (pg_tag 8 (k : Int)) (tyX8 k) = true by decide +kernel) k hk)
theorem fk_8 {off : Nat → Int → Option Int} {ln : Int → Option Nat} {fx : Bool} {oc : String} {ix : Nat} {args : Array Value} {s : State} (j : Nat) (hj : j < 3) {fin : Bool} (hf : (TX8 j).2.2.2 = fin) (hl : (Cond.fieldLink oc ix (TX8 j).1 (TX8 j).2.1 (TX8 j).2.2.1).before args s = true ∨ ∃ host, (Cond.fieldLinkNest oc ix (TX8 j).1 (TX8 j).2.1 (TX8 j).2.2.1 host).before args s = true) : am_Fk (tb_P off ln fx) tb_cl tb_TT oc args s ix 8 j fin := ⟨RX8, TX8, 3, tyX8, j, rfl, rfl, hj, hf, uw_8, tyX8_ok, nmX8, at_8, hl⟩
set_option maxRecDepth 20000 in
theorem uw_9 : ∀ w ∈ u_ws RX9 TX9 8, w ∈ tb_TT := by
  intro w hw
  have h1 : (u_ws RX9 TX9 8).all (fun w => goodWord w) = true := by decide +kernel
  have h2 : (u_ws RX9 TX9 8).map some = ([49, 51, 53, 55, 57, 59, 61, 63] : List Nat).map (fun i => tables_1[i]?) := by decide +kernel
  have h3 : some w ∈ (u_ws RX9 TX9 8).map some := List.mem_map.mpr ⟨w, hw, rfl⟩
  rw [h2] at h3
  obtain ⟨i, -, hi⟩ := List.mem_map.mp h3
  exact tg (tw (List.mem_of_getElem? hi)) (List.all_eq_true.mp h1 w hw)
theorem at_9 : ∀ k : Nat, k < 8 → am_ty (pg_tag 9 (k : Int)) (tyX9 k) := fun k hk => tb_tyb_ok ((show ∀ k : Nat, k < 8 → tb_tyb (pg_tag 9 (k : Int)) (tyX9 k) = true by decide +kernel) k hk)
theorem fk_9 {off : Nat → Int → Option Int} {ln : Int → Option Nat} {fx : Bool} {oc : String} {ix : Nat} {args : Array Value} {s : State} (j : Nat) (hj : j < 8) {fin : Bool} (hf : (TX9 j).2.2.2 = fin) (hl : (Cond.fieldLink oc ix (TX9 j).1 (TX9 j).2.1 (TX9 j).2.2.1).before args s = true ∨ ∃ host, (Cond.fieldLinkNest oc ix (TX9 j).1 (TX9 j).2.1 (TX9 j).2.2.1 host).before args s = true) : am_Fk (tb_P off ln fx) tb_cl tb_TT oc args s ix 9 j fin := ⟨RX9, TX9, 8, tyX9, j, rfl, rfl, hj, hf, uw_9, tyX9_ok, nmX9, at_9, hl⟩
set_option maxRecDepth 20000 in
theorem uw_10 : ∀ w ∈ u_ws RX10 TX10 13, w ∈ tb_TT := by
  intro w hw
  have h1 : (u_ws RX10 TX10 13).all (fun w => goodWord w) = true := by decide +kernel
  have h2 : (u_ws RX10 TX10 13).map some = ([293, 295, 297, 299, 301, 303, 305, 307, 309, 311, 313, 315, 317] : List Nat).map (fun i => tables_1[i]?) := by decide +kernel
  have h3 : some w ∈ (u_ws RX10 TX10 13).map some := List.mem_map.mpr ⟨w, hw, rfl⟩
  rw [h2] at h3
  obtain ⟨i, -, hi⟩ := List.mem_map.mp h3
  exact tg (tw (List.mem_of_getElem? hi)) (List.all_eq_true.mp h1 w hw)
theorem at_10 : ∀ k : Nat, k < 13 → am_ty (pg_tag 10 (k : Int)) (tyX10 k) := fun k hk => tb_tyb_ok ((show ∀ k : Nat, k < 13 → tb_tyb (pg_tag 10 (k : Int)) (tyX10 k) = true by decide +kernel) k hk)
theorem fk_10 {off : Nat → Int → Option Int} {ln : Int → Option Nat} {fx : Bool} {oc : String} {ix : Nat} {args : Array Value} {s : State} (j : Nat) (hj : j < 13) {fin : Bool} (hf : (TX10 j).2.2.2 = fin) (hl : (Cond.fieldLink oc ix (TX10 j).1 (TX10 j).2.1 (TX10 j).2.2.1).before args s = true ∨ ∃ host, (Cond.fieldLinkNest oc ix (TX10 j).1 (TX10 j).2.1 (TX10 j).2.2.1 host).before args s = true) : am_Fk (tb_P off ln fx) tb_cl tb_TT oc args s ix 10 j fin := ⟨RX10, TX10, 13, tyX10, j, rfl, rfl, hj, hf, uw_10, tyX10_ok, nmX10, at_10, hl⟩
set_option maxRecDepth 20000 in
theorem uw_11 : ∀ w ∈ u_ws RX11 TX11 18, w ∈ tb_TT := by
  intro w hw
  have h1 : (u_ws RX11 TX11 18).all (fun w => goodWord w) = true := by decide +kernel
  have h2 : (u_ws RX11 TX11 18).map some = ([357, 359, 361, 363, 365, 367, 369, 371, 373, 375, 377, 379, 381, 383, 385, 387, 389, 391] : List Nat).map (fun i => tables_1[i]?) := by decide +kernel
  have h3 : some w ∈ (u_ws RX11 TX11 18).map some := List.mem_map.mpr ⟨w, hw, rfl⟩
  rw [h2] at h3
  obtain ⟨i, -, hi⟩ := List.mem_map.mp h3
  exact tg (tw (List.mem_of_getElem? hi)) (List.all_eq_true.mp h1 w hw)
theorem at_11 : ∀ k : Nat, k < 18 → am_ty (pg_tag 11 (k : Int)) (tyX11 k) := fun k hk => tb_tyb_ok ((show ∀ k : Nat, k < 18 → tb_tyb (pg_tag 11 (k : Int)) (tyX11 k) = true by decide +kernel) k hk)
theorem fk_11 {off : Nat → Int → Option Int} {ln : Int → Option Nat} {fx : Bool} {oc : String} {ix : Nat} {args : Array Value} {s : State} (j : Nat) (hj : j < 18) {fin : Bool} (hf : (TX11 j).2.2.2 = fin) (hl : (Cond.fieldLink oc ix (TX11 j).1 (TX11 j).2.1 (TX11 j).2.2.1).before args s = true ∨ ∃ host, (Cond.fieldLinkNest oc ix (TX11 j).1 (TX11 j).2.1 (TX11 j).2.2.1 host).before args s = true) : am_Fk (tb_P off ln fx) tb_cl tb_TT oc args s ix 11 j fin := ⟨RX11, TX11, 18, tyX11, j, rfl, rfl, hj, hf, uw_11, tyX11_ok, nmX11, at_11, hl⟩
set_option maxRecDepth 20000 in
theorem uw_12 : ∀ w ∈ u_ws RX12 TX12 94, w ∈ tb_TT := by
  intro w hw
  have h1 : (u_ws RX12 TX12 94).all (fun w => goodWord w) = true := by decide +kernel
  have h2 : (u_ws RX12 TX12 94).map some = ([1297, 1299, 1301, 1303, 1305, 1307, 1309, 1311, 1313, 1315, 1317, 1319, 1321, 1323, 1325, 1327, 1329, 1331, 1333, 1335, 1337, 1339, 1341, 1343, 1345, 1347, 1349, 1351, 1353, 1355, 1357, 1359, 1361, 1363, 1365, 1367, 1369, 1371, 1373, 1375, 1377, 1379, 1381, 1383, 1385, 1387, 1389, 1391, 1393, 1395, 1397, 1399, 1401, 1403, 1405, 1407, 1409, 1411, 1413, 1415, 1417, 1419, 1421, 1423, 1425, 1427, 1429, 1431, 1433, 1435, 1437, 1439, 1441, 1443, 1445, 1447, 1449, 1451, 1453, 1455, 1457, 1459, 1461, 1463, 1465, 1467, 1469, 1471, 1473, 1475, 1477, 1479, 1481, 1483] : List Nat).map (fun i => tables_1[i]?) := by decide +kernel
  have h3 : some w ∈ (u_ws RX12 TX12 94).map some := List.mem_map.mpr ⟨w, hw, rfl⟩
  rw [h2] at h3
  obtain ⟨i, -, hi⟩ := List.mem_map.mp h3
  exact tg (tw (List.mem_of_getElem? hi)) (List.all_eq_true.mp h1 w hw)
theorem at_12 : ∀ k : Nat, k < 94 → am_ty (pg_tag 12 (k : Int)) (tyX12 k) := fun k hk => tb_tyb_ok ((show ∀ k : Nat, k < 94 → tb_tyb (pg_tag 12 (k : Int)) (tyX12 k) = true by decide +kernel) k hk)
theorem fk_12 {off : Nat → Int → Option Int} {ln : Int → Option Nat} {fx : Bool} {oc : String} {ix : Nat} {args : Array Value} {s : State} (j : Nat) (hj : j < 94) {fin : Bool} (hf : (TX12 j).2.2.2 = fin) (hl : (Cond.fieldLink oc ix (TX12 j).1 (TX12 j).2.1 (TX12 j).2.2.1).before args s = true ∨ ∃ host, (Cond.fieldLinkNest oc ix (TX12 j).1 (TX12 j).2.1 (TX12 j).2.2.1 host).before args s = true) : am_Fk (tb_P off ln fx) tb_cl tb_TT oc args s ix 12 j fin := ⟨RX12, TX12, 94, tyX12, j, rfl, rfl, hj, hf, uw_12, tyX12_ok, nmX12, at_12, hl⟩
theorem pn_0 : RX0 ≠ "java/lang/invoke/MethodHandle" ∧ RX0 ≠ "java/lang/invoke/VarHandle" := by decide +kernel
theorem pn_1 : RX1 ≠ "java/lang/invoke/MethodHandle" ∧ RX1 ≠ "java/lang/invoke/VarHandle" := by decide +kernel
theorem pn_2 : RX2 ≠ "java/lang/invoke/MethodHandle" ∧ RX2 ≠ "java/lang/invoke/VarHandle" := by decide +kernel
theorem pn_3 : RX3 ≠ "java/lang/invoke/MethodHandle" ∧ RX3 ≠ "java/lang/invoke/VarHandle" := by decide +kernel
theorem pn_4 : RX4 ≠ "java/lang/invoke/MethodHandle" ∧ RX4 ≠ "java/lang/invoke/VarHandle" := by decide +kernel
theorem pn_5 : RX5 ≠ "java/lang/invoke/MethodHandle" ∧ RX5 ≠ "java/lang/invoke/VarHandle" := by decide +kernel
theorem pn_6 : RX6 ≠ "java/lang/invoke/MethodHandle" ∧ RX6 ≠ "java/lang/invoke/VarHandle" := by decide +kernel
theorem pn_7 : RX7 ≠ "java/lang/invoke/MethodHandle" ∧ RX7 ≠ "java/lang/invoke/VarHandle" := by decide +kernel
theorem pn_8 : RX8 ≠ "java/lang/invoke/MethodHandle" ∧ RX8 ≠ "java/lang/invoke/VarHandle" := by decide +kernel
theorem pn_9 : RX9 ≠ "java/lang/invoke/MethodHandle" ∧ RX9 ≠ "java/lang/invoke/VarHandle" := by decide +kernel
theorem pn_10 : RX10 ≠ "java/lang/invoke/MethodHandle" ∧ RX10 ≠ "java/lang/invoke/VarHandle" := by decide +kernel
theorem pn_11 : RX11 ≠ "java/lang/invoke/MethodHandle" ∧ RX11 ≠ "java/lang/invoke/VarHandle" := by decide +kernel
theorem pn_12 : RX12 ≠ "java/lang/invoke/MethodHandle" ∧ RX12 ≠ "java/lang/invoke/VarHandle" := by decide +kernel
theorem pn_13 : RL ≠ "java/lang/invoke/MethodHandle" ∧ RL ≠ "java/lang/invoke/VarHandle" := by decide +kernel
theorem pn_14 : RJ9 ≠ "java/lang/invoke/MethodHandle" ∧ RJ9 ≠ "java/lang/invoke/VarHandle" := by decide +kernel
theorem pn_15 : RJ6 ≠ "java/lang/invoke/MethodHandle" ∧ RJ6 ≠ "java/lang/invoke/VarHandle" := by decide +kernel
theorem pp_0 : plainName RX0 = true := by decide +kernel
theorem pp_1 : plainName RX1 = true := by decide +kernel
theorem pp_2 : plainName RX2 = true := by decide +kernel
theorem pp_3 : plainName RX3 = true := by decide +kernel
theorem pp_4 : plainName RX4 = true := by decide +kernel
theorem pp_5 : plainName RX5 = true := by decide +kernel
theorem pp_6 : plainName RX6 = true := by decide +kernel
theorem pp_7 : plainName RX7 = true := by decide +kernel
theorem pp_8 : plainName RX8 = true := by decide +kernel
theorem pp_9 : plainName RX9 = true := by decide +kernel
theorem pp_10 : plainName RX10 = true := by decide +kernel
theorem pp_11 : plainName RX11 = true := by decide +kernel
theorem pp_12 : plainName RX12 = true := by decide +kernel
theorem pp_13 : plainName RL = true := by decide +kernel
theorem pp_15 : plainName RJ6 = true := by decide +kernel
def tb_Pf (mid : Nat) : am_I → Prop := fun (own, n, ret, mx, code) => plainFor (tb_ym mid) = true ∧ (tb_ym mid).cls = tb_nmf own ∧ Cond.code (tb_ym mid) (tb_bm mid) mx (tb_rt mid) ∈ tb_TT ∧ mx ≤ 40 ∧ (∀ pc len i, am_at code pc = some (len, i) → decode (tb_bm mid) pc = .ok (i, len) ∧ am_okI mx pc i len = true) ∧ am_rty ret (tb_rt mid) (tb_ym mid).name
def tb_Lf (kd mid : Nat) (n : Int) : Prop := ∃ (ow n1 ret mx : Nat) (code : am_C), pg.2.1 mid = some (ow, n1, ret, mx, code) ∧ n = (n1 : Int) ∧ ((tb_ym mid).cls ≠ "java/lang/invoke/MethodHandle" ∧ (tb_ym mid).cls ≠ "java/lang/invoke/VarHandle") ∧ (parseMethodDescriptor (tb_ym mid).desc).map (fun d => d.parameters.length) = some (if kd = 12 then n1 else n1 - 1) ∧ (kd = 12 ∨ 1 ≤ n1) ∧ Cond.initialized (tb_ym mid).cls ∈ tb_TT ∧ (kd = 2 → Cond.instanceMethod (tb_ym mid) ∈ tb_TT ∧ Cond.selects (tb_ym mid).cls (tb_ym mid) (tb_ym mid) ∈ tb_TT) ∧ (kd = 12 → Cond.static (tb_ym mid) ∈ tb_TT) ∧ (kd = 13 → (tb_ym mid).name = "<init>" ∧ Cond.instanceMethod (tb_ym mid) ∈ tb_TT ∧ tb_rt mid = none)
set_option maxRecDepth 20000 in
theorem mg_0 : tb_Pf 0 (0, 1, 8, 1, co_X0_init) := ⟨(plainFor_of_name pp_0), rfl, (tg tw_224 rfl), by decide, am_ckc_ok ck_X0_init, ⟨rfl, rfl⟩⟩
set_option maxRecDepth 20000 in
theorem mg_1 : tb_Pf 1 (0, 1, 9, 1, co_X0_forget) := ⟨(plainFor_of_name pp_0), rfl, (tg tw_701 rfl), by decide, am_ckc_ok ck_X0_forget, rfl⟩
set_option maxRecDepth 20000 in
theorem mg_2 : tb_Pf 2 (0, 2, 9, 2, co_X0_keep) := ⟨(plainFor_of_name pp_0), rfl, (tg tw_1055 rfl), by decide, am_ckc_ok ck_X0_keep, rfl⟩
set_option maxRecDepth 20000 in
theorem mg_3 : tb_Pf 3 (0, 2, 9, 3, co_X0_takeBack) := ⟨(plainFor_of_name pp_0), rfl, (tg tw_1092 rfl), by decide, am_ckc_ok ck_X0_takeBack, rfl⟩
set_option maxRecDepth 20000 in
theorem mg_4 : tb_Pf 4 (1, 1, 8, 1, co_X1_init) := ⟨(plainFor_of_name pp_1), rfl, (tg tw_242 rfl), by decide, am_ckc_ok ck_X1_init, ⟨rfl, rfl⟩⟩
set_option maxRecDepth 20000 in
theorem mg_5 : tb_Pf 5 (1, 3, 9, 4, co_X1_go) := ⟨(plainFor_of_name pp_1), rfl, (tg tw_853 rfl), by decide, am_ckc_ok ck_X1_go, rfl⟩
set_option maxRecDepth 20000 in
theorem mg_6 : tb_Pf 6 (1, 2, 0, 2, co_X1_dreadIn) := ⟨(plainFor_of_name pp_1), rfl, (tg tw_877 rfl), by decide, am_ckc_ok ck_X1_dreadIn, rfl⟩
set_option maxRecDepth 20000 in
theorem mg_7 : tb_Pf 7 (1, 3, 0, 4, co_X1_weightAt) := ⟨(plainFor_of_name pp_1), rfl, (tg tw_886 rfl), by decide, am_ckc_ok ck_X1_weightAt, rfl⟩
set_option maxRecDepth 20000 in
theorem mg_8 : tb_Pf 8 (1, 2, 0, 5, co_X1_firstLike) := ⟨(plainFor_of_name pp_1), rfl, (tg tw_898 rfl), by decide, am_ckc_ok ck_X1_firstLike, rfl⟩
set_option maxRecDepth 20000 in
theorem mg_9 : tb_Pf 9 (1, 4, 0, 6, co_X1_goTogether) := ⟨(plainFor_of_name pp_1), rfl, (tg tw_997 rfl), by decide, am_ckc_ok ck_X1_goTogether, rfl⟩
set_option maxRecDepth 20000 in
theorem mg_10 : tb_Pf 10 (1, 2, 0, 6, co_X1_heaviestOfBoth) := ⟨(plainFor_of_name pp_1), rfl, (tg tw_1001 rfl), by decide, am_ckc_ok ck_X1_heaviestOfBoth, rfl⟩
set_option maxRecDepth 20000 in
theorem mg_11 : tb_Pf 11 (1, 7, 5, 9, co_X1_follows) := ⟨(plainFor_of_name pp_1), rfl, (tg tw_1110 rfl), by decide, am_ckc_ok ck_X1_follows, rfl⟩
set_option maxRecDepth 20000 in
theorem mg_12 : tb_Pf 12 (2, 1, 8, 1, co_X2_init) := ⟨(plainFor_of_name pp_2), rfl, (tg tw_147 rfl), by decide, am_ckc_ok ck_X2_init, ⟨rfl, rfl⟩⟩
set_option maxRecDepth 20000 in
theorem mg_13 : tb_Pf 13 (2, 1, 9, 2, co_X2_clear) := ⟨(plainFor_of_name pp_2), rfl, (tg tw_421 rfl), by decide, am_ckc_ok ck_X2_clear, rfl⟩
set_option maxRecDepth 20000 in
theorem mg_14 : tb_Pf 14 (2, 2, 0, 2, co_X2_count) := ⟨(plainFor_of_name pp_2), rfl, (tg tw_526 rfl), by decide, am_ckc_ok ck_X2_count, rfl⟩
set_option maxRecDepth 20000 in
theorem mg_15 : tb_Pf 15 (2, 3, 5, 3, co_X2_isThere) := ⟨(plainFor_of_name pp_2), rfl, (tg tw_731 rfl), by decide, am_ckc_ok ck_X2_isThere, rfl⟩
set_option maxRecDepth 20000 in
theorem mg_16 : tb_Pf 16 (2, 2, 5, 2, co_X2_isFull) := ⟨(plainFor_of_name pp_2), rfl, (tg tw_522 rfl), by decide, am_ckc_ok ck_X2_isFull, rfl⟩
set_option maxRecDepth 20000 in
theorem mg_17 : tb_Pf 17 (2, 3, 0, 3, co_X2_placeOf) := ⟨(plainFor_of_name pp_2), rfl, (tg tw_557 rfl), by decide, am_ckc_ok ck_X2_placeOf, rfl⟩
set_option maxRecDepth 20000 in
theorem mg_18 : tb_Pf 18 (2, 3, 0, 4, co_X2_letterAt) := ⟨(plainFor_of_name pp_2), rfl, (tg tw_561 rfl), by decide, am_ckc_ok ck_X2_letterAt, rfl⟩
set_option maxRecDepth 20000 in
theorem mg_19 : tb_Pf 19 (2, 3, 0, 6, co_X2_giveName) := ⟨(plainFor_of_name pp_2), rfl, (tg tw_566 rfl), by decide, am_ckc_ok ck_X2_giveName, rfl⟩
set_option maxRecDepth 20000 in
theorem mg_20 : tb_Pf 20 (2, 3, 0, 7, co_X2_findName) := ⟨(plainFor_of_name pp_2), rfl, (tg tw_552 rfl), by decide, am_ckc_ok ck_X2_findName, rfl⟩
set_option maxRecDepth 20000 in
theorem mg_21 : tb_Pf 21 (2, 3, 9, 3, co_X2_brave) := ⟨(plainFor_of_name pp_2), rfl, (tg tw_596 rfl), by decide, am_ckc_ok ck_X2_brave, rfl⟩
set_option maxRecDepth 20000 in
theorem mg_22 : tb_Pf 22 (2, 4, 9, 5, co_X2_fear) := ⟨(plainFor_of_name pp_2), rfl, (tg tw_608 rfl), by decide, am_ckc_ok ck_X2_fear, rfl⟩
set_option maxRecDepth 20000 in
theorem mg_23 : tb_Pf 23 (2, 3, 9, 3, co_X2_lead) := ⟨(plainFor_of_name pp_2), rfl, (tg tw_617 rfl), by decide, am_ckc_ok ck_X2_lead, rfl⟩
set_option maxRecDepth 20000 in
theorem mg_24 : tb_Pf 24 (2, 2, 5, 2, co_X2_hasSum) := ⟨(plainFor_of_name pp_2), rfl, (tg tw_532 rfl), by decide, am_ckc_ok ck_X2_hasSum, rfl⟩
set_option maxRecDepth 20000 in
theorem mg_25 : tb_Pf 25 (2, 3, 9, 3, co_X2_markSum) := ⟨(plainFor_of_name pp_2), rfl, (tg tw_684 rfl), by decide, am_ckc_ok ck_X2_markSum, rfl⟩
set_option maxRecDepth 20000 in
theorem mg_26 : tb_Pf 26 (2, 2, 0, 2, co_X2_braveryOf) := ⟨(plainFor_of_name pp_2), rfl, (tg tw_745 rfl), by decide, am_ckc_ok ck_X2_braveryOf, rfl⟩
set_option maxRecDepth 20000 in
theorem mg_27 : tb_Pf 27 (2, 2, 0, 2, co_X2_dreadOf) := ⟨(plainFor_of_name pp_2), rfl, (tg tw_773 rfl), by decide, am_ckc_ok ck_X2_dreadOf, rfl⟩
set_option maxRecDepth 20000 in
theorem mg_28 : tb_Pf 28 (2, 3, 9, 5, co_X2_lay) := ⟨(plainFor_of_name pp_2), rfl, (tg tw_693 rfl), by decide, am_ckc_ok ck_X2_lay, rfl⟩
set_option maxRecDepth 20000 in
theorem mg_29 : tb_Pf 29 (2, 3, 0, 4, co_X2_counts) := ⟨(plainFor_of_name pp_2), rfl, (tg tw_765 rfl), by decide, am_ckc_ok ck_X2_counts, rfl⟩
set_option maxRecDepth 20000 in
theorem mg_30 : tb_Pf 30 (2, 3, 0, 7, co_X2_heaviest) := ⟨(plainFor_of_name pp_2), rfl, (tg tw_761 rfl), by decide, am_ckc_ok ck_X2_heaviest, rfl⟩
set_option maxRecDepth 20000 in
theorem mg_31 : tb_Pf 31 (2, 2, 5, 2, co_X2_isHome) := ⟨(plainFor_of_name pp_2), rfl, (tg tw_719 rfl), by decide, am_ckc_ok ck_X2_isHome, rfl⟩
set_option maxRecDepth 20000 in
theorem mg_32 : tb_Pf 32 (2, 4, 0, 4, co_X2_becomes) := ⟨(plainFor_of_name pp_2), rfl, (tg tw_787 rfl), by decide, am_ckc_ok ck_X2_becomes, rfl⟩
set_option maxRecDepth 20000 in
theorem mg_33 : tb_Pf 33 (2, 3, 5, 3, co_X2_canEnter) := ⟨(plainFor_of_name pp_2), rfl, (tg tw_870 rfl), by decide, am_ckc_ok ck_X2_canEnter, rfl⟩
set_option maxRecDepth 20000 in
theorem mg_34 : tb_Pf 34 (2, 3, 0, 6, co_X2_enter) := ⟨(plainFor_of_name pp_2), rfl, (tg tw_866 rfl), by decide, am_ckc_ok ck_X2_enter, rfl⟩
set_option maxRecDepth 20000 in
theorem mg_35 : tb_Pf 35 (2, 3, 9, 3, co_X2_meetByDay) := ⟨(plainFor_of_name pp_2), rfl, (tg tw_975 rfl), by decide, am_ckc_ok ck_X2_meetByDay, rfl⟩
set_option maxRecDepth 20000 in
theorem mg_36 : tb_Pf 36 (3, 3, 8, 3, co_X3_init) := ⟨(plainFor_of_name pp_3), rfl, (tg tw_87 rfl), by decide, am_ckc_ok ck_X3_init, ⟨rfl, rfl⟩⟩
set_option maxRecDepth 20000 in
theorem mg_37 : tb_Pf 37 (3, 2, 0, 3, co_X3_read) := ⟨(plainFor_of_name pp_3), rfl, (tg tw_417 rfl), by decide, am_ckc_ok ck_X3_read, rfl⟩
set_option maxRecDepth 20000 in
theorem mg_38 : tb_Pf 38 (3, 2, 9, 3, co_X3_readStatement) := ⟨(plainFor_of_name pp_3), rfl, (tg tw_454 rfl), by decide, am_ckc_ok ck_X3_readStatement, rfl⟩
set_option maxRecDepth 20000 in
theorem mg_39 : tb_Pf 39 (3, 2, 5, 2, co_X3_isOneTooMany) := ⟨(plainFor_of_name pp_3), rfl, (tg tw_518 rfl), by decide, am_ckc_ok ck_X3_isOneTooMany, rfl⟩
set_option maxRecDepth 20000 in
theorem mg_40 : tb_Pf 40 (3, 2, 9, 3, co_X3_readDreamer) := ⟨(plainFor_of_name pp_3), rfl, (tg tw_571 rfl), by decide, am_ckc_ok ck_X3_readDreamer, rfl⟩
set_option maxRecDepth 20000 in
theorem mg_41 : tb_Pf 41 (3, 2, 9, 4, co_X3_readFears) := ⟨(plainFor_of_name pp_3), rfl, (tg tw_600 rfl), by decide, am_ckc_ok ck_X3_readFears, rfl⟩
set_option maxRecDepth 20000 in
theorem mg_42 : tb_Pf 42 (3, 2, 9, 3, co_X3_readGuide) := ⟨(plainFor_of_name pp_3), rfl, (tg tw_612 rfl), by decide, am_ckc_ok ck_X3_readGuide, rfl⟩
set_option maxRecDepth 20000 in
theorem mg_43 : tb_Pf 43 (3, 3, 9, 4, co_X3_readSum) := ⟨(plainFor_of_name pp_3), rfl, (tg tw_621 rfl), by decide, am_ckc_ok ck_X3_readSum, rfl⟩
set_option maxRecDepth 20000 in
theorem mg_44 : tb_Pf 44 (3, 3, 0, 4, co_X3_readNewName) := ⟨(plainFor_of_name pp_3), rfl, (tg tw_540 rfl), by decide, am_ckc_ok ck_X3_readNewName, rfl⟩
set_option maxRecDepth 20000 in
theorem mg_45 : tb_Pf 45 (3, 3, 0, 4, co_X3_readKnownName) := ⟨(plainFor_of_name pp_3), rfl, (tg tw_604 rfl), by decide, am_ckc_ok ck_X3_readKnownName, rfl⟩
set_option maxRecDepth 20000 in
theorem mg_46 : tb_Pf 46 (4, 1, 8, 1, co_X4_init) := ⟨(plainFor_of_name pp_4), rfl, (tg tw_324 rfl), by decide, am_ckc_ok ck_X4_init, ⟨rfl, rfl⟩⟩
set_option maxRecDepth 20000 in
theorem mg_47 : tb_Pf 47 (4, 4, 5, 4, co_X4_canBeHome) := ⟨(plainFor_of_name pp_4), rfl, (tg tw_1013 rfl), by decide, am_ckc_ok ck_X4_canBeHome, rfl⟩
set_option maxRecDepth 20000 in
theorem mg_48 : tb_Pf 48 (4, 4, 5, 4, co_X4_escapes) := ⟨(plainFor_of_name pp_4), rfl, (tg tw_1018 rfl), by decide, am_ckc_ok ck_X4_escapes, rfl⟩
set_option maxRecDepth 20000 in
theorem mg_49 : tb_Pf 49 (4, 5, 5, 7, co_X4_bears) := ⟨(plainFor_of_name pp_4), rfl, (tg tw_1023 rfl), by decide, am_ckc_ok ck_X4_bears, rfl⟩
set_option maxRecDepth 20000 in
theorem mg_50 : tb_Pf 50 (4, 4, 0, 9, co_X4_thousandths) := ⟨(plainFor_of_name pp_4), rfl, (tg tw_1036 rfl), by decide, am_ckc_ok ck_X4_thousandths, rfl⟩
set_option maxRecDepth 20000 in
theorem mg_51 : tb_Pf 51 (4, 5, 1, 8, co_X4_shareHome) := ⟨(plainFor_of_name pp_4), rfl, (tg tw_1041 rfl), by decide, am_ckc_ok ck_X4_shareHome, rfl⟩
set_option maxRecDepth 20000 in
theorem mg_52 : tb_Pf 52 (5, 3, 8, 3, co_X5_init) := ⟨(plainFor_of_name pp_5), rfl, (tg tw_100 rfl), by decide, am_ckc_ok ck_X5_init, ⟨rfl, rfl⟩⟩
set_option maxRecDepth 20000 in
theorem mg_53 : tb_Pf 53 (5, 1, 5, 1, co_X5_read) := ⟨(plainFor_of_name pp_5), rfl, (tg tw_1119 rfl), by decide, am_ckc_ok ck_X5_read, rfl⟩
set_option maxRecDepth 20000 in
theorem mg_54 : tb_Pf 54 (5, 2, 9, 3, co_X5_readTest) := ⟨(plainFor_of_name pp_5), rfl, (tg tw_1130 rfl), by decide, am_ckc_ok ck_X5_readTest, rfl⟩
set_option maxRecDepth 20000 in
theorem mg_55 : tb_Pf 55 (5, 2, 9, 3, co_X5_readBoth) := ⟨(plainFor_of_name pp_5), rfl, (tg tw_1134 rfl), by decide, am_ckc_ok ck_X5_readBoth, rfl⟩
set_option maxRecDepth 20000 in
theorem mg_56 : tb_Pf 56 (5, 2, 9, 3, co_X5_readFact) := ⟨(plainFor_of_name pp_5), rfl, (tg tw_1138 rfl), by decide, am_ckc_ok ck_X5_readFact, rfl⟩
set_option maxRecDepth 20000 in
theorem mg_57 : tb_Pf 57 (5, 2, 1, 11, co_X5_answer) := ⟨(plainFor_of_name pp_5), rfl, (tg tw_1158 rfl), by decide, am_ckc_ok ck_X5_answer, rfl⟩
set_option maxRecDepth 20000 in
theorem mg_58 : tb_Pf 58 (5, 3, 0, 3, co_X5_valueIn) := ⟨(plainFor_of_name pp_5), rfl, (tg tw_1162 rfl), by decide, am_ckc_ok ck_X5_valueIn, rfl⟩
set_option maxRecDepth 20000 in
theorem mg_59 : tb_Pf 59 (6, 1, 8, 1, co_X6_init) := ⟨(plainFor_of_name pp_6), rfl, (tg tw_106 rfl), by decide, am_ckc_ok ck_X6_init, ⟨rfl, rfl⟩⟩
set_option maxRecDepth 20000 in
theorem mg_60 : tb_Pf 60 (6, 1, 9, 1, co_X6_clear) := ⟨(plainFor_of_name pp_6), rfl, (tg tw_425 rfl), by decide, am_ckc_ok ck_X6_clear, rfl⟩
set_option maxRecDepth 20000 in
theorem mg_61 : tb_Pf 61 (6, 2, 9, 2, co_X6_add) := ⟨(plainFor_of_name pp_6), rfl, (tg tw_644 rfl), by decide, am_ckc_ok ck_X6_add, rfl⟩
set_option maxRecDepth 20000 in
theorem mg_62 : tb_Pf 62 (6, 3, 9, 8, co_X6_see) := ⟨(plainFor_of_name pp_6), rfl, (tg tw_792 rfl), by decide, am_ckc_ok ck_X6_see, rfl⟩
set_option maxRecDepth 20000 in
theorem mg_63 : tb_Pf 63 (6, 3, 9, 3, co_X6_know) := ⟨(plainFor_of_name pp_6), rfl, (tg tw_797 rfl), by decide, am_ckc_ok ck_X6_know, rfl⟩
set_option maxRecDepth 20000 in
theorem mg_64 : tb_Pf 64 (6, 3, 0, 6, co_X6_value) := ⟨(plainFor_of_name pp_6), rfl, (tg tw_803 rfl), by decide, am_ckc_ok ck_X6_value, rfl⟩
set_option maxRecDepth 20000 in
theorem mg_65 : tb_Pf 65 (6, 2, 9, 2, co_X6_push) := ⟨(plainFor_of_name pp_6), rfl, (tg tw_807 rfl), by decide, am_ckc_ok ck_X6_push, rfl⟩
set_option maxRecDepth 20000 in
theorem mg_66 : tb_Pf 66 (6, 1, 0, 1, co_X6_pop) := ⟨(plainFor_of_name pp_6), rfl, (tg tw_815 rfl), by decide, am_ckc_ok ck_X6_pop, rfl⟩
set_option maxRecDepth 20000 in
theorem mg_67 : tb_Pf 67 (6, 2, 0, 2, co_X6_fact) := ⟨(plainFor_of_name pp_6), rfl, (tg tw_811 rfl), by decide, am_ckc_ok ck_X6_fact, rfl⟩
set_option maxRecDepth 20000 in
theorem mg_68 : tb_Pf 68 (6, 2, 0, 2, co_X6_weightOf) := ⟨(plainFor_of_name pp_6), rfl, (tg tw_819 rfl), by decide, am_ckc_ok ck_X6_weightOf, rfl⟩
set_option maxRecDepth 20000 in
theorem mg_69 : tb_Pf 69 (6, 3, 0, 3, co_X6_join) := ⟨(plainFor_of_name pp_6), rfl, (tg tw_822 rfl), by decide, am_ckc_ok ck_X6_join, rfl⟩
set_option maxRecDepth 20000 in
theorem mg_70 : tb_Pf 70 (7, 1, 8, 1, co_X7_init) := ⟨(plainFor_of_name pp_7), rfl, (tg tw_202 rfl), by decide, am_ckc_ok ck_X7_init, ⟨rfl, rfl⟩⟩
set_option maxRecDepth 20000 in
theorem mg_71 : tb_Pf 71 (7, 2, 9, 3, co_X7_copy) := ⟨(plainFor_of_name pp_7), rfl, (tg tw_857 rfl), by decide, am_ckc_ok ck_X7_copy, rfl⟩
set_option maxRecDepth 20000 in
theorem mg_72 : tb_Pf 72 (7, 2, 0, 2, co_X7_at) := ⟨(plainFor_of_name pp_7), rfl, (tg tw_769 rfl), by decide, am_ckc_ok ck_X7_at, rfl⟩
set_option maxRecDepth 20000 in
theorem mg_73 : tb_Pf 73 (7, 3, 9, 3, co_X7_put) := ⟨(plainFor_of_name pp_7), rfl, (tg tw_697 rfl), by decide, am_ckc_ok ck_X7_put, rfl⟩
set_option maxRecDepth 20000 in
theorem mg_74 : tb_Pf 74 (7, 1, 0, 3, co_X7_total) := ⟨(plainFor_of_name pp_7), rfl, (tg tw_723 rfl), by decide, am_ckc_ok ck_X7_total, rfl⟩
set_option maxRecDepth 20000 in
theorem mg_75 : tb_Pf 75 (7, 1, 0, 3, co_X7_greatest) := ⟨(plainFor_of_name pp_7), rfl, (tg tw_750 rfl), by decide, am_ckc_ok ck_X7_greatest, rfl⟩
set_option maxRecDepth 20000 in
theorem mg_76 : tb_Pf 76 (7, 1, 0, 3, co_X7_countHeavy) := ⟨(plainFor_of_name pp_7), rfl, (tg tw_757 rfl), by decide, am_ckc_ok ck_X7_countHeavy, rfl⟩
set_option maxRecDepth 20000 in
theorem mg_77 : tb_Pf 77 (7, 1, 9, 2, co_X7_laugh) := ⟨(plainFor_of_name pp_7), rfl, (tg tw_1045 rfl), by decide, am_ckc_ok ck_X7_laugh, rfl⟩
set_option maxRecDepth 20000 in
theorem mg_78 : tb_Pf 78 (7, 3, 5, 5, co_X7_isLike) := ⟨(plainFor_of_name pp_7), rfl, (tg tw_983 rfl), by decide, am_ckc_ok ck_X7_isLike, rfl⟩
set_option maxRecDepth 20000 in
theorem mg_79 : tb_Pf 79 (7, 3, 9, 4, co_X7_writeTo) := ⟨(plainFor_of_name pp_7), rfl, (tg tw_861 rfl), by decide, am_ckc_ok ck_X7_writeTo, rfl⟩
set_option maxRecDepth 20000 in
theorem mg_80 : tb_Pf 80 (8, 2, 8, 2, co_X8_init) := ⟨(plainFor_of_name pp_8), rfl, (tg tw_71 rfl), by decide, am_ckc_ok ck_X8_init, ⟨rfl, rfl⟩⟩
set_option maxRecDepth 20000 in
theorem mg_81 : tb_Pf 81 (8, 3, 9, 3, co_X8_write) := ⟨(plainFor_of_name pp_8), rfl, (tg tw_429 rfl), by decide, am_ckc_ok ck_X8_write, rfl⟩
set_option maxRecDepth 20000 in
theorem mg_82 : tb_Pf 82 (8, 2, 9, 2, co_X8_emit) := ⟨(plainFor_of_name pp_8), rfl, (tg tw_640 rfl), by decide, am_ckc_ok ck_X8_emit, rfl⟩
set_option maxRecDepth 20000 in
theorem mg_83 : tb_Pf 83 (8, 2, 5, 2, co_X8_mayOpen) := ⟨(plainFor_of_name pp_8), rfl, (tg tw_652 rfl), by decide, am_ckc_ok ck_X8_mayOpen, rfl⟩
set_option maxRecDepth 20000 in
theorem mg_84 : tb_Pf 84 (8, 2, 9, 4, co_X8_readSum) := ⟨(plainFor_of_name pp_8), rfl, (tg tw_625 rfl), by decide, am_ckc_ok ck_X8_readSum, rfl⟩
set_option maxRecDepth 20000 in
theorem mg_85 : tb_Pf 85 (8, 2, 9, 4, co_X8_readProduct) := ⟨(plainFor_of_name pp_8), rfl, (tg tw_629 rfl), by decide, am_ckc_ok ck_X8_readProduct, rfl⟩
set_option maxRecDepth 20000 in
theorem mg_86 : tb_Pf 86 (8, 2, 9, 2, co_X8_readPart) := ⟨(plainFor_of_name pp_8), rfl, (tg tw_633 rfl), by decide, am_ckc_ok ck_X8_readPart, rfl⟩
set_option maxRecDepth 20000 in
theorem mg_87 : tb_Pf 87 (8, 2, 9, 4, co_X8_readWord) := ⟨(plainFor_of_name pp_8), rfl, (tg tw_668 rfl), by decide, am_ckc_ok ck_X8_readWord, rfl⟩
set_option maxRecDepth 20000 in
theorem mg_88 : tb_Pf 88 (8, 2, 9, 2, co_X8_readPair) := ⟨(plainFor_of_name pp_8), rfl, (tg tw_680 rfl), by decide, am_ckc_ok ck_X8_readPair, rfl⟩
set_option maxRecDepth 20000 in
theorem mg_89 : tb_Pf 89 (9, 1, 8, 1, co_X9_init) := ⟨(plainFor_of_name pp_9), rfl, (tg tw_33 rfl), by decide, am_ckc_ok ck_X9_init, ⟨rfl, rfl⟩⟩
set_option maxRecDepth 20000 in
theorem mg_90 : tb_Pf 90 (9, 2, 9, 3, co_X9_add) := ⟨(plainFor_of_name pp_9), rfl, (tg tw_405 rfl), by decide, am_ckc_ok ck_X9_add, rfl⟩
set_option maxRecDepth 20000 in
theorem mg_91 : tb_Pf 91 (9, 1, 9, 1, co_X9_wipe) := ⟨(plainFor_of_name pp_9), rfl, (tg tw_689 rfl), by decide, am_ckc_ok ck_X9_wipe, rfl⟩
set_option maxRecDepth 20000 in
theorem mg_92 : tb_Pf 92 (9, 2, 0, 2, co_X9_byteAt) := ⟨(plainFor_of_name pp_9), rfl, (tg tw_515 rfl), by decide, am_ckc_ok ck_X9_byteAt, rfl⟩
set_option maxRecDepth 20000 in
theorem mg_93 : tb_Pf 93 (9, 2, 0, 2, co_X9_pairAt) := ⟨(plainFor_of_name pp_9), rfl, (tg tw_1192 rfl), by decide, am_ckc_ok ck_X9_pairAt, rfl⟩
set_option maxRecDepth 20000 in
theorem mg_94 : tb_Pf 94 (9, 1, 9, 1, co_X9_start) := ⟨(plainFor_of_name pp_9), rfl, (tg tw_433 rfl), by decide, am_ckc_ok ck_X9_start, rfl⟩
set_option maxRecDepth 20000 in
theorem mg_95 : tb_Pf 95 (9, 1, 5, 1, co_X9_failed) := ⟨(plainFor_of_name pp_9), rfl, (tg tw_437 rfl), by decide, am_ckc_ok ck_X9_failed, rfl⟩
set_option maxRecDepth 20000 in
theorem mg_96 : tb_Pf 96 (9, 3, 9, 3, co_X9_blame) := ⟨(plainFor_of_name pp_9), rfl, (tg tw_450 rfl), by decide, am_ckc_ok ck_X9_blame, rfl⟩
set_option maxRecDepth 20000 in
theorem mg_97 : tb_Pf 97 (9, 2, 9, 2, co_X9_blameHere) := ⟨(plainFor_of_name pp_9), rfl, (tg tw_445 rfl), by decide, am_ckc_ok ck_X9_blameHere, rfl⟩
set_option maxRecDepth 20000 in
theorem mg_98 : tb_Pf 98 (9, 1, 0, 1, co_X9_look) := ⟨(plainFor_of_name pp_9), rfl, (tg tw_441 rfl), by decide, am_ckc_ok ck_X9_look, rfl⟩
set_option maxRecDepth 20000 in
theorem mg_99 : tb_Pf 99 (9, 2, 5, 2, co_X9_sees) := ⟨(plainFor_of_name pp_9), rfl, (tg tw_648 rfl), by decide, am_ckc_ok ck_X9_sees, rfl⟩
set_option maxRecDepth 20000 in
theorem mg_100 : tb_Pf 100 (9, 1, 9, 1, co_X9_step) := ⟨(plainFor_of_name pp_9), rfl, (tg tw_657 rfl), by decide, am_ckc_ok ck_X9_step, rfl⟩
set_option maxRecDepth 20000 in
theorem mg_101 : tb_Pf 101 (9, 2, 9, 2, co_X9_demand) := ⟨(plainFor_of_name pp_9), rfl, (tg tw_662 rfl), by decide, am_ckc_ok ck_X9_demand, rfl⟩
set_option maxRecDepth 20000 in
theorem mg_102 : tb_Pf 102 (9, 1, 9, 1, co_X9_demandEnd) := ⟨(plainFor_of_name pp_9), rfl, (tg tw_1154 rfl), by decide, am_ckc_ok ck_X9_demandEnd, rfl⟩
set_option maxRecDepth 20000 in
theorem mg_103 : tb_Pf 103 (9, 1, 5, 1, co_X9_isDigit) := ⟨(plainFor_of_name pp_9), rfl, (tg tw_592 rfl), by decide, am_ckc_ok ck_X9_isDigit, rfl⟩
set_option maxRecDepth 20000 in
theorem mg_104 : tb_Pf 104 (9, 1, 5, 1, co_X9_seesDigit) := ⟨(plainFor_of_name pp_9), rfl, (tg tw_589 rfl), by decide, am_ckc_ok ck_X9_seesDigit, rfl⟩
set_option maxRecDepth 20000 in
theorem mg_105 : tb_Pf 105 (9, 1, 0, 2, co_X9_wordSize) := ⟨(plainFor_of_name pp_9), rfl, (tg tw_463 rfl), by decide, am_ckc_ok ck_X9_wordSize, rfl⟩
set_option maxRecDepth 20000 in
theorem mg_106 : tb_Pf 106 (9, 2, 0, 8, co_X9_wordIn) := ⟨(plainFor_of_name pp_9), rfl, (tg tw_459 rfl), by decide, am_ckc_ok ck_X9_wordIn, rfl⟩
set_option maxRecDepth 20000 in
theorem mg_107 : tb_Pf 107 (9, 1, 9, 1, co_X9_skipWord) := ⟨(plainFor_of_name pp_9), rfl, (tg tw_536 rfl), by decide, am_ckc_ok ck_X9_skipWord, rfl⟩
set_option maxRecDepth 20000 in
theorem mg_108 : tb_Pf 108 (9, 2, 5, 2, co_X9_takeWord) := ⟨(plainFor_of_name pp_9), rfl, (tg tw_580 rfl), by decide, am_ckc_ok ck_X9_takeWord, rfl⟩
set_option maxRecDepth 20000 in
theorem mg_109 : tb_Pf 109 (9, 2, 9, 2, co_X9_demandWord) := ⟨(plainFor_of_name pp_9), rfl, (tg tw_576 rfl), by decide, am_ckc_ok ck_X9_demandWord, rfl⟩
set_option maxRecDepth 20000 in
theorem mg_110 : tb_Pf 110 (9, 1, 5, 2, co_X9_takeName) := ⟨(plainFor_of_name pp_9), rfl, (tg tw_544 rfl), by decide, am_ckc_ok ck_X9_takeName, rfl⟩
set_option maxRecDepth 20000 in
theorem mg_111 : tb_Pf 111 (9, 2, 0, 5, co_X9_takeNumber) := ⟨(plainFor_of_name pp_9), rfl, (tg tw_585 rfl), by decide, am_ckc_ok ck_X9_takeNumber, rfl⟩
set_option maxRecDepth 20000 in
theorem mg_112 : tb_Pf 112 (10, 1, 8, 1, co_X10_init) := ⟨(plainFor_of_name pp_10), rfl, (tg tw_273 rfl), by decide, am_ckc_ok ck_X10_init, ⟨rfl, rfl⟩⟩
set_option maxRecDepth 20000 in
theorem mg_113 : tb_Pf 113 (10, 4, 0, 4, co_X10_findSoonest) := ⟨(plainFor_of_name pp_10), rfl, (tg tw_907 rfl), by decide, am_ckc_ok ck_X10_findSoonest, rfl⟩
set_option maxRecDepth 20000 in
theorem mg_114 : tb_Pf 114 (10, 3, 0, 3, co_X10_findLeast) := ⟨(plainFor_of_name pp_10), rfl, (tg tw_938 rfl), by decide, am_ckc_ok ck_X10_findLeast, rfl⟩
set_option maxRecDepth 20000 in
theorem mg_115 : tb_Pf 115 (10, 3, 0, 3, co_X10_turn) := ⟨(plainFor_of_name pp_10), rfl, (tg tw_930 rfl), by decide, am_ckc_ok ck_X10_turn, rfl⟩
set_option maxRecDepth 20000 in
theorem mg_116 : tb_Pf 116 (10, 3, 5, 3, co_X10_isBetter) := ⟨(plainFor_of_name pp_10), rfl, (tg tw_916 rfl), by decide, am_ckc_ok ck_X10_isBetter, rfl⟩
set_option maxRecDepth 20000 in
theorem mg_117 : tb_Pf 117 (10, 4, 9, 4, co_X10_seek) := ⟨(plainFor_of_name pp_10), rfl, (tg tw_912 rfl), by decide, am_ckc_ok ck_X10_seek, rfl⟩
set_option maxRecDepth 20000 in
theorem mg_118 : tb_Pf 118 (10, 5, 9, 6, co_X10_goOn) := ⟨(plainFor_of_name pp_10), rfl, (tg tw_924 rfl), by decide, am_ckc_ok ck_X10_goOn, rfl⟩
set_option maxRecDepth 20000 in
theorem mg_119 : tb_Pf 119 (10, 3, 0, 6, co_X10_findGuide) := ⟨(plainFor_of_name pp_10), rfl, (tg tw_947 rfl), by decide, am_ckc_ok ck_X10_findGuide, rfl⟩
set_option maxRecDepth 20000 in
theorem mg_120 : tb_Pf 120 (10, 4, 0, 8, co_X10_findDays) := ⟨(plainFor_of_name pp_10), rfl, (tg tw_963 rfl), by decide, am_ckc_ok ck_X10_findDays, rfl⟩
set_option maxRecDepth 20000 in
theorem mg_121 : tb_Pf 121 (10, 2, 0, 2, co_X10_metByDay) := ⟨(plainFor_of_name pp_10), rfl, (tg tw_989 rfl), by decide, am_ckc_ok ck_X10_metByDay, rfl⟩
set_option maxRecDepth 20000 in
theorem mg_122 : tb_Pf 122 (10, 3, 0, 8, co_X10_setOrder) := ⟨(plainFor_of_name pp_10), rfl, (tg tw_967 rfl), by decide, am_ckc_ok ck_X10_setOrder, rfl⟩
set_option maxRecDepth 20000 in
theorem mg_123 : tb_Pf 123 (10, 2, 0, 4, co_X10_lowestBit) := ⟨(plainFor_of_name pp_10), rfl, (tg tw_971 rfl), by decide, am_ckc_ok ck_X10_lowestBit, rfl⟩
set_option maxRecDepth 20000 in
theorem mg_124 : tb_Pf 124 (10, 2, 5, 3, co_X10_isEndKnown) := ⟨(plainFor_of_name pp_10), rfl, (tg tw_979 rfl), by decide, am_ckc_ok ck_X10_isEndKnown, rfl⟩
set_option maxRecDepth 20000 in
theorem mg_125 : tb_Pf 125 (11, 1, 8, 1, co_X11_init) := ⟨(plainFor_of_name pp_11), rfl, (tg tw_25 rfl), by decide, am_ckc_ok ck_X11_init, ⟨rfl, rfl⟩⟩
set_option maxRecDepth 20000 in
theorem mg_126 : tb_Pf 126 (11, 6, 0, 6, co_X11_feed) := ⟨(plainFor_of_name pp_11), rfl, (tg tw_397 rfl), by decide, am_ckc_ok ck_X11_feed, rfl⟩
set_option maxRecDepth 20000 in
theorem mg_127 : tb_Pf 127 (11, 2, 5, 2, co_X11_end) := ⟨(plainFor_of_name pp_11), rfl, (tg tw_409 rfl), by decide, am_ckc_ok ck_X11_end, rfl⟩
set_option maxRecDepth 20000 in
theorem mg_128 : tb_Pf 128 (11, 1, 0, 4, co_X11_dream) := ⟨(plainFor_of_name pp_11), rfl, (tg tw_413 rfl), by decide, am_ckc_ok ck_X11_dream, rfl⟩
set_option maxRecDepth 20000 in
theorem mg_129 : tb_Pf 129 (11, 2, 0, 2, co_X11_fault) := ⟨(plainFor_of_name pp_11), rfl, (tg tw_706 rfl), by decide, am_ckc_ok ck_X11_fault, rfl⟩
set_option maxRecDepth 20000 in
theorem mg_130 : tb_Pf 130 (11, 2, 0, 2, co_X11_has) := ⟨(plainFor_of_name pp_11), rfl, (tg tw_710 rfl), by decide, am_ckc_ok ck_X11_has, rfl⟩
set_option maxRecDepth 20000 in
theorem mg_131 : tb_Pf 131 (11, 4, 0, 4, co_X11_letter) := ⟨(plainFor_of_name pp_11), rfl, (tg tw_727 rfl), by decide, am_ckc_ok ck_X11_letter, rfl⟩
set_option maxRecDepth 20000 in
theorem mg_132 : tb_Pf 132 (11, 3, 0, 4, co_X11_dreamer) := ⟨(plainFor_of_name pp_11), rfl, (tg tw_737 rfl), by decide, am_ckc_ok ck_X11_dreamer, rfl⟩
set_option maxRecDepth 20000 in
theorem mg_133 : tb_Pf 133 (11, 4, 0, 5, co_X11_weigh) := ⟨(plainFor_of_name pp_11), rfl, (tg tw_777 rfl), by decide, am_ckc_ok ck_X11_weigh, rfl⟩
set_option maxRecDepth 20000 in
theorem mg_134 : tb_Pf 134 (11, 2, 0, 2, co_X11_guide) := ⟨(plainFor_of_name pp_11), rfl, (tg tw_844 rfl), by decide, am_ckc_ok ck_X11_guide, rfl⟩
set_option maxRecDepth 20000 in
theorem mg_135 : tb_Pf 135 (11, 3, 0, 3, co_X11_room) := ⟨(plainFor_of_name pp_11), rfl, (tg tw_849 rfl), by decide, am_ckc_ok ck_X11_room, rfl⟩
set_option maxRecDepth 20000 in
theorem mg_136 : tb_Pf 136 (11, 4, 0, 4, co_X11_later) := ⟨(plainFor_of_name pp_11), rfl, (tg tw_881 rfl), by decide, am_ckc_ok ck_X11_later, rfl⟩
set_option maxRecDepth 20000 in
theorem mg_137 : tb_Pf 137 (11, 2, 0, 2, co_X11_till) := ⟨(plainFor_of_name pp_11), rfl, (tg tw_890 rfl), by decide, am_ckc_ok ck_X11_till, rfl⟩
set_option maxRecDepth 20000 in
theorem mg_138 : tb_Pf 138 (11, 3, 0, 5, co_X11_again) := ⟨(plainFor_of_name pp_11), rfl, (tg tw_894 rfl), by decide, am_ckc_ok ck_X11_again, rfl⟩
set_option maxRecDepth 20000 in
theorem mg_139 : tb_Pf 139 (11, 3, 0, 4, co_X11_soonest) := ⟨(plainFor_of_name pp_11), rfl, (tg tw_903 rfl), by decide, am_ckc_ok ck_X11_soonest, rfl⟩
set_option maxRecDepth 20000 in
theorem mg_140 : tb_Pf 140 (11, 3, 0, 4, co_X11_least) := ⟨(plainFor_of_name pp_11), rfl, (tg tw_934 rfl), by decide, am_ckc_ok ck_X11_least, rfl⟩
set_option maxRecDepth 20000 in
theorem mg_141 : tb_Pf 141 (11, 3, 0, 4, co_X11_along) := ⟨(plainFor_of_name pp_11), rfl, (tg tw_943 rfl), by decide, am_ckc_ok ck_X11_along, rfl⟩
set_option maxRecDepth 20000 in
theorem mg_142 : tb_Pf 142 (11, 4, 0, 5, co_X11_days) := ⟨(plainFor_of_name pp_11), rfl, (tg tw_953 rfl), by decide, am_ckc_ok ck_X11_days, rfl⟩
set_option maxRecDepth 20000 in
theorem mg_143 : tb_Pf 143 (11, 4, 0, 5, co_X11_hand) := ⟨(plainFor_of_name pp_11), rfl, (tg tw_993 rfl), by decide, am_ckc_ok ck_X11_hand, rfl⟩
set_option maxRecDepth 20000 in
theorem mg_144 : tb_Pf 144 (11, 3, 0, 3, co_X11_against) := ⟨(plainFor_of_name pp_11), rfl, (tg tw_1009 rfl), by decide, am_ckc_ok ck_X11_against, rfl⟩
set_option maxRecDepth 20000 in
theorem mg_145 : tb_Pf 145 (11, 3, 0, 3, co_X11_chance) := ⟨(plainFor_of_name pp_11), rfl, (tg tw_1032 rfl), by decide, am_ckc_ok ck_X11_chance, rfl⟩
set_option maxRecDepth 20000 in
theorem mg_146 : tb_Pf 146 (11, 3, 0, 3, co_X11_meet) := ⟨(plainFor_of_name pp_11), rfl, (tg tw_1050 rfl), by decide, am_ckc_ok ck_X11_meet, rfl⟩
set_option maxRecDepth 20000 in
theorem mg_147 : tb_Pf 147 (11, 3, 0, 3, co_X11_day) := ⟨(plainFor_of_name pp_11), rfl, (tg tw_1062 rfl), by decide, am_ckc_ok ck_X11_day, rfl⟩
set_option maxRecDepth 20000 in
theorem mg_148 : tb_Pf 148 (11, 3, 5, 3, co_X11_take) := ⟨(plainFor_of_name pp_11), rfl, (tg tw_1067 rfl), by decide, am_ckc_ok ck_X11_take, rfl⟩
set_option maxRecDepth 20000 in
theorem mg_149 : tb_Pf 149 (11, 4, 0, 5, co_X11_set) := ⟨(plainFor_of_name pp_11), rfl, (tg tw_1071 rfl), by decide, am_ckc_ok ck_X11_set, rfl⟩
set_option maxRecDepth 20000 in
theorem mg_150 : tb_Pf 150 (11, 3, 0, 6, co_X11_night) := ⟨(plainFor_of_name pp_11), rfl, (tg tw_1076 rfl), by decide, am_ckc_ok ck_X11_night, rfl⟩
set_option maxRecDepth 20000 in
theorem mg_151 : tb_Pf 151 (11, 1, 5, 1, co_X11_undo) := ⟨(plainFor_of_name pp_11), rfl, (tg tw_1088 rfl), by decide, am_ckc_ok ck_X11_undo, rfl⟩
set_option maxRecDepth 20000 in
theorem mg_152 : tb_Pf 152 (11, 2, 5, 2, co_X11_seed) := ⟨(plainFor_of_name pp_11), rfl, (tg tw_1097 rfl), by decide, am_ckc_ok ck_X11_seed, rfl⟩
set_option maxRecDepth 20000 in
theorem mg_153 : tb_Pf 153 (11, 2, 0, 5, co_X11_told) := ⟨(plainFor_of_name pp_11), rfl, (tg tw_1101 rfl), by decide, am_ckc_ok ck_X11_told, rfl⟩
set_option maxRecDepth 20000 in
theorem mg_154 : tb_Pf 154 (11, 3, 0, 7, co_X11_fits) := ⟨(plainFor_of_name pp_11), rfl, (tg tw_1106 rfl), by decide, am_ckc_ok ck_X11_fits, rfl⟩
set_option maxRecDepth 20000 in
theorem mg_155 : tb_Pf 155 (11, 2, 1, 3, co_X11_ask) := ⟨(plainFor_of_name pp_11), rfl, (tg tw_1114 rfl), by decide, am_ckc_ok ck_X11_ask, rfl⟩
set_option maxRecDepth 20000 in
theorem mg_156 : tb_Pf 156 (11, 1, 0, 4, co_X11_image) := ⟨(plainFor_of_name pp_11), rfl, (tg tw_1172 rfl), by decide, am_ckc_ok ck_X11_image, rfl⟩
set_option maxRecDepth 20000 in
theorem mg_157 : tb_Pf 157 (11, 2, 0, 2, co_X11_octet) := ⟨(plainFor_of_name pp_11), rfl, (tg tw_1180 rfl), by decide, am_ckc_ok ck_X11_octet, rfl⟩
set_option maxRecDepth 20000 in
theorem mg_158 : tb_Pf 158 (11, 1, 5, 5, co_X11_on) := ⟨(plainFor_of_name pp_11), rfl, (tg tw_1184 rfl), by decide, am_ckc_ok ck_X11_on, rfl⟩
set_option maxRecDepth 20000 in
theorem mg_159 : tb_Pf 159 (11, 2, 0, 2, co_X11_status) := ⟨(plainFor_of_name pp_11), rfl, (tg tw_1196 rfl), by decide, am_ckc_ok ck_X11_status, rfl⟩
set_option maxRecDepth 20000 in
theorem mg_160 : tb_Pf 160 (11, 2, 0, 2, co_X11_refuse) := ⟨(plainFor_of_name pp_11), rfl, (tg tw_401 rfl), by decide, am_ckc_ok ck_X11_refuse, rfl⟩
set_option maxRecDepth 20000 in
theorem mg_161 : tb_Pf 161 (11, 2, 5, 2, co_X11_isDreamer) := ⟨(plainFor_of_name pp_11), rfl, (tg tw_741 rfl), by decide, am_ckc_ok ck_X11_isDreamer, rfl⟩
set_option maxRecDepth 20000 in
theorem mg_162 : tb_Pf 162 (11, 2, 5, 2, co_X11_isDread) := ⟨(plainFor_of_name pp_11), rfl, (tg tw_781 rfl), by decide, am_ckc_ok ck_X11_isDread, rfl⟩
set_option maxRecDepth 20000 in
theorem mg_163 : tb_Pf 163 (11, 1, 0, 3, co_X11_countHome) := ⟨(plainFor_of_name pp_11), rfl, (tg tw_715 rfl), by decide, am_ckc_ok ck_X11_countHome, rfl⟩
set_option maxRecDepth 20000 in
theorem mg_164 : tb_Pf 164 (11, 2, 0, 2, co_X11_draw) := ⟨(plainFor_of_name pp_11), rfl, (tg tw_1080 rfl), by decide, am_ckc_ok ck_X11_draw, rfl⟩
set_option maxRecDepth 20000 in
theorem mg_165 : tb_Pf 165 (11, 2, 9, 2, co_X11_paint) := ⟨(plainFor_of_name pp_11), rfl, (tg tw_1176 rfl), by decide, am_ckc_ok ck_X11_paint, rfl⟩
set_option maxRecDepth 20000 in
theorem mg_166 : tb_Pf 166 (11, 1, 5, 7, co_X11_isPicture) := ⟨(plainFor_of_name pp_11), rfl, (tg tw_1188 rfl), by decide, am_ckc_ok ck_X11_isPicture, rfl⟩
set_option maxRecDepth 20000 in
theorem mg_167 : tb_Pf 167 (11, 1, 2, 3, co_X11_newSleepers) := ⟨(plainFor_of_name pp_11), rfl, (tg tw_196 rfl), by decide, am_ckc_ok ck_X11_newSleepers, ⟨_, rfl, Or.inr ⟨_, rfl⟩⟩⟩
set_option maxRecDepth 20000 in
theorem mg_168 : tb_Pf 168 (12, 1, 8, 1, co_X12_init) := ⟨(plainFor_of_name pp_12), rfl, (tg tw_1201 rfl), by decide, am_ckc_ok ck_X12_init, ⟨rfl, rfl⟩⟩
set_option maxRecDepth 20000 in
theorem mg_169 : tb_Pf 169 (12, 3, 5, 6, co_X12_isIn) := ⟨(plainFor_of_name pp_12), rfl, (tg tw_1566 rfl), by decide, am_ckc_ok ck_X12_isIn, rfl⟩
set_option maxRecDepth 20000 in
theorem mg_170 : tb_Pf 170 (12, 6, 0, 8, co_X12_feed) := ⟨(plainFor_of_name pp_12), rfl, (tg tw_1491 rfl), by decide, am_ckc_ok ck_X12_feed, rfl⟩
set_option maxRecDepth 20000 in
theorem mg_171 : tb_Pf 171 (12, 2, 5, 2, co_X12_end) := ⟨(plainFor_of_name pp_12), rfl, (tg tw_1495 rfl), by decide, am_ckc_ok ck_X12_end, rfl⟩
set_option maxRecDepth 20000 in
theorem mg_172 : tb_Pf 172 (12, 3, 9, 3, co_X12_fail) := ⟨(plainFor_of_name pp_12), rfl, (tg tw_1511 rfl), by decide, am_ckc_ok ck_X12_fail, rfl⟩
set_option maxRecDepth 20000 in
theorem mg_173 : tb_Pf 173 (12, 1, 5, 1, co_X12_isLetter) := ⟨(plainFor_of_name pp_12), rfl, (tg tw_1522 rfl), by decide, am_ckc_ok ck_X12_isLetter, rfl⟩
set_option maxRecDepth 20000 in
theorem mg_174 : tb_Pf 174 (12, 1, 5, 1, co_X12_isDigit) := ⟨(plainFor_of_name pp_12), rfl, (tg tw_1563 rfl), by decide, am_ckc_ok ck_X12_isDigit, rfl⟩
set_option maxRecDepth 20000 in
theorem mg_175 : tb_Pf 175 (12, 1, 0, 1, co_X12_look) := ⟨(plainFor_of_name pp_12), rfl, (tg tw_1503 rfl), by decide, am_ckc_ok ck_X12_look, rfl⟩
set_option maxRecDepth 20000 in
theorem mg_176 : tb_Pf 176 (12, 2, 5, 4, co_X12_isHere) := ⟨(plainFor_of_name pp_12), rfl, (tg tw_1519 rfl), by decide, am_ckc_ok ck_X12_isHere, rfl⟩
set_option maxRecDepth 20000 in
theorem mg_177 : tb_Pf 177 (12, 2, 5, 2, co_X12_takes) := ⟨(plainFor_of_name pp_12), rfl, (tg tw_1515 rfl), by decide, am_ckc_ok ck_X12_takes, rfl⟩
set_option maxRecDepth 20000 in
theorem mg_178 : tb_Pf 178 (12, 2, 9, 2, co_X12_asks) := ⟨(plainFor_of_name pp_12), rfl, (tg tw_1556 rfl), by decide, am_ckc_ok ck_X12_asks, rfl⟩
set_option maxRecDepth 20000 in
theorem mg_179 : tb_Pf 179 (12, 2, 5, 2, co_X12_takesSign) := ⟨(plainFor_of_name pp_12), rfl, (tg tw_1602 rfl), by decide, am_ckc_ok ck_X12_takesSign, rfl⟩
set_option maxRecDepth 20000 in
theorem mg_180 : tb_Pf 180 (12, 2, 9, 2, co_X12_asksSign) := ⟨(plainFor_of_name pp_12), rfl, (tg tw_1598 rfl), by decide, am_ckc_ok ck_X12_asksSign, rfl⟩
set_option maxRecDepth 20000 in
theorem mg_181 : tb_Pf 181 (12, 3, 0, 5, co_X12_number) := ⟨(plainFor_of_name pp_12), rfl, (tg tw_1560 rfl), by decide, am_ckc_ok ck_X12_number, rfl⟩
set_option maxRecDepth 20000 in
theorem mg_182 : tb_Pf 182 (12, 1, 5, 2, co_X12_isOwnHere) := ⟨(plainFor_of_name pp_12), rfl, (tg tw_1542 rfl), by decide, am_ckc_ok ck_X12_isOwnHere, rfl⟩
set_option maxRecDepth 20000 in
theorem mg_183 : tb_Pf 183 (12, 1, 1, 3, co_X12_name) := ⟨(plainFor_of_name pp_12), rfl, (tg tw_1538 rfl), by decide, am_ckc_ok ck_X12_name, rfl⟩
set_option maxRecDepth 20000 in
theorem mg_184 : tb_Pf 184 (12, 4, 5, 4, co_X12_isFull) := ⟨(plainFor_of_name pp_12), rfl, (tg tw_1530 rfl), by decide, am_ckc_ok ck_X12_isFull, rfl⟩
set_option maxRecDepth 20000 in
theorem mg_185 : tb_Pf 185 (12, 3, 0, 5, co_X12_nameOf) := ⟨(plainFor_of_name pp_12), rfl, (tg tw_1548 rfl), by decide, am_ckc_ok ck_X12_nameOf, rfl⟩
set_option maxRecDepth 20000 in
theorem mg_186 : tb_Pf 186 (12, 1, 1, 4, co_X12_newName) := ⟨(plainFor_of_name pp_12), rfl, (tg tw_1534 rfl), by decide, am_ckc_ok ck_X12_newName, rfl⟩
set_option maxRecDepth 20000 in
theorem mg_187 : tb_Pf 187 (12, 2, 0, 5, co_X12_oneOf) := ⟨(plainFor_of_name pp_12), rfl, (tg tw_1574 rfl), by decide, am_ckc_ok ck_X12_oneOf, rfl⟩
set_option maxRecDepth 20000 in
theorem mg_188 : tb_Pf 188 (12, 2, 9, 4, co_X12_dreadTold) := ⟨(plainFor_of_name pp_12), rfl, (tg tw_1526 rfl), by decide, am_ckc_ok ck_X12_dreadTold, rfl⟩
set_option maxRecDepth 20000 in
theorem mg_189 : tb_Pf 189 (12, 2, 9, 5, co_X12_dreamerTold) := ⟨(plainFor_of_name pp_12), rfl, (tg tw_1552 rfl), by decide, am_ckc_ok ck_X12_dreamerTold, rfl⟩
set_option maxRecDepth 20000 in
theorem mg_190 : tb_Pf 190 (12, 1, 9, 4, co_X12_fearsTold) := ⟨(plainFor_of_name pp_12), rfl, (tg tw_1570 rfl), by decide, am_ckc_ok ck_X12_fearsTold, rfl⟩
set_option maxRecDepth 20000 in
theorem mg_191 : tb_Pf 191 (12, 2, 9, 5, co_X12_guideTold) := ⟨(plainFor_of_name pp_12), rfl, (tg tw_1578 rfl), by decide, am_ckc_ok ck_X12_guideTold, rfl⟩
set_option maxRecDepth 20000 in
theorem mg_192 : tb_Pf 192 (12, 3, 9, 3, co_X12_sumIsTold) := ⟨(plainFor_of_name pp_12), rfl, (tg tw_1582 rfl), by decide, am_ckc_ok ck_X12_sumIsTold, rfl⟩
set_option maxRecDepth 20000 in
theorem mg_193 : tb_Pf 193 (12, 1, 9, 2, co_X12_statementTold) := ⟨(plainFor_of_name pp_12), rfl, (tg tw_1507 rfl), by decide, am_ckc_ok ck_X12_statementTold, rfl⟩
set_option maxRecDepth 20000 in
theorem mg_194 : tb_Pf 194 (12, 1, 0, 2, co_X12_dream) := ⟨(plainFor_of_name pp_12), rfl, (tg tw_1499 rfl), by decide, am_ckc_ok ck_X12_dream, rfl⟩
set_option maxRecDepth 20000 in
theorem mg_195 : tb_Pf 195 (12, 1, 9, 3, co_X12_stands) := ⟨(plainFor_of_name pp_12), rfl, (tg tw_1634 rfl), by decide, am_ckc_ok ck_X12_stands, rfl⟩
set_option maxRecDepth 20000 in
theorem mg_196 : tb_Pf 196 (12, 2, 9, 2, co_X12_code) := ⟨(plainFor_of_name pp_12), rfl, (tg tw_1606 rfl), by decide, am_ckc_ok ck_X12_code, rfl⟩
set_option maxRecDepth 20000 in
theorem mg_197 : tb_Pf 197 (12, 3, 9, 3, co_X12_opens) := ⟨(plainFor_of_name pp_12), rfl, (tg tw_1594 rfl), by decide, am_ckc_ok ck_X12_opens, rfl⟩
set_option maxRecDepth 20000 in
theorem mg_198 : tb_Pf 198 (12, 2, 5, 2, co_X12_isOn) := ⟨(plainFor_of_name pp_12), rfl, (tg tw_1630 rfl), by decide, am_ckc_ok ck_X12_isOn, rfl⟩
set_option maxRecDepth 20000 in
theorem mg_199 : tb_Pf 199 (12, 1, 9, 1, co_X12_drops) := ⟨(plainFor_of_name pp_12), rfl, (tg tw_1626 rfl), by decide, am_ckc_ok ck_X12_drops, rfl⟩
set_option maxRecDepth 20000 in
theorem mg_200 : tb_Pf 200 (12, 2, 5, 2, co_X12_isMark) := ⟨(plainFor_of_name pp_12), rfl, (tg tw_1618 rfl), by decide, am_ckc_ok ck_X12_isMark, rfl⟩
set_option maxRecDepth 20000 in
theorem mg_201 : tb_Pf 201 (12, 1, 0, 2, co_X12_waitsLast) := ⟨(plainFor_of_name pp_12), rfl, (tg tw_1614 rfl), by decide, am_ckc_ok ck_X12_waitsLast, rfl⟩
set_option maxRecDepth 20000 in
theorem mg_202 : tb_Pf 202 (12, 1, 9, 1, co_X12_dropsToMark) := ⟨(plainFor_of_name pp_12), rfl, (tg tw_1622 rfl), by decide, am_ckc_ok ck_X12_dropsToMark, rfl⟩
set_option maxRecDepth 20000 in
theorem mg_203 : tb_Pf 203 (12, 1, 9, 5, co_X12_onePart) := ⟨(plainFor_of_name pp_12), rfl, (tg tw_1590 rfl), by decide, am_ckc_ok ck_X12_onePart, rfl⟩
set_option maxRecDepth 20000 in
theorem mg_204 : tb_Pf 204 (12, 1, 5, 2, co_X12_goesOn) := ⟨(plainFor_of_name pp_12), rfl, (tg tw_1610 rfl), by decide, am_ckc_ok ck_X12_goesOn, rfl⟩
set_option maxRecDepth 20000 in
theorem mg_205 : tb_Pf 205 (12, 1, 9, 3, co_X12_sumsTold) := ⟨(plainFor_of_name pp_12), rfl, (tg tw_1586 rfl), by decide, am_ckc_ok ck_X12_sumsTold, rfl⟩
set_option maxRecDepth 20000 in
theorem mg_206 : tb_Pf 206 (12, 2, 0, 2, co_X12_fault) := ⟨(plainFor_of_name pp_12), rfl, (tg tw_1638 rfl), by decide, am_ckc_ok ck_X12_fault, rfl⟩
set_option maxRecDepth 20000 in
theorem mg_207 : tb_Pf 207 (12, 1, 1, 2, co_X12_clip) := ⟨(plainFor_of_name pp_12), rfl, (tg tw_1738 rfl), by decide, am_ckc_ok ck_X12_clip, rfl⟩
set_option maxRecDepth 20000 in
theorem mg_208 : tb_Pf 208 (12, 2, 1, 6, co_X12_floor) := ⟨(plainFor_of_name pp_12), rfl, (tg tw_1743 rfl), by decide, am_ckc_ok ck_X12_floor, rfl⟩
set_option maxRecDepth 20000 in
theorem mg_209 : tb_Pf 209 (12, 2, 9, 3, co_X12_puts) := ⟨(plainFor_of_name pp_12), rfl, (tg tw_1729 rfl), by decide, am_ckc_ok ck_X12_puts, rfl⟩
set_option maxRecDepth 20000 in
theorem mg_210 : tb_Pf 210 (12, 2, 9, 6, co_X12_joins) := ⟨(plainFor_of_name pp_12), rfl, (tg tw_1735 rfl), by decide, am_ckc_ok ck_X12_joins, rfl⟩
set_option maxRecDepth 20000 in
theorem mg_211 : tb_Pf 211 (12, 1, 0, 1, co_X12_dreadMany) := ⟨(plainFor_of_name pp_12), rfl, (tg tw_1646 rfl), by decide, am_ckc_ok ck_X12_dreadMany, rfl⟩
set_option maxRecDepth 20000 in
theorem mg_212 : tb_Pf 212 (12, 1, 0, 1, co_X12_dreamerMany) := ⟨(plainFor_of_name pp_12), rfl, (tg tw_1650 rfl), by decide, am_ckc_ok ck_X12_dreamerMany, rfl⟩
set_option maxRecDepth 20000 in
theorem mg_213 : tb_Pf 213 (12, 1, 0, 1, co_X12_guideMany) := ⟨(plainFor_of_name pp_12), rfl, (tg tw_1654 rfl), by decide, am_ckc_ok ck_X12_guideMany, rfl⟩
set_option maxRecDepth 20000 in
theorem mg_214 : tb_Pf 214 (12, 2, 5, 2, co_X12_isDread) := ⟨(plainFor_of_name pp_12), rfl, (tg tw_1720 rfl), by decide, am_ckc_ok ck_X12_isDread, rfl⟩
set_option maxRecDepth 20000 in
theorem mg_215 : tb_Pf 215 (12, 2, 5, 2, co_X12_isDreamer) := ⟨(plainFor_of_name pp_12), rfl, (tg tw_1692 rfl), by decide, am_ckc_ok ck_X12_isDreamer, rfl⟩
set_option maxRecDepth 20000 in
theorem mg_216 : tb_Pf 216 (12, 2, 0, 2, co_X12_settingOf) := ⟨(plainFor_of_name pp_12), rfl, (tg tw_1658 rfl), by decide, am_ckc_ok ck_X12_settingOf, rfl⟩
set_option maxRecDepth 20000 in
theorem mg_217 : tb_Pf 217 (12, 3, 0, 3, co_X12_weightOf) := ⟨(plainFor_of_name pp_12), rfl, (tg tw_1670 rfl), by decide, am_ckc_ok ck_X12_weightOf, rfl⟩
set_option maxRecDepth 20000 in
theorem mg_218 : tb_Pf 218 (12, 3, 9, 4, co_X12_laysNow) := ⟨(plainFor_of_name pp_12), rfl, (tg tw_1666 rfl), by decide, am_ckc_ok ck_X12_laysNow, rfl⟩
set_option maxRecDepth 20000 in
theorem mg_219 : tb_Pf 219 (12, 3, 9, 4, co_X12_laysRow) := ⟨(plainFor_of_name pp_12), rfl, (tg tw_1761 rfl), by decide, am_ckc_ok ck_X12_laysRow, rfl⟩
set_option maxRecDepth 20000 in
theorem mg_220 : tb_Pf 220 (12, 3, 9, 4, co_X12_isNow) := ⟨(plainFor_of_name pp_12), rfl, (tg tw_1892 rfl), by decide, am_ckc_ok ck_X12_isNow, rfl⟩
set_option maxRecDepth 20000 in
theorem mg_221 : tb_Pf 221 (12, 2, 0, 4, co_X12_sumAt) := ⟨(plainFor_of_name pp_12), rfl, (tg tw_1678 rfl), by decide, am_ckc_ok ck_X12_sumAt, rfl⟩
set_option maxRecDepth 20000 in
theorem mg_222 : tb_Pf 222 (12, 2, 0, 4, co_X12_greatestAt) := ⟨(plainFor_of_name pp_12), rfl, (tg tw_1708 rfl), by decide, am_ckc_ok ck_X12_greatestAt, rfl⟩
set_option maxRecDepth 20000 in
theorem mg_223 : tb_Pf 223 (12, 2, 0, 4, co_X12_manyAt) := ⟨(plainFor_of_name pp_12), rfl, (tg tw_1712 rfl), by decide, am_ckc_ok ck_X12_manyAt, rfl⟩
set_option maxRecDepth 20000 in
theorem mg_224 : tb_Pf 224 (12, 2, 5, 2, co_X12_isHomeAt) := ⟨(plainFor_of_name pp_12), rfl, (tg tw_1674 rfl), by decide, am_ckc_ok ck_X12_isHomeAt, rfl⟩
set_option maxRecDepth 20000 in
theorem mg_225 : tb_Pf 225 (12, 4, 0, 4, co_X12_counts) := ⟨(plainFor_of_name pp_12), rfl, (tg tw_1704 rfl), by decide, am_ckc_ok ck_X12_counts, rfl⟩
set_option maxRecDepth 20000 in
theorem mg_226 : tb_Pf 226 (12, 4, 0, 6, co_X12_worstAt) := ⟨(plainFor_of_name pp_12), rfl, (tg tw_1700 rfl), by decide, am_ckc_ok ck_X12_worstAt, rfl⟩
set_option maxRecDepth 20000 in
theorem mg_227 : tb_Pf 227 (12, 5, 0, 7, co_X12_made) := ⟨(plainFor_of_name pp_12), rfl, (tg tw_1725 rfl), by decide, am_ckc_ok ck_X12_made, rfl⟩
set_option maxRecDepth 20000 in
theorem mg_228 : tb_Pf 228 (12, 5, 0, 8, co_X12_roomGoes) := ⟨(plainFor_of_name pp_12), rfl, (tg tw_1765 rfl), by decide, am_ckc_ok ck_X12_roomGoes, rfl⟩
set_option maxRecDepth 20000 in
theorem mg_229 : tb_Pf 229 (12, 2, 9, 3, co_X12_laughs) := ⟨(plainFor_of_name pp_12), rfl, (tg tw_1871 rfl), by decide, am_ckc_ok ck_X12_laughs, rfl⟩
set_option maxRecDepth 20000 in
theorem mg_230 : tb_Pf 230 (12, 2, 0, 2, co_X12_guideOf) := ⟨(plainFor_of_name pp_12), rfl, (tg tw_1696 rfl), by decide, am_ckc_ok ck_X12_guideOf, rfl⟩
set_option maxRecDepth 20000 in
theorem mg_231 : tb_Pf 231 (12, 1, 0, 3, co_X12_atHome) := ⟨(plainFor_of_name pp_12), rfl, (tg tw_1662 rfl), by decide, am_ckc_ok ck_X12_atHome, rfl⟩
set_option maxRecDepth 20000 in
theorem mg_232 : tb_Pf 232 (12, 2, 0, 2, co_X12_has) := ⟨(plainFor_of_name pp_12), rfl, (tg tw_1642 rfl), by decide, am_ckc_ok ck_X12_has, rfl⟩
set_option maxRecDepth 20000 in
theorem mg_233 : tb_Pf 233 (12, 4, 0, 9, co_X12_letter) := ⟨(plainFor_of_name pp_12), rfl, (tg tw_1682 rfl), by decide, am_ckc_ok ck_X12_letter, rfl⟩
set_option maxRecDepth 20000 in
theorem mg_234 : tb_Pf 234 (12, 3, 0, 4, co_X12_dreamer) := ⟨(plainFor_of_name pp_12), rfl, (tg tw_1688 rfl), by decide, am_ckc_ok ck_X12_dreamer, rfl⟩
set_option maxRecDepth 20000 in
theorem mg_235 : tb_Pf 235 (12, 4, 0, 4, co_X12_weigh) := ⟨(plainFor_of_name pp_12), rfl, (tg tw_1716 rfl), by decide, am_ckc_ok ck_X12_weigh, rfl⟩
set_option maxRecDepth 20000 in
theorem mg_236 : tb_Pf 236 (12, 2, 0, 2, co_X12_guide) := ⟨(plainFor_of_name pp_12), rfl, (tg tw_1748 rfl), by decide, am_ckc_ok ck_X12_guide, rfl⟩
set_option maxRecDepth 20000 in
theorem mg_237 : tb_Pf 237 (12, 2, 9, 2, co_X12_goesAhead) := ⟨(plainFor_of_name pp_12), rfl, (tg tw_1757 rfl), by decide, am_ckc_ok ck_X12_goesAhead, rfl⟩
set_option maxRecDepth 20000 in
theorem mg_238 : tb_Pf 238 (12, 3, 0, 3, co_X12_room) := ⟨(plainFor_of_name pp_12), rfl, (tg tw_1752 rfl), by decide, am_ckc_ok ck_X12_room, rfl⟩
set_option maxRecDepth 20000 in
theorem mg_239 : tb_Pf 239 (12, 4, 0, 4, co_X12_later) := ⟨(plainFor_of_name pp_12), rfl, (tg tw_1769 rfl), by decide, am_ckc_ok ck_X12_later, rfl⟩
set_option maxRecDepth 20000 in
theorem mg_240 : tb_Pf 240 (12, 2, 0, 2, co_X12_till) := ⟨(plainFor_of_name pp_12), rfl, (tg tw_1774 rfl), by decide, am_ckc_ok ck_X12_till, rfl⟩
set_option maxRecDepth 20000 in
theorem mg_241 : tb_Pf 241 (12, 3, 5, 4, co_X12_areAlike) := ⟨(plainFor_of_name pp_12), rfl, (tg tw_1786 rfl), by decide, am_ckc_ok ck_X12_areAlike, rfl⟩
set_option maxRecDepth 20000 in
theorem mg_242 : tb_Pf 242 (12, 2, 0, 4, co_X12_comesAgain) := ⟨(plainFor_of_name pp_12), rfl, (tg tw_1782 rfl), by decide, am_ckc_ok ck_X12_comesAgain, rfl⟩
set_option maxRecDepth 20000 in
theorem mg_243 : tb_Pf 243 (12, 3, 0, 3, co_X12_again) := ⟨(plainFor_of_name pp_12), rfl, (tg tw_1778 rfl), by decide, am_ckc_ok ck_X12_again, rfl⟩
set_option maxRecDepth 20000 in
theorem mg_244 : tb_Pf 244 (12, 5, 5, 9, co_X12_isWay) := ⟨(plainFor_of_name pp_12), rfl, (tg tw_1798 rfl), by decide, am_ckc_ok ck_X12_isWay, rfl⟩
set_option maxRecDepth 20000 in
theorem mg_245 : tb_Pf 245 (12, 3, 9, 5, co_X12_seeksSoonest) := ⟨(plainFor_of_name pp_12), rfl, (tg tw_1794 rfl), by decide, am_ckc_ok ck_X12_seeksSoonest, rfl⟩
set_option maxRecDepth 20000 in
theorem mg_246 : tb_Pf 246 (12, 2, 0, 2, co_X12_wayTold) := ⟨(plainFor_of_name pp_12), rfl, (tg tw_1802 rfl), by decide, am_ckc_ok ck_X12_wayTold, rfl⟩
set_option maxRecDepth 20000 in
theorem mg_247 : tb_Pf 247 (12, 3, 0, 3, co_X12_soonest) := ⟨(plainFor_of_name pp_12), rfl, (tg tw_1790 rfl), by decide, am_ckc_ok ck_X12_soonest, rfl⟩
set_option maxRecDepth 20000 in
theorem mg_248 : tb_Pf 248 (12, 3, 0, 6, co_X12_least) := ⟨(plainFor_of_name pp_12), rfl, (tg tw_1806 rfl), by decide, am_ckc_ok ck_X12_least, rfl⟩
set_option maxRecDepth 20000 in
theorem mg_249 : tb_Pf 249 (12, 3, 0, 6, co_X12_along) := ⟨(plainFor_of_name pp_12), rfl, (tg tw_1810 rfl), by decide, am_ckc_ok ck_X12_along, rfl⟩
set_option maxRecDepth 20000 in
theorem mg_250 : tb_Pf 250 (12, 1, 0, 3, co_X12_bits) := ⟨(plainFor_of_name pp_12), rfl, (tg tw_1817 rfl), by decide, am_ckc_ok ck_X12_bits, rfl⟩
set_option maxRecDepth 20000 in
theorem mg_251 : tb_Pf 251 (12, 3, 5, 6, co_X12_isOrder) := ⟨(plainFor_of_name pp_12), rfl, (tg tw_1821 rfl), by decide, am_ckc_ok ck_X12_isOrder, rfl⟩
set_option maxRecDepth 20000 in
theorem mg_252 : tb_Pf 252 (12, 4, 0, 8, co_X12_days) := ⟨(plainFor_of_name pp_12), rfl, (tg tw_1814 rfl), by decide, am_ckc_ok ck_X12_days, rfl⟩
set_option maxRecDepth 20000 in
theorem mg_253 : tb_Pf 253 (12, 1, 0, 3, co_X12_worstOfTwo) := ⟨(plainFor_of_name pp_12), rfl, (tg tw_1829 rfl), by decide, am_ckc_ok ck_X12_worstOfTwo, rfl⟩
set_option maxRecDepth 20000 in
theorem mg_254 : tb_Pf 254 (12, 4, 0, 7, co_X12_hand) := ⟨(plainFor_of_name pp_12), rfl, (tg tw_1825 rfl), by decide, am_ckc_ok ck_X12_hand, rfl⟩
set_option maxRecDepth 20000 in
theorem mg_255 : tb_Pf 255 (12, 4, 5, 4, co_X12_isSafe) := ⟨(plainFor_of_name pp_12), rfl, (tg tw_1838 rfl), by decide, am_ckc_ok ck_X12_isSafe, rfl⟩
set_option maxRecDepth 20000 in
theorem mg_256 : tb_Pf 256 (12, 2, 5, 2, co_X12_canGo) := ⟨(plainFor_of_name pp_12), rfl, (tg tw_1846 rfl), by decide, am_ckc_ok ck_X12_canGo, rfl⟩
set_option maxRecDepth 20000 in
theorem mg_257 : tb_Pf 257 (12, 6, 9, 8, co_X12_answers) := ⟨(plainFor_of_name pp_12), rfl, (tg tw_1850 rfl), by decide, am_ckc_ok ck_X12_answers, rfl⟩
set_option maxRecDepth 20000 in
theorem mg_258 : tb_Pf 258 (12, 3, 5, 6, co_X12_isSafeByOne) := ⟨(plainFor_of_name pp_12), rfl, (tg tw_1842 rfl), by decide, am_ckc_ok ck_X12_isSafeByOne, rfl⟩
set_option maxRecDepth 20000 in
theorem mg_259 : tb_Pf 259 (12, 3, 5, 6, co_X12_isSafeByTwo) := ⟨(plainFor_of_name pp_12), rfl, (tg tw_1854 rfl), by decide, am_ckc_ok ck_X12_isSafeByTwo, rfl⟩
set_option maxRecDepth 20000 in
theorem mg_260 : tb_Pf 260 (12, 3, 5, 6, co_X12_isSafeByThree) := ⟨(plainFor_of_name pp_12), rfl, (tg tw_1858 rfl), by decide, am_ckc_ok ck_X12_isSafeByThree, rfl⟩
set_option maxRecDepth 20000 in
theorem mg_261 : tb_Pf 261 (12, 3, 0, 3, co_X12_against) := ⟨(plainFor_of_name pp_12), rfl, (tg tw_1833 rfl), by decide, am_ckc_ok ck_X12_against, rfl⟩
set_option maxRecDepth 20000 in
theorem mg_262 : tb_Pf 262 (12, 4, 1, 9, co_X12_likely) := ⟨(plainFor_of_name pp_12), rfl, (tg tw_1867 rfl), by decide, am_ckc_ok ck_X12_likely, rfl⟩
set_option maxRecDepth 20000 in
theorem mg_263 : tb_Pf 263 (12, 3, 0, 8, co_X12_chance) := ⟨(plainFor_of_name pp_12), rfl, (tg tw_1862 rfl), by decide, am_ckc_ok ck_X12_chance, rfl⟩
set_option maxRecDepth 20000 in
theorem mg_264 : tb_Pf 264 (12, 1, 9, 2, co_X12_keeps) := ⟨(plainFor_of_name pp_12), rfl, (tg tw_1888 rfl), by decide, am_ckc_ok ck_X12_keeps, rfl⟩
set_option maxRecDepth 20000 in
theorem mg_265 : tb_Pf 265 (12, 1, 5, 2, co_X12_undo) := ⟨(plainFor_of_name pp_12), rfl, (tg tw_1876 rfl), by decide, am_ckc_ok ck_X12_undo, rfl⟩
set_option maxRecDepth 20000 in
theorem mg_266 : tb_Pf 266 (12, 1, 0, 1, co_X12_refuses) := ⟨(plainFor_of_name pp_12), rfl, (tg tw_1884 rfl), by decide, am_ckc_ok ck_X12_refuses, rfl⟩
set_option maxRecDepth 20000 in
theorem mg_267 : tb_Pf 267 (12, 3, 0, 4, co_X12_meet) := ⟨(plainFor_of_name pp_12), rfl, (tg tw_1880 rfl), by decide, am_ckc_ok ck_X12_meet, rfl⟩
set_option maxRecDepth 20000 in
theorem mg_268 : tb_Pf 268 (12, 3, 0, 3, co_X12_day) := ⟨(plainFor_of_name pp_12), rfl, (tg tw_1896 rfl), by decide, am_ckc_ok ck_X12_day, rfl⟩
set_option maxRecDepth 20000 in
theorem mg_269 : tb_Pf 269 (12, 3, 5, 3, co_X12_take) := ⟨(plainFor_of_name pp_12), rfl, (tg tw_1900 rfl), by decide, am_ckc_ok ck_X12_take, rfl⟩
set_option maxRecDepth 20000 in
theorem mg_270 : tb_Pf 270 (12, 4, 0, 5, co_X12_set) := ⟨(plainFor_of_name pp_12), rfl, (tg tw_1905 rfl), by decide, am_ckc_ok ck_X12_set, rfl⟩
set_option maxRecDepth 20000 in
theorem mg_271 : tb_Pf 271 (12, 2, 5, 2, co_X12_seed) := ⟨(plainFor_of_name pp_12), rfl, (tg tw_1909 rfl), by decide, am_ckc_ok ck_X12_seed, rfl⟩
set_option maxRecDepth 20000 in
theorem mg_272 : tb_Pf 272 (12, 2, 0, 2, co_X12_drawOf) := ⟨(plainFor_of_name pp_12), rfl, (tg tw_1917 rfl), by decide, am_ckc_ok ck_X12_drawOf, rfl⟩
set_option maxRecDepth 20000 in
theorem mg_273 : tb_Pf 273 (12, 3, 0, 6, co_X12_night) := ⟨(plainFor_of_name pp_12), rfl, (tg tw_1913 rfl), by decide, am_ckc_ok ck_X12_night, rfl⟩
set_option maxRecDepth 20000 in
theorem mg_274 : tb_Pf 274 (12, 2, 0, 5, co_X12_told) := ⟨(plainFor_of_name pp_12), rfl, (tg tw_1925 rfl), by decide, am_ckc_ok ck_X12_told, rfl⟩
set_option maxRecDepth 20000 in
theorem mg_275 : tb_Pf 275 (12, 3, 5, 4, co_X12_isFitting) := ⟨(plainFor_of_name pp_12), rfl, (tg tw_1934 rfl), by decide, am_ckc_ok ck_X12_isFitting, rfl⟩
set_option maxRecDepth 20000 in
theorem mg_276 : tb_Pf 276 (12, 3, 0, 7, co_X12_fits) := ⟨(plainFor_of_name pp_12), rfl, (tg tw_1930 rfl), by decide, am_ckc_ok ck_X12_fits, rfl⟩
set_option maxRecDepth 20000 in
theorem mg_277 : tb_Pf 277 (12, 2, 9, 2, co_X12_qCode) := ⟨(plainFor_of_name pp_12), rfl, (tg tw_1959 rfl), by decide, am_ckc_ok ck_X12_qCode, rfl⟩
set_option maxRecDepth 20000 in
theorem mg_278 : tb_Pf 278 (12, 3, 9, 3, co_X12_qOpens) := ⟨(plainFor_of_name pp_12), rfl, (tg tw_1951 rfl), by decide, am_ckc_ok ck_X12_qOpens, rfl⟩
set_option maxRecDepth 20000 in
theorem mg_279 : tb_Pf 279 (12, 2, 5, 2, co_X12_qIsOn) := ⟨(plainFor_of_name pp_12), rfl, (tg tw_2006 rfl), by decide, am_ckc_ok ck_X12_qIsOn, rfl⟩
set_option maxRecDepth 20000 in
theorem mg_280 : tb_Pf 280 (12, 1, 9, 1, co_X12_qDrops) := ⟨(plainFor_of_name pp_12), rfl, (tg tw_1987 rfl), by decide, am_ckc_ok ck_X12_qDrops, rfl⟩
set_option maxRecDepth 20000 in
theorem mg_281 : tb_Pf 281 (12, 1, 5, 1, co_X12_qIsBracket) := ⟨(plainFor_of_name pp_12), rfl, (tg tw_1998 rfl), by decide, am_ckc_ok ck_X12_qIsBracket, rfl⟩
set_option maxRecDepth 20000 in
theorem mg_282 : tb_Pf 282 (12, 1, 0, 2, co_X12_qBracket) := ⟨(plainFor_of_name pp_12), rfl, (tg tw_1995 rfl), by decide, am_ckc_ok ck_X12_qBracket, rfl⟩
set_option maxRecDepth 20000 in
theorem mg_283 : tb_Pf 283 (12, 1, 9, 1, co_X12_qDropsToBracket) := ⟨(plainFor_of_name pp_12), rfl, (tg tw_2002 rfl), by decide, am_ckc_ok ck_X12_qDropsToBracket, rfl⟩
set_option maxRecDepth 20000 in
theorem mg_284 : tb_Pf 284 (12, 1, 0, 1, co_X12_qWordHere) := ⟨(plainFor_of_name pp_12), rfl, (tg tw_1975 rfl), by decide, am_ckc_ok ck_X12_qWordHere, rfl⟩
set_option maxRecDepth 20000 in
theorem mg_285 : tb_Pf 285 (12, 3, 0, 4, co_X12_qWordOf) := ⟨(plainFor_of_name pp_12), rfl, (tg tw_1971 rfl), by decide, am_ckc_ok ck_X12_qWordOf, rfl⟩
set_option maxRecDepth 20000 in
theorem mg_286 : tb_Pf 286 (12, 2, 9, 2, co_X12_qAsksWord) := ⟨(plainFor_of_name pp_12), rfl, (tg tw_1979 rfl), by decide, am_ckc_ok ck_X12_qAsksWord, rfl⟩
set_option maxRecDepth 20000 in
theorem mg_287 : tb_Pf 287 (12, 1, 9, 1, co_X12_qEndsPart) := ⟨(plainFor_of_name pp_12), rfl, (tg tw_1983 rfl), by decide, am_ckc_ok ck_X12_qEndsPart, rfl⟩
set_option maxRecDepth 20000 in
theorem mg_288 : tb_Pf 288 (12, 1, 9, 6, co_X12_qPartTold) := ⟨(plainFor_of_name pp_12), rfl, (tg tw_1967 rfl), by decide, am_ckc_ok ck_X12_qPartTold, rfl⟩
set_option maxRecDepth 20000 in
theorem mg_289 : tb_Pf 289 (12, 1, 5, 2, co_X12_qGoesOn) := ⟨(plainFor_of_name pp_12), rfl, (tg tw_1991 rfl), by decide, am_ckc_ok ck_X12_qGoesOn, rfl⟩
set_option maxRecDepth 20000 in
theorem mg_290 : tb_Pf 290 (12, 1, 9, 3, co_X12_qSums) := ⟨(plainFor_of_name pp_12), rfl, (tg tw_1963 rfl), by decide, am_ckc_ok ck_X12_qSums, rfl⟩
set_option maxRecDepth 20000 in
theorem mg_291 : tb_Pf 291 (12, 1, 9, 2, co_X12_qFact) := ⟨(plainFor_of_name pp_12), rfl, (tg tw_1955 rfl), by decide, am_ckc_ok ck_X12_qFact, rfl⟩
set_option maxRecDepth 20000 in
theorem mg_292 : tb_Pf 292 (12, 1, 5, 2, co_X12_qHasSquare) := ⟨(plainFor_of_name pp_12), rfl, (tg tw_2018 rfl), by decide, am_ckc_ok ck_X12_qHasSquare, rfl⟩
set_option maxRecDepth 20000 in
theorem mg_293 : tb_Pf 293 (12, 1, 9, 1, co_X12_qDropsNots) := ⟨(plainFor_of_name pp_12), rfl, (tg tw_2010 rfl), by decide, am_ckc_ok ck_X12_qDropsNots, rfl⟩
set_option maxRecDepth 20000 in
theorem mg_294 : tb_Pf 294 (12, 1, 9, 3, co_X12_qTest) := ⟨(plainFor_of_name pp_12), rfl, (tg tw_1947 rfl), by decide, am_ckc_ok ck_X12_qTest, rfl⟩
set_option maxRecDepth 20000 in
theorem mg_295 : tb_Pf 295 (12, 1, 5, 1, co_X12_qGoesOnTest) := ⟨(plainFor_of_name pp_12), rfl, (tg tw_2014 rfl), by decide, am_ckc_ok ck_X12_qGoesOnTest, rfl⟩
set_option maxRecDepth 20000 in
theorem mg_296 : tb_Pf 296 (12, 1, 1, 2, co_X12_qClip) := ⟨(plainFor_of_name pp_12), rfl, (tg tw_2033 rfl), by decide, am_ckc_ok ck_X12_qClip, rfl⟩
set_option maxRecDepth 20000 in
theorem mg_297 : tb_Pf 297 (12, 2, 1, 6, co_X12_qFloor) := ⟨(plainFor_of_name pp_12), rfl, (tg tw_2048 rfl), by decide, am_ckc_ok ck_X12_qFloor, rfl⟩
set_option maxRecDepth 20000 in
theorem mg_298 : tb_Pf 298 (12, 2, 9, 3, co_X12_qPuts) := ⟨(plainFor_of_name pp_12), rfl, (tg tw_2026 rfl), by decide, am_ckc_ok ck_X12_qPuts, rfl⟩
set_option maxRecDepth 20000 in
theorem mg_299 : tb_Pf 299 (12, 2, 9, 6, co_X12_qJoins) := ⟨(plainFor_of_name pp_12), rfl, (tg tw_2045 rfl), by decide, am_ckc_ok ck_X12_qJoins, rfl⟩
set_option maxRecDepth 20000 in
theorem mg_300 : tb_Pf 300 (12, 3, 1, 3, co_X12_qPartOf) := ⟨(plainFor_of_name pp_12), rfl, (tg tw_2037 rfl), by decide, am_ckc_ok ck_X12_qPartOf, rfl⟩
set_option maxRecDepth 20000 in
theorem mg_301 : tb_Pf 301 (12, 4, 1, 5, co_X12_qOf) := ⟨(plainFor_of_name pp_12), rfl, (tg tw_2030 rfl), by decide, am_ckc_ok ck_X12_qOf, rfl⟩
set_option maxRecDepth 20000 in
theorem mg_302 : tb_Pf 302 (12, 2, 1, 4, co_X12_qTold) := ⟨(plainFor_of_name pp_12), rfl, (tg tw_2022 rfl), by decide, am_ckc_ok ck_X12_qTold, rfl⟩
set_option maxRecDepth 20000 in
theorem mg_303 : tb_Pf 303 (12, 1, 0, 2, co_X12_qKind) := ⟨(plainFor_of_name pp_12), rfl, (tg tw_1943 rfl), by decide, am_ckc_ok ck_X12_qKind, rfl⟩
set_option maxRecDepth 20000 in
theorem mg_304 : tb_Pf 304 (12, 4, 9, 6, co_X12_qTakes) := ⟨(plainFor_of_name pp_12), rfl, (tg tw_2052 rfl), by decide, am_ckc_ok ck_X12_qTakes, rfl⟩
set_option maxRecDepth 20000 in
theorem mg_305 : tb_Pf 305 (12, 2, 1, 4, co_X12_ask) := ⟨(plainFor_of_name pp_12), rfl, (tg tw_1938 rfl), by decide, am_ckc_ok ck_X12_ask, rfl⟩
set_option maxRecDepth 20000 in
theorem mg_306 : tb_Pf 306 (12, 2, 1, 2, co_X12_worstOf) := ⟨(plainFor_of_name pp_12), rfl, (tg tw_2041 rfl), by decide, am_ckc_ok ck_X12_worstOf, rfl⟩
set_option maxRecDepth 20000 in
theorem mg_307 : tb_Pf 307 (12, 2, 0, 4, co_X12_checked) := ⟨(plainFor_of_name pp_12), rfl, (tg tw_2063 rfl), by decide, am_ckc_ok ck_X12_checked, rfl⟩
set_option maxRecDepth 20000 in
theorem mg_308 : tb_Pf 308 (12, 2, 9, 2, co_X12_writes) := ⟨(plainFor_of_name pp_12), rfl, (tg tw_2060 rfl), by decide, am_ckc_ok ck_X12_writes, rfl⟩
set_option maxRecDepth 20000 in
theorem mg_309 : tb_Pf 309 (12, 1, 0, 3, co_X12_image) := ⟨(plainFor_of_name pp_12), rfl, (tg tw_2056 rfl), by decide, am_ckc_ok ck_X12_image, rfl⟩
set_option maxRecDepth 20000 in
theorem mg_310 : tb_Pf 310 (12, 2, 0, 2, co_X12_octet) := ⟨(plainFor_of_name pp_12), rfl, (tg tw_2067 rfl), by decide, am_ckc_ok ck_X12_octet, rfl⟩
set_option maxRecDepth 20000 in
theorem mg_311 : tb_Pf 311 (12, 2, 5, 5, co_X12_isTold) := ⟨(plainFor_of_name pp_12), rfl, (tg tw_2075 rfl), by decide, am_ckc_ok ck_X12_isTold, rfl⟩
set_option maxRecDepth 20000 in
theorem mg_312 : tb_Pf 312 (12, 1, 5, 5, co_X12_on) := ⟨(plainFor_of_name pp_12), rfl, (tg tw_2071 rfl), by decide, am_ckc_ok ck_X12_on, rfl⟩
set_option maxRecDepth 20000 in
theorem mg_313 : tb_Pf 313 (12, 2, 0, 2, co_X12_status) := ⟨(plainFor_of_name pp_12), rfl, (tg tw_2079 rfl), by decide, am_ckc_ok ck_X12_status, rfl⟩
set_option maxRecDepth 20000 in
theorem mg_314 : tb_Pf 314 (15, 1, 0, 1, co_J6_bitCount_0f7a4) := ⟨(plainFor_of_name pp_15), rfl, (tg tw_956 rfl), by decide, am_ckc_ok ck_J6_bitCount_0f7a4, rfl⟩
set_option maxRecDepth 20000 in
theorem mg_315 : tb_Pf 315 (14, 2, 0, 3, co_J9_floorDiv_7cf53) := ⟨(by decide +kernel), rfl, (tg tw_838 rfl), by decide, am_ckc_ok ck_J9_floorDiv_7cf53, rfl⟩
set_option maxRecDepth 20000 in
theorem mg_316 : tb_Pf 316 (14, 2, 0, 2, co_J9_max_7cf53) := ⟨(by decide +kernel), rfl, (tg tw_753 rfl), by decide, am_ckc_ok ck_J9_max_7cf53, rfl⟩
set_option maxRecDepth 20000 in
theorem mg_317 : tb_Pf 317 (14, 2, 1, 4, co_J9_max_f86c9) := ⟨(by decide +kernel), rfl, (tg tw_835 rfl), by decide, am_ckc_ok ck_J9_max_f86c9, rfl⟩
set_option maxRecDepth 20000 in
theorem mg_318 : tb_Pf 318 (14, 2, 0, 2, co_J9_min_7cf53) := ⟨(by decide +kernel), rfl, (tg tw_827 rfl), by decide, am_ckc_ok ck_J9_min_7cf53, rfl⟩
set_option maxRecDepth 20000 in
theorem mg_319 : tb_Pf 319 (14, 2, 1, 4, co_J9_min_f86c9) := ⟨(by decide +kernel), rfl, (tg tw_832 rfl), by decide, am_ckc_ok ck_J9_min_f86c9, rfl⟩
set_option maxRecDepth 20000 in
theorem lf_2_1 : tb_Lf 2 1 1 := ⟨_, _, _, _, _, pm_X0_forget, rfl, pn_0, by decide +kernel, by decide, (tg tw_9 rfl), fun _ => ⟨(tg tw_699 rfl), (tg tw_700 rfl)⟩, fun q => absurd q (by decide), fun q => absurd q (by decide)⟩
set_option maxRecDepth 20000 in
theorem lf_2_2 : tb_Lf 2 2 2 := ⟨_, _, _, _, _, pm_X0_keep, rfl, pn_0, by decide +kernel, by decide, (tg tw_9 rfl), fun _ => ⟨(tg tw_1053 rfl), (tg tw_1054 rfl)⟩, fun q => absurd q (by decide), fun q => absurd q (by decide)⟩
set_option maxRecDepth 20000 in
theorem lf_2_3 : tb_Lf 2 3 2 := ⟨_, _, _, _, _, pm_X0_takeBack, rfl, pn_0, by decide +kernel, by decide, (tg tw_9 rfl), fun _ => ⟨(tg tw_1090 rfl), (tg tw_1091 rfl)⟩, fun q => absurd q (by decide), fun q => absurd q (by decide)⟩
set_option maxRecDepth 20000 in
theorem lf_2_5 : tb_Lf 2 5 3 := ⟨_, _, _, _, _, pm_X1_go, rfl, pn_1, by decide +kernel, by decide, (tg tw_10 rfl), fun _ => ⟨(tg tw_851 rfl), (tg tw_852 rfl)⟩, fun q => absurd q (by decide), fun q => absurd q (by decide)⟩
set_option maxRecDepth 20000 in
theorem lf_2_6 : tb_Lf 2 6 2 := ⟨_, _, _, _, _, pm_X1_dreadIn, rfl, pn_1, by decide +kernel, by decide, (tg tw_10 rfl), fun _ => ⟨(tg tw_875 rfl), (tg tw_876 rfl)⟩, fun q => absurd q (by decide), fun q => absurd q (by decide)⟩
set_option maxRecDepth 20000 in
theorem lf_2_7 : tb_Lf 2 7 3 := ⟨_, _, _, _, _, pm_X1_weightAt, rfl, pn_1, by decide +kernel, by decide, (tg tw_10 rfl), fun _ => ⟨(tg tw_884 rfl), (tg tw_885 rfl)⟩, fun q => absurd q (by decide), fun q => absurd q (by decide)⟩
set_option maxRecDepth 20000 in
theorem lf_2_8 : tb_Lf 2 8 2 := ⟨_, _, _, _, _, pm_X1_firstLike, rfl, pn_1, by decide +kernel, by decide, (tg tw_10 rfl), fun _ => ⟨(tg tw_896 rfl), (tg tw_897 rfl)⟩, fun q => absurd q (by decide), fun q => absurd q (by decide)⟩
set_option maxRecDepth 20000 in
theorem lf_2_9 : tb_Lf 2 9 4 := ⟨_, _, _, _, _, pm_X1_goTogether, rfl, pn_1, by decide +kernel, by decide, (tg tw_10 rfl), fun _ => ⟨(tg tw_995 rfl), (tg tw_996 rfl)⟩, fun q => absurd q (by decide), fun q => absurd q (by decide)⟩
set_option maxRecDepth 20000 in
theorem lf_2_10 : tb_Lf 2 10 2 := ⟨_, _, _, _, _, pm_X1_heaviestOfBoth, rfl, pn_1, by decide +kernel, by decide, (tg tw_10 rfl), fun _ => ⟨(tg tw_1000 rfl), (tg (tp (q := (yX1_heaviestOfBoth, 6)) (List.mem_of_getElem? (i := 26) (by decide +kernel))) rfl)⟩, fun q => absurd q (by decide), fun q => absurd q (by decide)⟩
set_option maxRecDepth 20000 in
theorem lf_2_11 : tb_Lf 2 11 7 := ⟨_, _, _, _, _, pm_X1_follows, rfl, pn_1, by decide +kernel, by decide, (tg tw_10 rfl), fun _ => ⟨(tg tw_1108 rfl), (tg tw_1109 rfl)⟩, fun q => absurd q (by decide), fun q => absurd q (by decide)⟩
set_option maxRecDepth 20000 in
theorem lf_2_13 : tb_Lf 2 13 1 := ⟨_, _, _, _, _, pm_X2_clear, rfl, pn_2, by decide +kernel, by decide, (tg tw_7 rfl), fun _ => ⟨(tg tw_419 rfl), (tg tw_420 rfl)⟩, fun q => absurd q (by decide), fun q => absurd q (by decide)⟩
set_option maxRecDepth 20000 in
theorem lf_2_14 : tb_Lf 2 14 2 := ⟨_, _, _, _, _, pm_X2_count, rfl, pn_2, by decide +kernel, by decide, (tg tw_7 rfl), fun _ => ⟨(tg tw_524 rfl), (tg tw_525 rfl)⟩, fun q => absurd q (by decide), fun q => absurd q (by decide)⟩
set_option maxRecDepth 20000 in
theorem lf_2_15 : tb_Lf 2 15 3 := ⟨_, _, _, _, _, pm_X2_isThere, rfl, pn_2, by decide +kernel, by decide, (tg tw_7 rfl), fun _ => ⟨(tg tw_729 rfl), (tg tw_730 rfl)⟩, fun q => absurd q (by decide), fun q => absurd q (by decide)⟩
set_option maxRecDepth 20000 in
theorem lf_2_16 : tb_Lf 2 16 2 := ⟨_, _, _, _, _, pm_X2_isFull, rfl, pn_2, by decide +kernel, by decide, (tg tw_7 rfl), fun _ => ⟨(tg tw_520 rfl), (tg tw_521 rfl)⟩, fun q => absurd q (by decide), fun q => absurd q (by decide)⟩
set_option maxRecDepth 20000 in
theorem lf_2_17 : tb_Lf 2 17 3 := ⟨_, _, _, _, _, pm_X2_placeOf, rfl, pn_2, by decide +kernel, by decide, (tg tw_7 rfl), fun _ => ⟨(tg tw_555 rfl), (tg tw_556 rfl)⟩, fun q => absurd q (by decide), fun q => absurd q (by decide)⟩
set_option maxRecDepth 20000 in
theorem lf_2_18 : tb_Lf 2 18 3 := ⟨_, _, _, _, _, pm_X2_letterAt, rfl, pn_2, by decide +kernel, by decide, (tg tw_7 rfl), fun _ => ⟨(tg tw_559 rfl), (tg tw_560 rfl)⟩, fun q => absurd q (by decide), fun q => absurd q (by decide)⟩
set_option maxRecDepth 20000 in
theorem lf_2_19 : tb_Lf 2 19 3 := ⟨_, _, _, _, _, pm_X2_giveName, rfl, pn_2, by decide +kernel, by decide, (tg tw_7 rfl), fun _ => ⟨(tg tw_564 rfl), (tg tw_565 rfl)⟩, fun q => absurd q (by decide), fun q => absurd q (by decide)⟩
set_option maxRecDepth 20000 in
theorem lf_2_20 : tb_Lf 2 20 3 := ⟨_, _, _, _, _, pm_X2_findName, rfl, pn_2, by decide +kernel, by decide, (tg tw_7 rfl), fun _ => ⟨(tg tw_550 rfl), (tg tw_551 rfl)⟩, fun q => absurd q (by decide), fun q => absurd q (by decide)⟩
set_option maxRecDepth 20000 in
theorem lf_2_21 : tb_Lf 2 21 3 := ⟨_, _, _, _, _, pm_X2_brave, rfl, pn_2, by decide +kernel, by decide, (tg tw_7 rfl), fun _ => ⟨(tg tw_594 rfl), (tg tw_595 rfl)⟩, fun q => absurd q (by decide), fun q => absurd q (by decide)⟩
set_option maxRecDepth 20000 in
theorem lf_2_22 : tb_Lf 2 22 4 := ⟨_, _, _, _, _, pm_X2_fear, rfl, pn_2, by decide +kernel, by decide, (tg tw_7 rfl), fun _ => ⟨(tg tw_606 rfl), (tg tw_607 rfl)⟩, fun q => absurd q (by decide), fun q => absurd q (by decide)⟩
set_option maxRecDepth 20000 in
theorem lf_2_23 : tb_Lf 2 23 3 := ⟨_, _, _, _, _, pm_X2_lead, rfl, pn_2, by decide +kernel, by decide, (tg tw_7 rfl), fun _ => ⟨(tg tw_615 rfl), (tg tw_616 rfl)⟩, fun q => absurd q (by decide), fun q => absurd q (by decide)⟩
set_option maxRecDepth 20000 in
theorem lf_2_24 : tb_Lf 2 24 2 := ⟨_, _, _, _, _, pm_X2_hasSum, rfl, pn_2, by decide +kernel, by decide, (tg tw_7 rfl), fun _ => ⟨(tg tw_530 rfl), (tg tw_531 rfl)⟩, fun q => absurd q (by decide), fun q => absurd q (by decide)⟩
set_option maxRecDepth 20000 in
theorem lf_2_25 : tb_Lf 2 25 3 := ⟨_, _, _, _, _, pm_X2_markSum, rfl, pn_2, by decide +kernel, by decide, (tg tw_7 rfl), fun _ => ⟨(tg tw_682 rfl), (tg tw_683 rfl)⟩, fun q => absurd q (by decide), fun q => absurd q (by decide)⟩
set_option maxRecDepth 20000 in
theorem lf_2_26 : tb_Lf 2 26 2 := ⟨_, _, _, _, _, pm_X2_braveryOf, rfl, pn_2, by decide +kernel, by decide, (tg tw_7 rfl), fun _ => ⟨(tg tw_743 rfl), (tg tw_744 rfl)⟩, fun q => absurd q (by decide), fun q => absurd q (by decide)⟩
set_option maxRecDepth 20000 in
theorem lf_2_27 : tb_Lf 2 27 2 := ⟨_, _, _, _, _, pm_X2_dreadOf, rfl, pn_2, by decide +kernel, by decide, (tg tw_7 rfl), fun _ => ⟨(tg tw_771 rfl), (tg tw_772 rfl)⟩, fun q => absurd q (by decide), fun q => absurd q (by decide)⟩
set_option maxRecDepth 20000 in
theorem lf_2_28 : tb_Lf 2 28 3 := ⟨_, _, _, _, _, pm_X2_lay, rfl, pn_2, by decide +kernel, by decide, (tg tw_7 rfl), fun _ => ⟨(tg tw_691 rfl), (tg tw_692 rfl)⟩, fun q => absurd q (by decide), fun q => absurd q (by decide)⟩
set_option maxRecDepth 20000 in
theorem lf_2_29 : tb_Lf 2 29 3 := ⟨_, _, _, _, _, pm_X2_counts, rfl, pn_2, by decide +kernel, by decide, (tg tw_7 rfl), fun _ => ⟨(tg tw_763 rfl), (tg tw_764 rfl)⟩, fun q => absurd q (by decide), fun q => absurd q (by decide)⟩
set_option maxRecDepth 20000 in
theorem lf_2_30 : tb_Lf 2 30 3 := ⟨_, _, _, _, _, pm_X2_heaviest, rfl, pn_2, by decide +kernel, by decide, (tg tw_7 rfl), fun _ => ⟨(tg tw_759 rfl), (tg tw_760 rfl)⟩, fun q => absurd q (by decide), fun q => absurd q (by decide)⟩
set_option maxRecDepth 20000 in
theorem lf_2_31 : tb_Lf 2 31 2 := ⟨_, _, _, _, _, pm_X2_isHome, rfl, pn_2, by decide +kernel, by decide, (tg tw_7 rfl), fun _ => ⟨(tg tw_717 rfl), (tg tw_718 rfl)⟩, fun q => absurd q (by decide), fun q => absurd q (by decide)⟩
set_option maxRecDepth 20000 in
theorem lf_2_32 : tb_Lf 2 32 4 := ⟨_, _, _, _, _, pm_X2_becomes, rfl, pn_2, by decide +kernel, by decide, (tg tw_7 rfl), fun _ => ⟨(tg tw_785 rfl), (tg tw_786 rfl)⟩, fun q => absurd q (by decide), fun q => absurd q (by decide)⟩
set_option maxRecDepth 20000 in
theorem lf_2_33 : tb_Lf 2 33 3 := ⟨_, _, _, _, _, pm_X2_canEnter, rfl, pn_2, by decide +kernel, by decide, (tg tw_7 rfl), fun _ => ⟨(tg tw_868 rfl), (tg tw_869 rfl)⟩, fun q => absurd q (by decide), fun q => absurd q (by decide)⟩
set_option maxRecDepth 20000 in
theorem lf_2_34 : tb_Lf 2 34 3 := ⟨_, _, _, _, _, pm_X2_enter, rfl, pn_2, by decide +kernel, by decide, (tg tw_7 rfl), fun _ => ⟨(tg tw_864 rfl), (tg tw_865 rfl)⟩, fun q => absurd q (by decide), fun q => absurd q (by decide)⟩
set_option maxRecDepth 20000 in
theorem lf_2_35 : tb_Lf 2 35 3 := ⟨_, _, _, _, _, pm_X2_meetByDay, rfl, pn_2, by decide +kernel, by decide, (tg tw_7 rfl), fun _ => ⟨(tg tw_973 rfl), (tg tw_974 rfl)⟩, fun q => absurd q (by decide), fun q => absurd q (by decide)⟩
set_option maxRecDepth 20000 in
theorem lf_2_37 : tb_Lf 2 37 2 := ⟨_, _, _, _, _, pm_X3_read, rfl, pn_3, by decide +kernel, by decide, (tg tw_4 rfl), fun _ => ⟨(tg tw_415 rfl), (tg tw_416 rfl)⟩, fun q => absurd q (by decide), fun q => absurd q (by decide)⟩
set_option maxRecDepth 20000 in
theorem lf_2_38 : tb_Lf 2 38 2 := ⟨_, _, _, _, _, pm_X3_readStatement, rfl, pn_3, by decide +kernel, by decide, (tg tw_4 rfl), fun _ => ⟨(tg tw_453 rfl), (tg (tp (q := (yX3_readStatement, 2)) (List.mem_of_getElem? (i := 1) (by decide +kernel))) rfl)⟩, fun q => absurd q (by decide), fun q => absurd q (by decide)⟩
set_option maxRecDepth 20000 in
theorem lf_2_40 : tb_Lf 2 40 2 := ⟨_, _, _, _, _, pm_X3_readDreamer, rfl, pn_3, by decide +kernel, by decide, (tg tw_4 rfl), fun _ => ⟨(tg tw_570 rfl), (tg (tp (q := (yX3_readDreamer, 2)) (List.mem_of_getElem? (i := 4) (by decide +kernel))) rfl)⟩, fun q => absurd q (by decide), fun q => absurd q (by decide)⟩
set_option maxRecDepth 20000 in
theorem lf_2_41 : tb_Lf 2 41 2 := ⟨_, _, _, _, _, pm_X3_readFears, rfl, pn_3, by decide +kernel, by decide, (tg tw_4 rfl), fun _ => ⟨(tg tw_599 rfl), (tg (tp (q := (yX3_readFears, 2)) (List.mem_of_getElem? (i := 5) (by decide +kernel))) rfl)⟩, fun q => absurd q (by decide), fun q => absurd q (by decide)⟩
set_option maxRecDepth 20000 in
theorem lf_2_42 : tb_Lf 2 42 2 := ⟨_, _, _, _, _, pm_X3_readGuide, rfl, pn_3, by decide +kernel, by decide, (tg tw_4 rfl), fun _ => ⟨(tg tw_611 rfl), (tg (tp (q := (yX3_readGuide, 2)) (List.mem_of_getElem? (i := 7) (by decide +kernel))) rfl)⟩, fun q => absurd q (by decide), fun q => absurd q (by decide)⟩
set_option maxRecDepth 20000 in
theorem lf_2_43 : tb_Lf 2 43 3 := ⟨_, _, _, _, _, pm_X3_readSum, rfl, pn_3, by decide +kernel, by decide, (tg tw_4 rfl), fun _ => ⟨(tg tw_620 rfl), (tg (tp (q := (yX3_readSum, 2)) (List.mem_of_getElem? (i := 8) (by decide +kernel))) rfl)⟩, fun q => absurd q (by decide), fun q => absurd q (by decide)⟩
set_option maxRecDepth 20000 in
theorem lf_2_44 : tb_Lf 2 44 3 := ⟨_, _, _, _, _, pm_X3_readNewName, rfl, pn_3, by decide +kernel, by decide, (tg tw_4 rfl), fun _ => ⟨(tg tw_539 rfl), (tg (tp (q := (yX3_readNewName, 2)) (List.mem_of_getElem? (i := 3) (by decide +kernel))) rfl)⟩, fun q => absurd q (by decide), fun q => absurd q (by decide)⟩
set_option maxRecDepth 20000 in
theorem lf_2_45 : tb_Lf 2 45 3 := ⟨_, _, _, _, _, pm_X3_readKnownName, rfl, pn_3, by decide +kernel, by decide, (tg tw_4 rfl), fun _ => ⟨(tg tw_603 rfl), (tg (tp (q := (yX3_readKnownName, 2)) (List.mem_of_getElem? (i := 6) (by decide +kernel))) rfl)⟩, fun q => absurd q (by decide), fun q => absurd q (by decide)⟩
set_option maxRecDepth 20000 in
theorem lf_2_47 : tb_Lf 2 47 4 := ⟨_, _, _, _, _, pm_X4_canBeHome, rfl, pn_4, by decide +kernel, by decide, (tg tw_12 rfl), fun _ => ⟨(tg tw_1011 rfl), (tg tw_1012 rfl)⟩, fun q => absurd q (by decide), fun q => absurd q (by decide)⟩
set_option maxRecDepth 20000 in
theorem lf_2_48 : tb_Lf 2 48 4 := ⟨_, _, _, _, _, pm_X4_escapes, rfl, pn_4, by decide +kernel, by decide, (tg tw_12 rfl), fun _ => ⟨(tg tw_1017 rfl), (tg (tp (q := (yX4_escapes, 3)) (List.mem_of_getElem? (i := 27) (by decide +kernel))) rfl)⟩, fun q => absurd q (by decide), fun q => absurd q (by decide)⟩
set_option maxRecDepth 20000 in
theorem lf_2_49 : tb_Lf 2 49 5 := ⟨_, _, _, _, _, pm_X4_bears, rfl, pn_4, by decide +kernel, by decide, (tg tw_12 rfl), fun _ => ⟨(tg tw_1022 rfl), (tg (tp (q := (yX4_bears, 3)) (List.mem_of_getElem? (i := 28) (by decide +kernel))) rfl)⟩, fun q => absurd q (by decide), fun q => absurd q (by decide)⟩
set_option maxRecDepth 20000 in
theorem lf_2_50 : tb_Lf 2 50 4 := ⟨_, _, _, _, _, pm_X4_thousandths, rfl, pn_4, by decide +kernel, by decide, (tg tw_12 rfl), fun _ => ⟨(tg tw_1034 rfl), (tg tw_1035 rfl)⟩, fun q => absurd q (by decide), fun q => absurd q (by decide)⟩
set_option maxRecDepth 20000 in
theorem lf_2_51 : tb_Lf 2 51 5 := ⟨_, _, _, _, _, pm_X4_shareHome, rfl, pn_4, by decide +kernel, by decide, (tg tw_12 rfl), fun _ => ⟨(tg tw_1040 rfl), (tg (tp (q := (yX4_shareHome, 3)) (List.mem_of_getElem? (i := 29) (by decide +kernel))) rfl)⟩, fun q => absurd q (by decide), fun q => absurd q (by decide)⟩
set_option maxRecDepth 20000 in
theorem lf_2_53 : tb_Lf 2 53 1 := ⟨_, _, _, _, _, pm_X5_read, rfl, pn_5, by decide +kernel, by decide, (tg tw_5 rfl), fun _ => ⟨(tg tw_1117 rfl), (tg tw_1118 rfl)⟩, fun q => absurd q (by decide), fun q => absurd q (by decide)⟩
set_option maxRecDepth 20000 in
theorem lf_2_54 : tb_Lf 2 54 2 := ⟨_, _, _, _, _, pm_X5_readTest, rfl, pn_5, by decide +kernel, by decide, (tg tw_5 rfl), fun _ => ⟨(tg tw_1129 rfl), (tg (tp (q := (yX5_readTest, 4)) (List.mem_of_getElem? (i := 31) (by decide +kernel))) rfl)⟩, fun q => absurd q (by decide), fun q => absurd q (by decide)⟩
set_option maxRecDepth 20000 in
theorem lf_2_55 : tb_Lf 2 55 2 := ⟨_, _, _, _, _, pm_X5_readBoth, rfl, pn_5, by decide +kernel, by decide, (tg tw_5 rfl), fun _ => ⟨(tg tw_1133 rfl), (tg (tp (q := (yX5_readBoth, 4)) (List.mem_of_getElem? (i := 32) (by decide +kernel))) rfl)⟩, fun q => absurd q (by decide), fun q => absurd q (by decide)⟩
set_option maxRecDepth 20000 in
theorem lf_2_56 : tb_Lf 2 56 2 := ⟨_, _, _, _, _, pm_X5_readFact, rfl, pn_5, by decide +kernel, by decide, (tg tw_5 rfl), fun _ => ⟨(tg tw_1137 rfl), (tg (tp (q := (yX5_readFact, 4)) (List.mem_of_getElem? (i := 33) (by decide +kernel))) rfl)⟩, fun q => absurd q (by decide), fun q => absurd q (by decide)⟩
set_option maxRecDepth 20000 in
theorem lf_2_57 : tb_Lf 2 57 2 := ⟨_, _, _, _, _, pm_X5_answer, rfl, pn_5, by decide +kernel, by decide, (tg tw_5 rfl), fun _ => ⟨(tg tw_1156 rfl), (tg tw_1157 rfl)⟩, fun q => absurd q (by decide), fun q => absurd q (by decide)⟩
set_option maxRecDepth 20000 in
theorem lf_2_58 : tb_Lf 2 58 3 := ⟨_, _, _, _, _, pm_X5_valueIn, rfl, pn_5, by decide +kernel, by decide, (tg tw_5 rfl), fun _ => ⟨(tg tw_1161 rfl), (tg (tp (q := (yX5_valueIn, 4)) (List.mem_of_getElem? (i := 34) (by decide +kernel))) rfl)⟩, fun q => absurd q (by decide), fun q => absurd q (by decide)⟩
set_option maxRecDepth 20000 in
theorem lf_2_60 : tb_Lf 2 60 1 := ⟨_, _, _, _, _, pm_X6_clear, rfl, pn_6, by decide +kernel, by decide, (tg tw_6 rfl), fun _ => ⟨(tg tw_423 rfl), (tg tw_424 rfl)⟩, fun q => absurd q (by decide), fun q => absurd q (by decide)⟩
set_option maxRecDepth 20000 in
theorem lf_2_61 : tb_Lf 2 61 2 := ⟨_, _, _, _, _, pm_X6_add, rfl, pn_6, by decide +kernel, by decide, (tg tw_6 rfl), fun _ => ⟨(tg tw_642 rfl), (tg tw_643 rfl)⟩, fun q => absurd q (by decide), fun q => absurd q (by decide)⟩
set_option maxRecDepth 20000 in
theorem lf_2_62 : tb_Lf 2 62 3 := ⟨_, _, _, _, _, pm_X6_see, rfl, pn_6, by decide +kernel, by decide, (tg tw_6 rfl), fun _ => ⟨(tg tw_790 rfl), (tg tw_791 rfl)⟩, fun q => absurd q (by decide), fun q => absurd q (by decide)⟩
set_option maxRecDepth 20000 in
theorem lf_2_63 : tb_Lf 2 63 3 := ⟨_, _, _, _, _, pm_X6_know, rfl, pn_6, by decide +kernel, by decide, (tg tw_6 rfl), fun _ => ⟨(tg tw_795 rfl), (tg tw_796 rfl)⟩, fun q => absurd q (by decide), fun q => absurd q (by decide)⟩
set_option maxRecDepth 20000 in
theorem lf_2_64 : tb_Lf 2 64 3 := ⟨_, _, _, _, _, pm_X6_value, rfl, pn_6, by decide +kernel, by decide, (tg tw_6 rfl), fun _ => ⟨(tg tw_801 rfl), (tg tw_802 rfl)⟩, fun q => absurd q (by decide), fun q => absurd q (by decide)⟩
set_option maxRecDepth 20000 in
theorem lf_2_65 : tb_Lf 2 65 2 := ⟨_, _, _, _, _, pm_X6_push, rfl, pn_6, by decide +kernel, by decide, (tg tw_6 rfl), fun _ => ⟨(tg tw_806 rfl), (tg (tp (q := (yX6_push, 6)) (List.mem_of_getElem? (i := 17) (by decide +kernel))) rfl)⟩, fun q => absurd q (by decide), fun q => absurd q (by decide)⟩
set_option maxRecDepth 20000 in
theorem lf_2_66 : tb_Lf 2 66 1 := ⟨_, _, _, _, _, pm_X6_pop, rfl, pn_6, by decide +kernel, by decide, (tg tw_6 rfl), fun _ => ⟨(tg tw_814 rfl), (tg (tp (q := (yX6_pop, 6)) (List.mem_of_getElem? (i := 19) (by decide +kernel))) rfl)⟩, fun q => absurd q (by decide), fun q => absurd q (by decide)⟩
set_option maxRecDepth 20000 in
theorem lf_2_67 : tb_Lf 2 67 2 := ⟨_, _, _, _, _, pm_X6_fact, rfl, pn_6, by decide +kernel, by decide, (tg tw_6 rfl), fun _ => ⟨(tg tw_810 rfl), (tg (tp (q := (yX6_fact, 6)) (List.mem_of_getElem? (i := 18) (by decide +kernel))) rfl)⟩, fun q => absurd q (by decide), fun q => absurd q (by decide)⟩
set_option maxRecDepth 20000 in
theorem lf_2_68 : tb_Lf 2 68 2 := ⟨_, _, _, _, _, pm_X6_weightOf, rfl, pn_6, by decide +kernel, by decide, (tg tw_6 rfl), fun _ => ⟨(tg tw_818 rfl), (tg (tp (q := (yX6_weightOf, 6)) (List.mem_of_getElem? (i := 20) (by decide +kernel))) rfl)⟩, fun q => absurd q (by decide), fun q => absurd q (by decide)⟩
set_option maxRecDepth 20000 in
theorem lf_2_71 : tb_Lf 2 71 2 := ⟨_, _, _, _, _, pm_X7_copy, rfl, pn_7, by decide +kernel, by decide, (tg tw_8 rfl), fun _ => ⟨(tg tw_855 rfl), (tg tw_856 rfl)⟩, fun q => absurd q (by decide), fun q => absurd q (by decide)⟩
set_option maxRecDepth 20000 in
theorem lf_2_72 : tb_Lf 2 72 2 := ⟨_, _, _, _, _, pm_X7_at, rfl, pn_7, by decide +kernel, by decide, (tg tw_8 rfl), fun _ => ⟨(tg tw_767 rfl), (tg tw_768 rfl)⟩, fun q => absurd q (by decide), fun q => absurd q (by decide)⟩
set_option maxRecDepth 20000 in
theorem lf_2_73 : tb_Lf 2 73 3 := ⟨_, _, _, _, _, pm_X7_put, rfl, pn_7, by decide +kernel, by decide, (tg tw_8 rfl), fun _ => ⟨(tg tw_695 rfl), (tg tw_696 rfl)⟩, fun q => absurd q (by decide), fun q => absurd q (by decide)⟩
set_option maxRecDepth 20000 in
theorem lf_2_74 : tb_Lf 2 74 1 := ⟨_, _, _, _, _, pm_X7_total, rfl, pn_7, by decide +kernel, by decide, (tg tw_8 rfl), fun _ => ⟨(tg tw_721 rfl), (tg tw_722 rfl)⟩, fun q => absurd q (by decide), fun q => absurd q (by decide)⟩
set_option maxRecDepth 20000 in
theorem lf_2_75 : tb_Lf 2 75 1 := ⟨_, _, _, _, _, pm_X7_greatest, rfl, pn_7, by decide +kernel, by decide, (tg tw_8 rfl), fun _ => ⟨(tg tw_748 rfl), (tg tw_749 rfl)⟩, fun q => absurd q (by decide), fun q => absurd q (by decide)⟩
set_option maxRecDepth 20000 in
theorem lf_2_76 : tb_Lf 2 76 1 := ⟨_, _, _, _, _, pm_X7_countHeavy, rfl, pn_7, by decide +kernel, by decide, (tg tw_8 rfl), fun _ => ⟨(tg tw_755 rfl), (tg tw_756 rfl)⟩, fun q => absurd q (by decide), fun q => absurd q (by decide)⟩
set_option maxRecDepth 20000 in
theorem lf_2_77 : tb_Lf 2 77 1 := ⟨_, _, _, _, _, pm_X7_laugh, rfl, pn_7, by decide +kernel, by decide, (tg tw_8 rfl), fun _ => ⟨(tg tw_1043 rfl), (tg tw_1044 rfl)⟩, fun q => absurd q (by decide), fun q => absurd q (by decide)⟩
set_option maxRecDepth 20000 in
theorem lf_2_78 : tb_Lf 2 78 3 := ⟨_, _, _, _, _, pm_X7_isLike, rfl, pn_7, by decide +kernel, by decide, (tg tw_8 rfl), fun _ => ⟨(tg tw_981 rfl), (tg tw_982 rfl)⟩, fun q => absurd q (by decide), fun q => absurd q (by decide)⟩
set_option maxRecDepth 20000 in
theorem lf_2_79 : tb_Lf 2 79 3 := ⟨_, _, _, _, _, pm_X7_writeTo, rfl, pn_7, by decide +kernel, by decide, (tg tw_8 rfl), fun _ => ⟨(tg tw_859 rfl), (tg tw_860 rfl)⟩, fun q => absurd q (by decide), fun q => absurd q (by decide)⟩
set_option maxRecDepth 20000 in
theorem lf_2_81 : tb_Lf 2 81 3 := ⟨_, _, _, _, _, pm_X8_write, rfl, pn_8, by decide +kernel, by decide, (tg tw_3 rfl), fun _ => ⟨(tg tw_427 rfl), (tg tw_428 rfl)⟩, fun q => absurd q (by decide), fun q => absurd q (by decide)⟩
set_option maxRecDepth 20000 in
theorem lf_2_82 : tb_Lf 2 82 2 := ⟨_, _, _, _, _, pm_X8_emit, rfl, pn_8, by decide +kernel, by decide, (tg tw_3 rfl), fun _ => ⟨(tg tw_638 rfl), (tg tw_639 rfl)⟩, fun q => absurd q (by decide), fun q => absurd q (by decide)⟩
set_option maxRecDepth 20000 in
theorem lf_2_83 : tb_Lf 2 83 2 := ⟨_, _, _, _, _, pm_X8_mayOpen, rfl, pn_8, by decide +kernel, by decide, (tg tw_3 rfl), fun _ => ⟨(tg tw_650 rfl), (tg tw_651 rfl)⟩, fun q => absurd q (by decide), fun q => absurd q (by decide)⟩
set_option maxRecDepth 20000 in
theorem lf_2_84 : tb_Lf 2 84 2 := ⟨_, _, _, _, _, pm_X8_readSum, rfl, pn_8, by decide +kernel, by decide, (tg tw_3 rfl), fun _ => ⟨(tg tw_624 rfl), (tg (tp (q := (yX8_readSum, 3)) (List.mem_of_getElem? (i := 9) (by decide +kernel))) rfl)⟩, fun q => absurd q (by decide), fun q => absurd q (by decide)⟩
set_option maxRecDepth 20000 in
theorem lf_2_85 : tb_Lf 2 85 2 := ⟨_, _, _, _, _, pm_X8_readProduct, rfl, pn_8, by decide +kernel, by decide, (tg tw_3 rfl), fun _ => ⟨(tg tw_628 rfl), (tg (tp (q := (yX8_readProduct, 3)) (List.mem_of_getElem? (i := 10) (by decide +kernel))) rfl)⟩, fun q => absurd q (by decide), fun q => absurd q (by decide)⟩
set_option maxRecDepth 20000 in
theorem lf_2_86 : tb_Lf 2 86 2 := ⟨_, _, _, _, _, pm_X8_readPart, rfl, pn_8, by decide +kernel, by decide, (tg tw_3 rfl), fun _ => ⟨(tg tw_632 rfl), (tg (tp (q := (yX8_readPart, 3)) (List.mem_of_getElem? (i := 11) (by decide +kernel))) rfl)⟩, fun q => absurd q (by decide), fun q => absurd q (by decide)⟩
set_option maxRecDepth 20000 in
theorem lf_2_87 : tb_Lf 2 87 2 := ⟨_, _, _, _, _, pm_X8_readWord, rfl, pn_8, by decide +kernel, by decide, (tg tw_3 rfl), fun _ => ⟨(tg tw_667 rfl), (tg (tp (q := (yX8_readWord, 3)) (List.mem_of_getElem? (i := 12) (by decide +kernel))) rfl)⟩, fun q => absurd q (by decide), fun q => absurd q (by decide)⟩
set_option maxRecDepth 20000 in
theorem lf_2_88 : tb_Lf 2 88 2 := ⟨_, _, _, _, _, pm_X8_readPair, rfl, pn_8, by decide +kernel, by decide, (tg tw_3 rfl), fun _ => ⟨(tg tw_679 rfl), (tg (tp (q := (yX8_readPair, 3)) (List.mem_of_getElem? (i := 13) (by decide +kernel))) rfl)⟩, fun q => absurd q (by decide), fun q => absurd q (by decide)⟩
set_option maxRecDepth 20000 in
theorem lf_2_90 : tb_Lf 2 90 2 := ⟨_, _, _, _, _, pm_X9_add, rfl, pn_9, by decide +kernel, by decide, (tg tw_2 rfl), fun _ => ⟨(tg tw_403 rfl), (tg tw_404 rfl)⟩, fun q => absurd q (by decide), fun q => absurd q (by decide)⟩
set_option maxRecDepth 20000 in
theorem lf_2_91 : tb_Lf 2 91 1 := ⟨_, _, _, _, _, pm_X9_wipe, rfl, pn_9, by decide +kernel, by decide, (tg tw_2 rfl), fun _ => ⟨(tg tw_687 rfl), (tg tw_688 rfl)⟩, fun q => absurd q (by decide), fun q => absurd q (by decide)⟩
set_option maxRecDepth 20000 in
theorem lf_2_92 : tb_Lf 2 92 2 := ⟨_, _, _, _, _, pm_X9_byteAt, rfl, pn_9, by decide +kernel, by decide, (tg tw_2 rfl), fun _ => ⟨(tg tw_513 rfl), (tg tw_514 rfl)⟩, fun q => absurd q (by decide), fun q => absurd q (by decide)⟩
set_option maxRecDepth 20000 in
theorem lf_2_93 : tb_Lf 2 93 2 := ⟨_, _, _, _, _, pm_X9_pairAt, rfl, pn_9, by decide +kernel, by decide, (tg tw_2 rfl), fun _ => ⟨(tg tw_1190 rfl), (tg tw_1191 rfl)⟩, fun q => absurd q (by decide), fun q => absurd q (by decide)⟩
set_option maxRecDepth 20000 in
theorem lf_2_94 : tb_Lf 2 94 1 := ⟨_, _, _, _, _, pm_X9_start, rfl, pn_9, by decide +kernel, by decide, (tg tw_2 rfl), fun _ => ⟨(tg tw_431 rfl), (tg tw_432 rfl)⟩, fun q => absurd q (by decide), fun q => absurd q (by decide)⟩
set_option maxRecDepth 20000 in
theorem lf_2_95 : tb_Lf 2 95 1 := ⟨_, _, _, _, _, pm_X9_failed, rfl, pn_9, by decide +kernel, by decide, (tg tw_2 rfl), fun _ => ⟨(tg tw_435 rfl), (tg tw_436 rfl)⟩, fun q => absurd q (by decide), fun q => absurd q (by decide)⟩
set_option maxRecDepth 20000 in
theorem lf_2_96 : tb_Lf 2 96 3 := ⟨_, _, _, _, _, pm_X9_blame, rfl, pn_9, by decide +kernel, by decide, (tg tw_2 rfl), fun _ => ⟨(tg tw_448 rfl), (tg tw_449 rfl)⟩, fun q => absurd q (by decide), fun q => absurd q (by decide)⟩
set_option maxRecDepth 20000 in
theorem lf_2_97 : tb_Lf 2 97 2 := ⟨_, _, _, _, _, pm_X9_blameHere, rfl, pn_9, by decide +kernel, by decide, (tg tw_2 rfl), fun _ => ⟨(tg tw_443 rfl), (tg tw_444 rfl)⟩, fun q => absurd q (by decide), fun q => absurd q (by decide)⟩
set_option maxRecDepth 20000 in
theorem lf_2_98 : tb_Lf 2 98 1 := ⟨_, _, _, _, _, pm_X9_look, rfl, pn_9, by decide +kernel, by decide, (tg tw_2 rfl), fun _ => ⟨(tg tw_439 rfl), (tg tw_440 rfl)⟩, fun q => absurd q (by decide), fun q => absurd q (by decide)⟩
set_option maxRecDepth 20000 in
theorem lf_2_99 : tb_Lf 2 99 2 := ⟨_, _, _, _, _, pm_X9_sees, rfl, pn_9, by decide +kernel, by decide, (tg tw_2 rfl), fun _ => ⟨(tg tw_646 rfl), (tg tw_647 rfl)⟩, fun q => absurd q (by decide), fun q => absurd q (by decide)⟩
set_option maxRecDepth 20000 in
theorem lf_2_100 : tb_Lf 2 100 1 := ⟨_, _, _, _, _, pm_X9_step, rfl, pn_9, by decide +kernel, by decide, (tg tw_2 rfl), fun _ => ⟨(tg tw_655 rfl), (tg tw_656 rfl)⟩, fun q => absurd q (by decide), fun q => absurd q (by decide)⟩
set_option maxRecDepth 20000 in
theorem lf_2_101 : tb_Lf 2 101 2 := ⟨_, _, _, _, _, pm_X9_demand, rfl, pn_9, by decide +kernel, by decide, (tg tw_2 rfl), fun _ => ⟨(tg tw_660 rfl), (tg tw_661 rfl)⟩, fun q => absurd q (by decide), fun q => absurd q (by decide)⟩
set_option maxRecDepth 20000 in
theorem lf_2_102 : tb_Lf 2 102 1 := ⟨_, _, _, _, _, pm_X9_demandEnd, rfl, pn_9, by decide +kernel, by decide, (tg tw_2 rfl), fun _ => ⟨(tg tw_1152 rfl), (tg tw_1153 rfl)⟩, fun q => absurd q (by decide), fun q => absurd q (by decide)⟩
set_option maxRecDepth 20000 in
theorem lf_2_104 : tb_Lf 2 104 1 := ⟨_, _, _, _, _, pm_X9_seesDigit, rfl, pn_9, by decide +kernel, by decide, (tg tw_2 rfl), fun _ => ⟨(tg tw_587 rfl), (tg tw_588 rfl)⟩, fun q => absurd q (by decide), fun q => absurd q (by decide)⟩
set_option maxRecDepth 20000 in
theorem lf_2_105 : tb_Lf 2 105 1 := ⟨_, _, _, _, _, pm_X9_wordSize, rfl, pn_9, by decide +kernel, by decide, (tg tw_2 rfl), fun _ => ⟨(tg tw_462 rfl), (tg (tp (q := (yX9_wordSize, 8)) (List.mem_of_getElem? (i := 2) (by decide +kernel))) rfl)⟩, fun q => absurd q (by decide), fun q => absurd q (by decide)⟩
set_option maxRecDepth 20000 in
theorem lf_2_106 : tb_Lf 2 106 2 := ⟨_, _, _, _, _, pm_X9_wordIn, rfl, pn_9, by decide +kernel, by decide, (tg tw_2 rfl), fun _ => ⟨(tg tw_457 rfl), (tg tw_458 rfl)⟩, fun q => absurd q (by decide), fun q => absurd q (by decide)⟩
set_option maxRecDepth 20000 in
theorem lf_2_107 : tb_Lf 2 107 1 := ⟨_, _, _, _, _, pm_X9_skipWord, rfl, pn_9, by decide +kernel, by decide, (tg tw_2 rfl), fun _ => ⟨(tg tw_534 rfl), (tg tw_535 rfl)⟩, fun q => absurd q (by decide), fun q => absurd q (by decide)⟩
set_option maxRecDepth 20000 in
theorem lf_2_108 : tb_Lf 2 108 2 := ⟨_, _, _, _, _, pm_X9_takeWord, rfl, pn_9, by decide +kernel, by decide, (tg tw_2 rfl), fun _ => ⟨(tg tw_578 rfl), (tg tw_579 rfl)⟩, fun q => absurd q (by decide), fun q => absurd q (by decide)⟩
set_option maxRecDepth 20000 in
theorem lf_2_109 : tb_Lf 2 109 2 := ⟨_, _, _, _, _, pm_X9_demandWord, rfl, pn_9, by decide +kernel, by decide, (tg tw_2 rfl), fun _ => ⟨(tg tw_574 rfl), (tg tw_575 rfl)⟩, fun q => absurd q (by decide), fun q => absurd q (by decide)⟩
set_option maxRecDepth 20000 in
theorem lf_2_110 : tb_Lf 2 110 1 := ⟨_, _, _, _, _, pm_X9_takeName, rfl, pn_9, by decide +kernel, by decide, (tg tw_2 rfl), fun _ => ⟨(tg tw_542 rfl), (tg tw_543 rfl)⟩, fun q => absurd q (by decide), fun q => absurd q (by decide)⟩
set_option maxRecDepth 20000 in
theorem lf_2_111 : tb_Lf 2 111 2 := ⟨_, _, _, _, _, pm_X9_takeNumber, rfl, pn_9, by decide +kernel, by decide, (tg tw_2 rfl), fun _ => ⟨(tg tw_583 rfl), (tg tw_584 rfl)⟩, fun q => absurd q (by decide), fun q => absurd q (by decide)⟩
set_option maxRecDepth 20000 in
theorem lf_2_113 : tb_Lf 2 113 4 := ⟨_, _, _, _, _, pm_X10_findSoonest, rfl, pn_10, by decide +kernel, by decide, (tg tw_11 rfl), fun _ => ⟨(tg tw_905 rfl), (tg tw_906 rfl)⟩, fun q => absurd q (by decide), fun q => absurd q (by decide)⟩
set_option maxRecDepth 20000 in
theorem lf_2_114 : tb_Lf 2 114 3 := ⟨_, _, _, _, _, pm_X10_findLeast, rfl, pn_10, by decide +kernel, by decide, (tg tw_11 rfl), fun _ => ⟨(tg tw_936 rfl), (tg tw_937 rfl)⟩, fun q => absurd q (by decide), fun q => absurd q (by decide)⟩
set_option maxRecDepth 20000 in
theorem lf_2_115 : tb_Lf 2 115 3 := ⟨_, _, _, _, _, pm_X10_turn, rfl, pn_10, by decide +kernel, by decide, (tg tw_11 rfl), fun _ => ⟨(tg tw_928 rfl), (tg tw_929 rfl)⟩, fun q => absurd q (by decide), fun q => absurd q (by decide)⟩
set_option maxRecDepth 20000 in
theorem lf_2_116 : tb_Lf 2 116 3 := ⟨_, _, _, _, _, pm_X10_isBetter, rfl, pn_10, by decide +kernel, by decide, (tg tw_11 rfl), fun _ => ⟨(tg tw_915 rfl), (tg (tp (q := (yX10_isBetter, 13)) (List.mem_of_getElem? (i := 22) (by decide +kernel))) rfl)⟩, fun q => absurd q (by decide), fun q => absurd q (by decide)⟩
set_option maxRecDepth 20000 in
theorem lf_2_117 : tb_Lf 2 117 4 := ⟨_, _, _, _, _, pm_X10_seek, rfl, pn_10, by decide +kernel, by decide, (tg tw_11 rfl), fun _ => ⟨(tg tw_911 rfl), (tg (tp (q := (yX10_seek, 13)) (List.mem_of_getElem? (i := 21) (by decide +kernel))) rfl)⟩, fun q => absurd q (by decide), fun q => absurd q (by decide)⟩
set_option maxRecDepth 20000 in
theorem lf_2_118 : tb_Lf 2 118 5 := ⟨_, _, _, _, _, pm_X10_goOn, rfl, pn_10, by decide +kernel, by decide, (tg tw_11 rfl), fun _ => ⟨(tg tw_923 rfl), (tg (tp (q := (yX10_goOn, 13)) (List.mem_of_getElem? (i := 23) (by decide +kernel))) rfl)⟩, fun q => absurd q (by decide), fun q => absurd q (by decide)⟩
set_option maxRecDepth 20000 in
theorem lf_2_119 : tb_Lf 2 119 3 := ⟨_, _, _, _, _, pm_X10_findGuide, rfl, pn_10, by decide +kernel, by decide, (tg tw_11 rfl), fun _ => ⟨(tg tw_945 rfl), (tg tw_946 rfl)⟩, fun q => absurd q (by decide), fun q => absurd q (by decide)⟩
set_option maxRecDepth 20000 in
theorem lf_2_120 : tb_Lf 2 120 4 := ⟨_, _, _, _, _, pm_X10_findDays, rfl, pn_10, by decide +kernel, by decide, (tg tw_11 rfl), fun _ => ⟨(tg tw_961 rfl), (tg tw_962 rfl)⟩, fun q => absurd q (by decide), fun q => absurd q (by decide)⟩
set_option maxRecDepth 20000 in
theorem lf_2_121 : tb_Lf 2 121 2 := ⟨_, _, _, _, _, pm_X10_metByDay, rfl, pn_10, by decide +kernel, by decide, (tg tw_11 rfl), fun _ => ⟨(tg tw_987 rfl), (tg tw_988 rfl)⟩, fun q => absurd q (by decide), fun q => absurd q (by decide)⟩
set_option maxRecDepth 20000 in
theorem lf_2_122 : tb_Lf 2 122 3 := ⟨_, _, _, _, _, pm_X10_setOrder, rfl, pn_10, by decide +kernel, by decide, (tg tw_11 rfl), fun _ => ⟨(tg tw_966 rfl), (tg (tp (q := (yX10_setOrder, 13)) (List.mem_of_getElem? (i := 24) (by decide +kernel))) rfl)⟩, fun q => absurd q (by decide), fun q => absurd q (by decide)⟩
set_option maxRecDepth 20000 in
theorem lf_2_124 : tb_Lf 2 124 2 := ⟨_, _, _, _, _, pm_X10_isEndKnown, rfl, pn_10, by decide +kernel, by decide, (tg tw_11 rfl), fun _ => ⟨(tg tw_978 rfl), (tg (tp (q := (yX10_isEndKnown, 13)) (List.mem_of_getElem? (i := 25) (by decide +kernel))) rfl)⟩, fun q => absurd q (by decide), fun q => absurd q (by decide)⟩
set_option maxRecDepth 20000 in
theorem lf_2_126 : tb_Lf 2 126 6 := ⟨_, _, _, _, _, pm_X11_feed, rfl, pn_11, by decide +kernel, by decide, (tg tw_1 rfl), fun _ => ⟨(tg tw_395 rfl), (tg tw_396 rfl)⟩, fun q => absurd q (by decide), fun q => absurd q (by decide)⟩
set_option maxRecDepth 20000 in
theorem lf_2_127 : tb_Lf 2 127 2 := ⟨_, _, _, _, _, pm_X11_end, rfl, pn_11, by decide +kernel, by decide, (tg tw_1 rfl), fun _ => ⟨(tg tw_407 rfl), (tg tw_408 rfl)⟩, fun q => absurd q (by decide), fun q => absurd q (by decide)⟩
set_option maxRecDepth 20000 in
theorem lf_2_128 : tb_Lf 2 128 1 := ⟨_, _, _, _, _, pm_X11_dream, rfl, pn_11, by decide +kernel, by decide, (tg tw_1 rfl), fun _ => ⟨(tg tw_411 rfl), (tg tw_412 rfl)⟩, fun q => absurd q (by decide), fun q => absurd q (by decide)⟩
set_option maxRecDepth 20000 in
theorem lf_2_129 : tb_Lf 2 129 2 := ⟨_, _, _, _, _, pm_X11_fault, rfl, pn_11, by decide +kernel, by decide, (tg tw_1 rfl), fun _ => ⟨(tg tw_704 rfl), (tg tw_705 rfl)⟩, fun q => absurd q (by decide), fun q => absurd q (by decide)⟩
set_option maxRecDepth 20000 in
theorem lf_2_130 : tb_Lf 2 130 2 := ⟨_, _, _, _, _, pm_X11_has, rfl, pn_11, by decide +kernel, by decide, (tg tw_1 rfl), fun _ => ⟨(tg tw_708 rfl), (tg tw_709 rfl)⟩, fun q => absurd q (by decide), fun q => absurd q (by decide)⟩
set_option maxRecDepth 20000 in
theorem lf_2_131 : tb_Lf 2 131 4 := ⟨_, _, _, _, _, pm_X11_letter, rfl, pn_11, by decide +kernel, by decide, (tg tw_1 rfl), fun _ => ⟨(tg tw_725 rfl), (tg tw_726 rfl)⟩, fun q => absurd q (by decide), fun q => absurd q (by decide)⟩
set_option maxRecDepth 20000 in
theorem lf_2_132 : tb_Lf 2 132 3 := ⟨_, _, _, _, _, pm_X11_dreamer, rfl, pn_11, by decide +kernel, by decide, (tg tw_1 rfl), fun _ => ⟨(tg tw_735 rfl), (tg tw_736 rfl)⟩, fun q => absurd q (by decide), fun q => absurd q (by decide)⟩
set_option maxRecDepth 20000 in
theorem lf_2_133 : tb_Lf 2 133 4 := ⟨_, _, _, _, _, pm_X11_weigh, rfl, pn_11, by decide +kernel, by decide, (tg tw_1 rfl), fun _ => ⟨(tg tw_775 rfl), (tg tw_776 rfl)⟩, fun q => absurd q (by decide), fun q => absurd q (by decide)⟩
set_option maxRecDepth 20000 in
theorem lf_2_134 : tb_Lf 2 134 2 := ⟨_, _, _, _, _, pm_X11_guide, rfl, pn_11, by decide +kernel, by decide, (tg tw_1 rfl), fun _ => ⟨(tg tw_842 rfl), (tg tw_843 rfl)⟩, fun q => absurd q (by decide), fun q => absurd q (by decide)⟩
set_option maxRecDepth 20000 in
theorem lf_2_135 : tb_Lf 2 135 3 := ⟨_, _, _, _, _, pm_X11_room, rfl, pn_11, by decide +kernel, by decide, (tg tw_1 rfl), fun _ => ⟨(tg tw_847 rfl), (tg tw_848 rfl)⟩, fun q => absurd q (by decide), fun q => absurd q (by decide)⟩
set_option maxRecDepth 20000 in
theorem lf_2_136 : tb_Lf 2 136 4 := ⟨_, _, _, _, _, pm_X11_later, rfl, pn_11, by decide +kernel, by decide, (tg tw_1 rfl), fun _ => ⟨(tg tw_879 rfl), (tg tw_880 rfl)⟩, fun q => absurd q (by decide), fun q => absurd q (by decide)⟩
set_option maxRecDepth 20000 in
theorem lf_2_137 : tb_Lf 2 137 2 := ⟨_, _, _, _, _, pm_X11_till, rfl, pn_11, by decide +kernel, by decide, (tg tw_1 rfl), fun _ => ⟨(tg tw_888 rfl), (tg tw_889 rfl)⟩, fun q => absurd q (by decide), fun q => absurd q (by decide)⟩
set_option maxRecDepth 20000 in
theorem lf_2_138 : tb_Lf 2 138 3 := ⟨_, _, _, _, _, pm_X11_again, rfl, pn_11, by decide +kernel, by decide, (tg tw_1 rfl), fun _ => ⟨(tg tw_892 rfl), (tg tw_893 rfl)⟩, fun q => absurd q (by decide), fun q => absurd q (by decide)⟩
set_option maxRecDepth 20000 in
theorem lf_2_139 : tb_Lf 2 139 3 := ⟨_, _, _, _, _, pm_X11_soonest, rfl, pn_11, by decide +kernel, by decide, (tg tw_1 rfl), fun _ => ⟨(tg tw_901 rfl), (tg tw_902 rfl)⟩, fun q => absurd q (by decide), fun q => absurd q (by decide)⟩
set_option maxRecDepth 20000 in
theorem lf_2_140 : tb_Lf 2 140 3 := ⟨_, _, _, _, _, pm_X11_least, rfl, pn_11, by decide +kernel, by decide, (tg tw_1 rfl), fun _ => ⟨(tg tw_932 rfl), (tg tw_933 rfl)⟩, fun q => absurd q (by decide), fun q => absurd q (by decide)⟩
set_option maxRecDepth 20000 in
theorem lf_2_141 : tb_Lf 2 141 3 := ⟨_, _, _, _, _, pm_X11_along, rfl, pn_11, by decide +kernel, by decide, (tg tw_1 rfl), fun _ => ⟨(tg tw_941 rfl), (tg tw_942 rfl)⟩, fun q => absurd q (by decide), fun q => absurd q (by decide)⟩
set_option maxRecDepth 20000 in
theorem lf_2_142 : tb_Lf 2 142 4 := ⟨_, _, _, _, _, pm_X11_days, rfl, pn_11, by decide +kernel, by decide, (tg tw_1 rfl), fun _ => ⟨(tg tw_951 rfl), (tg tw_952 rfl)⟩, fun q => absurd q (by decide), fun q => absurd q (by decide)⟩
set_option maxRecDepth 20000 in
theorem lf_2_143 : tb_Lf 2 143 4 := ⟨_, _, _, _, _, pm_X11_hand, rfl, pn_11, by decide +kernel, by decide, (tg tw_1 rfl), fun _ => ⟨(tg tw_991 rfl), (tg tw_992 rfl)⟩, fun q => absurd q (by decide), fun q => absurd q (by decide)⟩
set_option maxRecDepth 20000 in
theorem lf_2_144 : tb_Lf 2 144 3 := ⟨_, _, _, _, _, pm_X11_against, rfl, pn_11, by decide +kernel, by decide, (tg tw_1 rfl), fun _ => ⟨(tg tw_1007 rfl), (tg tw_1008 rfl)⟩, fun q => absurd q (by decide), fun q => absurd q (by decide)⟩
set_option maxRecDepth 20000 in
theorem lf_2_145 : tb_Lf 2 145 3 := ⟨_, _, _, _, _, pm_X11_chance, rfl, pn_11, by decide +kernel, by decide, (tg tw_1 rfl), fun _ => ⟨(tg tw_1030 rfl), (tg tw_1031 rfl)⟩, fun q => absurd q (by decide), fun q => absurd q (by decide)⟩
set_option maxRecDepth 20000 in
theorem lf_2_146 : tb_Lf 2 146 3 := ⟨_, _, _, _, _, pm_X11_meet, rfl, pn_11, by decide +kernel, by decide, (tg tw_1 rfl), fun _ => ⟨(tg tw_1048 rfl), (tg tw_1049 rfl)⟩, fun q => absurd q (by decide), fun q => absurd q (by decide)⟩
set_option maxRecDepth 20000 in
theorem lf_2_147 : tb_Lf 2 147 3 := ⟨_, _, _, _, _, pm_X11_day, rfl, pn_11, by decide +kernel, by decide, (tg tw_1 rfl), fun _ => ⟨(tg tw_1060 rfl), (tg tw_1061 rfl)⟩, fun q => absurd q (by decide), fun q => absurd q (by decide)⟩
set_option maxRecDepth 20000 in
theorem lf_2_148 : tb_Lf 2 148 3 := ⟨_, _, _, _, _, pm_X11_take, rfl, pn_11, by decide +kernel, by decide, (tg tw_1 rfl), fun _ => ⟨(tg tw_1065 rfl), (tg tw_1066 rfl)⟩, fun q => absurd q (by decide), fun q => absurd q (by decide)⟩
set_option maxRecDepth 20000 in
theorem lf_2_149 : tb_Lf 2 149 4 := ⟨_, _, _, _, _, pm_X11_set, rfl, pn_11, by decide +kernel, by decide, (tg tw_1 rfl), fun _ => ⟨(tg tw_1069 rfl), (tg tw_1070 rfl)⟩, fun q => absurd q (by decide), fun q => absurd q (by decide)⟩
set_option maxRecDepth 20000 in
theorem lf_2_150 : tb_Lf 2 150 3 := ⟨_, _, _, _, _, pm_X11_night, rfl, pn_11, by decide +kernel, by decide, (tg tw_1 rfl), fun _ => ⟨(tg tw_1074 rfl), (tg tw_1075 rfl)⟩, fun q => absurd q (by decide), fun q => absurd q (by decide)⟩
set_option maxRecDepth 20000 in
theorem lf_2_151 : tb_Lf 2 151 1 := ⟨_, _, _, _, _, pm_X11_undo, rfl, pn_11, by decide +kernel, by decide, (tg tw_1 rfl), fun _ => ⟨(tg tw_1086 rfl), (tg tw_1087 rfl)⟩, fun q => absurd q (by decide), fun q => absurd q (by decide)⟩
set_option maxRecDepth 20000 in
theorem lf_2_152 : tb_Lf 2 152 2 := ⟨_, _, _, _, _, pm_X11_seed, rfl, pn_11, by decide +kernel, by decide, (tg tw_1 rfl), fun _ => ⟨(tg tw_1095 rfl), (tg tw_1096 rfl)⟩, fun q => absurd q (by decide), fun q => absurd q (by decide)⟩
set_option maxRecDepth 20000 in
theorem lf_2_153 : tb_Lf 2 153 2 := ⟨_, _, _, _, _, pm_X11_told, rfl, pn_11, by decide +kernel, by decide, (tg tw_1 rfl), fun _ => ⟨(tg tw_1099 rfl), (tg tw_1100 rfl)⟩, fun q => absurd q (by decide), fun q => absurd q (by decide)⟩
set_option maxRecDepth 20000 in
theorem lf_2_154 : tb_Lf 2 154 3 := ⟨_, _, _, _, _, pm_X11_fits, rfl, pn_11, by decide +kernel, by decide, (tg tw_1 rfl), fun _ => ⟨(tg tw_1104 rfl), (tg tw_1105 rfl)⟩, fun q => absurd q (by decide), fun q => absurd q (by decide)⟩
set_option maxRecDepth 20000 in
theorem lf_2_155 : tb_Lf 2 155 2 := ⟨_, _, _, _, _, pm_X11_ask, rfl, pn_11, by decide +kernel, by decide, (tg tw_1 rfl), fun _ => ⟨(tg tw_1112 rfl), (tg tw_1113 rfl)⟩, fun q => absurd q (by decide), fun q => absurd q (by decide)⟩
set_option maxRecDepth 20000 in
theorem lf_2_156 : tb_Lf 2 156 1 := ⟨_, _, _, _, _, pm_X11_image, rfl, pn_11, by decide +kernel, by decide, (tg tw_1 rfl), fun _ => ⟨(tg tw_1170 rfl), (tg tw_1171 rfl)⟩, fun q => absurd q (by decide), fun q => absurd q (by decide)⟩
set_option maxRecDepth 20000 in
theorem lf_2_157 : tb_Lf 2 157 2 := ⟨_, _, _, _, _, pm_X11_octet, rfl, pn_11, by decide +kernel, by decide, (tg tw_1 rfl), fun _ => ⟨(tg tw_1178 rfl), (tg tw_1179 rfl)⟩, fun q => absurd q (by decide), fun q => absurd q (by decide)⟩
set_option maxRecDepth 20000 in
theorem lf_2_158 : tb_Lf 2 158 1 := ⟨_, _, _, _, _, pm_X11_on, rfl, pn_11, by decide +kernel, by decide, (tg tw_1 rfl), fun _ => ⟨(tg tw_1182 rfl), (tg tw_1183 rfl)⟩, fun q => absurd q (by decide), fun q => absurd q (by decide)⟩
set_option maxRecDepth 20000 in
theorem lf_2_159 : tb_Lf 2 159 2 := ⟨_, _, _, _, _, pm_X11_status, rfl, pn_11, by decide +kernel, by decide, (tg tw_1 rfl), fun _ => ⟨(tg tw_1194 rfl), (tg tw_1195 rfl)⟩, fun q => absurd q (by decide), fun q => absurd q (by decide)⟩
set_option maxRecDepth 20000 in
theorem lf_2_160 : tb_Lf 2 160 2 := ⟨_, _, _, _, _, pm_X11_refuse, rfl, pn_11, by decide +kernel, by decide, (tg tw_1 rfl), fun _ => ⟨(tg tw_400 rfl), (tg (tp (q := (yX11_refuse, 18)) (List.mem_of_getElem? (i := 0) (by decide +kernel))) rfl)⟩, fun q => absurd q (by decide), fun q => absurd q (by decide)⟩
set_option maxRecDepth 20000 in
theorem lf_2_161 : tb_Lf 2 161 2 := ⟨_, _, _, _, _, pm_X11_isDreamer, rfl, pn_11, by decide +kernel, by decide, (tg tw_1 rfl), fun _ => ⟨(tg tw_740 rfl), (tg (tp (q := (yX11_isDreamer, 18)) (List.mem_of_getElem? (i := 15) (by decide +kernel))) rfl)⟩, fun q => absurd q (by decide), fun q => absurd q (by decide)⟩
set_option maxRecDepth 20000 in
theorem lf_2_162 : tb_Lf 2 162 2 := ⟨_, _, _, _, _, pm_X11_isDread, rfl, pn_11, by decide +kernel, by decide, (tg tw_1 rfl), fun _ => ⟨(tg tw_780 rfl), (tg (tp (q := (yX11_isDread, 18)) (List.mem_of_getElem? (i := 16) (by decide +kernel))) rfl)⟩, fun q => absurd q (by decide), fun q => absurd q (by decide)⟩
set_option maxRecDepth 20000 in
theorem lf_2_163 : tb_Lf 2 163 1 := ⟨_, _, _, _, _, pm_X11_countHome, rfl, pn_11, by decide +kernel, by decide, (tg tw_1 rfl), fun _ => ⟨(tg tw_714 rfl), (tg (tp (q := (yX11_countHome, 18)) (List.mem_of_getElem? (i := 14) (by decide +kernel))) rfl)⟩, fun q => absurd q (by decide), fun q => absurd q (by decide)⟩
set_option maxRecDepth 20000 in
theorem lf_2_164 : tb_Lf 2 164 2 := ⟨_, _, _, _, _, pm_X11_draw, rfl, pn_11, by decide +kernel, by decide, (tg tw_1 rfl), fun _ => ⟨(tg tw_1079 rfl), (tg (tp (q := (yX11_draw, 18)) (List.mem_of_getElem? (i := 30) (by decide +kernel))) rfl)⟩, fun q => absurd q (by decide), fun q => absurd q (by decide)⟩
set_option maxRecDepth 20000 in
theorem lf_2_165 : tb_Lf 2 165 2 := ⟨_, _, _, _, _, pm_X11_paint, rfl, pn_11, by decide +kernel, by decide, (tg tw_1 rfl), fun _ => ⟨(tg tw_1175 rfl), (tg (tp (q := (yX11_paint, 18)) (List.mem_of_getElem? (i := 35) (by decide +kernel))) rfl)⟩, fun q => absurd q (by decide), fun q => absurd q (by decide)⟩
set_option maxRecDepth 20000 in
theorem lf_2_166 : tb_Lf 2 166 1 := ⟨_, _, _, _, _, pm_X11_isPicture, rfl, pn_11, by decide +kernel, by decide, (tg tw_1 rfl), fun _ => ⟨(tg tw_1187 rfl), (tg (tp (q := (yX11_isPicture, 18)) (List.mem_of_getElem? (i := 36) (by decide +kernel))) rfl)⟩, fun q => absurd q (by decide), fun q => absurd q (by decide)⟩
set_option maxRecDepth 20000 in
theorem lf_2_170 : tb_Lf 2 170 6 := ⟨_, _, _, _, _, pm_X12_feed, rfl, pn_12, by decide +kernel, by decide, (tg tw_13 rfl), fun _ => ⟨(tg tw_1489 rfl), (tg tw_1490 rfl)⟩, fun q => absurd q (by decide), fun q => absurd q (by decide)⟩
set_option maxRecDepth 20000 in
theorem lf_2_171 : tb_Lf 2 171 2 := ⟨_, _, _, _, _, pm_X12_end, rfl, pn_12, by decide +kernel, by decide, (tg tw_13 rfl), fun _ => ⟨(tg tw_1493 rfl), (tg tw_1494 rfl)⟩, fun q => absurd q (by decide), fun q => absurd q (by decide)⟩
set_option maxRecDepth 20000 in
theorem lf_2_172 : tb_Lf 2 172 3 := ⟨_, _, _, _, _, pm_X12_fail, rfl, pn_12, by decide +kernel, by decide, (tg tw_13 rfl), fun _ => ⟨(tg tw_1510 rfl), (tg (tp (q := (yX12_fail, 94)) (List.mem_of_getElem? (i := 39) (by decide +kernel))) rfl)⟩, fun q => absurd q (by decide), fun q => absurd q (by decide)⟩
set_option maxRecDepth 20000 in
theorem lf_2_175 : tb_Lf 2 175 1 := ⟨_, _, _, _, _, pm_X12_look, rfl, pn_12, by decide +kernel, by decide, (tg tw_13 rfl), fun _ => ⟨(tg tw_1502 rfl), (tg (tp (q := (yX12_look, 94)) (List.mem_of_getElem? (i := 37) (by decide +kernel))) rfl)⟩, fun q => absurd q (by decide), fun q => absurd q (by decide)⟩
set_option maxRecDepth 20000 in
theorem lf_2_176 : tb_Lf 2 176 2 := ⟨_, _, _, _, _, pm_X12_isHere, rfl, pn_12, by decide +kernel, by decide, (tg tw_13 rfl), fun _ => ⟨(tg tw_1518 rfl), (tg (tp (q := (yX12_isHere, 94)) (List.mem_of_getElem? (i := 41) (by decide +kernel))) rfl)⟩, fun q => absurd q (by decide), fun q => absurd q (by decide)⟩
set_option maxRecDepth 20000 in
theorem lf_2_177 : tb_Lf 2 177 2 := ⟨_, _, _, _, _, pm_X12_takes, rfl, pn_12, by decide +kernel, by decide, (tg tw_13 rfl), fun _ => ⟨(tg tw_1514 rfl), (tg (tp (q := (yX12_takes, 94)) (List.mem_of_getElem? (i := 40) (by decide +kernel))) rfl)⟩, fun q => absurd q (by decide), fun q => absurd q (by decide)⟩
set_option maxRecDepth 20000 in
theorem lf_2_178 : tb_Lf 2 178 2 := ⟨_, _, _, _, _, pm_X12_asks, rfl, pn_12, by decide +kernel, by decide, (tg tw_13 rfl), fun _ => ⟨(tg tw_1555 rfl), (tg (tp (q := (yX12_asks, 94)) (List.mem_of_getElem? (i := 49) (by decide +kernel))) rfl)⟩, fun q => absurd q (by decide), fun q => absurd q (by decide)⟩
set_option maxRecDepth 20000 in
theorem lf_2_179 : tb_Lf 2 179 2 := ⟨_, _, _, _, _, pm_X12_takesSign, rfl, pn_12, by decide +kernel, by decide, (tg tw_13 rfl), fun _ => ⟨(tg tw_1601 rfl), (tg (tp (q := (yX12_takesSign, 94)) (List.mem_of_getElem? (i := 59) (by decide +kernel))) rfl)⟩, fun q => absurd q (by decide), fun q => absurd q (by decide)⟩
set_option maxRecDepth 20000 in
theorem lf_2_180 : tb_Lf 2 180 2 := ⟨_, _, _, _, _, pm_X12_asksSign, rfl, pn_12, by decide +kernel, by decide, (tg tw_13 rfl), fun _ => ⟨(tg tw_1597 rfl), (tg (tp (q := (yX12_asksSign, 94)) (List.mem_of_getElem? (i := 58) (by decide +kernel))) rfl)⟩, fun q => absurd q (by decide), fun q => absurd q (by decide)⟩
set_option maxRecDepth 20000 in
theorem lf_2_181 : tb_Lf 2 181 3 := ⟨_, _, _, _, _, pm_X12_number, rfl, pn_12, by decide +kernel, by decide, (tg tw_13 rfl), fun _ => ⟨(tg tw_1559 rfl), (tg (tp (q := (yX12_number, 94)) (List.mem_of_getElem? (i := 50) (by decide +kernel))) rfl)⟩, fun q => absurd q (by decide), fun q => absurd q (by decide)⟩
set_option maxRecDepth 20000 in
theorem lf_2_182 : tb_Lf 2 182 1 := ⟨_, _, _, _, _, pm_X12_isOwnHere, rfl, pn_12, by decide +kernel, by decide, (tg tw_13 rfl), fun _ => ⟨(tg tw_1541 rfl), (tg (tp (q := (yX12_isOwnHere, 94)) (List.mem_of_getElem? (i := 46) (by decide +kernel))) rfl)⟩, fun q => absurd q (by decide), fun q => absurd q (by decide)⟩
set_option maxRecDepth 20000 in
theorem lf_2_183 : tb_Lf 2 183 1 := ⟨_, _, _, _, _, pm_X12_name, rfl, pn_12, by decide +kernel, by decide, (tg tw_13 rfl), fun _ => ⟨(tg tw_1537 rfl), (tg (tp (q := (yX12_name, 94)) (List.mem_of_getElem? (i := 45) (by decide +kernel))) rfl)⟩, fun q => absurd q (by decide), fun q => absurd q (by decide)⟩
set_option maxRecDepth 20000 in
theorem lf_2_184 : tb_Lf 2 184 4 := ⟨_, _, _, _, _, pm_X12_isFull, rfl, pn_12, by decide +kernel, by decide, (tg tw_13 rfl), fun _ => ⟨(tg tw_1529 rfl), (tg (tp (q := (yX12_isFull, 94)) (List.mem_of_getElem? (i := 43) (by decide +kernel))) rfl)⟩, fun q => absurd q (by decide), fun q => absurd q (by decide)⟩
set_option maxRecDepth 20000 in
theorem lf_2_185 : tb_Lf 2 185 3 := ⟨_, _, _, _, _, pm_X12_nameOf, rfl, pn_12, by decide +kernel, by decide, (tg tw_13 rfl), fun _ => ⟨(tg tw_1547 rfl), (tg (tp (q := (yX12_nameOf, 94)) (List.mem_of_getElem? (i := 47) (by decide +kernel))) rfl)⟩, fun q => absurd q (by decide), fun q => absurd q (by decide)⟩
set_option maxRecDepth 20000 in
theorem lf_2_186 : tb_Lf 2 186 1 := ⟨_, _, _, _, _, pm_X12_newName, rfl, pn_12, by decide +kernel, by decide, (tg tw_13 rfl), fun _ => ⟨(tg tw_1533 rfl), (tg (tp (q := (yX12_newName, 94)) (List.mem_of_getElem? (i := 44) (by decide +kernel))) rfl)⟩, fun q => absurd q (by decide), fun q => absurd q (by decide)⟩
set_option maxRecDepth 20000 in
theorem lf_2_187 : tb_Lf 2 187 2 := ⟨_, _, _, _, _, pm_X12_oneOf, rfl, pn_12, by decide +kernel, by decide, (tg tw_13 rfl), fun _ => ⟨(tg tw_1573 rfl), (tg (tp (q := (yX12_oneOf, 94)) (List.mem_of_getElem? (i := 52) (by decide +kernel))) rfl)⟩, fun q => absurd q (by decide), fun q => absurd q (by decide)⟩
set_option maxRecDepth 20000 in
theorem lf_2_188 : tb_Lf 2 188 2 := ⟨_, _, _, _, _, pm_X12_dreadTold, rfl, pn_12, by decide +kernel, by decide, (tg tw_13 rfl), fun _ => ⟨(tg tw_1525 rfl), (tg (tp (q := (yX12_dreadTold, 94)) (List.mem_of_getElem? (i := 42) (by decide +kernel))) rfl)⟩, fun q => absurd q (by decide), fun q => absurd q (by decide)⟩
set_option maxRecDepth 20000 in
theorem lf_2_189 : tb_Lf 2 189 2 := ⟨_, _, _, _, _, pm_X12_dreamerTold, rfl, pn_12, by decide +kernel, by decide, (tg tw_13 rfl), fun _ => ⟨(tg tw_1551 rfl), (tg (tp (q := (yX12_dreamerTold, 94)) (List.mem_of_getElem? (i := 48) (by decide +kernel))) rfl)⟩, fun q => absurd q (by decide), fun q => absurd q (by decide)⟩
set_option maxRecDepth 20000 in
theorem lf_2_190 : tb_Lf 2 190 1 := ⟨_, _, _, _, _, pm_X12_fearsTold, rfl, pn_12, by decide +kernel, by decide, (tg tw_13 rfl), fun _ => ⟨(tg tw_1569 rfl), (tg (tp (q := (yX12_fearsTold, 94)) (List.mem_of_getElem? (i := 51) (by decide +kernel))) rfl)⟩, fun q => absurd q (by decide), fun q => absurd q (by decide)⟩
set_option maxRecDepth 20000 in
theorem lf_2_191 : tb_Lf 2 191 2 := ⟨_, _, _, _, _, pm_X12_guideTold, rfl, pn_12, by decide +kernel, by decide, (tg tw_13 rfl), fun _ => ⟨(tg tw_1577 rfl), (tg (tp (q := (yX12_guideTold, 94)) (List.mem_of_getElem? (i := 53) (by decide +kernel))) rfl)⟩, fun q => absurd q (by decide), fun q => absurd q (by decide)⟩
set_option maxRecDepth 20000 in
theorem lf_2_192 : tb_Lf 2 192 3 := ⟨_, _, _, _, _, pm_X12_sumIsTold, rfl, pn_12, by decide +kernel, by decide, (tg tw_13 rfl), fun _ => ⟨(tg tw_1581 rfl), (tg (tp (q := (yX12_sumIsTold, 94)) (List.mem_of_getElem? (i := 54) (by decide +kernel))) rfl)⟩, fun q => absurd q (by decide), fun q => absurd q (by decide)⟩
set_option maxRecDepth 20000 in
theorem lf_2_193 : tb_Lf 2 193 1 := ⟨_, _, _, _, _, pm_X12_statementTold, rfl, pn_12, by decide +kernel, by decide, (tg tw_13 rfl), fun _ => ⟨(tg tw_1506 rfl), (tg (tp (q := (yX12_statementTold, 94)) (List.mem_of_getElem? (i := 38) (by decide +kernel))) rfl)⟩, fun q => absurd q (by decide), fun q => absurd q (by decide)⟩
set_option maxRecDepth 20000 in
theorem lf_2_194 : tb_Lf 2 194 1 := ⟨_, _, _, _, _, pm_X12_dream, rfl, pn_12, by decide +kernel, by decide, (tg tw_13 rfl), fun _ => ⟨(tg tw_1497 rfl), (tg tw_1498 rfl)⟩, fun q => absurd q (by decide), fun q => absurd q (by decide)⟩
set_option maxRecDepth 20000 in
theorem lf_2_195 : tb_Lf 2 195 1 := ⟨_, _, _, _, _, pm_X12_stands, rfl, pn_12, by decide +kernel, by decide, (tg tw_13 rfl), fun _ => ⟨(tg tw_1633 rfl), (tg (tp (q := (yX12_stands, 94)) (List.mem_of_getElem? (i := 67) (by decide +kernel))) rfl)⟩, fun q => absurd q (by decide), fun q => absurd q (by decide)⟩
set_option maxRecDepth 20000 in
theorem lf_2_196 : tb_Lf 2 196 2 := ⟨_, _, _, _, _, pm_X12_code, rfl, pn_12, by decide +kernel, by decide, (tg tw_13 rfl), fun _ => ⟨(tg tw_1605 rfl), (tg (tp (q := (yX12_code, 94)) (List.mem_of_getElem? (i := 60) (by decide +kernel))) rfl)⟩, fun q => absurd q (by decide), fun q => absurd q (by decide)⟩
set_option maxRecDepth 20000 in
theorem lf_2_197 : tb_Lf 2 197 3 := ⟨_, _, _, _, _, pm_X12_opens, rfl, pn_12, by decide +kernel, by decide, (tg tw_13 rfl), fun _ => ⟨(tg tw_1593 rfl), (tg (tp (q := (yX12_opens, 94)) (List.mem_of_getElem? (i := 57) (by decide +kernel))) rfl)⟩, fun q => absurd q (by decide), fun q => absurd q (by decide)⟩
set_option maxRecDepth 20000 in
theorem lf_2_198 : tb_Lf 2 198 2 := ⟨_, _, _, _, _, pm_X12_isOn, rfl, pn_12, by decide +kernel, by decide, (tg tw_13 rfl), fun _ => ⟨(tg tw_1629 rfl), (tg (tp (q := (yX12_isOn, 94)) (List.mem_of_getElem? (i := 66) (by decide +kernel))) rfl)⟩, fun q => absurd q (by decide), fun q => absurd q (by decide)⟩
set_option maxRecDepth 20000 in
theorem lf_2_199 : tb_Lf 2 199 1 := ⟨_, _, _, _, _, pm_X12_drops, rfl, pn_12, by decide +kernel, by decide, (tg tw_13 rfl), fun _ => ⟨(tg tw_1625 rfl), (tg (tp (q := (yX12_drops, 94)) (List.mem_of_getElem? (i := 65) (by decide +kernel))) rfl)⟩, fun q => absurd q (by decide), fun q => absurd q (by decide)⟩
set_option maxRecDepth 20000 in
theorem lf_2_200 : tb_Lf 2 200 2 := ⟨_, _, _, _, _, pm_X12_isMark, rfl, pn_12, by decide +kernel, by decide, (tg tw_13 rfl), fun _ => ⟨(tg tw_1617 rfl), (tg (tp (q := (yX12_isMark, 94)) (List.mem_of_getElem? (i := 63) (by decide +kernel))) rfl)⟩, fun q => absurd q (by decide), fun q => absurd q (by decide)⟩
set_option maxRecDepth 20000 in
theorem lf_2_201 : tb_Lf 2 201 1 := ⟨_, _, _, _, _, pm_X12_waitsLast, rfl, pn_12, by decide +kernel, by decide, (tg tw_13 rfl), fun _ => ⟨(tg tw_1613 rfl), (tg (tp (q := (yX12_waitsLast, 94)) (List.mem_of_getElem? (i := 62) (by decide +kernel))) rfl)⟩, fun q => absurd q (by decide), fun q => absurd q (by decide)⟩
set_option maxRecDepth 20000 in
theorem lf_2_202 : tb_Lf 2 202 1 := ⟨_, _, _, _, _, pm_X12_dropsToMark, rfl, pn_12, by decide +kernel, by decide, (tg tw_13 rfl), fun _ => ⟨(tg tw_1621 rfl), (tg (tp (q := (yX12_dropsToMark, 94)) (List.mem_of_getElem? (i := 64) (by decide +kernel))) rfl)⟩, fun q => absurd q (by decide), fun q => absurd q (by decide)⟩
set_option maxRecDepth 20000 in
theorem lf_2_203 : tb_Lf 2 203 1 := ⟨_, _, _, _, _, pm_X12_onePart, rfl, pn_12, by decide +kernel, by decide, (tg tw_13 rfl), fun _ => ⟨(tg tw_1589 rfl), (tg (tp (q := (yX12_onePart, 94)) (List.mem_of_getElem? (i := 56) (by decide +kernel))) rfl)⟩, fun q => absurd q (by decide), fun q => absurd q (by decide)⟩
set_option maxRecDepth 20000 in
theorem lf_2_204 : tb_Lf 2 204 1 := ⟨_, _, _, _, _, pm_X12_goesOn, rfl, pn_12, by decide +kernel, by decide, (tg tw_13 rfl), fun _ => ⟨(tg tw_1609 rfl), (tg (tp (q := (yX12_goesOn, 94)) (List.mem_of_getElem? (i := 61) (by decide +kernel))) rfl)⟩, fun q => absurd q (by decide), fun q => absurd q (by decide)⟩
set_option maxRecDepth 20000 in
theorem lf_2_205 : tb_Lf 2 205 1 := ⟨_, _, _, _, _, pm_X12_sumsTold, rfl, pn_12, by decide +kernel, by decide, (tg tw_13 rfl), fun _ => ⟨(tg tw_1585 rfl), (tg (tp (q := (yX12_sumsTold, 94)) (List.mem_of_getElem? (i := 55) (by decide +kernel))) rfl)⟩, fun q => absurd q (by decide), fun q => absurd q (by decide)⟩
set_option maxRecDepth 20000 in
theorem lf_2_206 : tb_Lf 2 206 2 := ⟨_, _, _, _, _, pm_X12_fault, rfl, pn_12, by decide +kernel, by decide, (tg tw_13 rfl), fun _ => ⟨(tg tw_1636 rfl), (tg tw_1637 rfl)⟩, fun q => absurd q (by decide), fun q => absurd q (by decide)⟩
set_option maxRecDepth 20000 in
theorem lf_2_209 : tb_Lf 2 209 2 := ⟨_, _, _, _, _, pm_X12_puts, rfl, pn_12, by decide +kernel, by decide, (tg tw_13 rfl), fun _ => ⟨(tg tw_1728 rfl), (tg (tp (q := (yX12_puts, 94)) (List.mem_of_getElem? (i := 85) (by decide +kernel))) rfl)⟩, fun q => absurd q (by decide), fun q => absurd q (by decide)⟩
set_option maxRecDepth 20000 in
theorem lf_2_210 : tb_Lf 2 210 2 := ⟨_, _, _, _, _, pm_X12_joins, rfl, pn_12, by decide +kernel, by decide, (tg tw_13 rfl), fun _ => ⟨(tg tw_1734 rfl), (tg (tp (q := (yX12_joins, 94)) (List.mem_of_getElem? (i := 86) (by decide +kernel))) rfl)⟩, fun q => absurd q (by decide), fun q => absurd q (by decide)⟩
set_option maxRecDepth 20000 in
theorem lf_2_211 : tb_Lf 2 211 1 := ⟨_, _, _, _, _, pm_X12_dreadMany, rfl, pn_12, by decide +kernel, by decide, (tg tw_13 rfl), fun _ => ⟨(tg tw_1645 rfl), (tg (tp (q := (yX12_dreadMany, 94)) (List.mem_of_getElem? (i := 68) (by decide +kernel))) rfl)⟩, fun q => absurd q (by decide), fun q => absurd q (by decide)⟩
set_option maxRecDepth 20000 in
theorem lf_2_212 : tb_Lf 2 212 1 := ⟨_, _, _, _, _, pm_X12_dreamerMany, rfl, pn_12, by decide +kernel, by decide, (tg tw_13 rfl), fun _ => ⟨(tg tw_1649 rfl), (tg (tp (q := (yX12_dreamerMany, 94)) (List.mem_of_getElem? (i := 69) (by decide +kernel))) rfl)⟩, fun q => absurd q (by decide), fun q => absurd q (by decide)⟩
set_option maxRecDepth 20000 in
theorem lf_2_213 : tb_Lf 2 213 1 := ⟨_, _, _, _, _, pm_X12_guideMany, rfl, pn_12, by decide +kernel, by decide, (tg tw_13 rfl), fun _ => ⟨(tg tw_1653 rfl), (tg (tp (q := (yX12_guideMany, 94)) (List.mem_of_getElem? (i := 70) (by decide +kernel))) rfl)⟩, fun q => absurd q (by decide), fun q => absurd q (by decide)⟩
set_option maxRecDepth 20000 in
theorem lf_2_214 : tb_Lf 2 214 2 := ⟨_, _, _, _, _, pm_X12_isDread, rfl, pn_12, by decide +kernel, by decide, (tg tw_13 rfl), fun _ => ⟨(tg tw_1719 rfl), (tg (tp (q := (yX12_isDread, 94)) (List.mem_of_getElem? (i := 83) (by decide +kernel))) rfl)⟩, fun q => absurd q (by decide), fun q => absurd q (by decide)⟩
set_option maxRecDepth 20000 in
theorem lf_2_215 : tb_Lf 2 215 2 := ⟨_, _, _, _, _, pm_X12_isDreamer, rfl, pn_12, by decide +kernel, by decide, (tg tw_13 rfl), fun _ => ⟨(tg tw_1691 rfl), (tg (tp (q := (yX12_isDreamer, 94)) (List.mem_of_getElem? (i := 77) (by decide +kernel))) rfl)⟩, fun q => absurd q (by decide), fun q => absurd q (by decide)⟩
set_option maxRecDepth 20000 in
theorem lf_2_216 : tb_Lf 2 216 2 := ⟨_, _, _, _, _, pm_X12_settingOf, rfl, pn_12, by decide +kernel, by decide, (tg tw_13 rfl), fun _ => ⟨(tg tw_1657 rfl), (tg (tp (q := (yX12_settingOf, 94)) (List.mem_of_getElem? (i := 71) (by decide +kernel))) rfl)⟩, fun q => absurd q (by decide), fun q => absurd q (by decide)⟩
set_option maxRecDepth 20000 in
theorem lf_2_217 : tb_Lf 2 217 3 := ⟨_, _, _, _, _, pm_X12_weightOf, rfl, pn_12, by decide +kernel, by decide, (tg tw_13 rfl), fun _ => ⟨(tg tw_1669 rfl), (tg (tp (q := (yX12_weightOf, 94)) (List.mem_of_getElem? (i := 74) (by decide +kernel))) rfl)⟩, fun q => absurd q (by decide), fun q => absurd q (by decide)⟩
set_option maxRecDepth 20000 in
theorem lf_2_218 : tb_Lf 2 218 3 := ⟨_, _, _, _, _, pm_X12_laysNow, rfl, pn_12, by decide +kernel, by decide, (tg tw_13 rfl), fun _ => ⟨(tg tw_1665 rfl), (tg (tp (q := (yX12_laysNow, 94)) (List.mem_of_getElem? (i := 73) (by decide +kernel))) rfl)⟩, fun q => absurd q (by decide), fun q => absurd q (by decide)⟩
set_option maxRecDepth 20000 in
theorem lf_2_219 : tb_Lf 2 219 3 := ⟨_, _, _, _, _, pm_X12_laysRow, rfl, pn_12, by decide +kernel, by decide, (tg tw_13 rfl), fun _ => ⟨(tg tw_1760 rfl), (tg (tp (q := (yX12_laysRow, 94)) (List.mem_of_getElem? (i := 88) (by decide +kernel))) rfl)⟩, fun q => absurd q (by decide), fun q => absurd q (by decide)⟩
set_option maxRecDepth 20000 in
theorem lf_2_220 : tb_Lf 2 220 3 := ⟨_, _, _, _, _, pm_X12_isNow, rfl, pn_12, by decide +kernel, by decide, (tg tw_13 rfl), fun _ => ⟨(tg tw_1891 rfl), (tg (tp (q := (yX12_isNow, 94)) (List.mem_of_getElem? (i := 107) (by decide +kernel))) rfl)⟩, fun q => absurd q (by decide), fun q => absurd q (by decide)⟩
set_option maxRecDepth 20000 in
theorem lf_2_221 : tb_Lf 2 221 2 := ⟨_, _, _, _, _, pm_X12_sumAt, rfl, pn_12, by decide +kernel, by decide, (tg tw_13 rfl), fun _ => ⟨(tg tw_1677 rfl), (tg (tp (q := (yX12_sumAt, 94)) (List.mem_of_getElem? (i := 76) (by decide +kernel))) rfl)⟩, fun q => absurd q (by decide), fun q => absurd q (by decide)⟩
set_option maxRecDepth 20000 in
theorem lf_2_222 : tb_Lf 2 222 2 := ⟨_, _, _, _, _, pm_X12_greatestAt, rfl, pn_12, by decide +kernel, by decide, (tg tw_13 rfl), fun _ => ⟨(tg tw_1707 rfl), (tg (tp (q := (yX12_greatestAt, 94)) (List.mem_of_getElem? (i := 81) (by decide +kernel))) rfl)⟩, fun q => absurd q (by decide), fun q => absurd q (by decide)⟩
set_option maxRecDepth 20000 in
theorem lf_2_223 : tb_Lf 2 223 2 := ⟨_, _, _, _, _, pm_X12_manyAt, rfl, pn_12, by decide +kernel, by decide, (tg tw_13 rfl), fun _ => ⟨(tg tw_1711 rfl), (tg (tp (q := (yX12_manyAt, 94)) (List.mem_of_getElem? (i := 82) (by decide +kernel))) rfl)⟩, fun q => absurd q (by decide), fun q => absurd q (by decide)⟩
set_option maxRecDepth 20000 in
theorem lf_2_224 : tb_Lf 2 224 2 := ⟨_, _, _, _, _, pm_X12_isHomeAt, rfl, pn_12, by decide +kernel, by decide, (tg tw_13 rfl), fun _ => ⟨(tg tw_1673 rfl), (tg (tp (q := (yX12_isHomeAt, 94)) (List.mem_of_getElem? (i := 75) (by decide +kernel))) rfl)⟩, fun q => absurd q (by decide), fun q => absurd q (by decide)⟩
set_option maxRecDepth 20000 in
theorem lf_2_225 : tb_Lf 2 225 4 := ⟨_, _, _, _, _, pm_X12_counts, rfl, pn_12, by decide +kernel, by decide, (tg tw_13 rfl), fun _ => ⟨(tg tw_1703 rfl), (tg (tp (q := (yX12_counts, 94)) (List.mem_of_getElem? (i := 80) (by decide +kernel))) rfl)⟩, fun q => absurd q (by decide), fun q => absurd q (by decide)⟩
set_option maxRecDepth 20000 in
theorem lf_2_226 : tb_Lf 2 226 4 := ⟨_, _, _, _, _, pm_X12_worstAt, rfl, pn_12, by decide +kernel, by decide, (tg tw_13 rfl), fun _ => ⟨(tg tw_1699 rfl), (tg (tp (q := (yX12_worstAt, 94)) (List.mem_of_getElem? (i := 79) (by decide +kernel))) rfl)⟩, fun q => absurd q (by decide), fun q => absurd q (by decide)⟩
set_option maxRecDepth 20000 in
theorem lf_2_227 : tb_Lf 2 227 5 := ⟨_, _, _, _, _, pm_X12_made, rfl, pn_12, by decide +kernel, by decide, (tg tw_13 rfl), fun _ => ⟨(tg tw_1724 rfl), (tg (tp (q := (yX12_made, 94)) (List.mem_of_getElem? (i := 84) (by decide +kernel))) rfl)⟩, fun q => absurd q (by decide), fun q => absurd q (by decide)⟩
set_option maxRecDepth 20000 in
theorem lf_2_228 : tb_Lf 2 228 5 := ⟨_, _, _, _, _, pm_X12_roomGoes, rfl, pn_12, by decide +kernel, by decide, (tg tw_13 rfl), fun _ => ⟨(tg tw_1764 rfl), (tg (tp (q := (yX12_roomGoes, 94)) (List.mem_of_getElem? (i := 89) (by decide +kernel))) rfl)⟩, fun q => absurd q (by decide), fun q => absurd q (by decide)⟩
set_option maxRecDepth 20000 in
theorem lf_2_229 : tb_Lf 2 229 2 := ⟨_, _, _, _, _, pm_X12_laughs, rfl, pn_12, by decide +kernel, by decide, (tg tw_13 rfl), fun _ => ⟨(tg tw_1870 rfl), (tg (tp (q := (yX12_laughs, 94)) (List.mem_of_getElem? (i := 104) (by decide +kernel))) rfl)⟩, fun q => absurd q (by decide), fun q => absurd q (by decide)⟩
set_option maxRecDepth 20000 in
theorem lf_2_230 : tb_Lf 2 230 2 := ⟨_, _, _, _, _, pm_X12_guideOf, rfl, pn_12, by decide +kernel, by decide, (tg tw_13 rfl), fun _ => ⟨(tg tw_1695 rfl), (tg (tp (q := (yX12_guideOf, 94)) (List.mem_of_getElem? (i := 78) (by decide +kernel))) rfl)⟩, fun q => absurd q (by decide), fun q => absurd q (by decide)⟩
set_option maxRecDepth 20000 in
theorem lf_2_231 : tb_Lf 2 231 1 := ⟨_, _, _, _, _, pm_X12_atHome, rfl, pn_12, by decide +kernel, by decide, (tg tw_13 rfl), fun _ => ⟨(tg tw_1661 rfl), (tg (tp (q := (yX12_atHome, 94)) (List.mem_of_getElem? (i := 72) (by decide +kernel))) rfl)⟩, fun q => absurd q (by decide), fun q => absurd q (by decide)⟩
set_option maxRecDepth 20000 in
theorem lf_2_232 : tb_Lf 2 232 2 := ⟨_, _, _, _, _, pm_X12_has, rfl, pn_12, by decide +kernel, by decide, (tg tw_13 rfl), fun _ => ⟨(tg tw_1640 rfl), (tg tw_1641 rfl)⟩, fun q => absurd q (by decide), fun q => absurd q (by decide)⟩
set_option maxRecDepth 20000 in
theorem lf_2_233 : tb_Lf 2 233 4 := ⟨_, _, _, _, _, pm_X12_letter, rfl, pn_12, by decide +kernel, by decide, (tg tw_13 rfl), fun _ => ⟨(tg tw_1680 rfl), (tg tw_1681 rfl)⟩, fun q => absurd q (by decide), fun q => absurd q (by decide)⟩
set_option maxRecDepth 20000 in
theorem lf_2_234 : tb_Lf 2 234 3 := ⟨_, _, _, _, _, pm_X12_dreamer, rfl, pn_12, by decide +kernel, by decide, (tg tw_13 rfl), fun _ => ⟨(tg tw_1686 rfl), (tg tw_1687 rfl)⟩, fun q => absurd q (by decide), fun q => absurd q (by decide)⟩
set_option maxRecDepth 20000 in
theorem lf_2_235 : tb_Lf 2 235 4 := ⟨_, _, _, _, _, pm_X12_weigh, rfl, pn_12, by decide +kernel, by decide, (tg tw_13 rfl), fun _ => ⟨(tg tw_1714 rfl), (tg tw_1715 rfl)⟩, fun q => absurd q (by decide), fun q => absurd q (by decide)⟩
set_option maxRecDepth 20000 in
theorem lf_2_236 : tb_Lf 2 236 2 := ⟨_, _, _, _, _, pm_X12_guide, rfl, pn_12, by decide +kernel, by decide, (tg tw_13 rfl), fun _ => ⟨(tg tw_1746 rfl), (tg tw_1747 rfl)⟩, fun q => absurd q (by decide), fun q => absurd q (by decide)⟩
set_option maxRecDepth 20000 in
theorem lf_2_237 : tb_Lf 2 237 2 := ⟨_, _, _, _, _, pm_X12_goesAhead, rfl, pn_12, by decide +kernel, by decide, (tg tw_13 rfl), fun _ => ⟨(tg tw_1756 rfl), (tg (tp (q := (yX12_goesAhead, 94)) (List.mem_of_getElem? (i := 87) (by decide +kernel))) rfl)⟩, fun q => absurd q (by decide), fun q => absurd q (by decide)⟩
set_option maxRecDepth 20000 in
theorem lf_2_238 : tb_Lf 2 238 3 := ⟨_, _, _, _, _, pm_X12_room, rfl, pn_12, by decide +kernel, by decide, (tg tw_13 rfl), fun _ => ⟨(tg tw_1750 rfl), (tg tw_1751 rfl)⟩, fun q => absurd q (by decide), fun q => absurd q (by decide)⟩
set_option maxRecDepth 20000 in
theorem lf_2_239 : tb_Lf 2 239 4 := ⟨_, _, _, _, _, pm_X12_later, rfl, pn_12, by decide +kernel, by decide, (tg tw_13 rfl), fun _ => ⟨(tg tw_1767 rfl), (tg tw_1768 rfl)⟩, fun q => absurd q (by decide), fun q => absurd q (by decide)⟩
set_option maxRecDepth 20000 in
theorem lf_2_240 : tb_Lf 2 240 2 := ⟨_, _, _, _, _, pm_X12_till, rfl, pn_12, by decide +kernel, by decide, (tg tw_13 rfl), fun _ => ⟨(tg tw_1772 rfl), (tg tw_1773 rfl)⟩, fun q => absurd q (by decide), fun q => absurd q (by decide)⟩
set_option maxRecDepth 20000 in
theorem lf_2_241 : tb_Lf 2 241 3 := ⟨_, _, _, _, _, pm_X12_areAlike, rfl, pn_12, by decide +kernel, by decide, (tg tw_13 rfl), fun _ => ⟨(tg tw_1785 rfl), (tg (tp (q := (yX12_areAlike, 94)) (List.mem_of_getElem? (i := 91) (by decide +kernel))) rfl)⟩, fun q => absurd q (by decide), fun q => absurd q (by decide)⟩
set_option maxRecDepth 20000 in
theorem lf_2_242 : tb_Lf 2 242 2 := ⟨_, _, _, _, _, pm_X12_comesAgain, rfl, pn_12, by decide +kernel, by decide, (tg tw_13 rfl), fun _ => ⟨(tg tw_1781 rfl), (tg (tp (q := (yX12_comesAgain, 94)) (List.mem_of_getElem? (i := 90) (by decide +kernel))) rfl)⟩, fun q => absurd q (by decide), fun q => absurd q (by decide)⟩
set_option maxRecDepth 20000 in
theorem lf_2_243 : tb_Lf 2 243 3 := ⟨_, _, _, _, _, pm_X12_again, rfl, pn_12, by decide +kernel, by decide, (tg tw_13 rfl), fun _ => ⟨(tg tw_1776 rfl), (tg tw_1777 rfl)⟩, fun q => absurd q (by decide), fun q => absurd q (by decide)⟩
set_option maxRecDepth 20000 in
theorem lf_2_244 : tb_Lf 2 244 5 := ⟨_, _, _, _, _, pm_X12_isWay, rfl, pn_12, by decide +kernel, by decide, (tg tw_13 rfl), fun _ => ⟨(tg tw_1797 rfl), (tg (tp (q := (yX12_isWay, 94)) (List.mem_of_getElem? (i := 93) (by decide +kernel))) rfl)⟩, fun q => absurd q (by decide), fun q => absurd q (by decide)⟩
set_option maxRecDepth 20000 in
theorem lf_2_245 : tb_Lf 2 245 3 := ⟨_, _, _, _, _, pm_X12_seeksSoonest, rfl, pn_12, by decide +kernel, by decide, (tg tw_13 rfl), fun _ => ⟨(tg tw_1793 rfl), (tg (tp (q := (yX12_seeksSoonest, 94)) (List.mem_of_getElem? (i := 92) (by decide +kernel))) rfl)⟩, fun q => absurd q (by decide), fun q => absurd q (by decide)⟩
set_option maxRecDepth 20000 in
theorem lf_2_246 : tb_Lf 2 246 2 := ⟨_, _, _, _, _, pm_X12_wayTold, rfl, pn_12, by decide +kernel, by decide, (tg tw_13 rfl), fun _ => ⟨(tg tw_1801 rfl), (tg (tp (q := (yX12_wayTold, 94)) (List.mem_of_getElem? (i := 94) (by decide +kernel))) rfl)⟩, fun q => absurd q (by decide), fun q => absurd q (by decide)⟩
set_option maxRecDepth 20000 in
theorem lf_2_247 : tb_Lf 2 247 3 := ⟨_, _, _, _, _, pm_X12_soonest, rfl, pn_12, by decide +kernel, by decide, (tg tw_13 rfl), fun _ => ⟨(tg tw_1788 rfl), (tg tw_1789 rfl)⟩, fun q => absurd q (by decide), fun q => absurd q (by decide)⟩
set_option maxRecDepth 20000 in
theorem lf_2_248 : tb_Lf 2 248 3 := ⟨_, _, _, _, _, pm_X12_least, rfl, pn_12, by decide +kernel, by decide, (tg tw_13 rfl), fun _ => ⟨(tg tw_1804 rfl), (tg tw_1805 rfl)⟩, fun q => absurd q (by decide), fun q => absurd q (by decide)⟩
set_option maxRecDepth 20000 in
theorem lf_2_249 : tb_Lf 2 249 3 := ⟨_, _, _, _, _, pm_X12_along, rfl, pn_12, by decide +kernel, by decide, (tg tw_13 rfl), fun _ => ⟨(tg tw_1808 rfl), (tg tw_1809 rfl)⟩, fun q => absurd q (by decide), fun q => absurd q (by decide)⟩
set_option maxRecDepth 20000 in
theorem lf_2_251 : tb_Lf 2 251 3 := ⟨_, _, _, _, _, pm_X12_isOrder, rfl, pn_12, by decide +kernel, by decide, (tg tw_13 rfl), fun _ => ⟨(tg tw_1820 rfl), (tg (tp (q := (yX12_isOrder, 94)) (List.mem_of_getElem? (i := 95) (by decide +kernel))) rfl)⟩, fun q => absurd q (by decide), fun q => absurd q (by decide)⟩
set_option maxRecDepth 20000 in
theorem lf_2_252 : tb_Lf 2 252 4 := ⟨_, _, _, _, _, pm_X12_days, rfl, pn_12, by decide +kernel, by decide, (tg tw_13 rfl), fun _ => ⟨(tg tw_1812 rfl), (tg tw_1813 rfl)⟩, fun q => absurd q (by decide), fun q => absurd q (by decide)⟩
set_option maxRecDepth 20000 in
theorem lf_2_253 : tb_Lf 2 253 1 := ⟨_, _, _, _, _, pm_X12_worstOfTwo, rfl, pn_12, by decide +kernel, by decide, (tg tw_13 rfl), fun _ => ⟨(tg tw_1828 rfl), (tg (tp (q := (yX12_worstOfTwo, 94)) (List.mem_of_getElem? (i := 96) (by decide +kernel))) rfl)⟩, fun q => absurd q (by decide), fun q => absurd q (by decide)⟩
set_option maxRecDepth 20000 in
theorem lf_2_254 : tb_Lf 2 254 4 := ⟨_, _, _, _, _, pm_X12_hand, rfl, pn_12, by decide +kernel, by decide, (tg tw_13 rfl), fun _ => ⟨(tg tw_1823 rfl), (tg tw_1824 rfl)⟩, fun q => absurd q (by decide), fun q => absurd q (by decide)⟩
set_option maxRecDepth 20000 in
theorem lf_2_255 : tb_Lf 2 255 4 := ⟨_, _, _, _, _, pm_X12_isSafe, rfl, pn_12, by decide +kernel, by decide, (tg tw_13 rfl), fun _ => ⟨(tg tw_1837 rfl), (tg (tp (q := (yX12_isSafe, 94)) (List.mem_of_getElem? (i := 97) (by decide +kernel))) rfl)⟩, fun q => absurd q (by decide), fun q => absurd q (by decide)⟩
set_option maxRecDepth 20000 in
theorem lf_2_256 : tb_Lf 2 256 2 := ⟨_, _, _, _, _, pm_X12_canGo, rfl, pn_12, by decide +kernel, by decide, (tg tw_13 rfl), fun _ => ⟨(tg tw_1845 rfl), (tg (tp (q := (yX12_canGo, 94)) (List.mem_of_getElem? (i := 99) (by decide +kernel))) rfl)⟩, fun q => absurd q (by decide), fun q => absurd q (by decide)⟩
set_option maxRecDepth 20000 in
theorem lf_2_257 : tb_Lf 2 257 6 := ⟨_, _, _, _, _, pm_X12_answers, rfl, pn_12, by decide +kernel, by decide, (tg tw_13 rfl), fun _ => ⟨(tg tw_1849 rfl), (tg (tp (q := (yX12_answers, 94)) (List.mem_of_getElem? (i := 100) (by decide +kernel))) rfl)⟩, fun q => absurd q (by decide), fun q => absurd q (by decide)⟩
set_option maxRecDepth 20000 in
theorem lf_2_258 : tb_Lf 2 258 3 := ⟨_, _, _, _, _, pm_X12_isSafeByOne, rfl, pn_12, by decide +kernel, by decide, (tg tw_13 rfl), fun _ => ⟨(tg tw_1841 rfl), (tg (tp (q := (yX12_isSafeByOne, 94)) (List.mem_of_getElem? (i := 98) (by decide +kernel))) rfl)⟩, fun q => absurd q (by decide), fun q => absurd q (by decide)⟩
set_option maxRecDepth 20000 in
theorem lf_2_259 : tb_Lf 2 259 3 := ⟨_, _, _, _, _, pm_X12_isSafeByTwo, rfl, pn_12, by decide +kernel, by decide, (tg tw_13 rfl), fun _ => ⟨(tg tw_1853 rfl), (tg (tp (q := (yX12_isSafeByTwo, 94)) (List.mem_of_getElem? (i := 101) (by decide +kernel))) rfl)⟩, fun q => absurd q (by decide), fun q => absurd q (by decide)⟩
set_option maxRecDepth 20000 in
theorem lf_2_260 : tb_Lf 2 260 3 := ⟨_, _, _, _, _, pm_X12_isSafeByThree, rfl, pn_12, by decide +kernel, by decide, (tg tw_13 rfl), fun _ => ⟨(tg tw_1857 rfl), (tg (tp (q := (yX12_isSafeByThree, 94)) (List.mem_of_getElem? (i := 102) (by decide +kernel))) rfl)⟩, fun q => absurd q (by decide), fun q => absurd q (by decide)⟩
set_option maxRecDepth 20000 in
theorem lf_2_261 : tb_Lf 2 261 3 := ⟨_, _, _, _, _, pm_X12_against, rfl, pn_12, by decide +kernel, by decide, (tg tw_13 rfl), fun _ => ⟨(tg tw_1831 rfl), (tg tw_1832 rfl)⟩, fun q => absurd q (by decide), fun q => absurd q (by decide)⟩
set_option maxRecDepth 20000 in
theorem lf_2_262 : tb_Lf 2 262 4 := ⟨_, _, _, _, _, pm_X12_likely, rfl, pn_12, by decide +kernel, by decide, (tg tw_13 rfl), fun _ => ⟨(tg tw_1866 rfl), (tg (tp (q := (yX12_likely, 94)) (List.mem_of_getElem? (i := 103) (by decide +kernel))) rfl)⟩, fun q => absurd q (by decide), fun q => absurd q (by decide)⟩
set_option maxRecDepth 20000 in
theorem lf_2_263 : tb_Lf 2 263 3 := ⟨_, _, _, _, _, pm_X12_chance, rfl, pn_12, by decide +kernel, by decide, (tg tw_13 rfl), fun _ => ⟨(tg tw_1860 rfl), (tg tw_1861 rfl)⟩, fun q => absurd q (by decide), fun q => absurd q (by decide)⟩
set_option maxRecDepth 20000 in
theorem lf_2_264 : tb_Lf 2 264 1 := ⟨_, _, _, _, _, pm_X12_keeps, rfl, pn_12, by decide +kernel, by decide, (tg tw_13 rfl), fun _ => ⟨(tg tw_1887 rfl), (tg (tp (q := (yX12_keeps, 94)) (List.mem_of_getElem? (i := 106) (by decide +kernel))) rfl)⟩, fun q => absurd q (by decide), fun q => absurd q (by decide)⟩
set_option maxRecDepth 20000 in
theorem lf_2_265 : tb_Lf 2 265 1 := ⟨_, _, _, _, _, pm_X12_undo, rfl, pn_12, by decide +kernel, by decide, (tg tw_13 rfl), fun _ => ⟨(tg tw_1874 rfl), (tg tw_1875 rfl)⟩, fun q => absurd q (by decide), fun q => absurd q (by decide)⟩
set_option maxRecDepth 20000 in
theorem lf_2_266 : tb_Lf 2 266 1 := ⟨_, _, _, _, _, pm_X12_refuses, rfl, pn_12, by decide +kernel, by decide, (tg tw_13 rfl), fun _ => ⟨(tg tw_1883 rfl), (tg (tp (q := (yX12_refuses, 94)) (List.mem_of_getElem? (i := 105) (by decide +kernel))) rfl)⟩, fun q => absurd q (by decide), fun q => absurd q (by decide)⟩
set_option maxRecDepth 20000 in
theorem lf_2_267 : tb_Lf 2 267 3 := ⟨_, _, _, _, _, pm_X12_meet, rfl, pn_12, by decide +kernel, by decide, (tg tw_13 rfl), fun _ => ⟨(tg tw_1878 rfl), (tg tw_1879 rfl)⟩, fun q => absurd q (by decide), fun q => absurd q (by decide)⟩
set_option maxRecDepth 20000 in
theorem lf_2_268 : tb_Lf 2 268 3 := ⟨_, _, _, _, _, pm_X12_day, rfl, pn_12, by decide +kernel, by decide, (tg tw_13 rfl), fun _ => ⟨(tg tw_1894 rfl), (tg tw_1895 rfl)⟩, fun q => absurd q (by decide), fun q => absurd q (by decide)⟩
set_option maxRecDepth 20000 in
theorem lf_2_269 : tb_Lf 2 269 3 := ⟨_, _, _, _, _, pm_X12_take, rfl, pn_12, by decide +kernel, by decide, (tg tw_13 rfl), fun _ => ⟨(tg tw_1898 rfl), (tg tw_1899 rfl)⟩, fun q => absurd q (by decide), fun q => absurd q (by decide)⟩
set_option maxRecDepth 20000 in
theorem lf_2_270 : tb_Lf 2 270 4 := ⟨_, _, _, _, _, pm_X12_set, rfl, pn_12, by decide +kernel, by decide, (tg tw_13 rfl), fun _ => ⟨(tg tw_1903 rfl), (tg tw_1904 rfl)⟩, fun q => absurd q (by decide), fun q => absurd q (by decide)⟩
set_option maxRecDepth 20000 in
theorem lf_2_271 : tb_Lf 2 271 2 := ⟨_, _, _, _, _, pm_X12_seed, rfl, pn_12, by decide +kernel, by decide, (tg tw_13 rfl), fun _ => ⟨(tg tw_1907 rfl), (tg tw_1908 rfl)⟩, fun q => absurd q (by decide), fun q => absurd q (by decide)⟩
set_option maxRecDepth 20000 in
theorem lf_2_272 : tb_Lf 2 272 2 := ⟨_, _, _, _, _, pm_X12_drawOf, rfl, pn_12, by decide +kernel, by decide, (tg tw_13 rfl), fun _ => ⟨(tg tw_1916 rfl), (tg (tp (q := (yX12_drawOf, 94)) (List.mem_of_getElem? (i := 108) (by decide +kernel))) rfl)⟩, fun q => absurd q (by decide), fun q => absurd q (by decide)⟩
set_option maxRecDepth 20000 in
theorem lf_2_273 : tb_Lf 2 273 3 := ⟨_, _, _, _, _, pm_X12_night, rfl, pn_12, by decide +kernel, by decide, (tg tw_13 rfl), fun _ => ⟨(tg tw_1911 rfl), (tg tw_1912 rfl)⟩, fun q => absurd q (by decide), fun q => absurd q (by decide)⟩
set_option maxRecDepth 20000 in
theorem lf_2_274 : tb_Lf 2 274 2 := ⟨_, _, _, _, _, pm_X12_told, rfl, pn_12, by decide +kernel, by decide, (tg tw_13 rfl), fun _ => ⟨(tg tw_1923 rfl), (tg tw_1924 rfl)⟩, fun q => absurd q (by decide), fun q => absurd q (by decide)⟩
set_option maxRecDepth 20000 in
theorem lf_2_275 : tb_Lf 2 275 3 := ⟨_, _, _, _, _, pm_X12_isFitting, rfl, pn_12, by decide +kernel, by decide, (tg tw_13 rfl), fun _ => ⟨(tg tw_1933 rfl), (tg (tp (q := (yX12_isFitting, 94)) (List.mem_of_getElem? (i := 109) (by decide +kernel))) rfl)⟩, fun q => absurd q (by decide), fun q => absurd q (by decide)⟩
set_option maxRecDepth 20000 in
theorem lf_2_276 : tb_Lf 2 276 3 := ⟨_, _, _, _, _, pm_X12_fits, rfl, pn_12, by decide +kernel, by decide, (tg tw_13 rfl), fun _ => ⟨(tg tw_1928 rfl), (tg tw_1929 rfl)⟩, fun q => absurd q (by decide), fun q => absurd q (by decide)⟩
set_option maxRecDepth 20000 in
theorem lf_2_277 : tb_Lf 2 277 2 := ⟨_, _, _, _, _, pm_X12_qCode, rfl, pn_12, by decide +kernel, by decide, (tg tw_13 rfl), fun _ => ⟨(tg tw_1958 rfl), (tg (tp (q := (yX12_qCode, 94)) (List.mem_of_getElem? (i := 114) (by decide +kernel))) rfl)⟩, fun q => absurd q (by decide), fun q => absurd q (by decide)⟩
set_option maxRecDepth 20000 in
theorem lf_2_278 : tb_Lf 2 278 3 := ⟨_, _, _, _, _, pm_X12_qOpens, rfl, pn_12, by decide +kernel, by decide, (tg tw_13 rfl), fun _ => ⟨(tg tw_1950 rfl), (tg (tp (q := (yX12_qOpens, 94)) (List.mem_of_getElem? (i := 112) (by decide +kernel))) rfl)⟩, fun q => absurd q (by decide), fun q => absurd q (by decide)⟩
set_option maxRecDepth 20000 in
theorem lf_2_279 : tb_Lf 2 279 2 := ⟨_, _, _, _, _, pm_X12_qIsOn, rfl, pn_12, by decide +kernel, by decide, (tg tw_13 rfl), fun _ => ⟨(tg tw_2005 rfl), (tg (tp (q := (yX12_qIsOn, 94)) (List.mem_of_getElem? (i := 125) (by decide +kernel))) rfl)⟩, fun q => absurd q (by decide), fun q => absurd q (by decide)⟩
set_option maxRecDepth 20000 in
theorem lf_2_280 : tb_Lf 2 280 1 := ⟨_, _, _, _, _, pm_X12_qDrops, rfl, pn_12, by decide +kernel, by decide, (tg tw_13 rfl), fun _ => ⟨(tg tw_1986 rfl), (tg (tp (q := (yX12_qDrops, 94)) (List.mem_of_getElem? (i := 121) (by decide +kernel))) rfl)⟩, fun q => absurd q (by decide), fun q => absurd q (by decide)⟩
set_option maxRecDepth 20000 in
theorem lf_2_282 : tb_Lf 2 282 1 := ⟨_, _, _, _, _, pm_X12_qBracket, rfl, pn_12, by decide +kernel, by decide, (tg tw_13 rfl), fun _ => ⟨(tg tw_1994 rfl), (tg (tp (q := (yX12_qBracket, 94)) (List.mem_of_getElem? (i := 123) (by decide +kernel))) rfl)⟩, fun q => absurd q (by decide), fun q => absurd q (by decide)⟩
set_option maxRecDepth 20000 in
theorem lf_2_283 : tb_Lf 2 283 1 := ⟨_, _, _, _, _, pm_X12_qDropsToBracket, rfl, pn_12, by decide +kernel, by decide, (tg tw_13 rfl), fun _ => ⟨(tg tw_2001 rfl), (tg (tp (q := (yX12_qDropsToBracket, 94)) (List.mem_of_getElem? (i := 124) (by decide +kernel))) rfl)⟩, fun q => absurd q (by decide), fun q => absurd q (by decide)⟩
set_option maxRecDepth 20000 in
theorem lf_2_284 : tb_Lf 2 284 1 := ⟨_, _, _, _, _, pm_X12_qWordHere, rfl, pn_12, by decide +kernel, by decide, (tg tw_13 rfl), fun _ => ⟨(tg tw_1974 rfl), (tg (tp (q := (yX12_qWordHere, 94)) (List.mem_of_getElem? (i := 118) (by decide +kernel))) rfl)⟩, fun q => absurd q (by decide), fun q => absurd q (by decide)⟩
set_option maxRecDepth 20000 in
theorem lf_2_285 : tb_Lf 2 285 3 := ⟨_, _, _, _, _, pm_X12_qWordOf, rfl, pn_12, by decide +kernel, by decide, (tg tw_13 rfl), fun _ => ⟨(tg tw_1970 rfl), (tg (tp (q := (yX12_qWordOf, 94)) (List.mem_of_getElem? (i := 117) (by decide +kernel))) rfl)⟩, fun q => absurd q (by decide), fun q => absurd q (by decide)⟩
set_option maxRecDepth 20000 in
theorem lf_2_286 : tb_Lf 2 286 2 := ⟨_, _, _, _, _, pm_X12_qAsksWord, rfl, pn_12, by decide +kernel, by decide, (tg tw_13 rfl), fun _ => ⟨(tg tw_1978 rfl), (tg (tp (q := (yX12_qAsksWord, 94)) (List.mem_of_getElem? (i := 119) (by decide +kernel))) rfl)⟩, fun q => absurd q (by decide), fun q => absurd q (by decide)⟩
set_option maxRecDepth 20000 in
theorem lf_2_287 : tb_Lf 2 287 1 := ⟨_, _, _, _, _, pm_X12_qEndsPart, rfl, pn_12, by decide +kernel, by decide, (tg tw_13 rfl), fun _ => ⟨(tg tw_1982 rfl), (tg (tp (q := (yX12_qEndsPart, 94)) (List.mem_of_getElem? (i := 120) (by decide +kernel))) rfl)⟩, fun q => absurd q (by decide), fun q => absurd q (by decide)⟩
set_option maxRecDepth 20000 in
theorem lf_2_288 : tb_Lf 2 288 1 := ⟨_, _, _, _, _, pm_X12_qPartTold, rfl, pn_12, by decide +kernel, by decide, (tg tw_13 rfl), fun _ => ⟨(tg tw_1966 rfl), (tg (tp (q := (yX12_qPartTold, 94)) (List.mem_of_getElem? (i := 116) (by decide +kernel))) rfl)⟩, fun q => absurd q (by decide), fun q => absurd q (by decide)⟩
set_option maxRecDepth 20000 in
theorem lf_2_289 : tb_Lf 2 289 1 := ⟨_, _, _, _, _, pm_X12_qGoesOn, rfl, pn_12, by decide +kernel, by decide, (tg tw_13 rfl), fun _ => ⟨(tg tw_1990 rfl), (tg (tp (q := (yX12_qGoesOn, 94)) (List.mem_of_getElem? (i := 122) (by decide +kernel))) rfl)⟩, fun q => absurd q (by decide), fun q => absurd q (by decide)⟩
set_option maxRecDepth 20000 in
theorem lf_2_290 : tb_Lf 2 290 1 := ⟨_, _, _, _, _, pm_X12_qSums, rfl, pn_12, by decide +kernel, by decide, (tg tw_13 rfl), fun _ => ⟨(tg tw_1962 rfl), (tg (tp (q := (yX12_qSums, 94)) (List.mem_of_getElem? (i := 115) (by decide +kernel))) rfl)⟩, fun q => absurd q (by decide), fun q => absurd q (by decide)⟩
set_option maxRecDepth 20000 in
theorem lf_2_291 : tb_Lf 2 291 1 := ⟨_, _, _, _, _, pm_X12_qFact, rfl, pn_12, by decide +kernel, by decide, (tg tw_13 rfl), fun _ => ⟨(tg tw_1954 rfl), (tg (tp (q := (yX12_qFact, 94)) (List.mem_of_getElem? (i := 113) (by decide +kernel))) rfl)⟩, fun q => absurd q (by decide), fun q => absurd q (by decide)⟩
set_option maxRecDepth 20000 in
theorem lf_2_292 : tb_Lf 2 292 1 := ⟨_, _, _, _, _, pm_X12_qHasSquare, rfl, pn_12, by decide +kernel, by decide, (tg tw_13 rfl), fun _ => ⟨(tg tw_2017 rfl), (tg (tp (q := (yX12_qHasSquare, 94)) (List.mem_of_getElem? (i := 128) (by decide +kernel))) rfl)⟩, fun q => absurd q (by decide), fun q => absurd q (by decide)⟩
set_option maxRecDepth 20000 in
theorem lf_2_293 : tb_Lf 2 293 1 := ⟨_, _, _, _, _, pm_X12_qDropsNots, rfl, pn_12, by decide +kernel, by decide, (tg tw_13 rfl), fun _ => ⟨(tg tw_2009 rfl), (tg (tp (q := (yX12_qDropsNots, 94)) (List.mem_of_getElem? (i := 126) (by decide +kernel))) rfl)⟩, fun q => absurd q (by decide), fun q => absurd q (by decide)⟩
set_option maxRecDepth 20000 in
theorem lf_2_294 : tb_Lf 2 294 1 := ⟨_, _, _, _, _, pm_X12_qTest, rfl, pn_12, by decide +kernel, by decide, (tg tw_13 rfl), fun _ => ⟨(tg tw_1946 rfl), (tg (tp (q := (yX12_qTest, 94)) (List.mem_of_getElem? (i := 111) (by decide +kernel))) rfl)⟩, fun q => absurd q (by decide), fun q => absurd q (by decide)⟩
set_option maxRecDepth 20000 in
theorem lf_2_295 : tb_Lf 2 295 1 := ⟨_, _, _, _, _, pm_X12_qGoesOnTest, rfl, pn_12, by decide +kernel, by decide, (tg tw_13 rfl), fun _ => ⟨(tg tw_2013 rfl), (tg (tp (q := (yX12_qGoesOnTest, 94)) (List.mem_of_getElem? (i := 127) (by decide +kernel))) rfl)⟩, fun q => absurd q (by decide), fun q => absurd q (by decide)⟩
set_option maxRecDepth 20000 in
theorem lf_2_298 : tb_Lf 2 298 2 := ⟨_, _, _, _, _, pm_X12_qPuts, rfl, pn_12, by decide +kernel, by decide, (tg tw_13 rfl), fun _ => ⟨(tg tw_2025 rfl), (tg (tp (q := (yX12_qPuts, 94)) (List.mem_of_getElem? (i := 130) (by decide +kernel))) rfl)⟩, fun q => absurd q (by decide), fun q => absurd q (by decide)⟩
set_option maxRecDepth 20000 in
theorem lf_2_299 : tb_Lf 2 299 2 := ⟨_, _, _, _, _, pm_X12_qJoins, rfl, pn_12, by decide +kernel, by decide, (tg tw_13 rfl), fun _ => ⟨(tg tw_2044 rfl), (tg (tp (q := (yX12_qJoins, 94)) (List.mem_of_getElem? (i := 134) (by decide +kernel))) rfl)⟩, fun q => absurd q (by decide), fun q => absurd q (by decide)⟩
set_option maxRecDepth 20000 in
theorem lf_2_300 : tb_Lf 2 300 3 := ⟨_, _, _, _, _, pm_X12_qPartOf, rfl, pn_12, by decide +kernel, by decide, (tg tw_13 rfl), fun _ => ⟨(tg tw_2036 rfl), (tg (tp (q := (yX12_qPartOf, 94)) (List.mem_of_getElem? (i := 132) (by decide +kernel))) rfl)⟩, fun q => absurd q (by decide), fun q => absurd q (by decide)⟩
set_option maxRecDepth 20000 in
theorem lf_2_301 : tb_Lf 2 301 4 := ⟨_, _, _, _, _, pm_X12_qOf, rfl, pn_12, by decide +kernel, by decide, (tg tw_13 rfl), fun _ => ⟨(tg tw_2029 rfl), (tg (tp (q := (yX12_qOf, 94)) (List.mem_of_getElem? (i := 131) (by decide +kernel))) rfl)⟩, fun q => absurd q (by decide), fun q => absurd q (by decide)⟩
set_option maxRecDepth 20000 in
theorem lf_2_302 : tb_Lf 2 302 2 := ⟨_, _, _, _, _, pm_X12_qTold, rfl, pn_12, by decide +kernel, by decide, (tg tw_13 rfl), fun _ => ⟨(tg tw_2021 rfl), (tg (tp (q := (yX12_qTold, 94)) (List.mem_of_getElem? (i := 129) (by decide +kernel))) rfl)⟩, fun q => absurd q (by decide), fun q => absurd q (by decide)⟩
set_option maxRecDepth 20000 in
theorem lf_2_303 : tb_Lf 2 303 1 := ⟨_, _, _, _, _, pm_X12_qKind, rfl, pn_12, by decide +kernel, by decide, (tg tw_13 rfl), fun _ => ⟨(tg tw_1942 rfl), (tg (tp (q := (yX12_qKind, 94)) (List.mem_of_getElem? (i := 110) (by decide +kernel))) rfl)⟩, fun q => absurd q (by decide), fun q => absurd q (by decide)⟩
set_option maxRecDepth 20000 in
theorem lf_2_304 : tb_Lf 2 304 4 := ⟨_, _, _, _, _, pm_X12_qTakes, rfl, pn_12, by decide +kernel, by decide, (tg tw_13 rfl), fun _ => ⟨(tg tw_2051 rfl), (tg (tp (q := (yX12_qTakes, 94)) (List.mem_of_getElem? (i := 135) (by decide +kernel))) rfl)⟩, fun q => absurd q (by decide), fun q => absurd q (by decide)⟩
set_option maxRecDepth 20000 in
theorem lf_2_305 : tb_Lf 2 305 2 := ⟨_, _, _, _, _, pm_X12_ask, rfl, pn_12, by decide +kernel, by decide, (tg tw_13 rfl), fun _ => ⟨(tg tw_1936 rfl), (tg tw_1937 rfl)⟩, fun q => absurd q (by decide), fun q => absurd q (by decide)⟩
set_option maxRecDepth 20000 in
theorem lf_2_306 : tb_Lf 2 306 2 := ⟨_, _, _, _, _, pm_X12_worstOf, rfl, pn_12, by decide +kernel, by decide, (tg tw_13 rfl), fun _ => ⟨(tg tw_2040 rfl), (tg (tp (q := (yX12_worstOf, 94)) (List.mem_of_getElem? (i := 133) (by decide +kernel))) rfl)⟩, fun q => absurd q (by decide), fun q => absurd q (by decide)⟩
set_option maxRecDepth 20000 in
theorem lf_2_308 : tb_Lf 2 308 2 := ⟨_, _, _, _, _, pm_X12_writes, rfl, pn_12, by decide +kernel, by decide, (tg tw_13 rfl), fun _ => ⟨(tg tw_2059 rfl), (tg (tp (q := (yX12_writes, 94)) (List.mem_of_getElem? (i := 136) (by decide +kernel))) rfl)⟩, fun q => absurd q (by decide), fun q => absurd q (by decide)⟩
set_option maxRecDepth 20000 in
theorem lf_2_309 : tb_Lf 2 309 1 := ⟨_, _, _, _, _, pm_X12_image, rfl, pn_12, by decide +kernel, by decide, (tg tw_13 rfl), fun _ => ⟨(tg tw_2054 rfl), (tg tw_2055 rfl)⟩, fun q => absurd q (by decide), fun q => absurd q (by decide)⟩
set_option maxRecDepth 20000 in
theorem lf_2_310 : tb_Lf 2 310 2 := ⟨_, _, _, _, _, pm_X12_octet, rfl, pn_12, by decide +kernel, by decide, (tg tw_13 rfl), fun _ => ⟨(tg tw_2065 rfl), (tg tw_2066 rfl)⟩, fun q => absurd q (by decide), fun q => absurd q (by decide)⟩
set_option maxRecDepth 20000 in
theorem lf_2_311 : tb_Lf 2 311 2 := ⟨_, _, _, _, _, pm_X12_isTold, rfl, pn_12, by decide +kernel, by decide, (tg tw_13 rfl), fun _ => ⟨(tg tw_2074 rfl), (tg (tp (q := (yX12_isTold, 94)) (List.mem_of_getElem? (i := 137) (by decide +kernel))) rfl)⟩, fun q => absurd q (by decide), fun q => absurd q (by decide)⟩
set_option maxRecDepth 20000 in
theorem lf_2_312 : tb_Lf 2 312 1 := ⟨_, _, _, _, _, pm_X12_on, rfl, pn_12, by decide +kernel, by decide, (tg tw_13 rfl), fun _ => ⟨(tg tw_2069 rfl), (tg tw_2070 rfl)⟩, fun q => absurd q (by decide), fun q => absurd q (by decide)⟩
set_option maxRecDepth 20000 in
theorem lf_2_313 : tb_Lf 2 313 2 := ⟨_, _, _, _, _, pm_X12_status, rfl, pn_12, by decide +kernel, by decide, (tg tw_13 rfl), fun _ => ⟨(tg tw_2077 rfl), (tg tw_2078 rfl)⟩, fun q => absurd q (by decide), fun q => absurd q (by decide)⟩
set_option maxRecDepth 20000 in
theorem lf_12_39 : tb_Lf 12 39 2 := ⟨_, _, _, _, _, pm_X3_isOneTooMany, rfl, pn_3, by decide +kernel, by decide, (tg tw_4 rfl), fun q => absurd q (by decide), fun _ => (tg tw_517 rfl), fun q => absurd q (by decide)⟩
set_option maxRecDepth 20000 in
theorem lf_12_69 : tb_Lf 12 69 3 := ⟨_, _, _, _, _, pm_X6_join, rfl, pn_6, by decide +kernel, by decide, (tg tw_6 rfl), fun q => absurd q (by decide), fun _ => (tg tw_821 rfl), fun q => absurd q (by decide)⟩
set_option maxRecDepth 20000 in
theorem lf_12_103 : tb_Lf 12 103 1 := ⟨_, _, _, _, _, pm_X9_isDigit, rfl, pn_9, by decide +kernel, by decide, (tg tw_2 rfl), fun q => absurd q (by decide), fun _ => (tg tw_591 rfl), fun q => absurd q (by decide)⟩
set_option maxRecDepth 20000 in
theorem lf_12_123 : tb_Lf 12 123 2 := ⟨_, _, _, _, _, pm_X10_lowestBit, rfl, pn_10, by decide +kernel, by decide, (tg tw_11 rfl), fun q => absurd q (by decide), fun _ => (tg tw_970 rfl), fun q => absurd q (by decide)⟩
set_option maxRecDepth 20000 in
theorem lf_12_167 : tb_Lf 12 167 1 := ⟨_, _, _, _, _, pm_X11_newSleepers, rfl, pn_11, by decide +kernel, by decide, (tg tw_1 rfl), fun q => absurd q (by decide), fun _ => (tg tw_195 rfl), fun q => absurd q (by decide)⟩
set_option maxRecDepth 20000 in
theorem lf_12_169 : tb_Lf 12 169 3 := ⟨_, _, _, _, _, pm_X12_isIn, rfl, pn_12, by decide +kernel, by decide, (tg tw_13 rfl), fun q => absurd q (by decide), fun _ => (tg tw_1565 rfl), fun q => absurd q (by decide)⟩
set_option maxRecDepth 20000 in
theorem lf_12_173 : tb_Lf 12 173 1 := ⟨_, _, _, _, _, pm_X12_isLetter, rfl, pn_12, by decide +kernel, by decide, (tg tw_13 rfl), fun q => absurd q (by decide), fun _ => (tg tw_1521 rfl), fun q => absurd q (by decide)⟩
set_option maxRecDepth 20000 in
theorem lf_12_174 : tb_Lf 12 174 1 := ⟨_, _, _, _, _, pm_X12_isDigit, rfl, pn_12, by decide +kernel, by decide, (tg tw_13 rfl), fun q => absurd q (by decide), fun _ => (tg tw_1562 rfl), fun q => absurd q (by decide)⟩
set_option maxRecDepth 20000 in
theorem lf_12_207 : tb_Lf 12 207 1 := ⟨_, _, _, _, _, pm_X12_clip, rfl, pn_12, by decide +kernel, by decide, (tg tw_13 rfl), fun q => absurd q (by decide), fun _ => (tg tw_1737 rfl), fun q => absurd q (by decide)⟩
set_option maxRecDepth 20000 in
theorem lf_12_208 : tb_Lf 12 208 2 := ⟨_, _, _, _, _, pm_X12_floor, rfl, pn_12, by decide +kernel, by decide, (tg tw_13 rfl), fun q => absurd q (by decide), fun _ => (tg tw_1742 rfl), fun q => absurd q (by decide)⟩
set_option maxRecDepth 20000 in
theorem lf_12_250 : tb_Lf 12 250 1 := ⟨_, _, _, _, _, pm_X12_bits, rfl, pn_12, by decide +kernel, by decide, (tg tw_13 rfl), fun q => absurd q (by decide), fun _ => (tg tw_1816 rfl), fun q => absurd q (by decide)⟩
set_option maxRecDepth 20000 in
theorem lf_12_281 : tb_Lf 12 281 1 := ⟨_, _, _, _, _, pm_X12_qIsBracket, rfl, pn_12, by decide +kernel, by decide, (tg tw_13 rfl), fun q => absurd q (by decide), fun _ => (tg tw_1997 rfl), fun q => absurd q (by decide)⟩
set_option maxRecDepth 20000 in
theorem lf_12_296 : tb_Lf 12 296 1 := ⟨_, _, _, _, _, pm_X12_qClip, rfl, pn_12, by decide +kernel, by decide, (tg tw_13 rfl), fun q => absurd q (by decide), fun _ => (tg tw_2032 rfl), fun q => absurd q (by decide)⟩
set_option maxRecDepth 20000 in
theorem lf_12_297 : tb_Lf 12 297 2 := ⟨_, _, _, _, _, pm_X12_qFloor, rfl, pn_12, by decide +kernel, by decide, (tg tw_13 rfl), fun q => absurd q (by decide), fun _ => (tg tw_2047 rfl), fun q => absurd q (by decide)⟩
set_option maxRecDepth 20000 in
theorem lf_12_307 : tb_Lf 12 307 2 := ⟨_, _, _, _, _, pm_X12_checked, rfl, pn_12, by decide +kernel, by decide, (tg tw_13 rfl), fun q => absurd q (by decide), fun _ => (tg tw_2062 rfl), fun q => absurd q (by decide)⟩
set_option maxRecDepth 20000 in
theorem lf_12_314 : tb_Lf 12 314 1 := ⟨_, _, _, _, _, pm_J6_bitCount_0f7a4, rfl, pn_15, by decide +kernel, by decide, (tg tw_20 rfl), fun q => absurd q (by decide), fun _ => (tg tw_955 rfl), fun q => absurd q (by decide)⟩
set_option maxRecDepth 20000 in
theorem lf_12_315 : tb_Lf 12 315 2 := ⟨_, _, _, _, _, pm_J9_floorDiv_7cf53, rfl, pn_14, by decide +kernel, by decide, (tg tw_18 rfl), fun q => absurd q (by decide), fun _ => (tg tw_837 rfl), fun q => absurd q (by decide)⟩
set_option maxRecDepth 20000 in
theorem lf_12_316 : tb_Lf 12 316 2 := ⟨_, _, _, _, _, pm_J9_max_7cf53, rfl, pn_14, by decide +kernel, by decide, (tg tw_18 rfl), fun q => absurd q (by decide), fun _ => (tg tw_752 rfl), fun q => absurd q (by decide)⟩
set_option maxRecDepth 20000 in
theorem lf_12_317 : tb_Lf 12 317 2 := ⟨_, _, _, _, _, pm_J9_max_f86c9, rfl, pn_14, by decide +kernel, by decide, (tg tw_18 rfl), fun q => absurd q (by decide), fun _ => (tg tw_834 rfl), fun q => absurd q (by decide)⟩
set_option maxRecDepth 20000 in
theorem lf_12_318 : tb_Lf 12 318 2 := ⟨_, _, _, _, _, pm_J9_min_7cf53, rfl, pn_14, by decide +kernel, by decide, (tg tw_18 rfl), fun q => absurd q (by decide), fun _ => (tg tw_826 rfl), fun q => absurd q (by decide)⟩
set_option maxRecDepth 20000 in
theorem lf_12_319 : tb_Lf 12 319 2 := ⟨_, _, _, _, _, pm_J9_min_f86c9, rfl, pn_14, by decide +kernel, by decide, (tg tw_18 rfl), fun q => absurd q (by decide), fun _ => (tg tw_831 rfl), fun q => absurd q (by decide)⟩
set_option maxRecDepth 20000 in
theorem lf_13_0 : tb_Lf 13 0 1 := ⟨_, _, _, _, _, pm_X0_init, rfl, pn_0, by decide +kernel, by decide, (tg tw_9 rfl), fun q => absurd q (by decide), fun q => absurd q (by decide), fun _ => ⟨rfl, (tg tw_223 rfl), rfl⟩⟩
set_option maxRecDepth 20000 in
theorem lf_13_4 : tb_Lf 13 4 1 := ⟨_, _, _, _, _, pm_X1_init, rfl, pn_1, by decide +kernel, by decide, (tg tw_10 rfl), fun q => absurd q (by decide), fun q => absurd q (by decide), fun _ => ⟨rfl, (tg tw_241 rfl), rfl⟩⟩
set_option maxRecDepth 20000 in
theorem lf_13_12 : tb_Lf 13 12 1 := ⟨_, _, _, _, _, pm_X2_init, rfl, pn_2, by decide +kernel, by decide, (tg tw_7 rfl), fun q => absurd q (by decide), fun q => absurd q (by decide), fun _ => ⟨rfl, (tg tw_146 rfl), rfl⟩⟩
set_option maxRecDepth 20000 in
theorem lf_13_36 : tb_Lf 13 36 3 := ⟨_, _, _, _, _, pm_X3_init, rfl, pn_3, by decide +kernel, by decide, (tg tw_4 rfl), fun q => absurd q (by decide), fun q => absurd q (by decide), fun _ => ⟨rfl, (tg tw_86 rfl), rfl⟩⟩
set_option maxRecDepth 20000 in
theorem lf_13_46 : tb_Lf 13 46 1 := ⟨_, _, _, _, _, pm_X4_init, rfl, pn_4, by decide +kernel, by decide, (tg tw_12 rfl), fun q => absurd q (by decide), fun q => absurd q (by decide), fun _ => ⟨rfl, (tg tw_323 rfl), rfl⟩⟩
set_option maxRecDepth 20000 in
theorem lf_13_52 : tb_Lf 13 52 3 := ⟨_, _, _, _, _, pm_X5_init, rfl, pn_5, by decide +kernel, by decide, (tg tw_5 rfl), fun q => absurd q (by decide), fun q => absurd q (by decide), fun _ => ⟨rfl, (tg tw_99 rfl), rfl⟩⟩
set_option maxRecDepth 20000 in
theorem lf_13_59 : tb_Lf 13 59 1 := ⟨_, _, _, _, _, pm_X6_init, rfl, pn_6, by decide +kernel, by decide, (tg tw_6 rfl), fun q => absurd q (by decide), fun q => absurd q (by decide), fun _ => ⟨rfl, (tg tw_105 rfl), rfl⟩⟩
set_option maxRecDepth 20000 in
theorem lf_13_70 : tb_Lf 13 70 1 := ⟨_, _, _, _, _, pm_X7_init, rfl, pn_7, by decide +kernel, by decide, (tg tw_8 rfl), fun q => absurd q (by decide), fun q => absurd q (by decide), fun _ => ⟨rfl, (tg tw_201 rfl), rfl⟩⟩
set_option maxRecDepth 20000 in
theorem lf_13_80 : tb_Lf 13 80 2 := ⟨_, _, _, _, _, pm_X8_init, rfl, pn_8, by decide +kernel, by decide, (tg tw_3 rfl), fun q => absurd q (by decide), fun q => absurd q (by decide), fun _ => ⟨rfl, (tg tw_70 rfl), rfl⟩⟩
set_option maxRecDepth 20000 in
theorem lf_13_89 : tb_Lf 13 89 1 := ⟨_, _, _, _, _, pm_X9_init, rfl, pn_9, by decide +kernel, by decide, (tg tw_2 rfl), fun q => absurd q (by decide), fun q => absurd q (by decide), fun _ => ⟨rfl, (tg tw_32 rfl), rfl⟩⟩
set_option maxRecDepth 20000 in
theorem lf_13_112 : tb_Lf 13 112 1 := ⟨_, _, _, _, _, pm_X10_init, rfl, pn_10, by decide +kernel, by decide, (tg tw_11 rfl), fun q => absurd q (by decide), fun q => absurd q (by decide), fun _ => ⟨rfl, (tg tw_272 rfl), rfl⟩⟩
set_option maxRecDepth 20000 in
theorem lf_13_125 : tb_Lf 13 125 1 := ⟨_, _, _, _, _, pm_X11_init, rfl, pn_11, by decide +kernel, by decide, (tg tw_1 rfl), fun q => absurd q (by decide), fun q => absurd q (by decide), fun _ => ⟨rfl, (tg tw_24 rfl), rfl⟩⟩
set_option maxRecDepth 20000 in
theorem lf_13_168 : tb_Lf 13 168 1 := ⟨_, _, _, _, _, pm_X12_init, rfl, pn_12, by decide +kernel, by decide, (tg tw_13 rfl), fun q => absurd q (by decide), fun q => absurd q (by decide), fun _ => ⟨rfl, (tg tw_1200 rfl), rfl⟩⟩
