def wj_M_number_120 (post : Int32 → Int32 → Int32 → Int32 → Int32 → Int64 → Int64 → (Nat → Int32) → (Nat → Int32) → (Nat → Int32) → (Nat → Int32) → Prop) (r11 : Int32) (code_12 : Int32) (funs_13 : Int32) (made_3 : Int32) (great_4 : Int32) (up : Int64) (down : Int64) (size_14 : (Nat → Int32)) (rows_15 : (Nat → Int32)) (work : (Nat → Int32)) (xx_6 : (Nat → Int32)) : Prop :=
  post r11 code_12 funs_13 made_3 great_4 up down size_14 rows_15 work xx_6
def wj_M_number_99 (funs : Int32) (code : Int32) (made_3 : Int32) (great_4 : Int32) (size : (Nat → Int32)) (rows : (Nat → Int32)) (work : (Nat → Int32)) (post : Int32 → Int32 → Int32 → Int32 → Int32 → Int64 → Int64 → (Nat → Int32) → (Nat → Int32) → (Nat → Int32) → (Nat → Int32) → Prop) (up : Int64) (down : Int64) (xx_6 : (Nat → Int32)) : Prop :=
  (¬ funs = 80 → (wp_M_keep code funs made_3 great_4 size rows work (fun r11 code_12 funs_13 size_14 rows_15 => wj_M_number_120 post r11 code_12 funs_13 made_3 great_4 up down size_14 rows_15 work xx_6))) ∧ (funs = 80 → (wp_M_raise code 2 (fun r17 code_18 => wj_M_number_120 post r17 code_18 funs made_3 great_4 up down size rows work xx_6)))
def wj_M_number_94 (xx_26 : (Nat → Int32)) (down_21 : Int64) (made_3 : Int32) (great_23 : Int32) (up_20 : Int64) (work : (Nat → Int32)) (funs : Int32) (code : Int32) (size : (Nat → Int32)) (rows : (Nat → Int32)) (post : Int32 → Int32 → Int32 → Int32 → Int32 → Int64 → Int64 → (Nat → Int32) → (Nat → Int32) → (Nat → Int32) → (Nat → Int32) → Prop) : Prop :=
  vp_in 6 7 ∧ (∀ xx_29 : (Nat → Int32), xx_29 = upd xx_26 (6 : Int32).toNatClampNeg (down_21.toInt32) → (wp_M_put made_3 great_23 up_20 down_21 work xx_29 (fun made_31 great_32 up_33 down_34 work_35 => wj_M_number_99 funs code made_31 great_32 size rows work_35 post up_33 down_34 xx_29)))
def wj_M_number_94_2 (xx_26 : (Nat → Int32)) (made_3 : Int32) (great_23 : Int32) (up_20 : Int64) (down_21 : Int64) (work : (Nat → Int32)) (funs : Int32) (code : Int32) (size : (Nat → Int32)) (rows : (Nat → Int32)) (post : Int32 → Int32 → Int32 → Int32 → Int32 → Int64 → Int64 → (Nat → Int32) → (Nat → Int32) → (Nat → Int32) → (Nat → Int32) → Prop) : Prop :=
  vp_in 6 7 ∧ (∀ xx_47 : (Nat → Int32), xx_47 = upd xx_26 (6 : Int32).toNatClampNeg 1 → (wp_M_put made_3 great_23 up_20 down_21 work xx_47 (fun made_49 great_50 up_51 down_52 work_53 => wj_M_number_99 funs code made_49 great_50 size rows work_53 post up_51 down_52 xx_47)))
def wj_M_number_71 (xx_6 : (Nat → Int32)) (up_20 : Int64) (great_23 : Int32) (down_21 : Int64) (made_3 : Int32) (work : (Nat → Int32)) (funs : Int32) (code : Int32) (size : (Nat → Int32)) (rows : (Nat → Int32)) (post : Int32 → Int32 → Int32 → Int32 → Int32 → Int64 → Int64 → (Nat → Int32) → (Nat → Int32) → (Nat → Int32) → (Nat → Int32) → Prop) : Prop :=
  vp_in 5 7 ∧ (∀ xx_26 : (Nat → Int32), xx_26 = upd xx_6 (5 : Int32).toNatClampNeg (up_20.toInt32) → ((great_23 = 0 → (wj_M_number_94 xx_26 down_21 made_3 great_23 up_20 work funs code size rows post)) ∧ (¬ great_23 = 0 → (wj_M_number_94_2 xx_26 made_3 great_23 up_20 down_21 work funs code size rows post))))
def wj_M_number_71_2 (xx_6 : (Nat → Int32)) (great_23 : Int32) (down_21 : Int64) (made_3 : Int32) (up_20 : Int64) (work : (Nat → Int32)) (funs : Int32) (code : Int32) (size : (Nat → Int32)) (rows : (Nat → Int32)) (post : Int32 → Int32 → Int32 → Int32 → Int32 → Int64 → Int64 → (Nat → Int32) → (Nat → Int32) → (Nat → Int32) → (Nat → Int32) → Prop) : Prop :=
  vp_in 5 7 ∧ (∀ xx_65 : (Nat → Int32), xx_65 = upd xx_6 (5 : Int32).toNatClampNeg 1 → ((great_23 = 0 → (wj_M_number_94 xx_65 down_21 made_3 great_23 up_20 work funs code size rows post)) ∧ (¬ great_23 = 0 → (wj_M_number_94_2 xx_65 made_3 great_23 up_20 down_21 work funs code size rows post))))
def wb_M_number_16 (p0 : Int32) (funs : Int32) (code : Int32) (made_3 : Int32) (great_4 : Int32) (size : (Nat → Int32)) (rows : (Nat → Int32)) (work : (Nat → Int32)) (post : Int32 → Int32 → Int32 → Int32 → Int32 → Int64 → Int64 → (Nat → Int32) → (Nat → Int32) → (Nat → Int32) → (Nat → Int32) → Prop) (up : Int64) (down : Int64) (p1 : Int32) : (Int32 → (Nat → Int32) → Prop) → Int32 → (Nat → Int32) → Prop :=
  fun ih_16 v3_5 xx_6 =>
  (5 ≤ v3_5 → ((p0 = 0 → (wj_M_number_99 funs code made_3 great_4 size rows work post up down xx_6)) ∧ (¬ p0 = 0 → (wp_M_lowest up down (p0.toInt64) (p1.toInt64) (fun up_20 down_21 => wp_M_bound great_4 up_20 down_21 (fun great_23 => (great_23 = 0 → (wj_M_number_71 xx_6 up_20 great_23 down_21 made_3 work funs code size rows post)) ∧ (¬ great_23 = 0 → (wj_M_number_71_2 xx_6 great_23 down_21 made_3 up_20 work funs code size rows post)))))))) ∧ (¬ 5 ≤ v3_5 → (vp_in v3_5 7 ∧ (∀ xx_104 : (Nat → Int32), xx_104 = upd xx_6 v3_5.toNatClampNeg 0 → (∀ x105 : Int32, x105 = v3_5 + 1 → (ih_16 x105 xx_104)))))
def wp_M_number (code : Int32) (funs : Int32) (made : Int32) (great : Int32) (up : Int64) (down : Int64) (size : (Nat → Int32)) (rows : (Nat → Int32)) (work : (Nat → Int32)) (xx : (Nat → Int32)) (p0 : Int32) (p1 : Int32) (post : Int32 → Int32 → Int32 → Int32 → Int32 → Int64 → Int64 → (Nat → Int32) → (Nat → Int32) → (Nat → Int32) → (Nat → Int32) → Prop) : Prop :=
  (¬ p1 = 0 → (wp_M_start made great (fun made_3 great_4 => ∃ n : Nat, lpW2 (wb_M_number_16 p0 funs code made_3 great_4 size rows work post up down p1) n (0 : Int32) xx))) ∧ (p1 = 0 → (wp_M_raise code 1 (fun r107 code_108 => post r107 code_108 funs made great up down size rows work xx)))
def wj_M_letter_69 (v2_8 : Int32) (xx_9 : (Nat → Int32)) (ih_49 : Int32 → (Nat → Int32) → Prop) : Prop :=
  vp_in v2_8 7 ∧ (∀ xx_29 : (Nat → Int32), xx_29 = upd xx_9 v2_8.toNatClampNeg 0 → (∀ x30 : Int32, x30 = v2_8 + 1 → (ih_49 x30 xx_29)))
def wj_M_letter_69_2 (v2_8 : Int32) (xx_9 : (Nat → Int32)) (ih_49 : Int32 → (Nat → Int32) → Prop) : Prop :=
  vp_in v2_8 7 ∧ (∀ xx_32 : (Nat → Int32), xx_32 = upd xx_9 v2_8.toNatClampNeg 1 → (∀ x33 : Int32, x33 = v2_8 + 1 → (ih_49 x33 xx_32)))
def wb_M_letter_49 (made_6 : Int32) (great_7 : Int32) (up : Int64) (down : Int64) (work : (Nat → Int32)) (funs : Int32) (size : (Nat → Int32)) (rows : (Nat → Int32)) (post : Int32 → Int32 → Int32 → Int32 → Int32 → Int64 → Int64 → (Nat → Int32) → (Nat → Int32) → (Nat → Int32) → (Nat → Int32) → Prop) (p0 : Int32) : (Int32 → (Nat → Int32) → Prop) → Int32 → (Nat → Int32) → Prop :=
  fun ih_49 v2_8 xx_9 =>
  (5 ≤ v2_8 → (vp_in 5 7 ∧ (∀ xx_12 : (Nat → Int32), xx_12 = upd xx_9 (5 : Int32).toNatClampNeg 1 → (vp_in 6 7 ∧ (∀ xx_14 : (Nat → Int32), xx_14 = upd xx_12 (6 : Int32).toNatClampNeg 1 → (wp_M_put made_6 great_7 up down work xx_14 (fun made_16 great_17 up_18 down_19 work_20 => wp_M_keep 0 funs made_16 great_17 size rows work_20 (fun r22 code_23 funs_24 size_25 rows_26 => post r22 code_23 funs_24 made_16 great_17 up_18 down_19 size_25 rows_26 work_20 xx_14)))))))) ∧ (¬ 5 ≤ v2_8 → ((¬ v2_8 = p0 → (wj_M_letter_69 v2_8 xx_9 ih_49)) ∧ (v2_8 = p0 → (wj_M_letter_69_2 v2_8 xx_9 ih_49))))
def wj_M_letter_31 (made : Int32) (great : Int32) (up : Int64) (down : Int64) (work : (Nat → Int32)) (funs : Int32) (size : (Nat → Int32)) (rows : (Nat → Int32)) (post : Int32 → Int32 → Int32 → Int32 → Int32 → Int64 → Int64 → (Nat → Int32) → (Nat → Int32) → (Nat → Int32) → (Nat → Int32) → Prop) (p0 : Int32) (xx : (Nat → Int32)) : Prop :=
  wp_M_start made great (fun made_6 great_7 => ∃ n : Nat, lpW2 (wb_M_letter_49 made_6 great_7 up down work funs size rows post p0) n (0 : Int32) xx)
def wp_M_letter (code : Int32) (funs : Int32) (made : Int32) (great : Int32) (up : Int64) (down : Int64) (size : (Nat → Int32)) (rows : (Nat → Int32)) (work : (Nat → Int32)) (xx : (Nat → Int32)) (p0 : Int32) (post : Int32 → Int32 → Int32 → Int32 → Int32 → Int64 → Int64 → (Nat → Int32) → (Nat → Int32) → (Nat → Int32) → (Nat → Int32) → Prop) : Prop :=
  wp_M_in (p0.toInt64) 0 4 (fun r2 => (¬ r2 = 0 → ((¬ funs = 80 → (wj_M_letter_31 made great up down work funs size rows post p0 xx)) ∧ (funs = 80 → (post 0 2 funs made great up down size rows work xx)))) ∧ (r2 = 0 → (post 0 1 funs made great up down size rows work xx)))
def wb_M_add_45 (p1 : Int32) (size : (Nat → Int32)) (code_3 : Int32) (funs : Int32) (rows : (Nat → Int32)) (post : Int32 → Int32 → Int32 → Int32 → Int32 → Int64 → Int64 → (Nat → Int32) → (Nat → Int32) → (Nat → Int32) → (Nat → Int32) → Prop) : (Int32 → Int32 → Int32 → Int64 → Int64 → (Nat → Int32) → (Nat → Int32) → Prop) → Int32 → Int32 → Int32 → Int64 → Int64 → (Nat → Int32) → (Nat → Int32) → Prop :=
  fun ih_45 v3_17 made_18 great_19 up_20 down_21 work_22 xx_23 =>
  vp_in p1 80 ∧ (((size p1.toNatClampNeg) ≤ v3_17 → (wp_M_keep code_3 funs made_18 great_19 size rows work_22 (fun r27 code_28 funs_29 size_30 rows_31 => post r27 code_28 funs_29 made_18 great_19 up_20 down_21 size_30 rows_31 work_22 xx_23))) ∧ (¬ (size p1.toNatClampNeg) ≤ v3_17 → (wp_M_load rows xx_23 p1 v3_17 (fun xx_33 => wp_M_put made_18 great_19 up_20 down_21 work_22 xx_33 (fun made_35 great_36 up_37 down_38 work_39 => ∀ x40 : Int32, x40 = v3_17 + 1 → (ih_45 x40 made_35 great_36 up_37 down_38 work_39 xx_33))))))
def wb_M_add_17 (p0 : Int32) (size : (Nat → Int32)) (p1 : Int32) (code_3 : Int32) (funs : Int32) (rows : (Nat → Int32)) (post : Int32 → Int32 → Int32 → Int32 → Int32 → Int64 → Int64 → (Nat → Int32) → (Nat → Int32) → (Nat → Int32) → (Nat → Int32) → Prop) : (Int32 → Int32 → Int32 → Int64 → Int64 → (Nat → Int32) → (Nat → Int32) → Prop) → Int32 → Int32 → Int32 → Int64 → Int64 → (Nat → Int32) → (Nat → Int32) → Prop :=
  fun ih_17 v3_8 made_9 great_10 up_11 down_12 work_13 xx_14 =>
  vp_in p0 80 ∧ (((size p0.toNatClampNeg) ≤ v3_8 → (∃ n : Nat, lpW7 (wb_M_add_45 p1 size code_3 funs rows post) n (0 : Int32) made_9 great_10 up_11 down_12 work_13 xx_14)) ∧ (¬ (size p0.toNatClampNeg) ≤ v3_8 → (wp_M_load rows xx_14 p0 v3_8 (fun xx_42 => wp_M_put made_9 great_10 up_11 down_12 work_13 xx_42 (fun made_44 great_45 up_46 down_47 work_48 => ∀ x49 : Int32, x49 = v3_8 + 1 → (ih_17 x49 made_44 great_45 up_46 down_47 work_48 xx_42))))))
def wp_M_add (code : Int32) (funs : Int32) (made : Int32) (great : Int32) (up : Int64) (down : Int64) (size : (Nat → Int32)) (rows : (Nat → Int32)) (work : (Nat → Int32)) (xx : (Nat → Int32)) (p0 : Int32) (p1 : Int32) (post : Int32 → Int32 → Int32 → Int32 → Int32 → Int64 → Int64 → (Nat → Int32) → (Nat → Int32) → (Nat → Int32) → (Nat → Int32) → Prop) : Prop :=
  wp_M_may code funs p0 p1 (fun r2 code_3 => (¬ r2 = 0 → (wp_M_start made great (fun made_6 great_7 => ∃ n : Nat, lpW7 (wb_M_add_17 p0 size p1 code_3 funs rows post) n (0 : Int32) made_6 great_7 up down work xx))) ∧ (r2 = 0 → (post 0 code_3 funs made great up down size rows work xx)))
def wb_M_multiply_9 (rows : (Nat → Int32)) (p2 : Int32) (p3 : Int32) (great : Int32) (up : Int64) (down : Int64) (post : Int32 → Int64 → Int64 → (Nat → Int32) → Prop) : (Int32 → (Nat → Int32) → Prop) → Int32 → (Nat → Int32) → Prop :=
  fun ih_9 v5_3 xx_4 =>
  (5 ≤ v5_3 → (wp_M_at rows p2 p3 5 (fun r7 => wp_M_at rows p2 p3 6 (fun r9 => wp_M_scale great up down xx_4 (r7.toInt64) (r9.toInt64) (fun great_11 up_12 down_13 xx_14 => post great_11 up_12 down_13 xx_14))))) ∧ (¬ 5 ≤ v5_3 → (vp_in v5_3 7 ∧ (wp_M_at rows p2 p3 v5_3 (fun r17 => vp_in v5_3 7 ∧ (∀ xx_19 : (Nat → Int32), xx_19 = upd xx_4 v5_3.toNatClampNeg ((xx_4 v5_3.toNatClampNeg) + r17) → (∀ x20 : Int32, x20 = v5_3 + 1 → (ih_9 x20 xx_19)))))))
def wp_M_multiply (great : Int32) (up : Int64) (down : Int64) (rows : (Nat → Int32)) (xx : (Nat → Int32)) (p0 : Int32) (p1 : Int32) (p2 : Int32) (p3 : Int32) (post : Int32 → Int64 → Int64 → (Nat → Int32) → Prop) : Prop :=
  wp_M_load rows xx p0 p1 (fun xx_2 => ∃ n : Nat, lpW2 (wb_M_multiply_9 rows p2 p3 great up down post) n (0 : Int32) xx_2)
def wj_M_times_67 (v3_8 : Int32) (ih_17 : Int32 → Int32 → Int32 → Int64 → Int64 → (Nat → Int32) → (Nat → Int32) → Prop) (made_24 : Int32) (great_25 : Int32) (up_26 : Int64) (down_27 : Int64) (work_28 : (Nat → Int32)) (xx_29 : (Nat → Int32)) : Prop :=
  ∀ x32 : Int32, x32 = v3_8 + 1 → (ih_17 x32 made_24 great_25 up_26 down_27 work_28 xx_29)
def wb_M_times_30 (p1 : Int32) (size : (Nat → Int32)) (v3_8 : Int32) (ih_17 : Int32 → Int32 → Int32 → Int64 → Int64 → (Nat → Int32) → (Nat → Int32) → Prop) (rows : (Nat → Int32)) (p0 : Int32) : (Int32 → Int32 → Int32 → Int64 → Int64 → (Nat → Int32) → (Nat → Int32) → Prop) → Int32 → Int32 → Int32 → Int64 → Int64 → (Nat → Int32) → (Nat → Int32) → Prop :=
  fun ih_30 v4_23 made_24 great_25 up_26 down_27 work_28 xx_29 =>
  vp_in p1 80 ∧ (((size p1.toNatClampNeg) ≤ v4_23 → (wj_M_times_67 v3_8 ih_17 made_24 great_25 up_26 down_27 work_28 xx_29)) ∧ (¬ (size p1.toNatClampNeg) ≤ v4_23 → ((¬ great_25 = 0 → (wj_M_times_67 v3_8 ih_17 made_24 great_25 up_26 down_27 work_28 xx_29)) ∧ (great_25 = 0 → (wp_M_multiply great_25 up_26 down_27 rows xx_29 p0 v3_8 p1 v4_23 (fun great_36 up_37 down_38 xx_39 => wp_M_put made_24 great_36 up_37 down_38 work_28 xx_39 (fun made_41 great_42 up_43 down_44 work_45 => ∀ x46 : Int32, x46 = v4_23 + 1 → (ih_30 x46 made_41 great_42 up_43 down_44 work_45 xx_39))))))))
def wb_M_times_17 (p0 : Int32) (size : (Nat → Int32)) (code_3 : Int32) (funs : Int32) (rows : (Nat → Int32)) (post : Int32 → Int32 → Int32 → Int32 → Int32 → Int64 → Int64 → (Nat → Int32) → (Nat → Int32) → (Nat → Int32) → (Nat → Int32) → Prop) (p1 : Int32) : (Int32 → Int32 → Int32 → Int64 → Int64 → (Nat → Int32) → (Nat → Int32) → Prop) → Int32 → Int32 → Int32 → Int64 → Int64 → (Nat → Int32) → (Nat → Int32) → Prop :=
  fun ih_17 v3_8 made_9 great_10 up_11 down_12 work_13 xx_14 =>
  vp_in p0 80 ∧ (((size p0.toNatClampNeg) ≤ v3_8 → (wp_M_keep code_3 funs made_9 great_10 size rows work_13 (fun r18 code_19 funs_20 size_21 rows_22 => post r18 code_19 funs_20 made_9 great_10 up_11 down_12 size_21 rows_22 work_13 xx_14))) ∧ (¬ (size p0.toNatClampNeg) ≤ v3_8 → (∃ n : Nat, lpW7 (wb_M_times_30 p1 size v3_8 ih_17 rows p0) n (0 : Int32) made_9 great_10 up_11 down_12 work_13 xx_14)))
def wp_M_times (code : Int32) (funs : Int32) (made : Int32) (great : Int32) (up : Int64) (down : Int64) (size : (Nat → Int32)) (rows : (Nat → Int32)) (work : (Nat → Int32)) (xx : (Nat → Int32)) (p0 : Int32) (p1 : Int32) (post : Int32 → Int32 → Int32 → Int32 → Int32 → Int64 → Int64 → (Nat → Int32) → (Nat → Int32) → (Nat → Int32) → (Nat → Int32) → Prop) : Prop :=
  wp_M_may code funs p0 p1 (fun r2 code_3 => (¬ r2 = 0 → (wp_M_start made great (fun made_6 great_7 => ∃ n : Nat, lpW7 (wb_M_times_17 p0 size code_3 funs rows post p1) n (0 : Int32) made_6 great_7 up down work xx))) ∧ (r2 = 0 → (post 0 code_3 funs made great up down size rows work xx)))
def wj_M_over_140 (code_3 : Int32) (funs : Int32) (made_11 : Int32) (great_12 : Int32) (size : (Nat → Int32)) (rows : (Nat → Int32)) (work_15 : (Nat → Int32)) (post : Int32 → Int32 → Int32 → Int32 → Int32 → Int64 → Int64 → (Nat → Int32) → (Nat → Int32) → (Nat → Int32) → (Nat → Int32) → Prop) (up_13 : Int64) (down_14 : Int64) (xx_16 : (Nat → Int32)) : Prop :=
  wp_M_keep code_3 funs made_11 great_12 size rows work_15 (fun r20 code_21 funs_22 size_23 rows_24 => post r20 code_21 funs_22 made_11 great_12 up_13 down_14 size_23 rows_24 work_15 xx_16)
def wj_M_over_122 (x39 : Int64) (great_12 : Int32) (up_13 : Int64) (down_14 : Int64) (xx_35 : (Nat → Int32)) (x42 : Int64) (made_11 : Int32) (work_15 : (Nat → Int32)) (v3_10 : Int32) (ih_29 : Int32 → Int32 → Int32 → Int64 → Int64 → (Nat → Int32) → (Nat → Int32) → Prop) : Prop :=
  wp_M_size x39 (fun r45 => wp_M_scale great_12 up_13 down_14 xx_35 x42 r45 (fun great_47 up_48 down_49 xx_50 => wp_M_put made_11 great_47 up_48 down_49 work_15 xx_50 (fun made_52 great_53 up_54 down_55 work_56 => ∀ x57 : Int32, x57 = v3_10 + 1 → (ih_29 x57 made_52 great_53 up_54 down_55 work_56 xx_50))))
def wj_M_over_122_2 (x39 : Int64) (great_12 : Int32) (up_13 : Int64) (down_14 : Int64) (xx_35 : (Nat → Int32)) (x42 : Int64) (made_11 : Int32) (work_15 : (Nat → Int32)) (v3_10 : Int32) (ih_29 : Int32 → Int32 → Int32 → Int64 → Int64 → (Nat → Int32) → (Nat → Int32) → Prop) : Prop :=
  wp_M_size x39 (fun r59 => wp_M_scale great_12 up_13 down_14 xx_35 (-x42) r59 (fun great_61 up_62 down_63 xx_64 => wp_M_put made_11 great_61 up_62 down_63 work_15 xx_64 (fun made_66 great_67 up_68 down_69 work_70 => ∀ x71 : Int32, x71 = v3_10 + 1 → (ih_29 x71 made_66 great_67 up_68 down_69 work_70 xx_64))))
def wb_M_over_55 (rows : (Nat → Int32)) (p1 : Int32) (great_12 : Int32) (up_13 : Int64) (down_14 : Int64) (made_11 : Int32) (work_15 : (Nat → Int32)) (v3_10 : Int32) (ih_29 : Int32 → Int32 → Int32 → Int64 → Int64 → (Nat → Int32) → (Nat → Int32) → Prop) : (Int32 → (Nat → Int32) → Prop) → Int32 → (Nat → Int32) → Prop :=
  fun ih_55 v4_34 xx_35 =>
  (5 ≤ v4_34 → (wp_M_at rows p1 0 5 (fun r38 => ∀ x39 : Int64, x39 = r38.toInt64 → (wp_M_at rows p1 0 6 (fun r41 => ∀ x42 : Int64, x42 = r41.toInt64 → ((0 ≤ (lg_cmp x39 0) → (wj_M_over_122 x39 great_12 up_13 down_14 xx_35 x42 made_11 work_15 v3_10 ih_29)) ∧ (¬ 0 ≤ (lg_cmp x39 0) → (wj_M_over_122_2 x39 great_12 up_13 down_14 xx_35 x42 made_11 work_15 v3_10 ih_29)))))))) ∧ (¬ 5 ≤ v4_34 → (vp_in v4_34 7 ∧ (wp_M_at rows p1 0 v4_34 (fun r74 => vp_in v4_34 7 ∧ (∀ xx_76 : (Nat → Int32), xx_76 = upd xx_35 v4_34.toNatClampNeg ((xx_35 v4_34.toNatClampNeg) - r74) → (∀ x77 : Int32, x77 = v4_34 + 1 → (ih_55 x77 xx_76)))))))
def wb_M_over_29 (p0 : Int32) (size : (Nat → Int32)) (code_3 : Int32) (funs : Int32) (rows : (Nat → Int32)) (post : Int32 → Int32 → Int32 → Int32 → Int32 → Int64 → Int64 → (Nat → Int32) → (Nat → Int32) → (Nat → Int32) → (Nat → Int32) → Prop) (p1 : Int32) : (Int32 → Int32 → Int32 → Int64 → Int64 → (Nat → Int32) → (Nat → Int32) → Prop) → Int32 → Int32 → Int32 → Int64 → Int64 → (Nat → Int32) → (Nat → Int32) → Prop :=
  fun ih_29 v3_10 made_11 great_12 up_13 down_14 work_15 xx_16 =>
  vp_in p0 80 ∧ (((size p0.toNatClampNeg) ≤ v3_10 → (wj_M_over_140 code_3 funs made_11 great_12 size rows work_15 post up_13 down_14 xx_16)) ∧ (¬ (size p0.toNatClampNeg) ≤ v3_10 → ((¬ great_12 = 0 → (wj_M_over_140 code_3 funs made_11 great_12 size rows work_15 post up_13 down_14 xx_16)) ∧ (great_12 = 0 → (wp_M_load rows xx_16 p0 v3_10 (fun xx_33 => ∃ n : Nat, lpW2 (wb_M_over_55 rows p1 great_12 up_13 down_14 made_11 work_15 v3_10 ih_29) n (0 : Int32) xx_33))))))
def wp_M_over (code : Int32) (funs : Int32) (made : Int32) (great : Int32) (up : Int64) (down : Int64) (size : (Nat → Int32)) (rows : (Nat → Int32)) (work : (Nat → Int32)) (xx : (Nat → Int32)) (p0 : Int32) (p1 : Int32) (post : Int32 → Int32 → Int32 → Int32 → Int32 → Int64 → Int64 → (Nat → Int32) → (Nat → Int32) → (Nat → Int32) → (Nat → Int32) → Prop) : Prop :=
  wp_M_may code funs p0 p1 (fun r2 code_3 => (¬ r2 = 0 → (vp_in p1 80 ∧ (((size p1.toNatClampNeg) = 1 → (wp_M_start made great (fun made_8 great_9 => ∃ n : Nat, lpW7 (wb_M_over_29 p0 size code_3 funs rows post p1) n (0 : Int32) made_8 great_9 up down work xx))) ∧ (¬ (size p1.toNatClampNeg) = 1 → (post (-1) code_3 funs made great up down size rows work xx))))) ∧ (r2 = 0 → (post 0 code_3 funs made great up down size rows work xx)))
set_option maxHeartbeats 4000000 in
set_option maxRecDepth 100000 in
theorem c_M_number (l : Launch) (D : va_G) (m0 m1 m2 m3 m4 m5 : Nat) (k1 k2 k3 k4 k5 : ClassId) (sz : Nat) (code : Int32) (funs : Int32) (made : Int32) (great : Int32) (up : Int64) (down : Int64) (size : (Nat → Int32)) (rows : (Nat → Int32)) (work : (Nat → Int32)) (xx : (Nat → Int32)) (power : (Nat → Int32)) (p0 : Int32) (p1 : Int32) (post : Int32 → Int32 → Int32 → Int32 → Int32 → Int64 → Int64 → (Nat → Int32) → (Nat → Int32) → (Nat → Int32) → (Nat → Int32) → Prop) : Met l y_M_number (Cond.code y_M_number b_M_number 4 (some .int) :: BIG) ({ frames := 4, cells := 0, slots := 0, locals := 102 }) (va_Pc [.ref m0, .int p0, .int p1] (pcG D vwCl (wM m0 m1 m2 m3 m4 m5 k1 k2 k3 k4 k5 code funs made great up down size rows work xx power) [(k1, .int), (k2, .int), (k3, .int), (k4, .int), (k5, .int)] sz (wp_M_number code funs made great up down size rows work xx p0 p1 post))) (va_Qi (fun (r : Int32) (u : Int32 × Int32 × Int32 × Int32 × Int64 × Int64 × (Nat → Int32) × (Nat → Int32) × (Nat → Int32) × (Nat → Int32)) => post r (u.1) (u.2.1) (u.2.2.1) (u.2.2.2.1) (u.2.2.2.2.1) (u.2.2.2.2.2.1) (u.2.2.2.2.2.2.1) (u.2.2.2.2.2.2.2.1) (u.2.2.2.2.2.2.2.2.1) (u.2.2.2.2.2.2.2.2.2)) (fun u => atG D vwCl [(k1, .int), (k2, .int), (k3, .int), (k4, .int), (k5, .int)] (va_A (wM m0 m1 m2 m3 m4 m5 k1 k2 k3 k4 k5 code funs made great up down size rows work xx power) sz) (wM m0 m1 m2 m3 m4 m5 k1 k2 k3 k4 k5 (u.1) (u.2.1) (u.2.2.1) (u.2.2.2.1) (u.2.2.2.2.1) (u.2.2.2.2.2.1) (u.2.2.2.2.2.2.1) (u.2.2.2.2.2.2.2.1) (u.2.2.2.2.2.2.2.2.1) (u.2.2.2.2.2.2.2.2.2) power)) (va_A (wM m0 m1 m2 m3 m4 m5 k1 k2 k3 k4 k5 code funs made great up down size rows work xx power) sz)) 0 0 (va_A (wM m0 m1 m2 m3 m4 m5 k1 k2 k3 k4 k5 code funs made great up down size rows work xx power) sz) := by
  refine Met.ofW (cc := b_M_number) (maxL := 4) (ret := (some .int)) (by decide) rfl ?_
  intro p e s m args below meth c s₁ B hml hv
  obtain ⟨rfl, hsz, hP, hK, hD0, h⟩ := hv
  have hx := B.exec
  have hb := B.bytes
  have hr := B.returns
  have hB : ∀ w ∈ BIG, w.before _ s = true := fun w h => atoms_spec (ws := (Cond.code y_M_number b_M_number 4 (some .int) :: BIG)) B.pre w (List.mem_cons_of_mem _ h)
  have hown : s.vm.findClass R_M = some m.cls := findClass_of_methodNamed B.named
  have hlocks := B.notSynchronized
  subst hsz
  have hD := hD0.self (sz := s.heap.size)
  generalize hAe : va_A (wM m0 m1 m2 m3 m4 m5 k1 k2 k3 k4 k5 code funs made great up down size rows work xx power) s.heap.size = A at hD ⊢
  have hA : ∀ q : Nat, s.heap.size ≤ q → A q := fun q h => by rw [← hAe]; exact Or.inr h
  have hl := lv_entry ([.ref m0, .int p0, .int p1]) (n := 4) (Nat.le_of_ble_eq_true rfl)
  rw [lg_entry_eq]
  generalize (lg_sl ([.ref m0, .int p0, .int p1]) ++ List.replicate (4 - (lg_sl ([.ref m0, .int p0, .int p1])).length) Slot.unset).toArray = ls at hl ⊢
  have hl : lv_has ls 4 [(0, .ref m0), (1, .int p0), (2, .int p1)] := hl
  refine W.cap (fun G Gi Ge => ?_)
  suffices hL : ∀ (H : Heap) (locs : List Loc), va_P D vwCl (wM m0 m1 m2 m3 m4 m5 k1 k2 k3 k4 k5 code funs made great up down size rows work xx power) H → va_S A s.heap H locs → G H locs (F0 m 0 ls []) from hL _ _ hP va_S.rf
  clear hP
  intro H locs hP hS
  refine Gi _ _ _ ?_
  unfold wp_M_number at h
  refine lv_iload_n hx hb d_M_number_0 rfl (lv_at hl 2 rfl) ?_
  refine lv_if_ne (tgt := 10) hx hb d_M_number_1 (by decide) (fun hc1 => ?_) (fun hc1 => ?_)
  · replace h := h.1 hc1
    refine lv_aload_n hx hb d_M_number_10 rfl (lv_at hl 0 rfl) ?_
    have hF2 := va_free (wc := (wM m0 m1 m2 m3 m4 m5 k1 k2 k3 k4 k5 code funs made great up down size rows work xx power)) hD hS hA [0, 1, 2, 3, 4, 5] rfl
    refine va_callv (va_runV (As := []) (rest := []) ⟨hx, hb, hml, hown, hB⟩ (c_M_start l D m0 m1 m2 m3 m4 m5 k1 k2 k3 k4 k5 H.size code funs made great up down size rows work xx power _) (cwV 0 hB (goodV wd_360 wd_361 wd_508 wd_3 wd_362) rfl rfl rfl (by decide +kernel) ⟨Nat.le_of_ble_eq_true rfl, Nat.le_of_ble_eq_true rfl⟩) ⟨pcG_blind, va_recv hK hP (ci := 2) (q0 := 0) rfl rfl, pcG_pre hP hK hD h⟩ rfl rfl hl.1 rfl (lv_room (Nat.le_of_ble_eq_true rfl)) d_M_number_11 ⟨Nat.le_of_ble_eq_true rfl, Nat.le_of_ble_eq_true rfl⟩) hS (fun q _ h => hF2 q h) hF2 (fun u t H locs ht hvm h hB hz1 hk1 hS => ?_)
    obtain ⟨made_3, great_4⟩ := u
    obtain ⟨hP1, hK1, hD1⟩ := hB
    rw [ht] at hP1
    have hP : va_P D vwCl (wM m0 m1 m2 m3 m4 m5 k1 k2 k3 k4 k5 code funs made_3 great_4 up down size rows work xx power) H := hP1
    have hD : va_D A (wM m0 m1 m2 m3 m4 m5 k1 k2 k3 k4 k5 code funs made_3 great_4 up down size rows work xx power) := hD1.weaken (fun _ _ _ hq => hF2 _ hq)
    refine lv_iconst (v := 0) hx hb d_M_number_14 (by decide) ?_
    refine lv_istore_n (lv' := [(3, .int 0), (0, .ref m0), (1, .int p0), (2, .int p1)]) hx hb d_M_number_15 rfl hl (by decide) rfl (fun ls hl => ?_)
    obtain ⟨n16, h⟩ := h
    refine W.cap (fun G16 Gi16 Ge16 => ?_)
    suffices hL16 : ∀ (n16 : Nat) (v3_5 : Int32) (xx_6 : (Nat → Int32)) (H : Heap) (locs : List Loc) (ls : Array Slot), va_P D vwCl (wM m0 m1 m2 m3 m4 m5 k1 k2 k3 k4 k5 code funs made_3 great_4 up down size rows work xx_6 power) H → va_D A (wM m0 m1 m2 m3 m4 m5 k1 k2 k3 k4 k5 code funs made_3 great_4 up down size rows work xx_6 power) → va_S A s.heap H locs → lv_has ls 4 [(3, .int v3_5), (0, .ref m0), (1, .int p0), (2, .int p1)] → lpW2 (wb_M_number_16 p0 funs code made_3 great_4 size rows work post up down p1) n16 v3_5 xx_6 → G16 H locs (F0 m 16 ls []) from hL16 n16 (0 : Int32) xx _ _ _ hP hD hS hl h
    clear h hP hD hS hl
    intro n16
    induction n16 with
    | zero => intro v3_5 xx_6 H locs ls hP hD hS hl h; exact (show False from h).elim
    | succ n16 ihL16 =>
      intro v3_5 xx_6 H locs ls hP hD hS hl h
      replace h : (wb_M_number_16 p0 funs code made_3 great_4 size rows work post up down p1) (lpW2 (wb_M_number_16 p0 funs code made_3 great_4 size rows work post up down p1) n16) v3_5 xx_6 := h
      refine Gi16 _ _ _ ?_
      refine lv_iload_n hx hb d_M_number_16 rfl (lv_at hl 0 rfl) ?_
      refine lv_iconst (v := 5) hx hb d_M_number_17 (by decide) ?_
      refine lv_icmp_ge (tgt := 34) hx hb d_M_number_18 (by decide) (fun hc7 => ?_) (fun hc7 => ?_)
      · replace h := h.1 hc7
        refine lv_iload_n hx hb d_M_number_34 rfl (lv_at hl 2 rfl) ?_
        refine lv_if_eq (tgt := 99) hx hb d_M_number_35 (by decide) (fun hc8 => ?_) (fun hc8 => ?_)
        · replace h := h.1 hc8
          refine lv_aload_n hx hb d_M_number_99 rfl (lv_at hl 1 rfl) ?_
          refine va_get (D := D) (ci := 2) (v := .int funs) (C := R_M) (T := F_M) (N := 11) hx hb hB inF_M hown hK hP 0 rfl rfl 1 (by decide) (hB _ wd_339) (fun _ h9 => h9) rfl d_M_number_100 ?_
          refine lv_bipush (v := 80) hx hb d_M_number_103 (by decide) ?_
          refine lv_icmp_ne (tgt := 116) hx hb d_M_number_105 (by decide) (fun hc9 => ?_) (fun hc9 => ?_)
          · replace h := h.1 hc9
            refine lv_aload_n hx hb d_M_number_116 rfl (lv_at hl 1 rfl) ?_
            have hF10 := va_free (wc := (wM m0 m1 m2 m3 m4 m5 k1 k2 k3 k4 k5 code funs made_3 great_4 up down size rows work xx_6 power)) hD hS hA [0, 1, 2, 3, 4, 5] rfl
            refine va_calli (va_runV (As := []) (rest := []) ⟨hx, hb, hml, hown, hB⟩ (c_M_keep l D m0 m1 m2 m3 m4 m5 k1 k2 k3 k4 k5 H.size code funs made_3 great_4 up down size rows work xx_6 power _) (cwV 0 hB (goodV wd_387 wd_388 wd_513 wd_3 wd_389) rfl rfl rfl (by decide +kernel) ⟨Nat.le_of_ble_eq_true rfl, Nat.le_of_ble_eq_true rfl⟩) ⟨pcG_blind, va_recv hK hP (ci := 2) (q0 := 0) rfl rfl, pcG_pre hP hK hD h⟩ rfl rfl hl.1 rfl (lv_room (Nat.le_of_ble_eq_true rfl)) d_M_number_117 ⟨Nat.le_of_ble_eq_true rfl, Nat.le_of_ble_eq_true rfl⟩) hS (fun q _ h => hF10 q h) hF10 (fun r11 u t H locs ht hvm h hB hz1 hk1 hS => ?_)
            obtain ⟨code_12, funs_13, size_14, rows_15⟩ := u
            obtain ⟨hP1, hK1, hD1⟩ := hB
            rw [ht] at hP1
            have hP : va_P D vwCl (wM m0 m1 m2 m3 m4 m5 k1 k2 k3 k4 k5 code_12 funs_13 made_3 great_4 up down size_14 rows_15 work xx_6 power) H := hP1
            have hD : va_D A (wM m0 m1 m2 m3 m4 m5 k1 k2 k3 k4 k5 code_12 funs_13 made_3 great_4 up down size_14 rows_15 work xx_6 power) := hD1.weaken (fun _ _ _ hq => hF10 _ hq)
            exact W.iret (v := r11) hx hb hr (fun t ht hW => ⟨⟨r11, (code_12, funs_13, made_3, great_4, up, down, size_14, rows_15, work, xx_6), rfl, h, by rw [ht]; exact hP, va_K.moved hW.alike hK, hD⟩, hS.F ht⟩) hS.2.2 d_M_number_120
          · replace h := h.2 hc9
            refine lv_aload_n hx hb d_M_number_108 rfl (lv_at hl 1 rfl) ?_
            refine lv_iconst (v := 2) hx hb d_M_number_109 (by decide) ?_
            have hF16 := va_free (wc := (wM m0 m1 m2 m3 m4 m5 k1 k2 k3 k4 k5 code funs made_3 great_4 up down size rows work xx_6 power)) hD hS hA [0, 1, 2, 3, 4, 5] rfl
            refine va_calli (va_runV (As := [.int 2]) (rest := []) ⟨hx, hb, hml, hown, hB⟩ (c_M_raise l D m0 m1 m2 m3 m4 m5 k1 k2 k3 k4 k5 H.size code funs made_3 great_4 up down size rows work xx_6 power 2 _) (cwV 1 hB (goodV wd_357 wd_358 wd_507 wd_3 wd_359) rfl rfl rfl (by decide +kernel) ⟨Nat.le_of_ble_eq_true rfl, Nat.le_of_ble_eq_true rfl⟩) ⟨pcG_blind, va_recv hK hP (ci := 2) (q0 := 0) rfl rfl, pcG_pre hP hK hD h⟩ rfl rfl hl.1 rfl (lv_room (Nat.le_of_ble_eq_true rfl)) d_M_number_110 ⟨Nat.le_of_ble_eq_true rfl, Nat.le_of_ble_eq_true rfl⟩) hS (fun q _ h => hF16 q h) hF16 (fun r17 code_18 t H locs ht hvm h hB hz1 hk1 hS => ?_)
            obtain ⟨hP1, hK1, hD1⟩ := hB
            rw [ht] at hP1
            have hP : va_P D vwCl (wM m0 m1 m2 m3 m4 m5 k1 k2 k3 k4 k5 code_18 funs made_3 great_4 up down size rows work xx_6 power) H := hP1
            have hD : va_D A (wM m0 m1 m2 m3 m4 m5 k1 k2 k3 k4 k5 code_18 funs made_3 great_4 up down size rows work xx_6 power) := hD1.weaken (fun _ _ _ hq => hF16 _ hq)
            refine lv_goto (tgt := 120) hx hb d_M_number_113 (by decide) ?_
            exact W.iret (v := r17) hx hb hr (fun t ht hW => ⟨⟨r17, (code_18, funs, made_3, great_4, up, down, size, rows, work, xx_6), rfl, h, by rw [ht]; exact hP, va_K.moved hW.alike hK, hD⟩, hS.F ht⟩) hS.2.2 d_M_number_120
        · replace h := h.2 hc8
          refine lv_aload_n hx hb d_M_number_38 rfl (lv_at hl 1 rfl) ?_
          refine lv_iload_n hx hb d_M_number_39 rfl (lv_at hl 2 rfl) ?_
          refine lv_i2l hx hb d_M_number_40 rfl ?_
          refine lv_iload_n hx hb d_M_number_41 rfl (lv_at hl 3 rfl) ?_
          refine lv_i2l hx hb d_M_number_42 rfl ?_
          have hF19 := va_free (wc := (wM m0 m1 m2 m3 m4 m5 k1 k2 k3 k4 k5 code funs made_3 great_4 up down size rows work xx_6 power)) hD hS hA [0, 1, 2, 3, 4, 5] rfl
          refine va_callv (va_runV (As := [.long (p0.toInt64), .long (p1.toInt64)]) (rest := []) ⟨hx, hb, hml, hown, hB⟩ (c_M_lowest l D m0 m1 m2 m3 m4 m5 k1 k2 k3 k4 k5 H.size code funs made_3 great_4 up down size rows work xx_6 power (p0.toInt64) (p1.toInt64) _) (cwV 2 hB (goodV wd_363 wd_364 wd_509 wd_3 wd_365) rfl rfl rfl (by decide +kernel) ⟨Nat.le_of_ble_eq_true rfl, Nat.le_of_ble_eq_true rfl⟩) ⟨pcG_blind, va_recv hK hP (ci := 2) (q0 := 0) rfl rfl, pcG_pre hP hK hD h⟩ rfl rfl hl.1 rfl (lv_room (Nat.le_of_ble_eq_true rfl)) d_M_number_43 ⟨Nat.le_of_ble_eq_true rfl, Nat.le_of_ble_eq_true rfl⟩) hS (fun q _ h => hF19 q h) hF19 (fun u t H locs ht hvm h hB hz1 hk1 hS => ?_)
          obtain ⟨up_20, down_21⟩ := u
          obtain ⟨hP1, hK1, hD1⟩ := hB
          rw [ht] at hP1
          have hP : va_P D vwCl (wM m0 m1 m2 m3 m4 m5 k1 k2 k3 k4 k5 code funs made_3 great_4 up_20 down_21 size rows work xx_6 power) H := hP1
          have hD : va_D A (wM m0 m1 m2 m3 m4 m5 k1 k2 k3 k4 k5 code funs made_3 great_4 up_20 down_21 size rows work xx_6 power) := hD1.weaken (fun _ _ _ hq => hF19 _ hq)
          refine lv_aload_n hx hb d_M_number_46 rfl (lv_at hl 1 rfl) ?_
          have hF22 := va_free (wc := (wM m0 m1 m2 m3 m4 m5 k1 k2 k3 k4 k5 code funs made_3 great_4 up_20 down_21 size rows work xx_6 power)) hD hS hA [0, 1, 2, 3, 4, 5] rfl
          refine va_callv (va_runV (As := []) (rest := []) ⟨hx, hb, hml, hown, hB⟩ (c_M_bound l D m0 m1 m2 m3 m4 m5 k1 k2 k3 k4 k5 H.size code funs made_3 great_4 up_20 down_21 size rows work xx_6 power _) (cwV 0 hB (goodV wd_372 wd_373 wd_510 wd_3 wd_374) rfl rfl rfl (by decide +kernel) ⟨Nat.le_of_ble_eq_true rfl, Nat.le_of_ble_eq_true rfl⟩) ⟨pcG_blind, va_recv hK hP (ci := 2) (q0 := 0) rfl rfl, pcG_pre hP hK hD h⟩ rfl rfl hl.1 rfl (lv_room (Nat.le_of_ble_eq_true rfl)) d_M_number_47 ⟨Nat.le_of_ble_eq_true rfl, Nat.le_of_ble_eq_true rfl⟩) hS (fun q _ h => hF22 q h) hF22 (fun great_23 t H locs ht hvm h hB hz1 hk1 hS => ?_)
          obtain ⟨hP1, hK1, hD1⟩ := hB
          rw [ht] at hP1
          have hP : va_P D vwCl (wM m0 m1 m2 m3 m4 m5 k1 k2 k3 k4 k5 code funs made_3 great_23 up_20 down_21 size rows work xx_6 power) H := hP1
          have hD : va_D A (wM m0 m1 m2 m3 m4 m5 k1 k2 k3 k4 k5 code funs made_3 great_23 up_20 down_21 size rows work xx_6 power) := hD1.weaken (fun _ _ _ hq => hF22 _ hq)
          refine lv_aload_n hx hb d_M_number_50 rfl (lv_at hl 1 rfl) ?_
          refine va_get (D := D) (ci := 2) (v := .ref m4) (C := R_M) (T := F_M) (N := 11) hx hb hB inF_M hown hK hP 0 rfl rfl 7 (by decide) (hB _ wd_345) (fun _ h9 => h9) rfl d_M_number_51 ?_
          refine lv_iconst (v := 5) hx hb d_M_number_54 (by decide) ?_
          refine lv_aload_n hx hb d_M_number_55 rfl (lv_at hl 1 rfl) ?_
          refine va_get (D := D) (ci := 2) (v := .int great_23) (C := R_M) (T := F_M) (N := 11) hx hb hB inF_M hown hK hP 0 rfl rfl 6 (by decide) (hB _ wd_344) (fun _ h9 => h9) rfl d_M_number_56 ?_
          refine lv_if_eq (tgt := 66) hx hb d_M_number_59 (by decide) (fun hc24 => ?_) (fun hc24 => ?_)
          · replace h := h.1 hc24
            refine lv_aload_n hx hb d_M_number_66 rfl (lv_at hl 1 rfl) ?_
            refine va_get (D := D) (ci := 2) (v := .long up_20) (C := R_M) (T := F_M) (N := 11) hx hb hB inF_M hown hK hP 0 rfl rfl 9 (by decide) (hB _ wd_347) (fun _ h9 => h9) rfl d_M_number_67 ?_
            refine lv_l2i hx hb d_M_number_70 rfl ?_
            obtain ⟨g25, h⟩ := h
            obtain ⟨xx_26, exx_26⟩ : ∃ z : (Nat → Int32), z = upd xx_6 (5 : Int32).toNatClampNeg (up_20.toInt32) := ⟨_, rfl⟩
            replace h := h xx_26 exx_26
            refine va_iast hx hb hK hP hD hS 4 3 rfl rfl g25 d_M_number_71 (fun H locs hP hD hS => ?_)
            have hP : va_P D vwCl (wM m0 m1 m2 m3 m4 m5 k1 k2 k3 k4 k5 code funs made_3 great_23 up_20 down_21 size rows work xx_26 power) H := by rw [exx_26]; exact hP
            have hD : va_D A (wM m0 m1 m2 m3 m4 m5 k1 k2 k3 k4 k5 code funs made_3 great_23 up_20 down_21 size rows work xx_26 power) := by rw [exx_26]; exact hD
            refine lv_aload_n hx hb d_M_number_72 rfl (lv_at hl 1 rfl) ?_
            refine va_get (D := D) (ci := 2) (v := .ref m4) (C := R_M) (T := F_M) (N := 11) hx hb hB inF_M hown hK hP 0 rfl rfl 7 (by decide) (hB _ wd_345) (fun _ h9 => h9) rfl d_M_number_73 ?_
            refine lv_bipush (v := 6) hx hb d_M_number_76 (by decide) ?_
            refine lv_aload_n hx hb d_M_number_78 rfl (lv_at hl 1 rfl) ?_
            refine va_get (D := D) (ci := 2) (v := .int great_23) (C := R_M) (T := F_M) (N := 11) hx hb hB inF_M hown hK hP 0 rfl rfl 6 (by decide) (hB _ wd_344) (fun _ h9 => h9) rfl d_M_number_79 ?_
            refine lv_if_eq (tgt := 89) hx hb d_M_number_82 (by decide) (fun hc27 => ?_) (fun hc27 => ?_)
            · replace h := h.1 hc27
              refine lv_aload_n hx hb d_M_number_89 rfl (lv_at hl 1 rfl) ?_
              refine va_get (D := D) (ci := 2) (v := .long down_21) (C := R_M) (T := F_M) (N := 11) hx hb hB inF_M hown hK hP 0 rfl rfl 10 (by decide) (hB _ wd_348) (fun _ h9 => h9) rfl d_M_number_90 ?_
              refine lv_l2i hx hb d_M_number_93 rfl ?_
              obtain ⟨g28, h⟩ := h
              obtain ⟨xx_29, exx_29⟩ : ∃ z : (Nat → Int32), z = upd xx_26 (6 : Int32).toNatClampNeg (down_21.toInt32) := ⟨_, rfl⟩
              replace h := h xx_29 exx_29
              refine va_iast hx hb hK hP hD hS 4 3 rfl rfl g28 d_M_number_94 (fun H locs hP hD hS => ?_)
              have hP : va_P D vwCl (wM m0 m1 m2 m3 m4 m5 k1 k2 k3 k4 k5 code funs made_3 great_23 up_20 down_21 size rows work xx_29 power) H := by rw [exx_29]; exact hP
              have hD : va_D A (wM m0 m1 m2 m3 m4 m5 k1 k2 k3 k4 k5 code funs made_3 great_23 up_20 down_21 size rows work xx_29 power) := by rw [exx_29]; exact hD
              refine lv_aload_n hx hb d_M_number_95 rfl (lv_at hl 1 rfl) ?_
              have hF30 := va_free (wc := (wM m0 m1 m2 m3 m4 m5 k1 k2 k3 k4 k5 code funs made_3 great_23 up_20 down_21 size rows work xx_29 power)) hD hS hA [0, 1, 2, 3, 4, 5] rfl
              refine va_callv (va_runV (As := []) (rest := []) ⟨hx, hb, hml, hown, hB⟩ (c_M_put l D m0 m1 m2 m3 m4 m5 k1 k2 k3 k4 k5 H.size code funs made_3 great_23 up_20 down_21 size rows work xx_29 power _) (cwV 0 hB (goodV wd_376 wd_377 wd_511 wd_3 wd_378) rfl rfl rfl (by decide +kernel) ⟨Nat.le_of_ble_eq_true rfl, Nat.le_of_ble_eq_true rfl⟩) ⟨pcG_blind, va_recv hK hP (ci := 2) (q0 := 0) rfl rfl, pcG_pre hP hK hD h⟩ rfl rfl hl.1 rfl (lv_room (Nat.le_of_ble_eq_true rfl)) d_M_number_96 ⟨Nat.le_of_ble_eq_true rfl, Nat.le_of_ble_eq_true rfl⟩) hS (fun q _ h => hF30 q h) hF30 (fun u t H locs ht hvm h hB hz1 hk1 hS => ?_)
              obtain ⟨made_31, great_32, up_33, down_34, work_35⟩ := u
              obtain ⟨hP1, hK1, hD1⟩ := hB
              rw [ht] at hP1
              have hP : va_P D vwCl (wM m0 m1 m2 m3 m4 m5 k1 k2 k3 k4 k5 code funs made_31 great_32 up_33 down_34 size rows work_35 xx_29 power) H := hP1
              have hD : va_D A (wM m0 m1 m2 m3 m4 m5 k1 k2 k3 k4 k5 code funs made_31 great_32 up_33 down_34 size rows work_35 xx_29 power) := hD1.weaken (fun _ _ _ hq => hF30 _ hq)
              refine lv_aload_n hx hb d_M_number_99 rfl (lv_at hl 1 rfl) ?_
              refine va_get (D := D) (ci := 2) (v := .int funs) (C := R_M) (T := F_M) (N := 11) hx hb hB inF_M hown hK hP 0 rfl rfl 1 (by decide) (hB _ wd_339) (fun _ h9 => h9) rfl d_M_number_100 ?_
              refine lv_bipush (v := 80) hx hb d_M_number_103 (by decide) ?_
              refine lv_icmp_ne (tgt := 116) hx hb d_M_number_105 (by decide) (fun hc36 => ?_) (fun hc36 => ?_)
              · replace h := h.1 hc36
                refine lv_aload_n hx hb d_M_number_116 rfl (lv_at hl 1 rfl) ?_
                have hF37 := va_free (wc := (wM m0 m1 m2 m3 m4 m5 k1 k2 k3 k4 k5 code funs made_31 great_32 up_33 down_34 size rows work_35 xx_29 power)) hD hS hA [0, 1, 2, 3, 4, 5] rfl
                refine va_calli (va_runV (As := []) (rest := []) ⟨hx, hb, hml, hown, hB⟩ (c_M_keep l D m0 m1 m2 m3 m4 m5 k1 k2 k3 k4 k5 H.size code funs made_31 great_32 up_33 down_34 size rows work_35 xx_29 power _) (cwV 0 hB (goodV wd_387 wd_388 wd_513 wd_3 wd_389) rfl rfl rfl (by decide +kernel) ⟨Nat.le_of_ble_eq_true rfl, Nat.le_of_ble_eq_true rfl⟩) ⟨pcG_blind, va_recv hK hP (ci := 2) (q0 := 0) rfl rfl, pcG_pre hP hK hD h⟩ rfl rfl hl.1 rfl (lv_room (Nat.le_of_ble_eq_true rfl)) d_M_number_117 ⟨Nat.le_of_ble_eq_true rfl, Nat.le_of_ble_eq_true rfl⟩) hS (fun q _ h => hF37 q h) hF37 (fun r38 u t H locs ht hvm h hB hz1 hk1 hS => ?_)
                obtain ⟨code_39, funs_40, size_41, rows_42⟩ := u
                obtain ⟨hP1, hK1, hD1⟩ := hB
                rw [ht] at hP1
                have hP : va_P D vwCl (wM m0 m1 m2 m3 m4 m5 k1 k2 k3 k4 k5 code_39 funs_40 made_31 great_32 up_33 down_34 size_41 rows_42 work_35 xx_29 power) H := hP1
                have hD : va_D A (wM m0 m1 m2 m3 m4 m5 k1 k2 k3 k4 k5 code_39 funs_40 made_31 great_32 up_33 down_34 size_41 rows_42 work_35 xx_29 power) := hD1.weaken (fun _ _ _ hq => hF37 _ hq)
                exact W.iret (v := r38) hx hb hr (fun t ht hW => ⟨⟨r38, (code_39, funs_40, made_31, great_32, up_33, down_34, size_41, rows_42, work_35, xx_29), rfl, h, by rw [ht]; exact hP, va_K.moved hW.alike hK, hD⟩, hS.F ht⟩) hS.2.2 d_M_number_120
              · replace h := h.2 hc36
                refine lv_aload_n hx hb d_M_number_108 rfl (lv_at hl 1 rfl) ?_
                refine lv_iconst (v := 2) hx hb d_M_number_109 (by decide) ?_
                have hF43 := va_free (wc := (wM m0 m1 m2 m3 m4 m5 k1 k2 k3 k4 k5 code funs made_31 great_32 up_33 down_34 size rows work_35 xx_29 power)) hD hS hA [0, 1, 2, 3, 4, 5] rfl
                refine va_calli (va_runV (As := [.int 2]) (rest := []) ⟨hx, hb, hml, hown, hB⟩ (c_M_raise l D m0 m1 m2 m3 m4 m5 k1 k2 k3 k4 k5 H.size code funs made_31 great_32 up_33 down_34 size rows work_35 xx_29 power 2 _) (cwV 1 hB (goodV wd_357 wd_358 wd_507 wd_3 wd_359) rfl rfl rfl (by decide +kernel) ⟨Nat.le_of_ble_eq_true rfl, Nat.le_of_ble_eq_true rfl⟩) ⟨pcG_blind, va_recv hK hP (ci := 2) (q0 := 0) rfl rfl, pcG_pre hP hK hD h⟩ rfl rfl hl.1 rfl (lv_room (Nat.le_of_ble_eq_true rfl)) d_M_number_110 ⟨Nat.le_of_ble_eq_true rfl, Nat.le_of_ble_eq_true rfl⟩) hS (fun q _ h => hF43 q h) hF43 (fun r44 code_45 t H locs ht hvm h hB hz1 hk1 hS => ?_)
                obtain ⟨hP1, hK1, hD1⟩ := hB
                rw [ht] at hP1
                have hP : va_P D vwCl (wM m0 m1 m2 m3 m4 m5 k1 k2 k3 k4 k5 code_45 funs made_31 great_32 up_33 down_34 size rows work_35 xx_29 power) H := hP1
                have hD : va_D A (wM m0 m1 m2 m3 m4 m5 k1 k2 k3 k4 k5 code_45 funs made_31 great_32 up_33 down_34 size rows work_35 xx_29 power) := hD1.weaken (fun _ _ _ hq => hF43 _ hq)
                refine lv_goto (tgt := 120) hx hb d_M_number_113 (by decide) ?_
                exact W.iret (v := r44) hx hb hr (fun t ht hW => ⟨⟨r44, (code_45, funs, made_31, great_32, up_33, down_34, size, rows, work_35, xx_29), rfl, h, by rw [ht]; exact hP, va_K.moved hW.alike hK, hD⟩, hS.F ht⟩) hS.2.2 d_M_number_120
            · replace h := h.2 hc27
              refine lv_iconst (v := 1) hx hb d_M_number_85 (by decide) ?_
              refine lv_goto (tgt := 94) hx hb d_M_number_86 (by decide) ?_
              obtain ⟨g46, h⟩ := h
              obtain ⟨xx_47, exx_47⟩ : ∃ z : (Nat → Int32), z = upd xx_26 (6 : Int32).toNatClampNeg 1 := ⟨_, rfl⟩
              replace h := h xx_47 exx_47
              refine va_iast hx hb hK hP hD hS 4 3 rfl rfl g46 d_M_number_94 (fun H locs hP hD hS => ?_)
              have hP : va_P D vwCl (wM m0 m1 m2 m3 m4 m5 k1 k2 k3 k4 k5 code funs made_3 great_23 up_20 down_21 size rows work xx_47 power) H := by rw [exx_47]; exact hP
              have hD : va_D A (wM m0 m1 m2 m3 m4 m5 k1 k2 k3 k4 k5 code funs made_3 great_23 up_20 down_21 size rows work xx_47 power) := by rw [exx_47]; exact hD
              refine lv_aload_n hx hb d_M_number_95 rfl (lv_at hl 1 rfl) ?_
              have hF48 := va_free (wc := (wM m0 m1 m2 m3 m4 m5 k1 k2 k3 k4 k5 code funs made_3 great_23 up_20 down_21 size rows work xx_47 power)) hD hS hA [0, 1, 2, 3, 4, 5] rfl
              refine va_callv (va_runV (As := []) (rest := []) ⟨hx, hb, hml, hown, hB⟩ (c_M_put l D m0 m1 m2 m3 m4 m5 k1 k2 k3 k4 k5 H.size code funs made_3 great_23 up_20 down_21 size rows work xx_47 power _) (cwV 0 hB (goodV wd_376 wd_377 wd_511 wd_3 wd_378) rfl rfl rfl (by decide +kernel) ⟨Nat.le_of_ble_eq_true rfl, Nat.le_of_ble_eq_true rfl⟩) ⟨pcG_blind, va_recv hK hP (ci := 2) (q0 := 0) rfl rfl, pcG_pre hP hK hD h⟩ rfl rfl hl.1 rfl (lv_room (Nat.le_of_ble_eq_true rfl)) d_M_number_96 ⟨Nat.le_of_ble_eq_true rfl, Nat.le_of_ble_eq_true rfl⟩) hS (fun q _ h => hF48 q h) hF48 (fun u t H locs ht hvm h hB hz1 hk1 hS => ?_)
              obtain ⟨made_49, great_50, up_51, down_52, work_53⟩ := u
              obtain ⟨hP1, hK1, hD1⟩ := hB
              rw [ht] at hP1
              have hP : va_P D vwCl (wM m0 m1 m2 m3 m4 m5 k1 k2 k3 k4 k5 code funs made_49 great_50 up_51 down_52 size rows work_53 xx_47 power) H := hP1
              have hD : va_D A (wM m0 m1 m2 m3 m4 m5 k1 k2 k3 k4 k5 code funs made_49 great_50 up_51 down_52 size rows work_53 xx_47 power) := hD1.weaken (fun _ _ _ hq => hF48 _ hq)
              refine lv_aload_n hx hb d_M_number_99 rfl (lv_at hl 1 rfl) ?_
              refine va_get (D := D) (ci := 2) (v := .int funs) (C := R_M) (T := F_M) (N := 11) hx hb hB inF_M hown hK hP 0 rfl rfl 1 (by decide) (hB _ wd_339) (fun _ h9 => h9) rfl d_M_number_100 ?_
              refine lv_bipush (v := 80) hx hb d_M_number_103 (by decide) ?_
              refine lv_icmp_ne (tgt := 116) hx hb d_M_number_105 (by decide) (fun hc54 => ?_) (fun hc54 => ?_)
              · replace h := h.1 hc54
                refine lv_aload_n hx hb d_M_number_116 rfl (lv_at hl 1 rfl) ?_
                have hF55 := va_free (wc := (wM m0 m1 m2 m3 m4 m5 k1 k2 k3 k4 k5 code funs made_49 great_50 up_51 down_52 size rows work_53 xx_47 power)) hD hS hA [0, 1, 2, 3, 4, 5] rfl
                refine va_calli (va_runV (As := []) (rest := []) ⟨hx, hb, hml, hown, hB⟩ (c_M_keep l D m0 m1 m2 m3 m4 m5 k1 k2 k3 k4 k5 H.size code funs made_49 great_50 up_51 down_52 size rows work_53 xx_47 power _) (cwV 0 hB (goodV wd_387 wd_388 wd_513 wd_3 wd_389) rfl rfl rfl (by decide +kernel) ⟨Nat.le_of_ble_eq_true rfl, Nat.le_of_ble_eq_true rfl⟩) ⟨pcG_blind, va_recv hK hP (ci := 2) (q0 := 0) rfl rfl, pcG_pre hP hK hD h⟩ rfl rfl hl.1 rfl (lv_room (Nat.le_of_ble_eq_true rfl)) d_M_number_117 ⟨Nat.le_of_ble_eq_true rfl, Nat.le_of_ble_eq_true rfl⟩) hS (fun q _ h => hF55 q h) hF55 (fun r56 u t H locs ht hvm h hB hz1 hk1 hS => ?_)
                obtain ⟨code_57, funs_58, size_59, rows_60⟩ := u
                obtain ⟨hP1, hK1, hD1⟩ := hB
                rw [ht] at hP1
                have hP : va_P D vwCl (wM m0 m1 m2 m3 m4 m5 k1 k2 k3 k4 k5 code_57 funs_58 made_49 great_50 up_51 down_52 size_59 rows_60 work_53 xx_47 power) H := hP1
                have hD : va_D A (wM m0 m1 m2 m3 m4 m5 k1 k2 k3 k4 k5 code_57 funs_58 made_49 great_50 up_51 down_52 size_59 rows_60 work_53 xx_47 power) := hD1.weaken (fun _ _ _ hq => hF55 _ hq)
                exact W.iret (v := r56) hx hb hr (fun t ht hW => ⟨⟨r56, (code_57, funs_58, made_49, great_50, up_51, down_52, size_59, rows_60, work_53, xx_47), rfl, h, by rw [ht]; exact hP, va_K.moved hW.alike hK, hD⟩, hS.F ht⟩) hS.2.2 d_M_number_120
              · replace h := h.2 hc54
                refine lv_aload_n hx hb d_M_number_108 rfl (lv_at hl 1 rfl) ?_
                refine lv_iconst (v := 2) hx hb d_M_number_109 (by decide) ?_
                have hF61 := va_free (wc := (wM m0 m1 m2 m3 m4 m5 k1 k2 k3 k4 k5 code funs made_49 great_50 up_51 down_52 size rows work_53 xx_47 power)) hD hS hA [0, 1, 2, 3, 4, 5] rfl
                refine va_calli (va_runV (As := [.int 2]) (rest := []) ⟨hx, hb, hml, hown, hB⟩ (c_M_raise l D m0 m1 m2 m3 m4 m5 k1 k2 k3 k4 k5 H.size code funs made_49 great_50 up_51 down_52 size rows work_53 xx_47 power 2 _) (cwV 1 hB (goodV wd_357 wd_358 wd_507 wd_3 wd_359) rfl rfl rfl (by decide +kernel) ⟨Nat.le_of_ble_eq_true rfl, Nat.le_of_ble_eq_true rfl⟩) ⟨pcG_blind, va_recv hK hP (ci := 2) (q0 := 0) rfl rfl, pcG_pre hP hK hD h⟩ rfl rfl hl.1 rfl (lv_room (Nat.le_of_ble_eq_true rfl)) d_M_number_110 ⟨Nat.le_of_ble_eq_true rfl, Nat.le_of_ble_eq_true rfl⟩) hS (fun q _ h => hF61 q h) hF61 (fun r62 code_63 t H locs ht hvm h hB hz1 hk1 hS => ?_)
                obtain ⟨hP1, hK1, hD1⟩ := hB
                rw [ht] at hP1
                have hP : va_P D vwCl (wM m0 m1 m2 m3 m4 m5 k1 k2 k3 k4 k5 code_63 funs made_49 great_50 up_51 down_52 size rows work_53 xx_47 power) H := hP1
                have hD : va_D A (wM m0 m1 m2 m3 m4 m5 k1 k2 k3 k4 k5 code_63 funs made_49 great_50 up_51 down_52 size rows work_53 xx_47 power) := hD1.weaken (fun _ _ _ hq => hF61 _ hq)
                refine lv_goto (tgt := 120) hx hb d_M_number_113 (by decide) ?_
                exact W.iret (v := r62) hx hb hr (fun t ht hW => ⟨⟨r62, (code_63, funs, made_49, great_50, up_51, down_52, size, rows, work_53, xx_47), rfl, h, by rw [ht]; exact hP, va_K.moved hW.alike hK, hD⟩, hS.F ht⟩) hS.2.2 d_M_number_120
          · replace h := h.2 hc24
            refine lv_iconst (v := 1) hx hb d_M_number_62 (by decide) ?_
            refine lv_goto (tgt := 71) hx hb d_M_number_63 (by decide) ?_
            obtain ⟨g64, h⟩ := h
            obtain ⟨xx_65, exx_65⟩ : ∃ z : (Nat → Int32), z = upd xx_6 (5 : Int32).toNatClampNeg 1 := ⟨_, rfl⟩
            replace h := h xx_65 exx_65
            refine va_iast hx hb hK hP hD hS 4 3 rfl rfl g64 d_M_number_71 (fun H locs hP hD hS => ?_)
            have hP : va_P D vwCl (wM m0 m1 m2 m3 m4 m5 k1 k2 k3 k4 k5 code funs made_3 great_23 up_20 down_21 size rows work xx_65 power) H := by rw [exx_65]; exact hP
            have hD : va_D A (wM m0 m1 m2 m3 m4 m5 k1 k2 k3 k4 k5 code funs made_3 great_23 up_20 down_21 size rows work xx_65 power) := by rw [exx_65]; exact hD
            refine lv_aload_n hx hb d_M_number_72 rfl (lv_at hl 1 rfl) ?_
            refine va_get (D := D) (ci := 2) (v := .ref m4) (C := R_M) (T := F_M) (N := 11) hx hb hB inF_M hown hK hP 0 rfl rfl 7 (by decide) (hB _ wd_345) (fun _ h9 => h9) rfl d_M_number_73 ?_
            refine lv_bipush (v := 6) hx hb d_M_number_76 (by decide) ?_
            refine lv_aload_n hx hb d_M_number_78 rfl (lv_at hl 1 rfl) ?_
            refine va_get (D := D) (ci := 2) (v := .int great_23) (C := R_M) (T := F_M) (N := 11) hx hb hB inF_M hown hK hP 0 rfl rfl 6 (by decide) (hB _ wd_344) (fun _ h9 => h9) rfl d_M_number_79 ?_
            refine lv_if_eq (tgt := 89) hx hb d_M_number_82 (by decide) (fun hc66 => ?_) (fun hc66 => ?_)
            · replace h := h.1 hc66
              refine lv_aload_n hx hb d_M_number_89 rfl (lv_at hl 1 rfl) ?_
              refine va_get (D := D) (ci := 2) (v := .long down_21) (C := R_M) (T := F_M) (N := 11) hx hb hB inF_M hown hK hP 0 rfl rfl 10 (by decide) (hB _ wd_348) (fun _ h9 => h9) rfl d_M_number_90 ?_
              refine lv_l2i hx hb d_M_number_93 rfl ?_
              obtain ⟨g67, h⟩ := h
              obtain ⟨xx_68, exx_68⟩ : ∃ z : (Nat → Int32), z = upd xx_65 (6 : Int32).toNatClampNeg (down_21.toInt32) := ⟨_, rfl⟩
              replace h := h xx_68 exx_68
              refine va_iast hx hb hK hP hD hS 4 3 rfl rfl g67 d_M_number_94 (fun H locs hP hD hS => ?_)
              have hP : va_P D vwCl (wM m0 m1 m2 m3 m4 m5 k1 k2 k3 k4 k5 code funs made_3 great_23 up_20 down_21 size rows work xx_68 power) H := by rw [exx_68]; exact hP
              have hD : va_D A (wM m0 m1 m2 m3 m4 m5 k1 k2 k3 k4 k5 code funs made_3 great_23 up_20 down_21 size rows work xx_68 power) := by rw [exx_68]; exact hD
              refine lv_aload_n hx hb d_M_number_95 rfl (lv_at hl 1 rfl) ?_
              have hF69 := va_free (wc := (wM m0 m1 m2 m3 m4 m5 k1 k2 k3 k4 k5 code funs made_3 great_23 up_20 down_21 size rows work xx_68 power)) hD hS hA [0, 1, 2, 3, 4, 5] rfl
              refine va_callv (va_runV (As := []) (rest := []) ⟨hx, hb, hml, hown, hB⟩ (c_M_put l D m0 m1 m2 m3 m4 m5 k1 k2 k3 k4 k5 H.size code funs made_3 great_23 up_20 down_21 size rows work xx_68 power _) (cwV 0 hB (goodV wd_376 wd_377 wd_511 wd_3 wd_378) rfl rfl rfl (by decide +kernel) ⟨Nat.le_of_ble_eq_true rfl, Nat.le_of_ble_eq_true rfl⟩) ⟨pcG_blind, va_recv hK hP (ci := 2) (q0 := 0) rfl rfl, pcG_pre hP hK hD h⟩ rfl rfl hl.1 rfl (lv_room (Nat.le_of_ble_eq_true rfl)) d_M_number_96 ⟨Nat.le_of_ble_eq_true rfl, Nat.le_of_ble_eq_true rfl⟩) hS (fun q _ h => hF69 q h) hF69 (fun u t H locs ht hvm h hB hz1 hk1 hS => ?_)
              obtain ⟨made_70, great_71, up_72, down_73, work_74⟩ := u
              obtain ⟨hP1, hK1, hD1⟩ := hB
              rw [ht] at hP1
              have hP : va_P D vwCl (wM m0 m1 m2 m3 m4 m5 k1 k2 k3 k4 k5 code funs made_70 great_71 up_72 down_73 size rows work_74 xx_68 power) H := hP1
              have hD : va_D A (wM m0 m1 m2 m3 m4 m5 k1 k2 k3 k4 k5 code funs made_70 great_71 up_72 down_73 size rows work_74 xx_68 power) := hD1.weaken (fun _ _ _ hq => hF69 _ hq)
              refine lv_aload_n hx hb d_M_number_99 rfl (lv_at hl 1 rfl) ?_
              refine va_get (D := D) (ci := 2) (v := .int funs) (C := R_M) (T := F_M) (N := 11) hx hb hB inF_M hown hK hP 0 rfl rfl 1 (by decide) (hB _ wd_339) (fun _ h9 => h9) rfl d_M_number_100 ?_
              refine lv_bipush (v := 80) hx hb d_M_number_103 (by decide) ?_
              refine lv_icmp_ne (tgt := 116) hx hb d_M_number_105 (by decide) (fun hc75 => ?_) (fun hc75 => ?_)
              · replace h := h.1 hc75
                refine lv_aload_n hx hb d_M_number_116 rfl (lv_at hl 1 rfl) ?_
                have hF76 := va_free (wc := (wM m0 m1 m2 m3 m4 m5 k1 k2 k3 k4 k5 code funs made_70 great_71 up_72 down_73 size rows work_74 xx_68 power)) hD hS hA [0, 1, 2, 3, 4, 5] rfl
                refine va_calli (va_runV (As := []) (rest := []) ⟨hx, hb, hml, hown, hB⟩ (c_M_keep l D m0 m1 m2 m3 m4 m5 k1 k2 k3 k4 k5 H.size code funs made_70 great_71 up_72 down_73 size rows work_74 xx_68 power _) (cwV 0 hB (goodV wd_387 wd_388 wd_513 wd_3 wd_389) rfl rfl rfl (by decide +kernel) ⟨Nat.le_of_ble_eq_true rfl, Nat.le_of_ble_eq_true rfl⟩) ⟨pcG_blind, va_recv hK hP (ci := 2) (q0 := 0) rfl rfl, pcG_pre hP hK hD h⟩ rfl rfl hl.1 rfl (lv_room (Nat.le_of_ble_eq_true rfl)) d_M_number_117 ⟨Nat.le_of_ble_eq_true rfl, Nat.le_of_ble_eq_true rfl⟩) hS (fun q _ h => hF76 q h) hF76 (fun r77 u t H locs ht hvm h hB hz1 hk1 hS => ?_)
                obtain ⟨code_78, funs_79, size_80, rows_81⟩ := u
                obtain ⟨hP1, hK1, hD1⟩ := hB
                rw [ht] at hP1
                have hP : va_P D vwCl (wM m0 m1 m2 m3 m4 m5 k1 k2 k3 k4 k5 code_78 funs_79 made_70 great_71 up_72 down_73 size_80 rows_81 work_74 xx_68 power) H := hP1
                have hD : va_D A (wM m0 m1 m2 m3 m4 m5 k1 k2 k3 k4 k5 code_78 funs_79 made_70 great_71 up_72 down_73 size_80 rows_81 work_74 xx_68 power) := hD1.weaken (fun _ _ _ hq => hF76 _ hq)
                exact W.iret (v := r77) hx hb hr (fun t ht hW => ⟨⟨r77, (code_78, funs_79, made_70, great_71, up_72, down_73, size_80, rows_81, work_74, xx_68), rfl, h, by rw [ht]; exact hP, va_K.moved hW.alike hK, hD⟩, hS.F ht⟩) hS.2.2 d_M_number_120
              · replace h := h.2 hc75
                refine lv_aload_n hx hb d_M_number_108 rfl (lv_at hl 1 rfl) ?_
                refine lv_iconst (v := 2) hx hb d_M_number_109 (by decide) ?_
                have hF82 := va_free (wc := (wM m0 m1 m2 m3 m4 m5 k1 k2 k3 k4 k5 code funs made_70 great_71 up_72 down_73 size rows work_74 xx_68 power)) hD hS hA [0, 1, 2, 3, 4, 5] rfl
                refine va_calli (va_runV (As := [.int 2]) (rest := []) ⟨hx, hb, hml, hown, hB⟩ (c_M_raise l D m0 m1 m2 m3 m4 m5 k1 k2 k3 k4 k5 H.size code funs made_70 great_71 up_72 down_73 size rows work_74 xx_68 power 2 _) (cwV 1 hB (goodV wd_357 wd_358 wd_507 wd_3 wd_359) rfl rfl rfl (by decide +kernel) ⟨Nat.le_of_ble_eq_true rfl, Nat.le_of_ble_eq_true rfl⟩) ⟨pcG_blind, va_recv hK hP (ci := 2) (q0 := 0) rfl rfl, pcG_pre hP hK hD h⟩ rfl rfl hl.1 rfl (lv_room (Nat.le_of_ble_eq_true rfl)) d_M_number_110 ⟨Nat.le_of_ble_eq_true rfl, Nat.le_of_ble_eq_true rfl⟩) hS (fun q _ h => hF82 q h) hF82 (fun r83 code_84 t H locs ht hvm h hB hz1 hk1 hS => ?_)
                obtain ⟨hP1, hK1, hD1⟩ := hB
                rw [ht] at hP1
                have hP : va_P D vwCl (wM m0 m1 m2 m3 m4 m5 k1 k2 k3 k4 k5 code_84 funs made_70 great_71 up_72 down_73 size rows work_74 xx_68 power) H := hP1
                have hD : va_D A (wM m0 m1 m2 m3 m4 m5 k1 k2 k3 k4 k5 code_84 funs made_70 great_71 up_72 down_73 size rows work_74 xx_68 power) := hD1.weaken (fun _ _ _ hq => hF82 _ hq)
                refine lv_goto (tgt := 120) hx hb d_M_number_113 (by decide) ?_
                exact W.iret (v := r83) hx hb hr (fun t ht hW => ⟨⟨r83, (code_84, funs, made_70, great_71, up_72, down_73, size, rows, work_74, xx_68), rfl, h, by rw [ht]; exact hP, va_K.moved hW.alike hK, hD⟩, hS.F ht⟩) hS.2.2 d_M_number_120
            · replace h := h.2 hc66
              refine lv_iconst (v := 1) hx hb d_M_number_85 (by decide) ?_
              refine lv_goto (tgt := 94) hx hb d_M_number_86 (by decide) ?_
              obtain ⟨g85, h⟩ := h
              obtain ⟨xx_86, exx_86⟩ : ∃ z : (Nat → Int32), z = upd xx_65 (6 : Int32).toNatClampNeg 1 := ⟨_, rfl⟩
              replace h := h xx_86 exx_86
              refine va_iast hx hb hK hP hD hS 4 3 rfl rfl g85 d_M_number_94 (fun H locs hP hD hS => ?_)
              have hP : va_P D vwCl (wM m0 m1 m2 m3 m4 m5 k1 k2 k3 k4 k5 code funs made_3 great_23 up_20 down_21 size rows work xx_86 power) H := by rw [exx_86]; exact hP
              have hD : va_D A (wM m0 m1 m2 m3 m4 m5 k1 k2 k3 k4 k5 code funs made_3 great_23 up_20 down_21 size rows work xx_86 power) := by rw [exx_86]; exact hD
              refine lv_aload_n hx hb d_M_number_95 rfl (lv_at hl 1 rfl) ?_
              have hF87 := va_free (wc := (wM m0 m1 m2 m3 m4 m5 k1 k2 k3 k4 k5 code funs made_3 great_23 up_20 down_21 size rows work xx_86 power)) hD hS hA [0, 1, 2, 3, 4, 5] rfl
              refine va_callv (va_runV (As := []) (rest := []) ⟨hx, hb, hml, hown, hB⟩ (c_M_put l D m0 m1 m2 m3 m4 m5 k1 k2 k3 k4 k5 H.size code funs made_3 great_23 up_20 down_21 size rows work xx_86 power _) (cwV 0 hB (goodV wd_376 wd_377 wd_511 wd_3 wd_378) rfl rfl rfl (by decide +kernel) ⟨Nat.le_of_ble_eq_true rfl, Nat.le_of_ble_eq_true rfl⟩) ⟨pcG_blind, va_recv hK hP (ci := 2) (q0 := 0) rfl rfl, pcG_pre hP hK hD h⟩ rfl rfl hl.1 rfl (lv_room (Nat.le_of_ble_eq_true rfl)) d_M_number_96 ⟨Nat.le_of_ble_eq_true rfl, Nat.le_of_ble_eq_true rfl⟩) hS (fun q _ h => hF87 q h) hF87 (fun u t H locs ht hvm h hB hz1 hk1 hS => ?_)
              obtain ⟨made_88, great_89, up_90, down_91, work_92⟩ := u
              obtain ⟨hP1, hK1, hD1⟩ := hB
              rw [ht] at hP1
              have hP : va_P D vwCl (wM m0 m1 m2 m3 m4 m5 k1 k2 k3 k4 k5 code funs made_88 great_89 up_90 down_91 size rows work_92 xx_86 power) H := hP1
              have hD : va_D A (wM m0 m1 m2 m3 m4 m5 k1 k2 k3 k4 k5 code funs made_88 great_89 up_90 down_91 size rows work_92 xx_86 power) := hD1.weaken (fun _ _ _ hq => hF87 _ hq)
              refine lv_aload_n hx hb d_M_number_99 rfl (lv_at hl 1 rfl) ?_
              refine va_get (D := D) (ci := 2) (v := .int funs) (C := R_M) (T := F_M) (N := 11) hx hb hB inF_M hown hK hP 0 rfl rfl 1 (by decide) (hB _ wd_339) (fun _ h9 => h9) rfl d_M_number_100 ?_
              refine lv_bipush (v := 80) hx hb d_M_number_103 (by decide) ?_
              refine lv_icmp_ne (tgt := 116) hx hb d_M_number_105 (by decide) (fun hc93 => ?_) (fun hc93 => ?_)
              · replace h := h.1 hc93
                refine lv_aload_n hx hb d_M_number_116 rfl (lv_at hl 1 rfl) ?_
                have hF94 := va_free (wc := (wM m0 m1 m2 m3 m4 m5 k1 k2 k3 k4 k5 code funs made_88 great_89 up_90 down_91 size rows work_92 xx_86 power)) hD hS hA [0, 1, 2, 3, 4, 5] rfl
                refine va_calli (va_runV (As := []) (rest := []) ⟨hx, hb, hml, hown, hB⟩ (c_M_keep l D m0 m1 m2 m3 m4 m5 k1 k2 k3 k4 k5 H.size code funs made_88 great_89 up_90 down_91 size rows work_92 xx_86 power _) (cwV 0 hB (goodV wd_387 wd_388 wd_513 wd_3 wd_389) rfl rfl rfl (by decide +kernel) ⟨Nat.le_of_ble_eq_true rfl, Nat.le_of_ble_eq_true rfl⟩) ⟨pcG_blind, va_recv hK hP (ci := 2) (q0 := 0) rfl rfl, pcG_pre hP hK hD h⟩ rfl rfl hl.1 rfl (lv_room (Nat.le_of_ble_eq_true rfl)) d_M_number_117 ⟨Nat.le_of_ble_eq_true rfl, Nat.le_of_ble_eq_true rfl⟩) hS (fun q _ h => hF94 q h) hF94 (fun r95 u t H locs ht hvm h hB hz1 hk1 hS => ?_)
                obtain ⟨code_96, funs_97, size_98, rows_99⟩ := u
                obtain ⟨hP1, hK1, hD1⟩ := hB
                rw [ht] at hP1
                have hP : va_P D vwCl (wM m0 m1 m2 m3 m4 m5 k1 k2 k3 k4 k5 code_96 funs_97 made_88 great_89 up_90 down_91 size_98 rows_99 work_92 xx_86 power) H := hP1
                have hD : va_D A (wM m0 m1 m2 m3 m4 m5 k1 k2 k3 k4 k5 code_96 funs_97 made_88 great_89 up_90 down_91 size_98 rows_99 work_92 xx_86 power) := hD1.weaken (fun _ _ _ hq => hF94 _ hq)
                exact W.iret (v := r95) hx hb hr (fun t ht hW => ⟨⟨r95, (code_96, funs_97, made_88, great_89, up_90, down_91, size_98, rows_99, work_92, xx_86), rfl, h, by rw [ht]; exact hP, va_K.moved hW.alike hK, hD⟩, hS.F ht⟩) hS.2.2 d_M_number_120
              · replace h := h.2 hc93
                refine lv_aload_n hx hb d_M_number_108 rfl (lv_at hl 1 rfl) ?_
                refine lv_iconst (v := 2) hx hb d_M_number_109 (by decide) ?_
                have hF100 := va_free (wc := (wM m0 m1 m2 m3 m4 m5 k1 k2 k3 k4 k5 code funs made_88 great_89 up_90 down_91 size rows work_92 xx_86 power)) hD hS hA [0, 1, 2, 3, 4, 5] rfl
                refine va_calli (va_runV (As := [.int 2]) (rest := []) ⟨hx, hb, hml, hown, hB⟩ (c_M_raise l D m0 m1 m2 m3 m4 m5 k1 k2 k3 k4 k5 H.size code funs made_88 great_89 up_90 down_91 size rows work_92 xx_86 power 2 _) (cwV 1 hB (goodV wd_357 wd_358 wd_507 wd_3 wd_359) rfl rfl rfl (by decide +kernel) ⟨Nat.le_of_ble_eq_true rfl, Nat.le_of_ble_eq_true rfl⟩) ⟨pcG_blind, va_recv hK hP (ci := 2) (q0 := 0) rfl rfl, pcG_pre hP hK hD h⟩ rfl rfl hl.1 rfl (lv_room (Nat.le_of_ble_eq_true rfl)) d_M_number_110 ⟨Nat.le_of_ble_eq_true rfl, Nat.le_of_ble_eq_true rfl⟩) hS (fun q _ h => hF100 q h) hF100 (fun r101 code_102 t H locs ht hvm h hB hz1 hk1 hS => ?_)
                obtain ⟨hP1, hK1, hD1⟩ := hB
                rw [ht] at hP1
                have hP : va_P D vwCl (wM m0 m1 m2 m3 m4 m5 k1 k2 k3 k4 k5 code_102 funs made_88 great_89 up_90 down_91 size rows work_92 xx_86 power) H := hP1
                have hD : va_D A (wM m0 m1 m2 m3 m4 m5 k1 k2 k3 k4 k5 code_102 funs made_88 great_89 up_90 down_91 size rows work_92 xx_86 power) := hD1.weaken (fun _ _ _ hq => hF100 _ hq)
                refine lv_goto (tgt := 120) hx hb d_M_number_113 (by decide) ?_
                exact W.iret (v := r101) hx hb hr (fun t ht hW => ⟨⟨r101, (code_102, funs, made_88, great_89, up_90, down_91, size, rows, work_92, xx_86), rfl, h, by rw [ht]; exact hP, va_K.moved hW.alike hK, hD⟩, hS.F ht⟩) hS.2.2 d_M_number_120
      · replace h := h.2 hc7
        refine lv_aload_n hx hb d_M_number_21 rfl (lv_at hl 1 rfl) ?_
        refine va_get (D := D) (ci := 2) (v := .ref m4) (C := R_M) (T := F_M) (N := 11) hx hb hB inF_M hown hK hP 0 rfl rfl 7 (by decide) (hB _ wd_345) (fun _ h9 => h9) rfl d_M_number_22 ?_
        refine lv_iload_n hx hb d_M_number_25 rfl (lv_at hl 0 rfl) ?_
        refine lv_iconst (v := 0) hx hb d_M_number_26 (by decide) ?_
        obtain ⟨g103, h⟩ := h
        obtain ⟨xx_104, exx_104⟩ : ∃ z : (Nat → Int32), z = upd xx_6 v3_5.toNatClampNeg 0 := ⟨_, rfl⟩
        replace h := h xx_104 exx_104
        refine va_iast hx hb hK hP hD hS 4 3 rfl rfl g103 d_M_number_27 (fun H locs hP hD hS => ?_)
        have hP : va_P D vwCl (wM m0 m1 m2 m3 m4 m5 k1 k2 k3 k4 k5 code funs made_3 great_4 up down size rows work xx_104 power) H := by rw [exx_104]; exact hP
        have hD : va_D A (wM m0 m1 m2 m3 m4 m5 k1 k2 k3 k4 k5 code funs made_3 great_4 up down size rows work xx_104 power) := by rw [exx_104]; exact hD
        obtain ⟨x105, ex105⟩ : ∃ z : Int32, z = v3_5 + 1 := ⟨_, rfl⟩
        replace h := h x105 ex105
        refine lv_iinc (v := x105) (lv' := [(3, .int x105), (0, .ref m0), (1, .int p0), (2, .int p1)]) hx hb d_M_number_28 hl (k := 0) rfl (by rw [ex105]; rfl) (by decide) rfl (fun ls hl => ?_)
        refine lv_goto (tgt := 16) hx hb d_M_number_31 (by decide) ?_
        exact Ge16 _ _ _ (ihL16 x105 xx_104 _ _ _ hP hD hS (lv_sub hl [0, 1, 2, 3] rfl) h)
  · replace h := h.2 hc1
    refine lv_aload_n hx hb d_M_number_4 rfl (lv_at hl 0 rfl) ?_
    refine lv_iconst (v := 1) hx hb d_M_number_5 (by decide) ?_
    have hF106 := va_free (wc := (wM m0 m1 m2 m3 m4 m5 k1 k2 k3 k4 k5 code funs made great up down size rows work xx power)) hD hS hA [0, 1, 2, 3, 4, 5] rfl
    refine va_calli (va_runV (As := [.int 1]) (rest := []) ⟨hx, hb, hml, hown, hB⟩ (c_M_raise l D m0 m1 m2 m3 m4 m5 k1 k2 k3 k4 k5 H.size code funs made great up down size rows work xx power 1 _) (cwV 1 hB (goodV wd_357 wd_358 wd_507 wd_3 wd_359) rfl rfl rfl (by decide +kernel) ⟨Nat.le_of_ble_eq_true rfl, Nat.le_of_ble_eq_true rfl⟩) ⟨pcG_blind, va_recv hK hP (ci := 2) (q0 := 0) rfl rfl, pcG_pre hP hK hD h⟩ rfl rfl hl.1 rfl (lv_room (Nat.le_of_ble_eq_true rfl)) d_M_number_6 ⟨Nat.le_of_ble_eq_true rfl, Nat.le_of_ble_eq_true rfl⟩) hS (fun q _ h => hF106 q h) hF106 (fun r107 code_108 t H locs ht hvm h hB hz1 hk1 hS => ?_)
    obtain ⟨hP1, hK1, hD1⟩ := hB
    rw [ht] at hP1
    have hP : va_P D vwCl (wM m0 m1 m2 m3 m4 m5 k1 k2 k3 k4 k5 code_108 funs made great up down size rows work xx power) H := hP1
    have hD : va_D A (wM m0 m1 m2 m3 m4 m5 k1 k2 k3 k4 k5 code_108 funs made great up down size rows work xx power) := hD1.weaken (fun _ _ _ hq => hF106 _ hq)
    exact W.iret (v := r107) hx hb hr (fun t ht hW => ⟨⟨r107, (code_108, funs, made, great, up, down, size, rows, work, xx), rfl, h, by rw [ht]; exact hP, va_K.moved hW.alike hK, hD⟩, hS.F ht⟩) hS.2.2 d_M_number_9
set_option maxHeartbeats 4000000 in
set_option maxRecDepth 100000 in
theorem c_M_letter (l : Launch) (D : va_G) (m0 m1 m2 m3 m4 m5 : Nat) (k1 k2 k3 k4 k5 : ClassId) (sz : Nat) (code : Int32) (funs : Int32) (made : Int32) (great : Int32) (up : Int64) (down : Int64) (size : (Nat → Int32)) (rows : (Nat → Int32)) (work : (Nat → Int32)) (xx : (Nat → Int32)) (power : (Nat → Int32)) (p0 : Int32) (post : Int32 → Int32 → Int32 → Int32 → Int32 → Int64 → Int64 → (Nat → Int32) → (Nat → Int32) → (Nat → Int32) → (Nat → Int32) → Prop) : Met l y_M_letter (Cond.code y_M_letter b_M_letter 3 (some .int) :: BIG) ({ frames := 4, cells := 0, slots := 0, locals := 102 }) (va_Pc [.ref m0, .int p0] (pcG D vwCl (wM m0 m1 m2 m3 m4 m5 k1 k2 k3 k4 k5 code funs made great up down size rows work xx power) [(k1, .int), (k2, .int), (k3, .int), (k4, .int), (k5, .int)] sz (wp_M_letter code funs made great up down size rows work xx p0 post))) (va_Qi (fun (r : Int32) (u : Int32 × Int32 × Int32 × Int32 × Int64 × Int64 × (Nat → Int32) × (Nat → Int32) × (Nat → Int32) × (Nat → Int32)) => post r (u.1) (u.2.1) (u.2.2.1) (u.2.2.2.1) (u.2.2.2.2.1) (u.2.2.2.2.2.1) (u.2.2.2.2.2.2.1) (u.2.2.2.2.2.2.2.1) (u.2.2.2.2.2.2.2.2.1) (u.2.2.2.2.2.2.2.2.2)) (fun u => atG D vwCl [(k1, .int), (k2, .int), (k3, .int), (k4, .int), (k5, .int)] (va_A (wM m0 m1 m2 m3 m4 m5 k1 k2 k3 k4 k5 code funs made great up down size rows work xx power) sz) (wM m0 m1 m2 m3 m4 m5 k1 k2 k3 k4 k5 (u.1) (u.2.1) (u.2.2.1) (u.2.2.2.1) (u.2.2.2.2.1) (u.2.2.2.2.2.1) (u.2.2.2.2.2.2.1) (u.2.2.2.2.2.2.2.1) (u.2.2.2.2.2.2.2.2.1) (u.2.2.2.2.2.2.2.2.2) power)) (va_A (wM m0 m1 m2 m3 m4 m5 k1 k2 k3 k4 k5 code funs made great up down size rows work xx power) sz)) 0 0 (va_A (wM m0 m1 m2 m3 m4 m5 k1 k2 k3 k4 k5 code funs made great up down size rows work xx power) sz) := by
  refine Met.ofW (cc := b_M_letter) (maxL := 3) (ret := (some .int)) (by decide) rfl ?_
  intro p e s m args below meth c s₁ B hml hv
  obtain ⟨rfl, hsz, hP, hK, hD0, h⟩ := hv
  have hx := B.exec
  have hb := B.bytes
  have hr := B.returns
  have hB : ∀ w ∈ BIG, w.before _ s = true := fun w h => atoms_spec (ws := (Cond.code y_M_letter b_M_letter 3 (some .int) :: BIG)) B.pre w (List.mem_cons_of_mem _ h)
  have hown : s.vm.findClass R_M = some m.cls := findClass_of_methodNamed B.named
  have hlocks := B.notSynchronized
  subst hsz
  have hD := hD0.self (sz := s.heap.size)
  generalize hAe : va_A (wM m0 m1 m2 m3 m4 m5 k1 k2 k3 k4 k5 code funs made great up down size rows work xx power) s.heap.size = A at hD ⊢
  have hA : ∀ q : Nat, s.heap.size ≤ q → A q := fun q h => by rw [← hAe]; exact Or.inr h
  have hl := lv_entry ([.ref m0, .int p0]) (n := 3) (Nat.le_of_ble_eq_true rfl)
  rw [lg_entry_eq]
  generalize (lg_sl ([.ref m0, .int p0]) ++ List.replicate (3 - (lg_sl ([.ref m0, .int p0])).length) Slot.unset).toArray = ls at hl ⊢
  have hl : lv_has ls 3 [(0, .ref m0), (1, .int p0)] := hl
  refine W.cap (fun G Gi Ge => ?_)
  suffices hL : ∀ (H : Heap) (locs : List Loc), va_P D vwCl (wM m0 m1 m2 m3 m4 m5 k1 k2 k3 k4 k5 code funs made great up down size rows work xx power) H → va_S A s.heap H locs → G H locs (F0 m 0 ls []) from hL _ _ hP va_S.rf
  clear hP
  intro H locs hP hS
  refine Gi _ _ _ ?_
  unfold wp_M_letter at h
  refine lv_aload_n hx hb d_M_letter_0 rfl (lv_at hl 0 rfl) ?_
  refine lv_iload_n hx hb d_M_letter_1 rfl (lv_at hl 1 rfl) ?_
  refine lv_i2l hx hb d_M_letter_2 rfl ?_
  refine lv_lconst (v := 0) hx hb d_M_letter_3 (by decide) ?_
  refine lv_ldc2 (v := 4) hx hb hown (hB _ wd_394) d_M_letter_4 ?_
  have hF1 := va_free (wc := (wM m0 m1 m2 m3 m4 m5 k1 k2 k3 k4 k5 code funs made great up down size rows work xx power)) hD hS hA [0, 1, 2, 3, 4, 5] rfl
  refine va_calli (va_runS (As := [.long (p0.toInt64), .long 0, .long 4]) (rest := [.ref m0]) ⟨hx, hb, hml, hown, hB⟩ (c_M_in l D m0 m1 m2 m3 m4 m5 k1 k2 k3 k4 k5 H.size code funs made great up down size rows work xx power (p0.toInt64) 0 4 _) (cwS 3 hB (goodS wd_381 wd_382 wd_3 wd_383) rfl rfl rfl (by decide +kernel) ⟨Nat.le_of_ble_eq_true rfl, Nat.le_of_ble_eq_true rfl⟩) ⟨pcG_blind, pcG_pre hP hK hD h⟩ rfl rfl hl.1 rfl (lv_room (Nat.le_of_ble_eq_true rfl)) d_M_letter_7 ⟨Nat.le_of_ble_eq_true rfl, Nat.le_of_ble_eq_true rfl⟩) hS (fun q _ h => hF1 q h) hF1 (fun r2 u t H locs ht hvm h hB hz1 hk1 hS => ?_)
  obtain ⟨hP1, hK1, hD1⟩ := hB
  rw [ht] at hP1
  have hP : va_P D vwCl (wM m0 m1 m2 m3 m4 m5 k1 k2 k3 k4 k5 code funs made great up down size rows work xx power) H := hP1
  have hD : va_D A (wM m0 m1 m2 m3 m4 m5 k1 k2 k3 k4 k5 code funs made great up down size rows work xx power) := hD1.weaken (fun _ _ _ hq => hF1 _ hq)
  refine lv_if_ne (tgt := 17) hx hb d_M_letter_10 (by decide) (fun hc3 => ?_) (fun hc3 => ?_)
  · replace h := h.1 hc3
    refine lv_aload_n hx hb d_M_letter_17 rfl (lv_at hl 0 rfl) ?_
    refine va_get (D := D) (ci := 2) (v := .int funs) (C := R_M) (T := F_M) (N := 11) hx hb hB inF_M hown hK hP 0 rfl rfl 1 (by decide) (hB _ wd_339) (fun _ h9 => h9) rfl d_M_letter_18 ?_
    refine lv_bipush (v := 80) hx hb d_M_letter_21 (by decide) ?_
    refine lv_icmp_ne (tgt := 30) hx hb d_M_letter_23 (by decide) (fun hc4 => ?_) (fun hc4 => ?_)
    · replace h := h.1 hc4
      refine lv_iconst (v := 0) hx hb d_M_letter_30 (by decide) ?_
      refine va_put (D := D) (ci := 2) (v := .int 0) (ty := .int) (C := R_M) (T := F_M) (N := 11) hx hb hB inF_M t_M t_M_ok n_M hown hK hP hD hS 0 rfl rfl 0 (by decide) (hB _ wd_338) (fun _ h9 => h9) rfl (by decide +kernel) rfl rfl (Nat.le_of_ble_eq_true rfl) d_M_letter_31 (fun H locs hP hD hS => ?_)
      have hP : va_P D vwCl (wM m0 m1 m2 m3 m4 m5 k1 k2 k3 k4 k5 0 funs made great up down size rows work xx power) H := hP
      have hD : va_D A (wM m0 m1 m2 m3 m4 m5 k1 k2 k3 k4 k5 0 funs made great up down size rows work xx power) := hD
      refine lv_aload_n hx hb d_M_letter_34 rfl (lv_at hl 0 rfl) ?_
      refine va_get (D := D) (ci := 2) (v := .int 0) (C := R_M) (T := F_M) (N := 11) hx hb hB inF_M hown hK hP 0 rfl rfl 0 (by decide) (hB _ wd_338) (fun _ h9 => h9) rfl d_M_letter_35 ?_
      refine lv_if_le (tgt := 43) hx hb d_M_letter_38 (by decide) (fun _ => ?_) (fun c => absurd c (by decide))
      refine lv_aload_n hx hb d_M_letter_43 rfl (lv_at hl 0 rfl) ?_
      have hF5 := va_free (wc := (wM m0 m1 m2 m3 m4 m5 k1 k2 k3 k4 k5 0 funs made great up down size rows work xx power)) hD hS hA [0, 1, 2, 3, 4, 5] rfl
      refine va_callv (va_runV (As := []) (rest := []) ⟨hx, hb, hml, hown, hB⟩ (c_M_start l D m0 m1 m2 m3 m4 m5 k1 k2 k3 k4 k5 H.size 0 funs made great up down size rows work xx power _) (cwV 0 hB (goodV wd_360 wd_361 wd_508 wd_3 wd_362) rfl rfl rfl (by decide +kernel) ⟨Nat.le_of_ble_eq_true rfl, Nat.le_of_ble_eq_true rfl⟩) ⟨pcG_blind, va_recv hK hP (ci := 2) (q0 := 0) rfl rfl, pcG_pre hP hK hD h⟩ rfl rfl hl.1 rfl (lv_room (Nat.le_of_ble_eq_true rfl)) d_M_letter_44 ⟨Nat.le_of_ble_eq_true rfl, Nat.le_of_ble_eq_true rfl⟩) hS (fun q _ h => hF5 q h) hF5 (fun u t H locs ht hvm h hB hz1 hk1 hS => ?_)
      obtain ⟨made_6, great_7⟩ := u
      obtain ⟨hP1, hK1, hD1⟩ := hB
      rw [ht] at hP1
      have hP : va_P D vwCl (wM m0 m1 m2 m3 m4 m5 k1 k2 k3 k4 k5 0 funs made_6 great_7 up down size rows work xx power) H := hP1
      have hD : va_D A (wM m0 m1 m2 m3 m4 m5 k1 k2 k3 k4 k5 0 funs made_6 great_7 up down size rows work xx power) := hD1.weaken (fun _ _ _ hq => hF5 _ hq)
      refine lv_iconst (v := 0) hx hb d_M_letter_47 (by decide) ?_
      refine lv_istore_n (lv' := [(2, .int 0), (0, .ref m0), (1, .int p0)]) hx hb d_M_letter_48 rfl hl (by decide) rfl (fun ls hl => ?_)
      obtain ⟨n49, h⟩ := h
      refine W.cap (fun G49 Gi49 Ge49 => ?_)
      suffices hL49 : ∀ (n49 : Nat) (v2_8 : Int32) (xx_9 : (Nat → Int32)) (H : Heap) (locs : List Loc) (ls : Array Slot), va_P D vwCl (wM m0 m1 m2 m3 m4 m5 k1 k2 k3 k4 k5 0 funs made_6 great_7 up down size rows work xx_9 power) H → va_D A (wM m0 m1 m2 m3 m4 m5 k1 k2 k3 k4 k5 0 funs made_6 great_7 up down size rows work xx_9 power) → va_S A s.heap H locs → lv_has ls 3 [(2, .int v2_8), (0, .ref m0), (1, .int p0)] → lpW2 (wb_M_letter_49 made_6 great_7 up down work funs size rows post p0) n49 v2_8 xx_9 → G49 H locs (F0 m 49 ls []) from hL49 n49 (0 : Int32) xx _ _ _ hP hD hS hl h
      clear h hP hD hS hl
      intro n49
      induction n49 with
      | zero => intro v2_8 xx_9 H locs ls hP hD hS hl h; exact (show False from h).elim
      | succ n49 ihL49 =>
        intro v2_8 xx_9 H locs ls hP hD hS hl h
        replace h : (wb_M_letter_49 made_6 great_7 up down work funs size rows post p0) (lpW2 (wb_M_letter_49 made_6 great_7 up down work funs size rows post p0) n49) v2_8 xx_9 := h
        refine Gi49 _ _ _ ?_
        refine lv_iload_n hx hb d_M_letter_49 rfl (lv_at hl 0 rfl) ?_
        refine lv_iconst (v := 5) hx hb d_M_letter_50 (by decide) ?_
        refine lv_icmp_ge (tgt := 76) hx hb d_M_letter_51 (by decide) (fun hc10 => ?_) (fun hc10 => ?_)
        · replace h := h.1 hc10
          refine lv_aload_n hx hb d_M_letter_76 rfl (lv_at hl 1 rfl) ?_
          refine va_get (D := D) (ci := 2) (v := .ref m4) (C := R_M) (T := F_M) (N := 11) hx hb hB inF_M hown hK hP 0 rfl rfl 7 (by decide) (hB _ wd_345) (fun _ h9 => h9) rfl d_M_letter_77 ?_
          refine lv_iconst (v := 5) hx hb d_M_letter_80 (by decide) ?_
          refine lv_iconst (v := 1) hx hb d_M_letter_81 (by decide) ?_
          obtain ⟨g11, h⟩ := h
          obtain ⟨xx_12, exx_12⟩ : ∃ z : (Nat → Int32), z = upd xx_9 (5 : Int32).toNatClampNeg 1 := ⟨_, rfl⟩
          replace h := h xx_12 exx_12
          refine va_iast hx hb hK hP hD hS 4 3 rfl rfl g11 d_M_letter_82 (fun H locs hP hD hS => ?_)
          have hP : va_P D vwCl (wM m0 m1 m2 m3 m4 m5 k1 k2 k3 k4 k5 0 funs made_6 great_7 up down size rows work xx_12 power) H := by rw [exx_12]; exact hP
          have hD : va_D A (wM m0 m1 m2 m3 m4 m5 k1 k2 k3 k4 k5 0 funs made_6 great_7 up down size rows work xx_12 power) := by rw [exx_12]; exact hD
          refine lv_aload_n hx hb d_M_letter_83 rfl (lv_at hl 1 rfl) ?_
          refine va_get (D := D) (ci := 2) (v := .ref m4) (C := R_M) (T := F_M) (N := 11) hx hb hB inF_M hown hK hP 0 rfl rfl 7 (by decide) (hB _ wd_345) (fun _ h9 => h9) rfl d_M_letter_84 ?_
          refine lv_bipush (v := 6) hx hb d_M_letter_87 (by decide) ?_
          refine lv_iconst (v := 1) hx hb d_M_letter_89 (by decide) ?_
          obtain ⟨g13, h⟩ := h
          obtain ⟨xx_14, exx_14⟩ : ∃ z : (Nat → Int32), z = upd xx_12 (6 : Int32).toNatClampNeg 1 := ⟨_, rfl⟩
          replace h := h xx_14 exx_14
          refine va_iast hx hb hK hP hD hS 4 3 rfl rfl g13 d_M_letter_90 (fun H locs hP hD hS => ?_)
          have hP : va_P D vwCl (wM m0 m1 m2 m3 m4 m5 k1 k2 k3 k4 k5 0 funs made_6 great_7 up down size rows work xx_14 power) H := by rw [exx_14]; exact hP
          have hD : va_D A (wM m0 m1 m2 m3 m4 m5 k1 k2 k3 k4 k5 0 funs made_6 great_7 up down size rows work xx_14 power) := by rw [exx_14]; exact hD
          refine lv_aload_n hx hb d_M_letter_91 rfl (lv_at hl 1 rfl) ?_
          have hF15 := va_free (wc := (wM m0 m1 m2 m3 m4 m5 k1 k2 k3 k4 k5 0 funs made_6 great_7 up down size rows work xx_14 power)) hD hS hA [0, 1, 2, 3, 4, 5] rfl
          refine va_callv (va_runV (As := []) (rest := []) ⟨hx, hb, hml, hown, hB⟩ (c_M_put l D m0 m1 m2 m3 m4 m5 k1 k2 k3 k4 k5 H.size 0 funs made_6 great_7 up down size rows work xx_14 power _) (cwV 0 hB (goodV wd_376 wd_377 wd_511 wd_3 wd_378) rfl rfl rfl (by decide +kernel) ⟨Nat.le_of_ble_eq_true rfl, Nat.le_of_ble_eq_true rfl⟩) ⟨pcG_blind, va_recv hK hP (ci := 2) (q0 := 0) rfl rfl, pcG_pre hP hK hD h⟩ rfl rfl hl.1 rfl (lv_room (Nat.le_of_ble_eq_true rfl)) d_M_letter_92 ⟨Nat.le_of_ble_eq_true rfl, Nat.le_of_ble_eq_true rfl⟩) hS (fun q _ h => hF15 q h) hF15 (fun u t H locs ht hvm h hB hz1 hk1 hS => ?_)
          obtain ⟨made_16, great_17, up_18, down_19, work_20⟩ := u
          obtain ⟨hP1, hK1, hD1⟩ := hB
          rw [ht] at hP1
          have hP : va_P D vwCl (wM m0 m1 m2 m3 m4 m5 k1 k2 k3 k4 k5 0 funs made_16 great_17 up_18 down_19 size rows work_20 xx_14 power) H := hP1
          have hD : va_D A (wM m0 m1 m2 m3 m4 m5 k1 k2 k3 k4 k5 0 funs made_16 great_17 up_18 down_19 size rows work_20 xx_14 power) := hD1.weaken (fun _ _ _ hq => hF15 _ hq)
          refine lv_aload_n hx hb d_M_letter_95 rfl (lv_at hl 1 rfl) ?_
          have hF21 := va_free (wc := (wM m0 m1 m2 m3 m4 m5 k1 k2 k3 k4 k5 0 funs made_16 great_17 up_18 down_19 size rows work_20 xx_14 power)) hD hS hA [0, 1, 2, 3, 4, 5] rfl
          refine va_calli (va_runV (As := []) (rest := []) ⟨hx, hb, hml, hown, hB⟩ (c_M_keep l D m0 m1 m2 m3 m4 m5 k1 k2 k3 k4 k5 H.size 0 funs made_16 great_17 up_18 down_19 size rows work_20 xx_14 power _) (cwV 0 hB (goodV wd_387 wd_388 wd_513 wd_3 wd_389) rfl rfl rfl (by decide +kernel) ⟨Nat.le_of_ble_eq_true rfl, Nat.le_of_ble_eq_true rfl⟩) ⟨pcG_blind, va_recv hK hP (ci := 2) (q0 := 0) rfl rfl, pcG_pre hP hK hD h⟩ rfl rfl hl.1 rfl (lv_room (Nat.le_of_ble_eq_true rfl)) d_M_letter_96 ⟨Nat.le_of_ble_eq_true rfl, Nat.le_of_ble_eq_true rfl⟩) hS (fun q _ h => hF21 q h) hF21 (fun r22 u t H locs ht hvm h hB hz1 hk1 hS => ?_)
          obtain ⟨code_23, funs_24, size_25, rows_26⟩ := u
          obtain ⟨hP1, hK1, hD1⟩ := hB
          rw [ht] at hP1
          have hP : va_P D vwCl (wM m0 m1 m2 m3 m4 m5 k1 k2 k3 k4 k5 code_23 funs_24 made_16 great_17 up_18 down_19 size_25 rows_26 work_20 xx_14 power) H := hP1
          have hD : va_D A (wM m0 m1 m2 m3 m4 m5 k1 k2 k3 k4 k5 code_23 funs_24 made_16 great_17 up_18 down_19 size_25 rows_26 work_20 xx_14 power) := hD1.weaken (fun _ _ _ hq => hF21 _ hq)
          exact W.iret (v := r22) hx hb hr (fun t ht hW => ⟨⟨r22, (code_23, funs_24, made_16, great_17, up_18, down_19, size_25, rows_26, work_20, xx_14), rfl, h, by rw [ht]; exact hP, va_K.moved hW.alike hK, hD⟩, hS.F ht⟩) hS.2.2 d_M_letter_99
        · replace h := h.2 hc10
          refine lv_aload_n hx hb d_M_letter_54 rfl (lv_at hl 1 rfl) ?_
          refine va_get (D := D) (ci := 2) (v := .ref m4) (C := R_M) (T := F_M) (N := 11) hx hb hB inF_M hown hK hP 0 rfl rfl 7 (by decide) (hB _ wd_345) (fun _ h9 => h9) rfl d_M_letter_55 ?_
          refine lv_iload_n hx hb d_M_letter_58 rfl (lv_at hl 0 rfl) ?_
          refine lv_iload_n hx hb d_M_letter_59 rfl (lv_at hl 0 rfl) ?_
          refine lv_iload_n hx hb d_M_letter_60 rfl (lv_at hl 2 rfl) ?_
          refine lv_icmp_ne (tgt := 68) hx hb d_M_letter_61 (by decide) (fun hc27 => ?_) (fun hc27 => ?_)
          · replace h := h.1 hc27
            refine lv_iconst (v := 0) hx hb d_M_letter_68 (by decide) ?_
            obtain ⟨g28, h⟩ := h
            obtain ⟨xx_29, exx_29⟩ : ∃ z : (Nat → Int32), z = upd xx_9 v2_8.toNatClampNeg 0 := ⟨_, rfl⟩
            replace h := h xx_29 exx_29
            refine va_iast hx hb hK hP hD hS 4 3 rfl rfl g28 d_M_letter_69 (fun H locs hP hD hS => ?_)
            have hP : va_P D vwCl (wM m0 m1 m2 m3 m4 m5 k1 k2 k3 k4 k5 0 funs made_6 great_7 up down size rows work xx_29 power) H := by rw [exx_29]; exact hP
            have hD : va_D A (wM m0 m1 m2 m3 m4 m5 k1 k2 k3 k4 k5 0 funs made_6 great_7 up down size rows work xx_29 power) := by rw [exx_29]; exact hD
            obtain ⟨x30, ex30⟩ : ∃ z : Int32, z = v2_8 + 1 := ⟨_, rfl⟩
            replace h := h x30 ex30
            refine lv_iinc (v := x30) (lv' := [(2, .int x30), (0, .ref m0), (1, .int p0)]) hx hb d_M_letter_70 hl (k := 0) rfl (by rw [ex30]; rfl) (by decide) rfl (fun ls hl => ?_)
            refine lv_goto (tgt := 49) hx hb d_M_letter_73 (by decide) ?_
            exact Ge49 _ _ _ (ihL49 x30 xx_29 _ _ _ hP hD hS (lv_sub hl [0, 1, 2] rfl) h)
          · replace h := h.2 hc27
            refine lv_iconst (v := 1) hx hb d_M_letter_64 (by decide) ?_
            refine lv_goto (tgt := 69) hx hb d_M_letter_65 (by decide) ?_
            obtain ⟨g31, h⟩ := h
            obtain ⟨xx_32, exx_32⟩ : ∃ z : (Nat → Int32), z = upd xx_9 v2_8.toNatClampNeg 1 := ⟨_, rfl⟩
            replace h := h xx_32 exx_32
            refine va_iast hx hb hK hP hD hS 4 3 rfl rfl g31 d_M_letter_69 (fun H locs hP hD hS => ?_)
            have hP : va_P D vwCl (wM m0 m1 m2 m3 m4 m5 k1 k2 k3 k4 k5 0 funs made_6 great_7 up down size rows work xx_32 power) H := by rw [exx_32]; exact hP
            have hD : va_D A (wM m0 m1 m2 m3 m4 m5 k1 k2 k3 k4 k5 0 funs made_6 great_7 up down size rows work xx_32 power) := by rw [exx_32]; exact hD
            obtain ⟨x33, ex33⟩ : ∃ z : Int32, z = v2_8 + 1 := ⟨_, rfl⟩
            replace h := h x33 ex33
            refine lv_iinc (v := x33) (lv' := [(2, .int x33), (0, .ref m0), (1, .int p0)]) hx hb d_M_letter_70 hl (k := 0) rfl (by rw [ex33]; rfl) (by decide) rfl (fun ls hl => ?_)
            refine lv_goto (tgt := 49) hx hb d_M_letter_73 (by decide) ?_
            exact Ge49 _ _ _ (ihL49 x33 xx_32 _ _ _ hP hD hS (lv_sub hl [0, 1, 2] rfl) h)
    · replace h := h.2 hc4
      refine lv_iconst (v := 2) hx hb d_M_letter_26 (by decide) ?_
      refine lv_goto (tgt := 31) hx hb d_M_letter_27 (by decide) ?_
      refine va_put (D := D) (ci := 2) (v := .int 2) (ty := .int) (C := R_M) (T := F_M) (N := 11) hx hb hB inF_M t_M t_M_ok n_M hown hK hP hD hS 0 rfl rfl 0 (by decide) (hB _ wd_338) (fun _ h9 => h9) rfl (by decide +kernel) rfl rfl (Nat.le_of_ble_eq_true rfl) d_M_letter_31 (fun H locs hP hD hS => ?_)
      have hP : va_P D vwCl (wM m0 m1 m2 m3 m4 m5 k1 k2 k3 k4 k5 2 funs made great up down size rows work xx power) H := hP
      have hD : va_D A (wM m0 m1 m2 m3 m4 m5 k1 k2 k3 k4 k5 2 funs made great up down size rows work xx power) := hD
      refine lv_aload_n hx hb d_M_letter_34 rfl (lv_at hl 0 rfl) ?_
      refine va_get (D := D) (ci := 2) (v := .int 2) (C := R_M) (T := F_M) (N := 11) hx hb hB inF_M hown hK hP 0 rfl rfl 0 (by decide) (hB _ wd_338) (fun _ h9 => h9) rfl d_M_letter_35 ?_
      refine lv_if_le (tgt := 43) hx hb d_M_letter_38 (by decide) (fun c => absurd c (by decide)) (fun _ => ?_)
      refine lv_iconst (v := 0) hx hb d_M_letter_41 (by decide) ?_
      exact W.iret (v := 0) hx hb hr (fun t ht hW => ⟨⟨0, (2, funs, made, great, up, down, size, rows, work, xx), rfl, h, by rw [ht]; exact hP, va_K.moved hW.alike hK, hD⟩, hS.F ht⟩) hS.2.2 d_M_letter_42
  · replace h := h.2 hc3
    refine lv_iconst (v := 1) hx hb d_M_letter_13 (by decide) ?_
    refine lv_goto (tgt := 31) hx hb d_M_letter_14 (by decide) ?_
    refine va_put (D := D) (ci := 2) (v := .int 1) (ty := .int) (C := R_M) (T := F_M) (N := 11) hx hb hB inF_M t_M t_M_ok n_M hown hK hP hD hS 0 rfl rfl 0 (by decide) (hB _ wd_338) (fun _ h9 => h9) rfl (by decide +kernel) rfl rfl (Nat.le_of_ble_eq_true rfl) d_M_letter_31 (fun H locs hP hD hS => ?_)
    have hP : va_P D vwCl (wM m0 m1 m2 m3 m4 m5 k1 k2 k3 k4 k5 1 funs made great up down size rows work xx power) H := hP
    have hD : va_D A (wM m0 m1 m2 m3 m4 m5 k1 k2 k3 k4 k5 1 funs made great up down size rows work xx power) := hD
    refine lv_aload_n hx hb d_M_letter_34 rfl (lv_at hl 0 rfl) ?_
    refine va_get (D := D) (ci := 2) (v := .int 1) (C := R_M) (T := F_M) (N := 11) hx hb hB inF_M hown hK hP 0 rfl rfl 0 (by decide) (hB _ wd_338) (fun _ h9 => h9) rfl d_M_letter_35 ?_
    refine lv_if_le (tgt := 43) hx hb d_M_letter_38 (by decide) (fun c => absurd c (by decide)) (fun _ => ?_)
    refine lv_iconst (v := 0) hx hb d_M_letter_41 (by decide) ?_
    exact W.iret (v := 0) hx hb hr (fun t ht hW => ⟨⟨0, (1, funs, made, great, up, down, size, rows, work, xx), rfl, h, by rw [ht]; exact hP, va_K.moved hW.alike hK, hD⟩, hS.F ht⟩) hS.2.2 d_M_letter_42
set_option maxHeartbeats 4000000 in
set_option maxRecDepth 100000 in
theorem c_M_add (l : Launch) (D : va_G) (m0 m1 m2 m3 m4 m5 : Nat) (k1 k2 k3 k4 k5 : ClassId) (sz : Nat) (code : Int32) (funs : Int32) (made : Int32) (great : Int32) (up : Int64) (down : Int64) (size : (Nat → Int32)) (rows : (Nat → Int32)) (work : (Nat → Int32)) (xx : (Nat → Int32)) (power : (Nat → Int32)) (p0 : Int32) (p1 : Int32) (post : Int32 → Int32 → Int32 → Int32 → Int32 → Int64 → Int64 → (Nat → Int32) → (Nat → Int32) → (Nat → Int32) → (Nat → Int32) → Prop) : Met l y_M_add (Cond.code y_M_add b_M_add 4 (some .int) :: BIG) ({ frames := 4, cells := 0, slots := 0, locals := 102 }) (va_Pc [.ref m0, .int p0, .int p1] (pcG D vwCl (wM m0 m1 m2 m3 m4 m5 k1 k2 k3 k4 k5 code funs made great up down size rows work xx power) [(k1, .int), (k2, .int), (k3, .int), (k4, .int), (k5, .int)] sz (wp_M_add code funs made great up down size rows work xx p0 p1 post))) (va_Qi (fun (r : Int32) (u : Int32 × Int32 × Int32 × Int32 × Int64 × Int64 × (Nat → Int32) × (Nat → Int32) × (Nat → Int32) × (Nat → Int32)) => post r (u.1) (u.2.1) (u.2.2.1) (u.2.2.2.1) (u.2.2.2.2.1) (u.2.2.2.2.2.1) (u.2.2.2.2.2.2.1) (u.2.2.2.2.2.2.2.1) (u.2.2.2.2.2.2.2.2.1) (u.2.2.2.2.2.2.2.2.2)) (fun u => atG D vwCl [(k1, .int), (k2, .int), (k3, .int), (k4, .int), (k5, .int)] (va_A (wM m0 m1 m2 m3 m4 m5 k1 k2 k3 k4 k5 code funs made great up down size rows work xx power) sz) (wM m0 m1 m2 m3 m4 m5 k1 k2 k3 k4 k5 (u.1) (u.2.1) (u.2.2.1) (u.2.2.2.1) (u.2.2.2.2.1) (u.2.2.2.2.2.1) (u.2.2.2.2.2.2.1) (u.2.2.2.2.2.2.2.1) (u.2.2.2.2.2.2.2.2.1) (u.2.2.2.2.2.2.2.2.2) power)) (va_A (wM m0 m1 m2 m3 m4 m5 k1 k2 k3 k4 k5 code funs made great up down size rows work xx power) sz)) 0 0 (va_A (wM m0 m1 m2 m3 m4 m5 k1 k2 k3 k4 k5 code funs made great up down size rows work xx power) sz) := by
  refine Met.ofW (cc := b_M_add) (maxL := 4) (ret := (some .int)) (by decide) rfl ?_
  intro p e s m args below meth c s₁ B hml hv
  obtain ⟨rfl, hsz, hP, hK, hD0, h⟩ := hv
  have hx := B.exec
  have hb := B.bytes
  have hr := B.returns
  have hB : ∀ w ∈ BIG, w.before _ s = true := fun w h => atoms_spec (ws := (Cond.code y_M_add b_M_add 4 (some .int) :: BIG)) B.pre w (List.mem_cons_of_mem _ h)
  have hown : s.vm.findClass R_M = some m.cls := findClass_of_methodNamed B.named
  have hlocks := B.notSynchronized
  subst hsz
  have hD := hD0.self (sz := s.heap.size)
  generalize hAe : va_A (wM m0 m1 m2 m3 m4 m5 k1 k2 k3 k4 k5 code funs made great up down size rows work xx power) s.heap.size = A at hD ⊢
  have hA : ∀ q : Nat, s.heap.size ≤ q → A q := fun q h => by rw [← hAe]; exact Or.inr h
  have hl := lv_entry ([.ref m0, .int p0, .int p1]) (n := 4) (Nat.le_of_ble_eq_true rfl)
  rw [lg_entry_eq]
  generalize (lg_sl ([.ref m0, .int p0, .int p1]) ++ List.replicate (4 - (lg_sl ([.ref m0, .int p0, .int p1])).length) Slot.unset).toArray = ls at hl ⊢
  have hl : lv_has ls 4 [(0, .ref m0), (1, .int p0), (2, .int p1)] := hl
  refine W.cap (fun G Gi Ge => ?_)
  suffices hL : ∀ (H : Heap) (locs : List Loc), va_P D vwCl (wM m0 m1 m2 m3 m4 m5 k1 k2 k3 k4 k5 code funs made great up down size rows work xx power) H → va_S A s.heap H locs → G H locs (F0 m 0 ls []) from hL _ _ hP va_S.rf
  clear hP
  intro H locs hP hS
  refine Gi _ _ _ ?_
  unfold wp_M_add at h
  refine lv_aload_n hx hb d_M_add_0 rfl (lv_at hl 0 rfl) ?_
  refine lv_iload_n hx hb d_M_add_1 rfl (lv_at hl 1 rfl) ?_
  refine lv_iload_n hx hb d_M_add_2 rfl (lv_at hl 2 rfl) ?_
  have hF1 := va_free (wc := (wM m0 m1 m2 m3 m4 m5 k1 k2 k3 k4 k5 code funs made great up down size rows work xx power)) hD hS hA [0, 1, 2, 3, 4, 5] rfl
  refine va_calli (va_runV (As := [.int p0, .int p1]) (rest := []) ⟨hx, hb, hml, hown, hB⟩ (c_M_may l D m0 m1 m2 m3 m4 m5 k1 k2 k3 k4 k5 H.size code funs made great up down size rows work xx power p0 p1 _) (cwV 2 hB (goodV wd_399 wd_400 wd_514 wd_3 wd_401) rfl rfl rfl (by decide +kernel) ⟨Nat.le_of_ble_eq_true rfl, Nat.le_of_ble_eq_true rfl⟩) ⟨pcG_blind, va_recv hK hP (ci := 2) (q0 := 0) rfl rfl, pcG_pre hP hK hD h⟩ rfl rfl hl.1 rfl (lv_room (Nat.le_of_ble_eq_true rfl)) d_M_add_3 ⟨Nat.le_of_ble_eq_true rfl, Nat.le_of_ble_eq_true rfl⟩) hS (fun q _ h => hF1 q h) hF1 (fun r2 code_3 t H locs ht hvm h hB hz1 hk1 hS => ?_)
  obtain ⟨hP1, hK1, hD1⟩ := hB
  rw [ht] at hP1
  have hP : va_P D vwCl (wM m0 m1 m2 m3 m4 m5 k1 k2 k3 k4 k5 code_3 funs made great up down size rows work xx power) H := hP1
  have hD : va_D A (wM m0 m1 m2 m3 m4 m5 k1 k2 k3 k4 k5 code_3 funs made great up down size rows work xx power) := hD1.weaken (fun _ _ _ hq => hF1 _ hq)
  refine lv_if_ne (tgt := 11) hx hb d_M_add_6 (by decide) (fun hc4 => ?_) (fun hc4 => ?_)
  · replace h := h.1 hc4
    refine lv_aload_n hx hb d_M_add_11 rfl (lv_at hl 0 rfl) ?_
    have hF5 := va_free (wc := (wM m0 m1 m2 m3 m4 m5 k1 k2 k3 k4 k5 code_3 funs made great up down size rows work xx power)) hD hS hA [0, 1, 2, 3, 4, 5] rfl
    refine va_callv (va_runV (As := []) (rest := []) ⟨hx, hb, hml, hown, hB⟩ (c_M_start l D m0 m1 m2 m3 m4 m5 k1 k2 k3 k4 k5 H.size code_3 funs made great up down size rows work xx power _) (cwV 0 hB (goodV wd_360 wd_361 wd_508 wd_3 wd_362) rfl rfl rfl (by decide +kernel) ⟨Nat.le_of_ble_eq_true rfl, Nat.le_of_ble_eq_true rfl⟩) ⟨pcG_blind, va_recv hK hP (ci := 2) (q0 := 0) rfl rfl, pcG_pre hP hK hD h⟩ rfl rfl hl.1 rfl (lv_room (Nat.le_of_ble_eq_true rfl)) d_M_add_12 ⟨Nat.le_of_ble_eq_true rfl, Nat.le_of_ble_eq_true rfl⟩) hS (fun q _ h => hF5 q h) hF5 (fun u t H locs ht hvm h hB hz1 hk1 hS => ?_)
    obtain ⟨made_6, great_7⟩ := u
    obtain ⟨hP1, hK1, hD1⟩ := hB
    rw [ht] at hP1
    have hP : va_P D vwCl (wM m0 m1 m2 m3 m4 m5 k1 k2 k3 k4 k5 code_3 funs made_6 great_7 up down size rows work xx power) H := hP1
    have hD : va_D A (wM m0 m1 m2 m3 m4 m5 k1 k2 k3 k4 k5 code_3 funs made_6 great_7 up down size rows work xx power) := hD1.weaken (fun _ _ _ hq => hF5 _ hq)
    refine lv_iconst (v := 0) hx hb d_M_add_15 (by decide) ?_
    refine lv_istore_n (lv' := [(3, .int 0), (0, .ref m0), (1, .int p0), (2, .int p1)]) hx hb d_M_add_16 rfl hl (by decide) rfl (fun ls hl => ?_)
    obtain ⟨n17, h⟩ := h
    refine W.cap (fun G17 Gi17 Ge17 => ?_)
    suffices hL17 : ∀ (n17 : Nat) (v3_8 : Int32) (made_9 : Int32) (great_10 : Int32) (up_11 : Int64) (down_12 : Int64) (work_13 : (Nat → Int32)) (xx_14 : (Nat → Int32)) (H : Heap) (locs : List Loc) (ls : Array Slot), va_P D vwCl (wM m0 m1 m2 m3 m4 m5 k1 k2 k3 k4 k5 code_3 funs made_9 great_10 up_11 down_12 size rows work_13 xx_14 power) H → va_D A (wM m0 m1 m2 m3 m4 m5 k1 k2 k3 k4 k5 code_3 funs made_9 great_10 up_11 down_12 size rows work_13 xx_14 power) → va_S A s.heap H locs → lv_has ls 4 [(3, .int v3_8), (0, .ref m0), (1, .int p0), (2, .int p1)] → lpW7 (wb_M_add_17 p0 size p1 code_3 funs rows post) n17 v3_8 made_9 great_10 up_11 down_12 work_13 xx_14 → G17 H locs (F0 m 17 ls []) from hL17 n17 (0 : Int32) made_6 great_7 up down work xx _ _ _ hP hD hS hl h
    clear h hP hD hS hl
    intro n17
    induction n17 with
    | zero => intro v3_8 made_9 great_10 up_11 down_12 work_13 xx_14 H locs ls hP hD hS hl h; exact (show False from h).elim
    | succ n17 ihL17 =>
      intro v3_8 made_9 great_10 up_11 down_12 work_13 xx_14 H locs ls hP hD hS hl h
      replace h : (wb_M_add_17 p0 size p1 code_3 funs rows post) (lpW7 (wb_M_add_17 p0 size p1 code_3 funs rows post) n17) v3_8 made_9 great_10 up_11 down_12 work_13 xx_14 := h
      refine Gi17 _ _ _ ?_
      refine lv_iload_n hx hb d_M_add_17 rfl (lv_at hl 0 rfl) ?_
      refine lv_aload_n hx hb d_M_add_18 rfl (lv_at hl 1 rfl) ?_
      refine va_get (D := D) (ci := 2) (v := .ref m1) (C := R_M) (T := F_M) (N := 11) hx hb hB inF_M hown hK hP 0 rfl rfl 2 (by decide) (hB _ wd_340) (fun _ h9 => h9) rfl d_M_add_19 ?_
      refine lv_iload_n hx hb d_M_add_22 rfl (lv_at hl 2 rfl) ?_
      obtain ⟨g15, h⟩ := h
      refine va_iald hx hb hK hP 1 0 rfl rfl g15 d_M_add_23 ?_
      refine lv_icmp_ge (tgt := 43) hx hb d_M_add_24 (by decide) (fun hc16 => ?_) (fun hc16 => ?_)
      · replace h := h.1 hc16
        refine lv_iconst (v := 0) hx hb d_M_add_43 (by decide) ?_
        refine lv_istore_n (lv' := [(3, .int 0), (0, .ref m0), (1, .int p0), (2, .int p1)]) hx hb d_M_add_44 rfl hl (by decide) rfl (fun ls hl => ?_)
        obtain ⟨n45, h⟩ := h
        refine W.cap (fun G45 Gi45 Ge45 => ?_)
        suffices hL45 : ∀ (n45 : Nat) (v3_17 : Int32) (made_18 : Int32) (great_19 : Int32) (up_20 : Int64) (down_21 : Int64) (work_22 : (Nat → Int32)) (xx_23 : (Nat → Int32)) (H : Heap) (locs : List Loc) (ls : Array Slot), va_P D vwCl (wM m0 m1 m2 m3 m4 m5 k1 k2 k3 k4 k5 code_3 funs made_18 great_19 up_20 down_21 size rows work_22 xx_23 power) H → va_D A (wM m0 m1 m2 m3 m4 m5 k1 k2 k3 k4 k5 code_3 funs made_18 great_19 up_20 down_21 size rows work_22 xx_23 power) → va_S A s.heap H locs → lv_has ls 4 [(3, .int v3_17), (0, .ref m0), (1, .int p0), (2, .int p1)] → lpW7 (wb_M_add_45 p1 size code_3 funs rows post) n45 v3_17 made_18 great_19 up_20 down_21 work_22 xx_23 → G45 H locs (F0 m 45 ls []) from hL45 n45 (0 : Int32) made_9 great_10 up_11 down_12 work_13 xx_14 _ _ _ hP hD hS hl h
        clear h hP hD hS hl
        intro n45
        induction n45 with
        | zero => intro v3_17 made_18 great_19 up_20 down_21 work_22 xx_23 H locs ls hP hD hS hl h; exact (show False from h).elim
        | succ n45 ihL45 =>
          intro v3_17 made_18 great_19 up_20 down_21 work_22 xx_23 H locs ls hP hD hS hl h
          replace h : (wb_M_add_45 p1 size code_3 funs rows post) (lpW7 (wb_M_add_45 p1 size code_3 funs rows post) n45) v3_17 made_18 great_19 up_20 down_21 work_22 xx_23 := h
          refine Gi45 _ _ _ ?_
          refine lv_iload_n hx hb d_M_add_45 rfl (lv_at hl 0 rfl) ?_
          refine lv_aload_n hx hb d_M_add_46 rfl (lv_at hl 1 rfl) ?_
          refine va_get (D := D) (ci := 2) (v := .ref m1) (C := R_M) (T := F_M) (N := 11) hx hb hB inF_M hown hK hP 0 rfl rfl 2 (by decide) (hB _ wd_340) (fun _ h9 => h9) rfl d_M_add_47 ?_
          refine lv_iload_n hx hb d_M_add_50 rfl (lv_at hl 3 rfl) ?_
          obtain ⟨g24, h⟩ := h
          refine va_iald hx hb hK hP 1 0 rfl rfl g24 d_M_add_51 ?_
          refine lv_icmp_ge (tgt := 71) hx hb d_M_add_52 (by decide) (fun hc25 => ?_) (fun hc25 => ?_)
          · replace h := h.1 hc25
            refine lv_aload_n hx hb d_M_add_71 rfl (lv_at hl 1 rfl) ?_
            have hF26 := va_free (wc := (wM m0 m1 m2 m3 m4 m5 k1 k2 k3 k4 k5 code_3 funs made_18 great_19 up_20 down_21 size rows work_22 xx_23 power)) hD hS hA [0, 1, 2, 3, 4, 5] rfl
            refine va_calli (va_runV (As := []) (rest := []) ⟨hx, hb, hml, hown, hB⟩ (c_M_keep l D m0 m1 m2 m3 m4 m5 k1 k2 k3 k4 k5 H.size code_3 funs made_18 great_19 up_20 down_21 size rows work_22 xx_23 power _) (cwV 0 hB (goodV wd_387 wd_388 wd_513 wd_3 wd_389) rfl rfl rfl (by decide +kernel) ⟨Nat.le_of_ble_eq_true rfl, Nat.le_of_ble_eq_true rfl⟩) ⟨pcG_blind, va_recv hK hP (ci := 2) (q0 := 0) rfl rfl, pcG_pre hP hK hD h⟩ rfl rfl hl.1 rfl (lv_room (Nat.le_of_ble_eq_true rfl)) d_M_add_72 ⟨Nat.le_of_ble_eq_true rfl, Nat.le_of_ble_eq_true rfl⟩) hS (fun q _ h => hF26 q h) hF26 (fun r27 u t H locs ht hvm h hB hz1 hk1 hS => ?_)
            obtain ⟨code_28, funs_29, size_30, rows_31⟩ := u
            obtain ⟨hP1, hK1, hD1⟩ := hB
            rw [ht] at hP1
            have hP : va_P D vwCl (wM m0 m1 m2 m3 m4 m5 k1 k2 k3 k4 k5 code_28 funs_29 made_18 great_19 up_20 down_21 size_30 rows_31 work_22 xx_23 power) H := hP1
            have hD : va_D A (wM m0 m1 m2 m3 m4 m5 k1 k2 k3 k4 k5 code_28 funs_29 made_18 great_19 up_20 down_21 size_30 rows_31 work_22 xx_23 power) := hD1.weaken (fun _ _ _ hq => hF26 _ hq)
            exact W.iret (v := r27) hx hb hr (fun t ht hW => ⟨⟨r27, (code_28, funs_29, made_18, great_19, up_20, down_21, size_30, rows_31, work_22, xx_23), rfl, h, by rw [ht]; exact hP, va_K.moved hW.alike hK, hD⟩, hS.F ht⟩) hS.2.2 d_M_add_75
          · replace h := h.2 hc25
            refine lv_aload_n hx hb d_M_add_55 rfl (lv_at hl 1 rfl) ?_
            refine lv_iload_n hx hb d_M_add_56 rfl (lv_at hl 3 rfl) ?_
            refine lv_iload_n hx hb d_M_add_57 rfl (lv_at hl 0 rfl) ?_
            have hF32 := va_free (wc := (wM m0 m1 m2 m3 m4 m5 k1 k2 k3 k4 k5 code_3 funs made_18 great_19 up_20 down_21 size rows work_22 xx_23 power)) hD hS hA [0, 1, 2, 3, 4, 5] rfl
            refine va_callv (va_runV (As := [.int p1, .int v3_17]) (rest := []) ⟨hx, hb, hml, hown, hB⟩ (c_M_load l D m0 m1 m2 m3 m4 m5 k1 k2 k3 k4 k5 H.size code_3 funs made_18 great_19 up_20 down_21 size rows work_22 xx_23 power p1 v3_17 _) (cwV 2 hB (goodV wd_405 wd_406 wd_516 wd_3 wd_407) rfl rfl rfl (by decide +kernel) ⟨Nat.le_of_ble_eq_true rfl, Nat.le_of_ble_eq_true rfl⟩) ⟨pcG_blind, va_recv hK hP (ci := 2) (q0 := 0) rfl rfl, pcG_pre hP hK hD h⟩ rfl rfl hl.1 rfl (lv_room (Nat.le_of_ble_eq_true rfl)) d_M_add_58 ⟨Nat.le_of_ble_eq_true rfl, Nat.le_of_ble_eq_true rfl⟩) hS (fun q _ h => hF32 q h) hF32 (fun xx_33 t H locs ht hvm h hB hz1 hk1 hS => ?_)
            obtain ⟨hP1, hK1, hD1⟩ := hB
            rw [ht] at hP1
            have hP : va_P D vwCl (wM m0 m1 m2 m3 m4 m5 k1 k2 k3 k4 k5 code_3 funs made_18 great_19 up_20 down_21 size rows work_22 xx_33 power) H := hP1
            have hD : va_D A (wM m0 m1 m2 m3 m4 m5 k1 k2 k3 k4 k5 code_3 funs made_18 great_19 up_20 down_21 size rows work_22 xx_33 power) := hD1.weaken (fun _ _ _ hq => hF32 _ hq)
            refine lv_aload_n hx hb d_M_add_61 rfl (lv_at hl 1 rfl) ?_
            have hF34 := va_free (wc := (wM m0 m1 m2 m3 m4 m5 k1 k2 k3 k4 k5 code_3 funs made_18 great_19 up_20 down_21 size rows work_22 xx_33 power)) hD hS hA [0, 1, 2, 3, 4, 5] rfl
            refine va_callv (va_runV (As := []) (rest := []) ⟨hx, hb, hml, hown, hB⟩ (c_M_put l D m0 m1 m2 m3 m4 m5 k1 k2 k3 k4 k5 H.size code_3 funs made_18 great_19 up_20 down_21 size rows work_22 xx_33 power _) (cwV 0 hB (goodV wd_376 wd_377 wd_511 wd_3 wd_378) rfl rfl rfl (by decide +kernel) ⟨Nat.le_of_ble_eq_true rfl, Nat.le_of_ble_eq_true rfl⟩) ⟨pcG_blind, va_recv hK hP (ci := 2) (q0 := 0) rfl rfl, pcG_pre hP hK hD h⟩ rfl rfl hl.1 rfl (lv_room (Nat.le_of_ble_eq_true rfl)) d_M_add_62 ⟨Nat.le_of_ble_eq_true rfl, Nat.le_of_ble_eq_true rfl⟩) hS (fun q _ h => hF34 q h) hF34 (fun u t H locs ht hvm h hB hz1 hk1 hS => ?_)
            obtain ⟨made_35, great_36, up_37, down_38, work_39⟩ := u
            obtain ⟨hP1, hK1, hD1⟩ := hB
            rw [ht] at hP1
            have hP : va_P D vwCl (wM m0 m1 m2 m3 m4 m5 k1 k2 k3 k4 k5 code_3 funs made_35 great_36 up_37 down_38 size rows work_39 xx_33 power) H := hP1
            have hD : va_D A (wM m0 m1 m2 m3 m4 m5 k1 k2 k3 k4 k5 code_3 funs made_35 great_36 up_37 down_38 size rows work_39 xx_33 power) := hD1.weaken (fun _ _ _ hq => hF34 _ hq)
            obtain ⟨x40, ex40⟩ : ∃ z : Int32, z = v3_17 + 1 := ⟨_, rfl⟩
            replace h := h x40 ex40
            refine lv_iinc (v := x40) (lv' := [(3, .int x40), (0, .ref m0), (1, .int p0), (2, .int p1)]) hx hb d_M_add_65 hl (k := 0) rfl (by rw [ex40]; rfl) (by decide) rfl (fun ls hl => ?_)
            refine lv_goto (tgt := 45) hx hb d_M_add_68 (by decide) ?_
            exact Ge45 _ _ _ (ihL45 x40 made_35 great_36 up_37 down_38 work_39 xx_33 _ _ _ hP hD hS (lv_sub hl [0, 1, 2, 3] rfl) h)
      · replace h := h.2 hc16
        refine lv_aload_n hx hb d_M_add_27 rfl (lv_at hl 1 rfl) ?_
        refine lv_iload_n hx hb d_M_add_28 rfl (lv_at hl 2 rfl) ?_
        refine lv_iload_n hx hb d_M_add_29 rfl (lv_at hl 0 rfl) ?_
        have hF41 := va_free (wc := (wM m0 m1 m2 m3 m4 m5 k1 k2 k3 k4 k5 code_3 funs made_9 great_10 up_11 down_12 size rows work_13 xx_14 power)) hD hS hA [0, 1, 2, 3, 4, 5] rfl
        refine va_callv (va_runV (As := [.int p0, .int v3_8]) (rest := []) ⟨hx, hb, hml, hown, hB⟩ (c_M_load l D m0 m1 m2 m3 m4 m5 k1 k2 k3 k4 k5 H.size code_3 funs made_9 great_10 up_11 down_12 size rows work_13 xx_14 power p0 v3_8 _) (cwV 2 hB (goodV wd_405 wd_406 wd_516 wd_3 wd_407) rfl rfl rfl (by decide +kernel) ⟨Nat.le_of_ble_eq_true rfl, Nat.le_of_ble_eq_true rfl⟩) ⟨pcG_blind, va_recv hK hP (ci := 2) (q0 := 0) rfl rfl, pcG_pre hP hK hD h⟩ rfl rfl hl.1 rfl (lv_room (Nat.le_of_ble_eq_true rfl)) d_M_add_30 ⟨Nat.le_of_ble_eq_true rfl, Nat.le_of_ble_eq_true rfl⟩) hS (fun q _ h => hF41 q h) hF41 (fun xx_42 t H locs ht hvm h hB hz1 hk1 hS => ?_)
        obtain ⟨hP1, hK1, hD1⟩ := hB
        rw [ht] at hP1
        have hP : va_P D vwCl (wM m0 m1 m2 m3 m4 m5 k1 k2 k3 k4 k5 code_3 funs made_9 great_10 up_11 down_12 size rows work_13 xx_42 power) H := hP1
        have hD : va_D A (wM m0 m1 m2 m3 m4 m5 k1 k2 k3 k4 k5 code_3 funs made_9 great_10 up_11 down_12 size rows work_13 xx_42 power) := hD1.weaken (fun _ _ _ hq => hF41 _ hq)
        refine lv_aload_n hx hb d_M_add_33 rfl (lv_at hl 1 rfl) ?_
        have hF43 := va_free (wc := (wM m0 m1 m2 m3 m4 m5 k1 k2 k3 k4 k5 code_3 funs made_9 great_10 up_11 down_12 size rows work_13 xx_42 power)) hD hS hA [0, 1, 2, 3, 4, 5] rfl
        refine va_callv (va_runV (As := []) (rest := []) ⟨hx, hb, hml, hown, hB⟩ (c_M_put l D m0 m1 m2 m3 m4 m5 k1 k2 k3 k4 k5 H.size code_3 funs made_9 great_10 up_11 down_12 size rows work_13 xx_42 power _) (cwV 0 hB (goodV wd_376 wd_377 wd_511 wd_3 wd_378) rfl rfl rfl (by decide +kernel) ⟨Nat.le_of_ble_eq_true rfl, Nat.le_of_ble_eq_true rfl⟩) ⟨pcG_blind, va_recv hK hP (ci := 2) (q0 := 0) rfl rfl, pcG_pre hP hK hD h⟩ rfl rfl hl.1 rfl (lv_room (Nat.le_of_ble_eq_true rfl)) d_M_add_34 ⟨Nat.le_of_ble_eq_true rfl, Nat.le_of_ble_eq_true rfl⟩) hS (fun q _ h => hF43 q h) hF43 (fun u t H locs ht hvm h hB hz1 hk1 hS => ?_)
        obtain ⟨made_44, great_45, up_46, down_47, work_48⟩ := u
        obtain ⟨hP1, hK1, hD1⟩ := hB
        rw [ht] at hP1
        have hP : va_P D vwCl (wM m0 m1 m2 m3 m4 m5 k1 k2 k3 k4 k5 code_3 funs made_44 great_45 up_46 down_47 size rows work_48 xx_42 power) H := hP1
        have hD : va_D A (wM m0 m1 m2 m3 m4 m5 k1 k2 k3 k4 k5 code_3 funs made_44 great_45 up_46 down_47 size rows work_48 xx_42 power) := hD1.weaken (fun _ _ _ hq => hF43 _ hq)
        obtain ⟨x49, ex49⟩ : ∃ z : Int32, z = v3_8 + 1 := ⟨_, rfl⟩
        replace h := h x49 ex49
        refine lv_iinc (v := x49) (lv' := [(3, .int x49), (0, .ref m0), (1, .int p0), (2, .int p1)]) hx hb d_M_add_37 hl (k := 0) rfl (by rw [ex49]; rfl) (by decide) rfl (fun ls hl => ?_)
        refine lv_goto (tgt := 17) hx hb d_M_add_40 (by decide) ?_
        exact Ge17 _ _ _ (ihL17 x49 made_44 great_45 up_46 down_47 work_48 xx_42 _ _ _ hP hD hS (lv_sub hl [0, 1, 2, 3] rfl) h)
  · replace h := h.2 hc4
    refine lv_iconst (v := 0) hx hb d_M_add_9 (by decide) ?_
    exact W.iret (v := 0) hx hb hr (fun t ht hW => ⟨⟨0, (code_3, funs, made, great, up, down, size, rows, work, xx), rfl, h, by rw [ht]; exact hP, va_K.moved hW.alike hK, hD⟩, hS.F ht⟩) hS.2.2 d_M_add_10
set_option maxHeartbeats 4000000 in
set_option maxRecDepth 100000 in
theorem c_M_multiply (l : Launch) (D : va_G) (m0 m1 m2 m3 m4 m5 : Nat) (k1 k2 k3 k4 k5 : ClassId) (sz : Nat) (code : Int32) (funs : Int32) (made : Int32) (great : Int32) (up : Int64) (down : Int64) (size : (Nat → Int32)) (rows : (Nat → Int32)) (work : (Nat → Int32)) (xx : (Nat → Int32)) (power : (Nat → Int32)) (p0 : Int32) (p1 : Int32) (p2 : Int32) (p3 : Int32) (post : Int32 → Int64 → Int64 → (Nat → Int32) → Prop) : Met l y_M_multiply (Cond.code y_M_multiply b_M_multiply 6 none :: BIG) ({ frames := 4, cells := 0, slots := 0, locals := 104 }) (va_Pc [.ref m0, .int p0, .int p1, .int p2, .int p3] (pcG D vwCl (wM m0 m1 m2 m3 m4 m5 k1 k2 k3 k4 k5 code funs made great up down size rows work xx power) [(k1, .int), (k2, .int), (k3, .int), (k4, .int), (k5, .int)] sz (wp_M_multiply great up down rows xx p0 p1 p2 p3 post))) (va_Qv (fun (u : Int32 × Int64 × Int64 × (Nat → Int32)) => post (u.1) (u.2.1) (u.2.2.1) (u.2.2.2)) (fun u => atG D vwCl [(k1, .int), (k2, .int), (k3, .int), (k4, .int), (k5, .int)] (va_A (wM m0 m1 m2 m3 m4 m5 k1 k2 k3 k4 k5 code funs made great up down size rows work xx power) sz) (wM m0 m1 m2 m3 m4 m5 k1 k2 k3 k4 k5 code funs made (u.1) (u.2.1) (u.2.2.1) size rows work (u.2.2.2) power)) (va_A (wM m0 m1 m2 m3 m4 m5 k1 k2 k3 k4 k5 code funs made great up down size rows work xx power) sz)) 0 0 (va_A (wM m0 m1 m2 m3 m4 m5 k1 k2 k3 k4 k5 code funs made great up down size rows work xx power) sz) := by
  refine Met.ofW (cc := b_M_multiply) (maxL := 6) (ret := none) (by decide) rfl ?_
  intro p e s m args below meth c s₁ B hml hv
  obtain ⟨rfl, hsz, hP, hK, hD0, h⟩ := hv
  have hx := B.exec
  have hb := B.bytes
  have hr := B.returns
  have hB : ∀ w ∈ BIG, w.before _ s = true := fun w h => atoms_spec (ws := (Cond.code y_M_multiply b_M_multiply 6 none :: BIG)) B.pre w (List.mem_cons_of_mem _ h)
  have hown : s.vm.findClass R_M = some m.cls := findClass_of_methodNamed B.named
  have hlocks := B.notSynchronized
  subst hsz
  have hD := hD0.self (sz := s.heap.size)
  generalize hAe : va_A (wM m0 m1 m2 m3 m4 m5 k1 k2 k3 k4 k5 code funs made great up down size rows work xx power) s.heap.size = A at hD ⊢
  have hA : ∀ q : Nat, s.heap.size ≤ q → A q := fun q h => by rw [← hAe]; exact Or.inr h
  have hl := lv_entry ([.ref m0, .int p0, .int p1, .int p2, .int p3]) (n := 6) (Nat.le_of_ble_eq_true rfl)
  rw [lg_entry_eq]
  generalize (lg_sl ([.ref m0, .int p0, .int p1, .int p2, .int p3]) ++ List.replicate (6 - (lg_sl ([.ref m0, .int p0, .int p1, .int p2, .int p3])).length) Slot.unset).toArray = ls at hl ⊢
  have hl : lv_has ls 6 [(0, .ref m0), (1, .int p0), (2, .int p1), (3, .int p2), (4, .int p3)] := hl
  refine W.cap (fun G Gi Ge => ?_)
  suffices hL : ∀ (H : Heap) (locs : List Loc), va_P D vwCl (wM m0 m1 m2 m3 m4 m5 k1 k2 k3 k4 k5 code funs made great up down size rows work xx power) H → va_S A s.heap H locs → G H locs (F0 m 0 ls []) from hL _ _ hP va_S.rf
  clear hP
  intro H locs hP hS
  refine Gi _ _ _ ?_
  unfold wp_M_multiply at h
  refine lv_aload_n hx hb d_M_multiply_0 rfl (lv_at hl 0 rfl) ?_
  refine lv_iload_n hx hb d_M_multiply_1 rfl (lv_at hl 1 rfl) ?_
  refine lv_iload_n hx hb d_M_multiply_2 rfl (lv_at hl 2 rfl) ?_
  have hF1 := va_free (wc := (wM m0 m1 m2 m3 m4 m5 k1 k2 k3 k4 k5 code funs made great up down size rows work xx power)) hD hS hA [0, 1, 2, 3, 4, 5] rfl
  refine va_callv (va_runV (As := [.int p0, .int p1]) (rest := []) ⟨hx, hb, hml, hown, hB⟩ (c_M_load l D m0 m1 m2 m3 m4 m5 k1 k2 k3 k4 k5 H.size code funs made great up down size rows work xx power p0 p1 _) (cwV 2 hB (goodV wd_405 wd_406 wd_516 wd_3 wd_407) rfl rfl rfl (by decide +kernel) ⟨Nat.le_of_ble_eq_true rfl, Nat.le_of_ble_eq_true rfl⟩) ⟨pcG_blind, va_recv hK hP (ci := 2) (q0 := 0) rfl rfl, pcG_pre hP hK hD h⟩ rfl rfl hl.1 rfl (lv_room (Nat.le_of_ble_eq_true rfl)) d_M_multiply_3 ⟨Nat.le_of_ble_eq_true rfl, Nat.le_of_ble_eq_true rfl⟩) hS (fun q _ h => hF1 q h) hF1 (fun xx_2 t H locs ht hvm h hB hz1 hk1 hS => ?_)
  obtain ⟨hP1, hK1, hD1⟩ := hB
  rw [ht] at hP1
  have hP : va_P D vwCl (wM m0 m1 m2 m3 m4 m5 k1 k2 k3 k4 k5 code funs made great up down size rows work xx_2 power) H := hP1
  have hD : va_D A (wM m0 m1 m2 m3 m4 m5 k1 k2 k3 k4 k5 code funs made great up down size rows work xx_2 power) := hD1.weaken (fun _ _ _ hq => hF1 _ hq)
  refine lv_iconst (v := 0) hx hb d_M_multiply_6 (by decide) ?_
  refine lv_istore (lv' := [(5, .int 0), (0, .ref m0), (1, .int p0), (2, .int p1), (3, .int p2), (4, .int p3)]) hx hb d_M_multiply_7 hl (by decide) rfl (fun ls hl => ?_)
  obtain ⟨n9, h⟩ := h
  refine W.cap (fun G9 Gi9 Ge9 => ?_)
  suffices hL9 : ∀ (n9 : Nat) (v5_3 : Int32) (xx_4 : (Nat → Int32)) (H : Heap) (locs : List Loc) (ls : Array Slot), va_P D vwCl (wM m0 m1 m2 m3 m4 m5 k1 k2 k3 k4 k5 code funs made great up down size rows work xx_4 power) H → va_D A (wM m0 m1 m2 m3 m4 m5 k1 k2 k3 k4 k5 code funs made great up down size rows work xx_4 power) → va_S A s.heap H locs → lv_has ls 6 [(5, .int v5_3), (0, .ref m0), (1, .int p0), (2, .int p1), (3, .int p2), (4, .int p3)] → lpW2 (wb_M_multiply_9 rows p2 p3 great up down post) n9 v5_3 xx_4 → G9 H locs (F0 m 9 ls []) from hL9 n9 (0 : Int32) xx_2 _ _ _ hP hD hS hl h
  clear h hP hD hS hl
  intro n9
  induction n9 with
  | zero => intro v5_3 xx_4 H locs ls hP hD hS hl h; exact (show False from h).elim
  | succ n9 ihL9 =>
    intro v5_3 xx_4 H locs ls hP hD hS hl h
    replace h : (wb_M_multiply_9 rows p2 p3 great up down post) (lpW2 (wb_M_multiply_9 rows p2 p3 great up down post) n9) v5_3 xx_4 := h
    refine Gi9 _ _ _ ?_
    refine lv_iload hx hb d_M_multiply_9 (lv_at hl 0 rfl) ?_
    refine lv_iconst (v := 5) hx hb d_M_multiply_11 (by decide) ?_
    refine lv_icmp_ge (tgt := 40) hx hb d_M_multiply_12 (by decide) (fun hc5 => ?_) (fun hc5 => ?_)
    · replace h := h.1 hc5
      refine lv_aload_n hx hb d_M_multiply_40 rfl (lv_at hl 1 rfl) ?_
      refine lv_aload_n hx hb d_M_multiply_41 rfl (lv_at hl 1 rfl) ?_
      refine lv_iload_n hx hb d_M_multiply_42 rfl (lv_at hl 4 rfl) ?_
      refine lv_iload hx hb d_M_multiply_43 (lv_at hl 5 rfl) ?_
      refine lv_iconst (v := 5) hx hb d_M_multiply_45 (by decide) ?_
      have hF6 := va_free (wc := (wM m0 m1 m2 m3 m4 m5 k1 k2 k3 k4 k5 code funs made great up down size rows work xx_4 power)) hD hS hA [0, 1, 2, 3, 4, 5] rfl
      refine va_calli (va_runV (As := [.int p2, .int p3, .int 5]) (rest := [.ref m0]) ⟨hx, hb, hml, hown, hB⟩ (c_M_at l D m0 m1 m2 m3 m4 m5 k1 k2 k3 k4 k5 H.size code funs made great up down size rows work xx_4 power p2 p3 5 _) (cwV 3 hB (goodV wd_408 wd_409 wd_517 wd_3 wd_410) rfl rfl rfl (by decide +kernel) ⟨Nat.le_of_ble_eq_true rfl, Nat.le_of_ble_eq_true rfl⟩) ⟨pcG_blind, va_recv hK hP (ci := 2) (q0 := 0) rfl rfl, pcG_pre hP hK hD h⟩ rfl rfl hl.1 rfl (lv_room (Nat.le_of_ble_eq_true rfl)) d_M_multiply_46 ⟨Nat.le_of_ble_eq_true rfl, Nat.le_of_ble_eq_true rfl⟩) hS (fun q _ h => hF6 q h) hF6 (fun r7 u t H locs ht hvm h hB hz1 hk1 hS => ?_)
      obtain ⟨hP1, hK1, hD1⟩ := hB
      rw [ht] at hP1
      have hP : va_P D vwCl (wM m0 m1 m2 m3 m4 m5 k1 k2 k3 k4 k5 code funs made great up down size rows work xx_4 power) H := hP1
      have hD : va_D A (wM m0 m1 m2 m3 m4 m5 k1 k2 k3 k4 k5 code funs made great up down size rows work xx_4 power) := hD1.weaken (fun _ _ _ hq => hF6 _ hq)
      refine lv_i2l hx hb d_M_multiply_49 rfl ?_
      refine lv_aload_n hx hb d_M_multiply_50 rfl (lv_at hl 1 rfl) ?_
      refine lv_iload_n hx hb d_M_multiply_51 rfl (lv_at hl 4 rfl) ?_
      refine lv_iload hx hb d_M_multiply_52 (lv_at hl 5 rfl) ?_
      refine lv_bipush (v := 6) hx hb d_M_multiply_54 (by decide) ?_
      have hF8 := va_free (wc := (wM m0 m1 m2 m3 m4 m5 k1 k2 k3 k4 k5 code funs made great up down size rows work xx_4 power)) hD hS hA [0, 1, 2, 3, 4, 5] rfl
      refine va_calli (va_runV (As := [.int p2, .int p3, .int 6]) (rest := [.long (r7.toInt64), .ref m0]) ⟨hx, hb, hml, hown, hB⟩ (c_M_at l D m0 m1 m2 m3 m4 m5 k1 k2 k3 k4 k5 H.size code funs made great up down size rows work xx_4 power p2 p3 6 _) (cwV 3 hB (goodV wd_408 wd_409 wd_517 wd_3 wd_410) rfl rfl rfl (by decide +kernel) ⟨Nat.le_of_ble_eq_true rfl, Nat.le_of_ble_eq_true rfl⟩) ⟨pcG_blind, va_recv hK hP (ci := 2) (q0 := 0) rfl rfl, pcG_pre hP hK hD h⟩ rfl rfl hl.1 rfl (lv_room (Nat.le_of_ble_eq_true rfl)) d_M_multiply_56 ⟨Nat.le_of_ble_eq_true rfl, Nat.le_of_ble_eq_true rfl⟩) hS (fun q _ h => hF8 q h) hF8 (fun r9 u t H locs ht hvm h hB hz1 hk1 hS => ?_)
      obtain ⟨hP1, hK1, hD1⟩ := hB
      rw [ht] at hP1
      have hP : va_P D vwCl (wM m0 m1 m2 m3 m4 m5 k1 k2 k3 k4 k5 code funs made great up down size rows work xx_4 power) H := hP1
      have hD : va_D A (wM m0 m1 m2 m3 m4 m5 k1 k2 k3 k4 k5 code funs made great up down size rows work xx_4 power) := hD1.weaken (fun _ _ _ hq => hF8 _ hq)
      refine lv_i2l hx hb d_M_multiply_59 rfl ?_
      have hF10 := va_free (wc := (wM m0 m1 m2 m3 m4 m5 k1 k2 k3 k4 k5 code funs made great up down size rows work xx_4 power)) hD hS hA [0, 1, 2, 3, 4, 5] rfl
      refine va_callv (va_runV (As := [.long (r7.toInt64), .long (r9.toInt64)]) (rest := []) ⟨hx, hb, hml, hown, hB⟩ (c_M_scale l D m0 m1 m2 m3 m4 m5 k1 k2 k3 k4 k5 H.size code funs made great up down size rows work xx_4 power (r7.toInt64) (r9.toInt64) _) (cwV 2 hB (goodV wd_418 wd_419 wd_519 wd_3 wd_420) rfl rfl rfl (by decide +kernel) ⟨Nat.le_of_ble_eq_true rfl, Nat.le_of_ble_eq_true rfl⟩) ⟨pcG_blind, va_recv hK hP (ci := 2) (q0 := 0) rfl rfl, pcG_pre hP hK hD h⟩ rfl rfl hl.1 rfl (lv_room (Nat.le_of_ble_eq_true rfl)) d_M_multiply_60 ⟨Nat.le_of_ble_eq_true rfl, Nat.le_of_ble_eq_true rfl⟩) hS (fun q _ h => hF10 q h) hF10 (fun u t H locs ht hvm h hB hz1 hk1 hS => ?_)
      obtain ⟨great_11, up_12, down_13, xx_14⟩ := u
      obtain ⟨hP1, hK1, hD1⟩ := hB
      rw [ht] at hP1
      have hP : va_P D vwCl (wM m0 m1 m2 m3 m4 m5 k1 k2 k3 k4 k5 code funs made great_11 up_12 down_13 size rows work xx_14 power) H := hP1
      have hD : va_D A (wM m0 m1 m2 m3 m4 m5 k1 k2 k3 k4 k5 code funs made great_11 up_12 down_13 size rows work xx_14 power) := hD1.weaken (fun _ _ _ hq => hF10 _ hq)
      exact W.vret hx hb hr (fun t ht hW => ⟨⟨(great_11, up_12, down_13, xx_14), rfl, h, by rw [ht]; exact hP, va_K.moved hW.alike hK, hD⟩, hS.F ht⟩) hS.2.2 d_M_multiply_63
    · replace h := h.2 hc5
      refine lv_aload_n hx hb d_M_multiply_15 rfl (lv_at hl 1 rfl) ?_
      refine va_get (D := D) (ci := 2) (v := .ref m4) (C := R_M) (T := F_M) (N := 11) hx hb hB inF_M hown hK hP 0 rfl rfl 7 (by decide) (hB _ wd_345) (fun _ h9 => h9) rfl d_M_multiply_16 ?_
      refine lv_iload hx hb d_M_multiply_19 (lv_at hl 0 rfl) ?_
      refine lv_dup2_11 hx hb d_M_multiply_21 rfl rfl ?_
      obtain ⟨g15, h⟩ := h
      refine va_iald hx hb hK hP 4 3 rfl rfl g15 d_M_multiply_22 ?_
      refine lv_aload_n hx hb d_M_multiply_23 rfl (lv_at hl 1 rfl) ?_
      refine lv_iload_n hx hb d_M_multiply_24 rfl (lv_at hl 4 rfl) ?_
      refine lv_iload hx hb d_M_multiply_25 (lv_at hl 5 rfl) ?_
      refine lv_iload hx hb d_M_multiply_27 (lv_at hl 0 rfl) ?_
      have hF16 := va_free (wc := (wM m0 m1 m2 m3 m4 m5 k1 k2 k3 k4 k5 code funs made great up down size rows work xx_4 power)) hD hS hA [0, 1, 2, 3, 4, 5] rfl
      refine va_calli (va_runV (As := [.int p2, .int p3, .int v5_3]) (rest := [.int (xx_4 v5_3.toNatClampNeg), .int v5_3, .ref m4]) ⟨hx, hb, hml, hown, hB⟩ (c_M_at l D m0 m1 m2 m3 m4 m5 k1 k2 k3 k4 k5 H.size code funs made great up down size rows work xx_4 power p2 p3 v5_3 _) (cwV 3 hB (goodV wd_408 wd_409 wd_517 wd_3 wd_410) rfl rfl rfl (by decide +kernel) ⟨Nat.le_of_ble_eq_true rfl, Nat.le_of_ble_eq_true rfl⟩) ⟨pcG_blind, va_recv hK hP (ci := 2) (q0 := 0) rfl rfl, pcG_pre hP hK hD h⟩ rfl rfl hl.1 rfl (lv_room (Nat.le_of_ble_eq_true rfl)) d_M_multiply_29 ⟨Nat.le_of_ble_eq_true rfl, Nat.le_of_ble_eq_true rfl⟩) hS (fun q _ h => hF16 q h) hF16 (fun r17 u t H locs ht hvm h hB hz1 hk1 hS => ?_)
      obtain ⟨hP1, hK1, hD1⟩ := hB
      rw [ht] at hP1
      have hP : va_P D vwCl (wM m0 m1 m2 m3 m4 m5 k1 k2 k3 k4 k5 code funs made great up down size rows work xx_4 power) H := hP1
      have hD : va_D A (wM m0 m1 m2 m3 m4 m5 k1 k2 k3 k4 k5 code funs made great up down size rows work xx_4 power) := hD1.weaken (fun _ _ _ hq => hF16 _ hq)
      refine lv_iadd hx hb d_M_multiply_32 ?_
      obtain ⟨g18, h⟩ := h
      obtain ⟨xx_19, exx_19⟩ : ∃ z : (Nat → Int32), z = upd xx_4 v5_3.toNatClampNeg ((xx_4 v5_3.toNatClampNeg) + r17) := ⟨_, rfl⟩
      replace h := h xx_19 exx_19
      refine va_iast hx hb hK hP hD hS 4 3 rfl rfl g18 d_M_multiply_33 (fun H locs hP hD hS => ?_)
      have hP : va_P D vwCl (wM m0 m1 m2 m3 m4 m5 k1 k2 k3 k4 k5 code funs made great up down size rows work xx_19 power) H := by rw [exx_19]; exact hP
      have hD : va_D A (wM m0 m1 m2 m3 m4 m5 k1 k2 k3 k4 k5 code funs made great up down size rows work xx_19 power) := by rw [exx_19]; exact hD
      obtain ⟨x20, ex20⟩ : ∃ z : Int32, z = v5_3 + 1 := ⟨_, rfl⟩
      replace h := h x20 ex20
      refine lv_iinc (v := x20) (lv' := [(5, .int x20), (0, .ref m0), (1, .int p0), (2, .int p1), (3, .int p2), (4, .int p3)]) hx hb d_M_multiply_34 hl (k := 0) rfl (by rw [ex20]; rfl) (by decide) rfl (fun ls hl => ?_)
      refine lv_goto (tgt := 9) hx hb d_M_multiply_37 (by decide) ?_
      exact Ge9 _ _ _ (ihL9 x20 xx_19 _ _ _ hP hD hS (lv_sub hl [0, 1, 2, 3, 4, 5] rfl) h)
set_option maxHeartbeats 4000000 in
set_option maxRecDepth 100000 in
theorem c_M_times (l : Launch) (D : va_G) (m0 m1 m2 m3 m4 m5 : Nat) (k1 k2 k3 k4 k5 : ClassId) (sz : Nat) (code : Int32) (funs : Int32) (made : Int32) (great : Int32) (up : Int64) (down : Int64) (size : (Nat → Int32)) (rows : (Nat → Int32)) (work : (Nat → Int32)) (xx : (Nat → Int32)) (power : (Nat → Int32)) (p0 : Int32) (p1 : Int32) (post : Int32 → Int32 → Int32 → Int32 → Int32 → Int64 → Int64 → (Nat → Int32) → (Nat → Int32) → (Nat → Int32) → (Nat → Int32) → Prop) : Met l y_M_times (Cond.code y_M_times b_M_times 5 (some .int) :: BIG) ({ frames := 5, cells := 0, slots := 0, locals := 129 }) (va_Pc [.ref m0, .int p0, .int p1] (pcG D vwCl (wM m0 m1 m2 m3 m4 m5 k1 k2 k3 k4 k5 code funs made great up down size rows work xx power) [(k1, .int), (k2, .int), (k3, .int), (k4, .int), (k5, .int)] sz (wp_M_times code funs made great up down size rows work xx p0 p1 post))) (va_Qi (fun (r : Int32) (u : Int32 × Int32 × Int32 × Int32 × Int64 × Int64 × (Nat → Int32) × (Nat → Int32) × (Nat → Int32) × (Nat → Int32)) => post r (u.1) (u.2.1) (u.2.2.1) (u.2.2.2.1) (u.2.2.2.2.1) (u.2.2.2.2.2.1) (u.2.2.2.2.2.2.1) (u.2.2.2.2.2.2.2.1) (u.2.2.2.2.2.2.2.2.1) (u.2.2.2.2.2.2.2.2.2)) (fun u => atG D vwCl [(k1, .int), (k2, .int), (k3, .int), (k4, .int), (k5, .int)] (va_A (wM m0 m1 m2 m3 m4 m5 k1 k2 k3 k4 k5 code funs made great up down size rows work xx power) sz) (wM m0 m1 m2 m3 m4 m5 k1 k2 k3 k4 k5 (u.1) (u.2.1) (u.2.2.1) (u.2.2.2.1) (u.2.2.2.2.1) (u.2.2.2.2.2.1) (u.2.2.2.2.2.2.1) (u.2.2.2.2.2.2.2.1) (u.2.2.2.2.2.2.2.2.1) (u.2.2.2.2.2.2.2.2.2) power)) (va_A (wM m0 m1 m2 m3 m4 m5 k1 k2 k3 k4 k5 code funs made great up down size rows work xx power) sz)) 0 0 (va_A (wM m0 m1 m2 m3 m4 m5 k1 k2 k3 k4 k5 code funs made great up down size rows work xx power) sz) := by
  refine Met.ofW (cc := b_M_times) (maxL := 5) (ret := (some .int)) (by decide) rfl ?_
  intro p e s m args below meth c s₁ B hml hv
  obtain ⟨rfl, hsz, hP, hK, hD0, h⟩ := hv
  have hx := B.exec
  have hb := B.bytes
  have hr := B.returns
  have hB : ∀ w ∈ BIG, w.before _ s = true := fun w h => atoms_spec (ws := (Cond.code y_M_times b_M_times 5 (some .int) :: BIG)) B.pre w (List.mem_cons_of_mem _ h)
  have hown : s.vm.findClass R_M = some m.cls := findClass_of_methodNamed B.named
  have hlocks := B.notSynchronized
  subst hsz
  have hD := hD0.self (sz := s.heap.size)
  generalize hAe : va_A (wM m0 m1 m2 m3 m4 m5 k1 k2 k3 k4 k5 code funs made great up down size rows work xx power) s.heap.size = A at hD ⊢
  have hA : ∀ q : Nat, s.heap.size ≤ q → A q := fun q h => by rw [← hAe]; exact Or.inr h
  have hl := lv_entry ([.ref m0, .int p0, .int p1]) (n := 5) (Nat.le_of_ble_eq_true rfl)
  rw [lg_entry_eq]
  generalize (lg_sl ([.ref m0, .int p0, .int p1]) ++ List.replicate (5 - (lg_sl ([.ref m0, .int p0, .int p1])).length) Slot.unset).toArray = ls at hl ⊢
  have hl : lv_has ls 5 [(0, .ref m0), (1, .int p0), (2, .int p1)] := hl
  refine W.cap (fun G Gi Ge => ?_)
  suffices hL : ∀ (H : Heap) (locs : List Loc), va_P D vwCl (wM m0 m1 m2 m3 m4 m5 k1 k2 k3 k4 k5 code funs made great up down size rows work xx power) H → va_S A s.heap H locs → G H locs (F0 m 0 ls []) from hL _ _ hP va_S.rf
  clear hP
  intro H locs hP hS
  refine Gi _ _ _ ?_
  unfold wp_M_times at h
  refine lv_aload_n hx hb d_M_times_0 rfl (lv_at hl 0 rfl) ?_
  refine lv_iload_n hx hb d_M_times_1 rfl (lv_at hl 1 rfl) ?_
  refine lv_iload_n hx hb d_M_times_2 rfl (lv_at hl 2 rfl) ?_
  have hF1 := va_free (wc := (wM m0 m1 m2 m3 m4 m5 k1 k2 k3 k4 k5 code funs made great up down size rows work xx power)) hD hS hA [0, 1, 2, 3, 4, 5] rfl
  refine va_calli (va_runV (As := [.int p0, .int p1]) (rest := []) ⟨hx, hb, hml, hown, hB⟩ (c_M_may l D m0 m1 m2 m3 m4 m5 k1 k2 k3 k4 k5 H.size code funs made great up down size rows work xx power p0 p1 _) (cwV 2 hB (goodV wd_399 wd_400 wd_514 wd_3 wd_401) rfl rfl rfl (by decide +kernel) ⟨Nat.le_of_ble_eq_true rfl, Nat.le_of_ble_eq_true rfl⟩) ⟨pcG_blind, va_recv hK hP (ci := 2) (q0 := 0) rfl rfl, pcG_pre hP hK hD h⟩ rfl rfl hl.1 rfl (lv_room (Nat.le_of_ble_eq_true rfl)) d_M_times_3 ⟨Nat.le_of_ble_eq_true rfl, Nat.le_of_ble_eq_true rfl⟩) hS (fun q _ h => hF1 q h) hF1 (fun r2 code_3 t H locs ht hvm h hB hz1 hk1 hS => ?_)
  obtain ⟨hP1, hK1, hD1⟩ := hB
  rw [ht] at hP1
  have hP : va_P D vwCl (wM m0 m1 m2 m3 m4 m5 k1 k2 k3 k4 k5 code_3 funs made great up down size rows work xx power) H := hP1
  have hD : va_D A (wM m0 m1 m2 m3 m4 m5 k1 k2 k3 k4 k5 code_3 funs made great up down size rows work xx power) := hD1.weaken (fun _ _ _ hq => hF1 _ hq)
  refine lv_if_ne (tgt := 11) hx hb d_M_times_6 (by decide) (fun hc4 => ?_) (fun hc4 => ?_)
  · replace h := h.1 hc4
    refine lv_aload_n hx hb d_M_times_11 rfl (lv_at hl 0 rfl) ?_
    have hF5 := va_free (wc := (wM m0 m1 m2 m3 m4 m5 k1 k2 k3 k4 k5 code_3 funs made great up down size rows work xx power)) hD hS hA [0, 1, 2, 3, 4, 5] rfl
    refine va_callv (va_runV (As := []) (rest := []) ⟨hx, hb, hml, hown, hB⟩ (c_M_start l D m0 m1 m2 m3 m4 m5 k1 k2 k3 k4 k5 H.size code_3 funs made great up down size rows work xx power _) (cwV 0 hB (goodV wd_360 wd_361 wd_508 wd_3 wd_362) rfl rfl rfl (by decide +kernel) ⟨Nat.le_of_ble_eq_true rfl, Nat.le_of_ble_eq_true rfl⟩) ⟨pcG_blind, va_recv hK hP (ci := 2) (q0 := 0) rfl rfl, pcG_pre hP hK hD h⟩ rfl rfl hl.1 rfl (lv_room (Nat.le_of_ble_eq_true rfl)) d_M_times_12 ⟨Nat.le_of_ble_eq_true rfl, Nat.le_of_ble_eq_true rfl⟩) hS (fun q _ h => hF5 q h) hF5 (fun u t H locs ht hvm h hB hz1 hk1 hS => ?_)
    obtain ⟨made_6, great_7⟩ := u
    obtain ⟨hP1, hK1, hD1⟩ := hB
    rw [ht] at hP1
    have hP : va_P D vwCl (wM m0 m1 m2 m3 m4 m5 k1 k2 k3 k4 k5 code_3 funs made_6 great_7 up down size rows work xx power) H := hP1
    have hD : va_D A (wM m0 m1 m2 m3 m4 m5 k1 k2 k3 k4 k5 code_3 funs made_6 great_7 up down size rows work xx power) := hD1.weaken (fun _ _ _ hq => hF5 _ hq)
    refine lv_iconst (v := 0) hx hb d_M_times_15 (by decide) ?_
    refine lv_istore_n (lv' := [(3, .int 0), (0, .ref m0), (1, .int p0), (2, .int p1)]) hx hb d_M_times_16 rfl hl (by decide) rfl (fun ls hl => ?_)
    obtain ⟨n17, h⟩ := h
    refine W.cap (fun G17 Gi17 Ge17 => ?_)
    suffices hL17 : ∀ (n17 : Nat) (v3_8 : Int32) (made_9 : Int32) (great_10 : Int32) (up_11 : Int64) (down_12 : Int64) (work_13 : (Nat → Int32)) (xx_14 : (Nat → Int32)) (H : Heap) (locs : List Loc) (ls : Array Slot), va_P D vwCl (wM m0 m1 m2 m3 m4 m5 k1 k2 k3 k4 k5 code_3 funs made_9 great_10 up_11 down_12 size rows work_13 xx_14 power) H → va_D A (wM m0 m1 m2 m3 m4 m5 k1 k2 k3 k4 k5 code_3 funs made_9 great_10 up_11 down_12 size rows work_13 xx_14 power) → va_S A s.heap H locs → lv_has ls 5 [(3, .int v3_8), (0, .ref m0), (1, .int p0), (2, .int p1)] → lpW7 (wb_M_times_17 p0 size code_3 funs rows post p1) n17 v3_8 made_9 great_10 up_11 down_12 work_13 xx_14 → G17 H locs (F0 m 17 ls []) from hL17 n17 (0 : Int32) made_6 great_7 up down work xx _ _ _ hP hD hS hl h
    clear h hP hD hS hl
    intro n17
    induction n17 with
    | zero => intro v3_8 made_9 great_10 up_11 down_12 work_13 xx_14 H locs ls hP hD hS hl h; exact (show False from h).elim
    | succ n17 ihL17 =>
      intro v3_8 made_9 great_10 up_11 down_12 work_13 xx_14 H locs ls hP hD hS hl h
      replace h : (wb_M_times_17 p0 size code_3 funs rows post p1) (lpW7 (wb_M_times_17 p0 size code_3 funs rows post p1) n17) v3_8 made_9 great_10 up_11 down_12 work_13 xx_14 := h
      refine Gi17 _ _ _ ?_
      refine lv_iload_n hx hb d_M_times_17 rfl (lv_at hl 0 rfl) ?_
      refine lv_aload_n hx hb d_M_times_18 rfl (lv_at hl 1 rfl) ?_
      refine va_get (D := D) (ci := 2) (v := .ref m1) (C := R_M) (T := F_M) (N := 11) hx hb hB inF_M hown hK hP 0 rfl rfl 2 (by decide) (hB _ wd_340) (fun _ h9 => h9) rfl d_M_times_19 ?_
      refine lv_iload_n hx hb d_M_times_22 rfl (lv_at hl 2 rfl) ?_
      obtain ⟨g15, h⟩ := h
      refine va_iald hx hb hK hP 1 0 rfl rfl g15 d_M_times_23 ?_
      refine lv_icmp_ge (tgt := 73) hx hb d_M_times_24 (by decide) (fun hc16 => ?_) (fun hc16 => ?_)
      · replace h := h.1 hc16
        refine lv_aload_n hx hb d_M_times_73 rfl (lv_at hl 1 rfl) ?_
        have hF17 := va_free (wc := (wM m0 m1 m2 m3 m4 m5 k1 k2 k3 k4 k5 code_3 funs made_9 great_10 up_11 down_12 size rows work_13 xx_14 power)) hD hS hA [0, 1, 2, 3, 4, 5] rfl
        refine va_calli (va_runV (As := []) (rest := []) ⟨hx, hb, hml, hown, hB⟩ (c_M_keep l D m0 m1 m2 m3 m4 m5 k1 k2 k3 k4 k5 H.size code_3 funs made_9 great_10 up_11 down_12 size rows work_13 xx_14 power _) (cwV 0 hB (goodV wd_387 wd_388 wd_513 wd_3 wd_389) rfl rfl rfl (by decide +kernel) ⟨Nat.le_of_ble_eq_true rfl, Nat.le_of_ble_eq_true rfl⟩) ⟨pcG_blind, va_recv hK hP (ci := 2) (q0 := 0) rfl rfl, pcG_pre hP hK hD h⟩ rfl rfl hl.1 rfl (lv_room (Nat.le_of_ble_eq_true rfl)) d_M_times_74 ⟨Nat.le_of_ble_eq_true rfl, Nat.le_of_ble_eq_true rfl⟩) hS (fun q _ h => hF17 q h) hF17 (fun r18 u t H locs ht hvm h hB hz1 hk1 hS => ?_)
        obtain ⟨code_19, funs_20, size_21, rows_22⟩ := u
        obtain ⟨hP1, hK1, hD1⟩ := hB
        rw [ht] at hP1
        have hP : va_P D vwCl (wM m0 m1 m2 m3 m4 m5 k1 k2 k3 k4 k5 code_19 funs_20 made_9 great_10 up_11 down_12 size_21 rows_22 work_13 xx_14 power) H := hP1
        have hD : va_D A (wM m0 m1 m2 m3 m4 m5 k1 k2 k3 k4 k5 code_19 funs_20 made_9 great_10 up_11 down_12 size_21 rows_22 work_13 xx_14 power) := hD1.weaken (fun _ _ _ hq => hF17 _ hq)
        exact W.iret (v := r18) hx hb hr (fun t ht hW => ⟨⟨r18, (code_19, funs_20, made_9, great_10, up_11, down_12, size_21, rows_22, work_13, xx_14), rfl, h, by rw [ht]; exact hP, va_K.moved hW.alike hK, hD⟩, hS.F ht⟩) hS.2.2 d_M_times_77
      · replace h := h.2 hc16
        refine lv_iconst (v := 0) hx hb d_M_times_27 (by decide) ?_
        refine lv_istore (lv' := [(4, .int 0), (3, .int v3_8), (0, .ref m0), (1, .int p0), (2, .int p1)]) hx hb d_M_times_28 hl (by decide) rfl (fun ls hl => ?_)
        obtain ⟨n30, h⟩ := h
        refine W.cap (fun G30 Gi30 Ge30 => ?_)
        suffices hL30 : ∀ (n30 : Nat) (v4_23 : Int32) (made_24 : Int32) (great_25 : Int32) (up_26 : Int64) (down_27 : Int64) (work_28 : (Nat → Int32)) (xx_29 : (Nat → Int32)) (H : Heap) (locs : List Loc) (ls : Array Slot), va_P D vwCl (wM m0 m1 m2 m3 m4 m5 k1 k2 k3 k4 k5 code_3 funs made_24 great_25 up_26 down_27 size rows work_28 xx_29 power) H → va_D A (wM m0 m1 m2 m3 m4 m5 k1 k2 k3 k4 k5 code_3 funs made_24 great_25 up_26 down_27 size rows work_28 xx_29 power) → va_S A s.heap H locs → lv_has ls 5 [(4, .int v4_23), (3, .int v3_8), (0, .ref m0), (1, .int p0), (2, .int p1)] → lpW7 (wb_M_times_30 p1 size v3_8 (lpW7 (wb_M_times_17 p0 size code_3 funs rows post p1) n17) rows p0) n30 v4_23 made_24 great_25 up_26 down_27 work_28 xx_29 → G30 H locs (F0 m 30 ls []) from hL30 n30 (0 : Int32) made_9 great_10 up_11 down_12 work_13 xx_14 _ _ _ hP hD hS hl h
        clear h hP hD hS hl
        intro n30
        induction n30 with
        | zero => intro v4_23 made_24 great_25 up_26 down_27 work_28 xx_29 H locs ls hP hD hS hl h; exact (show False from h).elim
        | succ n30 ihL30 =>
          intro v4_23 made_24 great_25 up_26 down_27 work_28 xx_29 H locs ls hP hD hS hl h
          replace h : (wb_M_times_30 p1 size v3_8 (lpW7 (wb_M_times_17 p0 size code_3 funs rows post p1) n17) rows p0) (lpW7 (wb_M_times_30 p1 size v3_8 (lpW7 (wb_M_times_17 p0 size code_3 funs rows post p1) n17) rows p0) n30) v4_23 made_24 great_25 up_26 down_27 work_28 xx_29 := h
          refine Gi30 _ _ _ ?_
          refine lv_iload hx hb d_M_times_30 (lv_at hl 0 rfl) ?_
          refine lv_aload_n hx hb d_M_times_32 rfl (lv_at hl 2 rfl) ?_
          refine va_get (D := D) (ci := 2) (v := .ref m1) (C := R_M) (T := F_M) (N := 11) hx hb hB inF_M hown hK hP 0 rfl rfl 2 (by decide) (hB _ wd_340) (fun _ h9 => h9) rfl d_M_times_33 ?_
          refine lv_iload_n hx hb d_M_times_36 rfl (lv_at hl 4 rfl) ?_
          obtain ⟨g30, h⟩ := h
          refine va_iald hx hb hK hP 1 0 rfl rfl g30 d_M_times_37 ?_
          refine lv_icmp_ge (tgt := 67) hx hb d_M_times_38 (by decide) (fun hc31 => ?_) (fun hc31 => ?_)
          · replace h := h.1 hc31
            obtain ⟨x32, ex32⟩ : ∃ z : Int32, z = v3_8 + 1 := ⟨_, rfl⟩
            replace h := h x32 ex32
            refine lv_iinc (v := x32) (lv' := [(3, .int x32), (4, .int v4_23), (0, .ref m0), (1, .int p0), (2, .int p1)]) hx hb d_M_times_67 hl (k := 1) rfl (by rw [ex32]; rfl) (by decide) rfl (fun ls hl => ?_)
            refine lv_goto (tgt := 17) hx hb d_M_times_70 (by decide) ?_
            exact Ge17 _ _ _ (ihL17 x32 made_24 great_25 up_26 down_27 work_28 xx_29 _ _ _ hP hD hS (lv_sub hl [0, 2, 3, 4] rfl) h)
          · replace h := h.2 hc31
            refine lv_aload_n hx hb d_M_times_41 rfl (lv_at hl 2 rfl) ?_
            refine va_get (D := D) (ci := 2) (v := .int great_25) (C := R_M) (T := F_M) (N := 11) hx hb hB inF_M hown hK hP 0 rfl rfl 6 (by decide) (hB _ wd_344) (fun _ h9 => h9) rfl d_M_times_42 ?_
            refine lv_if_ne (tgt := 67) hx hb d_M_times_45 (by decide) (fun hc33 => ?_) (fun hc33 => ?_)
            · replace h := h.1 hc33
              obtain ⟨x34, ex34⟩ : ∃ z : Int32, z = v3_8 + 1 := ⟨_, rfl⟩
              replace h := h x34 ex34
              refine lv_iinc (v := x34) (lv' := [(3, .int x34), (4, .int v4_23), (0, .ref m0), (1, .int p0), (2, .int p1)]) hx hb d_M_times_67 hl (k := 1) rfl (by rw [ex34]; rfl) (by decide) rfl (fun ls hl => ?_)
              refine lv_goto (tgt := 17) hx hb d_M_times_70 (by decide) ?_
              exact Ge17 _ _ _ (ihL17 x34 made_24 great_25 up_26 down_27 work_28 xx_29 _ _ _ hP hD hS (lv_sub hl [0, 2, 3, 4] rfl) h)
            · replace h := h.2 hc33
              refine lv_aload_n hx hb d_M_times_48 rfl (lv_at hl 2 rfl) ?_
              refine lv_iload_n hx hb d_M_times_49 rfl (lv_at hl 3 rfl) ?_
              refine lv_iload_n hx hb d_M_times_50 rfl (lv_at hl 1 rfl) ?_
              refine lv_iload_n hx hb d_M_times_51 rfl (lv_at hl 4 rfl) ?_
              refine lv_iload hx hb d_M_times_52 (lv_at hl 0 rfl) ?_
              have hF35 := va_free (wc := (wM m0 m1 m2 m3 m4 m5 k1 k2 k3 k4 k5 code_3 funs made_24 great_25 up_26 down_27 size rows work_28 xx_29 power)) hD hS hA [0, 1, 2, 3, 4, 5] rfl
              refine va_callv (va_runV (As := [.int p0, .int v3_8, .int p1, .int v4_23]) (rest := []) ⟨hx, hb, hml, hown, hB⟩ (c_M_multiply l D m0 m1 m2 m3 m4 m5 k1 k2 k3 k4 k5 H.size code_3 funs made_24 great_25 up_26 down_27 size rows work_28 xx_29 power p0 v3_8 p1 v4_23 _) (cwV 4 hB (goodV wd_415 wd_416 wd_518 wd_3 wd_417) rfl rfl rfl (by decide +kernel) ⟨Nat.le_of_ble_eq_true rfl, Nat.le_of_ble_eq_true rfl⟩) ⟨pcG_blind, va_recv hK hP (ci := 2) (q0 := 0) rfl rfl, pcG_pre hP hK hD h⟩ rfl rfl hl.1 rfl (lv_room (Nat.le_of_ble_eq_true rfl)) d_M_times_54 ⟨Nat.le_of_ble_eq_true rfl, Nat.le_of_ble_eq_true rfl⟩) hS (fun q _ h => hF35 q h) hF35 (fun u t H locs ht hvm h hB hz1 hk1 hS => ?_)
              obtain ⟨great_36, up_37, down_38, xx_39⟩ := u
              obtain ⟨hP1, hK1, hD1⟩ := hB
              rw [ht] at hP1
              have hP : va_P D vwCl (wM m0 m1 m2 m3 m4 m5 k1 k2 k3 k4 k5 code_3 funs made_24 great_36 up_37 down_38 size rows work_28 xx_39 power) H := hP1
              have hD : va_D A (wM m0 m1 m2 m3 m4 m5 k1 k2 k3 k4 k5 code_3 funs made_24 great_36 up_37 down_38 size rows work_28 xx_39 power) := hD1.weaken (fun _ _ _ hq => hF35 _ hq)
              refine lv_aload_n hx hb d_M_times_57 rfl (lv_at hl 2 rfl) ?_
              have hF40 := va_free (wc := (wM m0 m1 m2 m3 m4 m5 k1 k2 k3 k4 k5 code_3 funs made_24 great_36 up_37 down_38 size rows work_28 xx_39 power)) hD hS hA [0, 1, 2, 3, 4, 5] rfl
              refine va_callv (va_runV (As := []) (rest := []) ⟨hx, hb, hml, hown, hB⟩ (c_M_put l D m0 m1 m2 m3 m4 m5 k1 k2 k3 k4 k5 H.size code_3 funs made_24 great_36 up_37 down_38 size rows work_28 xx_39 power _) (cwV 0 hB (goodV wd_376 wd_377 wd_511 wd_3 wd_378) rfl rfl rfl (by decide +kernel) ⟨Nat.le_of_ble_eq_true rfl, Nat.le_of_ble_eq_true rfl⟩) ⟨pcG_blind, va_recv hK hP (ci := 2) (q0 := 0) rfl rfl, pcG_pre hP hK hD h⟩ rfl rfl hl.1 rfl (lv_room (Nat.le_of_ble_eq_true rfl)) d_M_times_58 ⟨Nat.le_of_ble_eq_true rfl, Nat.le_of_ble_eq_true rfl⟩) hS (fun q _ h => hF40 q h) hF40 (fun u t H locs ht hvm h hB hz1 hk1 hS => ?_)
              obtain ⟨made_41, great_42, up_43, down_44, work_45⟩ := u
              obtain ⟨hP1, hK1, hD1⟩ := hB
              rw [ht] at hP1
              have hP : va_P D vwCl (wM m0 m1 m2 m3 m4 m5 k1 k2 k3 k4 k5 code_3 funs made_41 great_42 up_43 down_44 size rows work_45 xx_39 power) H := hP1
              have hD : va_D A (wM m0 m1 m2 m3 m4 m5 k1 k2 k3 k4 k5 code_3 funs made_41 great_42 up_43 down_44 size rows work_45 xx_39 power) := hD1.weaken (fun _ _ _ hq => hF40 _ hq)
              obtain ⟨x46, ex46⟩ : ∃ z : Int32, z = v4_23 + 1 := ⟨_, rfl⟩
              replace h := h x46 ex46
              refine lv_iinc (v := x46) (lv' := [(4, .int x46), (3, .int v3_8), (0, .ref m0), (1, .int p0), (2, .int p1)]) hx hb d_M_times_61 hl (k := 0) rfl (by rw [ex46]; rfl) (by decide) rfl (fun ls hl => ?_)
              refine lv_goto (tgt := 30) hx hb d_M_times_64 (by decide) ?_
              exact Ge30 _ _ _ (ihL30 x46 made_41 great_42 up_43 down_44 work_45 xx_39 _ _ _ hP hD hS (lv_sub hl [0, 1, 2, 3, 4] rfl) h)
  · replace h := h.2 hc4
    refine lv_iconst (v := 0) hx hb d_M_times_9 (by decide) ?_
    exact W.iret (v := 0) hx hb hr (fun t ht hW => ⟨⟨0, (code_3, funs, made, great, up, down, size, rows, work, xx), rfl, h, by rw [ht]; exact hP, va_K.moved hW.alike hK, hD⟩, hS.F ht⟩) hS.2.2 d_M_times_10
set_option maxHeartbeats 4000000 in
set_option maxRecDepth 100000 in
theorem c_M_over (l : Launch) (D : va_G) (m0 m1 m2 m3 m4 m5 : Nat) (k1 k2 k3 k4 k5 : ClassId) (sz : Nat) (code : Int32) (funs : Int32) (made : Int32) (great : Int32) (up : Int64) (down : Int64) (size : (Nat → Int32)) (rows : (Nat → Int32)) (work : (Nat → Int32)) (xx : (Nat → Int32)) (power : (Nat → Int32)) (p0 : Int32) (p1 : Int32) (post : Int32 → Int32 → Int32 → Int32 → Int32 → Int64 → Int64 → (Nat → Int32) → (Nat → Int32) → (Nat → Int32) → (Nat → Int32) → Prop) : Met l y_M_over (Cond.code y_M_over b_M_over 8 (some .int) :: BIG) ({ frames := 4, cells := 0, slots := 0, locals := 104 }) (va_Pc [.ref m0, .int p0, .int p1] (pcG D vwCl (wM m0 m1 m2 m3 m4 m5 k1 k2 k3 k4 k5 code funs made great up down size rows work xx power) [(k1, .int), (k2, .int), (k3, .int), (k4, .int), (k5, .int)] sz (wp_M_over code funs made great up down size rows work xx p0 p1 post))) (va_Qi (fun (r : Int32) (u : Int32 × Int32 × Int32 × Int32 × Int64 × Int64 × (Nat → Int32) × (Nat → Int32) × (Nat → Int32) × (Nat → Int32)) => post r (u.1) (u.2.1) (u.2.2.1) (u.2.2.2.1) (u.2.2.2.2.1) (u.2.2.2.2.2.1) (u.2.2.2.2.2.2.1) (u.2.2.2.2.2.2.2.1) (u.2.2.2.2.2.2.2.2.1) (u.2.2.2.2.2.2.2.2.2)) (fun u => atG D vwCl [(k1, .int), (k2, .int), (k3, .int), (k4, .int), (k5, .int)] (va_A (wM m0 m1 m2 m3 m4 m5 k1 k2 k3 k4 k5 code funs made great up down size rows work xx power) sz) (wM m0 m1 m2 m3 m4 m5 k1 k2 k3 k4 k5 (u.1) (u.2.1) (u.2.2.1) (u.2.2.2.1) (u.2.2.2.2.1) (u.2.2.2.2.2.1) (u.2.2.2.2.2.2.1) (u.2.2.2.2.2.2.2.1) (u.2.2.2.2.2.2.2.2.1) (u.2.2.2.2.2.2.2.2.2) power)) (va_A (wM m0 m1 m2 m3 m4 m5 k1 k2 k3 k4 k5 code funs made great up down size rows work xx power) sz)) 0 0 (va_A (wM m0 m1 m2 m3 m4 m5 k1 k2 k3 k4 k5 code funs made great up down size rows work xx power) sz) := by
  refine Met.ofW (cc := b_M_over) (maxL := 8) (ret := (some .int)) (by decide) rfl ?_
  intro p e s m args below meth c s₁ B hml hv
  obtain ⟨rfl, hsz, hP, hK, hD0, h⟩ := hv
  have hx := B.exec
  have hb := B.bytes
  have hr := B.returns
  have hB : ∀ w ∈ BIG, w.before _ s = true := fun w h => atoms_spec (ws := (Cond.code y_M_over b_M_over 8 (some .int) :: BIG)) B.pre w (List.mem_cons_of_mem _ h)
  have hown : s.vm.findClass R_M = some m.cls := findClass_of_methodNamed B.named
  have hlocks := B.notSynchronized
  subst hsz
  have hD := hD0.self (sz := s.heap.size)
  generalize hAe : va_A (wM m0 m1 m2 m3 m4 m5 k1 k2 k3 k4 k5 code funs made great up down size rows work xx power) s.heap.size = A at hD ⊢
  have hA : ∀ q : Nat, s.heap.size ≤ q → A q := fun q h => by rw [← hAe]; exact Or.inr h
  have hl := lv_entry ([.ref m0, .int p0, .int p1]) (n := 8) (Nat.le_of_ble_eq_true rfl)
  rw [lg_entry_eq]
  generalize (lg_sl ([.ref m0, .int p0, .int p1]) ++ List.replicate (8 - (lg_sl ([.ref m0, .int p0, .int p1])).length) Slot.unset).toArray = ls at hl ⊢
  have hl : lv_has ls 8 [(0, .ref m0), (1, .int p0), (2, .int p1)] := hl
  refine W.cap (fun G Gi Ge => ?_)
  suffices hL : ∀ (H : Heap) (locs : List Loc), va_P D vwCl (wM m0 m1 m2 m3 m4 m5 k1 k2 k3 k4 k5 code funs made great up down size rows work xx power) H → va_S A s.heap H locs → G H locs (F0 m 0 ls []) from hL _ _ hP va_S.rf
  clear hP
  intro H locs hP hS
  refine Gi _ _ _ ?_
  unfold wp_M_over at h
  refine lv_aload_n hx hb d_M_over_0 rfl (lv_at hl 0 rfl) ?_
  refine lv_iload_n hx hb d_M_over_1 rfl (lv_at hl 1 rfl) ?_
  refine lv_iload_n hx hb d_M_over_2 rfl (lv_at hl 2 rfl) ?_
  have hF1 := va_free (wc := (wM m0 m1 m2 m3 m4 m5 k1 k2 k3 k4 k5 code funs made great up down size rows work xx power)) hD hS hA [0, 1, 2, 3, 4, 5] rfl
  refine va_calli (va_runV (As := [.int p0, .int p1]) (rest := []) ⟨hx, hb, hml, hown, hB⟩ (c_M_may l D m0 m1 m2 m3 m4 m5 k1 k2 k3 k4 k5 H.size code funs made great up down size rows work xx power p0 p1 _) (cwV 2 hB (goodV wd_399 wd_400 wd_514 wd_3 wd_401) rfl rfl rfl (by decide +kernel) ⟨Nat.le_of_ble_eq_true rfl, Nat.le_of_ble_eq_true rfl⟩) ⟨pcG_blind, va_recv hK hP (ci := 2) (q0 := 0) rfl rfl, pcG_pre hP hK hD h⟩ rfl rfl hl.1 rfl (lv_room (Nat.le_of_ble_eq_true rfl)) d_M_over_3 ⟨Nat.le_of_ble_eq_true rfl, Nat.le_of_ble_eq_true rfl⟩) hS (fun q _ h => hF1 q h) hF1 (fun r2 code_3 t H locs ht hvm h hB hz1 hk1 hS => ?_)
  obtain ⟨hP1, hK1, hD1⟩ := hB
  rw [ht] at hP1
  have hP : va_P D vwCl (wM m0 m1 m2 m3 m4 m5 k1 k2 k3 k4 k5 code_3 funs made great up down size rows work xx power) H := hP1
  have hD : va_D A (wM m0 m1 m2 m3 m4 m5 k1 k2 k3 k4 k5 code_3 funs made great up down size rows work xx power) := hD1.weaken (fun _ _ _ hq => hF1 _ hq)
  refine lv_if_ne (tgt := 11) hx hb d_M_over_6 (by decide) (fun hc4 => ?_) (fun hc4 => ?_)
  · replace h := h.1 hc4
    refine lv_aload_n hx hb d_M_over_11 rfl (lv_at hl 0 rfl) ?_
    refine va_get (D := D) (ci := 2) (v := .ref m1) (C := R_M) (T := F_M) (N := 11) hx hb hB inF_M hown hK hP 0 rfl rfl 2 (by decide) (hB _ wd_340) (fun _ h9 => h9) rfl d_M_over_12 ?_
    refine lv_iload_n hx hb d_M_over_15 rfl (lv_at hl 2 rfl) ?_
    obtain ⟨g5, h⟩ := h
    refine va_iald hx hb hK hP 1 0 rfl rfl g5 d_M_over_16 ?_
    refine lv_iconst (v := 1) hx hb d_M_over_17 (by decide) ?_
    refine lv_icmp_eq (tgt := 23) hx hb d_M_over_18 (by decide) (fun hc6 => ?_) (fun hc6 => ?_)
    · replace h := h.1 hc6
      refine lv_aload_n hx hb d_M_over_23 rfl (lv_at hl 0 rfl) ?_
      have hF7 := va_free (wc := (wM m0 m1 m2 m3 m4 m5 k1 k2 k3 k4 k5 code_3 funs made great up down size rows work xx power)) hD hS hA [0, 1, 2, 3, 4, 5] rfl
      refine va_callv (va_runV (As := []) (rest := []) ⟨hx, hb, hml, hown, hB⟩ (c_M_start l D m0 m1 m2 m3 m4 m5 k1 k2 k3 k4 k5 H.size code_3 funs made great up down size rows work xx power _) (cwV 0 hB (goodV wd_360 wd_361 wd_508 wd_3 wd_362) rfl rfl rfl (by decide +kernel) ⟨Nat.le_of_ble_eq_true rfl, Nat.le_of_ble_eq_true rfl⟩) ⟨pcG_blind, va_recv hK hP (ci := 2) (q0 := 0) rfl rfl, pcG_pre hP hK hD h⟩ rfl rfl hl.1 rfl (lv_room (Nat.le_of_ble_eq_true rfl)) d_M_over_24 ⟨Nat.le_of_ble_eq_true rfl, Nat.le_of_ble_eq_true rfl⟩) hS (fun q _ h => hF7 q h) hF7 (fun u t H locs ht hvm h hB hz1 hk1 hS => ?_)
      obtain ⟨made_8, great_9⟩ := u
      obtain ⟨hP1, hK1, hD1⟩ := hB
      rw [ht] at hP1
      have hP : va_P D vwCl (wM m0 m1 m2 m3 m4 m5 k1 k2 k3 k4 k5 code_3 funs made_8 great_9 up down size rows work xx power) H := hP1
      have hD : va_D A (wM m0 m1 m2 m3 m4 m5 k1 k2 k3 k4 k5 code_3 funs made_8 great_9 up down size rows work xx power) := hD1.weaken (fun _ _ _ hq => hF7 _ hq)
      refine lv_iconst (v := 0) hx hb d_M_over_27 (by decide) ?_
      refine lv_istore_n (lv' := [(3, .int 0), (0, .ref m0), (1, .int p0), (2, .int p1)]) hx hb d_M_over_28 rfl hl (by decide) rfl (fun ls hl => ?_)
      obtain ⟨n29, h⟩ := h
      refine W.cap (fun G29 Gi29 Ge29 => ?_)
      suffices hL29 : ∀ (n29 : Nat) (v3_10 : Int32) (made_11 : Int32) (great_12 : Int32) (up_13 : Int64) (down_14 : Int64) (work_15 : (Nat → Int32)) (xx_16 : (Nat → Int32)) (H : Heap) (locs : List Loc) (ls : Array Slot), va_P D vwCl (wM m0 m1 m2 m3 m4 m5 k1 k2 k3 k4 k5 code_3 funs made_11 great_12 up_13 down_14 size rows work_15 xx_16 power) H → va_D A (wM m0 m1 m2 m3 m4 m5 k1 k2 k3 k4 k5 code_3 funs made_11 great_12 up_13 down_14 size rows work_15 xx_16 power) → va_S A s.heap H locs → lv_has ls 8 [(3, .int v3_10), (0, .ref m0), (1, .int p0), (2, .int p1)] → lpW7 (wb_M_over_29 p0 size code_3 funs rows post p1) n29 v3_10 made_11 great_12 up_13 down_14 work_15 xx_16 → G29 H locs (F0 m 29 ls []) from hL29 n29 (0 : Int32) made_8 great_9 up down work xx _ _ _ hP hD hS hl h
      clear h hP hD hS hl
      intro n29
      induction n29 with
      | zero => intro v3_10 made_11 great_12 up_13 down_14 work_15 xx_16 H locs ls hP hD hS hl h; exact (show False from h).elim
      | succ n29 ihL29 =>
        intro v3_10 made_11 great_12 up_13 down_14 work_15 xx_16 H locs ls hP hD hS hl h
        replace h : (wb_M_over_29 p0 size code_3 funs rows post p1) (lpW7 (wb_M_over_29 p0 size code_3 funs rows post p1) n29) v3_10 made_11 great_12 up_13 down_14 work_15 xx_16 := h
        refine Gi29 _ _ _ ?_
        refine lv_iload_n hx hb d_M_over_29 rfl (lv_at hl 0 rfl) ?_
        refine lv_aload_n hx hb d_M_over_30 rfl (lv_at hl 1 rfl) ?_
        refine va_get (D := D) (ci := 2) (v := .ref m1) (C := R_M) (T := F_M) (N := 11) hx hb hB inF_M hown hK hP 0 rfl rfl 2 (by decide) (hB _ wd_340) (fun _ h9 => h9) rfl d_M_over_31 ?_
        refine lv_iload_n hx hb d_M_over_34 rfl (lv_at hl 2 rfl) ?_
        obtain ⟨g17, h⟩ := h
        refine va_iald hx hb hK hP 1 0 rfl rfl g17 d_M_over_35 ?_
        refine lv_icmp_ge (tgt := 140) hx hb d_M_over_36 (by decide) (fun hc18 => ?_) (fun hc18 => ?_)
        · replace h := h.1 hc18
          refine lv_aload_n hx hb d_M_over_140 rfl (lv_at hl 1 rfl) ?_
          have hF19 := va_free (wc := (wM m0 m1 m2 m3 m4 m5 k1 k2 k3 k4 k5 code_3 funs made_11 great_12 up_13 down_14 size rows work_15 xx_16 power)) hD hS hA [0, 1, 2, 3, 4, 5] rfl
          refine va_calli (va_runV (As := []) (rest := []) ⟨hx, hb, hml, hown, hB⟩ (c_M_keep l D m0 m1 m2 m3 m4 m5 k1 k2 k3 k4 k5 H.size code_3 funs made_11 great_12 up_13 down_14 size rows work_15 xx_16 power _) (cwV 0 hB (goodV wd_387 wd_388 wd_513 wd_3 wd_389) rfl rfl rfl (by decide +kernel) ⟨Nat.le_of_ble_eq_true rfl, Nat.le_of_ble_eq_true rfl⟩) ⟨pcG_blind, va_recv hK hP (ci := 2) (q0 := 0) rfl rfl, pcG_pre hP hK hD h⟩ rfl rfl hl.1 rfl (lv_room (Nat.le_of_ble_eq_true rfl)) d_M_over_141 ⟨Nat.le_of_ble_eq_true rfl, Nat.le_of_ble_eq_true rfl⟩) hS (fun q _ h => hF19 q h) hF19 (fun r20 u t H locs ht hvm h hB hz1 hk1 hS => ?_)
          obtain ⟨code_21, funs_22, size_23, rows_24⟩ := u
          obtain ⟨hP1, hK1, hD1⟩ := hB
          rw [ht] at hP1
          have hP : va_P D vwCl (wM m0 m1 m2 m3 m4 m5 k1 k2 k3 k4 k5 code_21 funs_22 made_11 great_12 up_13 down_14 size_23 rows_24 work_15 xx_16 power) H := hP1
          have hD : va_D A (wM m0 m1 m2 m3 m4 m5 k1 k2 k3 k4 k5 code_21 funs_22 made_11 great_12 up_13 down_14 size_23 rows_24 work_15 xx_16 power) := hD1.weaken (fun _ _ _ hq => hF19 _ hq)
          exact W.iret (v := r20) hx hb hr (fun t ht hW => ⟨⟨r20, (code_21, funs_22, made_11, great_12, up_13, down_14, size_23, rows_24, work_15, xx_16), rfl, h, by rw [ht]; exact hP, va_K.moved hW.alike hK, hD⟩, hS.F ht⟩) hS.2.2 d_M_over_144
        · replace h := h.2 hc18
          refine lv_aload_n hx hb d_M_over_39 rfl (lv_at hl 1 rfl) ?_
          refine va_get (D := D) (ci := 2) (v := .int great_12) (C := R_M) (T := F_M) (N := 11) hx hb hB inF_M hown hK hP 0 rfl rfl 6 (by decide) (hB _ wd_344) (fun _ h9 => h9) rfl d_M_over_40 ?_
          refine lv_if_ne (tgt := 140) hx hb d_M_over_43 (by decide) (fun hc25 => ?_) (fun hc25 => ?_)
          · replace h := h.1 hc25
            refine lv_aload_n hx hb d_M_over_140 rfl (lv_at hl 1 rfl) ?_
            have hF26 := va_free (wc := (wM m0 m1 m2 m3 m4 m5 k1 k2 k3 k4 k5 code_3 funs made_11 great_12 up_13 down_14 size rows work_15 xx_16 power)) hD hS hA [0, 1, 2, 3, 4, 5] rfl
            refine va_calli (va_runV (As := []) (rest := []) ⟨hx, hb, hml, hown, hB⟩ (c_M_keep l D m0 m1 m2 m3 m4 m5 k1 k2 k3 k4 k5 H.size code_3 funs made_11 great_12 up_13 down_14 size rows work_15 xx_16 power _) (cwV 0 hB (goodV wd_387 wd_388 wd_513 wd_3 wd_389) rfl rfl rfl (by decide +kernel) ⟨Nat.le_of_ble_eq_true rfl, Nat.le_of_ble_eq_true rfl⟩) ⟨pcG_blind, va_recv hK hP (ci := 2) (q0 := 0) rfl rfl, pcG_pre hP hK hD h⟩ rfl rfl hl.1 rfl (lv_room (Nat.le_of_ble_eq_true rfl)) d_M_over_141 ⟨Nat.le_of_ble_eq_true rfl, Nat.le_of_ble_eq_true rfl⟩) hS (fun q _ h => hF26 q h) hF26 (fun r27 u t H locs ht hvm h hB hz1 hk1 hS => ?_)
            obtain ⟨code_28, funs_29, size_30, rows_31⟩ := u
            obtain ⟨hP1, hK1, hD1⟩ := hB
            rw [ht] at hP1
            have hP : va_P D vwCl (wM m0 m1 m2 m3 m4 m5 k1 k2 k3 k4 k5 code_28 funs_29 made_11 great_12 up_13 down_14 size_30 rows_31 work_15 xx_16 power) H := hP1
            have hD : va_D A (wM m0 m1 m2 m3 m4 m5 k1 k2 k3 k4 k5 code_28 funs_29 made_11 great_12 up_13 down_14 size_30 rows_31 work_15 xx_16 power) := hD1.weaken (fun _ _ _ hq => hF26 _ hq)
            exact W.iret (v := r27) hx hb hr (fun t ht hW => ⟨⟨r27, (code_28, funs_29, made_11, great_12, up_13, down_14, size_30, rows_31, work_15, xx_16), rfl, h, by rw [ht]; exact hP, va_K.moved hW.alike hK, hD⟩, hS.F ht⟩) hS.2.2 d_M_over_144
          · replace h := h.2 hc25
            refine lv_aload_n hx hb d_M_over_46 rfl (lv_at hl 1 rfl) ?_
            refine lv_iload_n hx hb d_M_over_47 rfl (lv_at hl 2 rfl) ?_
            refine lv_iload_n hx hb d_M_over_48 rfl (lv_at hl 0 rfl) ?_
            have hF32 := va_free (wc := (wM m0 m1 m2 m3 m4 m5 k1 k2 k3 k4 k5 code_3 funs made_11 great_12 up_13 down_14 size rows work_15 xx_16 power)) hD hS hA [0, 1, 2, 3, 4, 5] rfl
            refine va_callv (va_runV (As := [.int p0, .int v3_10]) (rest := []) ⟨hx, hb, hml, hown, hB⟩ (c_M_load l D m0 m1 m2 m3 m4 m5 k1 k2 k3 k4 k5 H.size code_3 funs made_11 great_12 up_13 down_14 size rows work_15 xx_16 power p0 v3_10 _) (cwV 2 hB (goodV wd_405 wd_406 wd_516 wd_3 wd_407) rfl rfl rfl (by decide +kernel) ⟨Nat.le_of_ble_eq_true rfl, Nat.le_of_ble_eq_true rfl⟩) ⟨pcG_blind, va_recv hK hP (ci := 2) (q0 := 0) rfl rfl, pcG_pre hP hK hD h⟩ rfl rfl hl.1 rfl (lv_room (Nat.le_of_ble_eq_true rfl)) d_M_over_49 ⟨Nat.le_of_ble_eq_true rfl, Nat.le_of_ble_eq_true rfl⟩) hS (fun q _ h => hF32 q h) hF32 (fun xx_33 t H locs ht hvm h hB hz1 hk1 hS => ?_)
            obtain ⟨hP1, hK1, hD1⟩ := hB
            rw [ht] at hP1
            have hP : va_P D vwCl (wM m0 m1 m2 m3 m4 m5 k1 k2 k3 k4 k5 code_3 funs made_11 great_12 up_13 down_14 size rows work_15 xx_33 power) H := hP1
            have hD : va_D A (wM m0 m1 m2 m3 m4 m5 k1 k2 k3 k4 k5 code_3 funs made_11 great_12 up_13 down_14 size rows work_15 xx_33 power) := hD1.weaken (fun _ _ _ hq => hF32 _ hq)
            refine lv_iconst (v := 0) hx hb d_M_over_52 (by decide) ?_
            refine lv_istore (lv' := [(4, .int 0), (3, .int v3_10), (0, .ref m0), (1, .int p0), (2, .int p1)]) hx hb d_M_over_53 hl (by decide) rfl (fun ls hl => ?_)
            obtain ⟨n55, h⟩ := h
            refine W.cap (fun G55 Gi55 Ge55 => ?_)
            suffices hL55 : ∀ (n55 : Nat) (v4_34 : Int32) (xx_35 : (Nat → Int32)) (H : Heap) (locs : List Loc) (ls : Array Slot), va_P D vwCl (wM m0 m1 m2 m3 m4 m5 k1 k2 k3 k4 k5 code_3 funs made_11 great_12 up_13 down_14 size rows work_15 xx_35 power) H → va_D A (wM m0 m1 m2 m3 m4 m5 k1 k2 k3 k4 k5 code_3 funs made_11 great_12 up_13 down_14 size rows work_15 xx_35 power) → va_S A s.heap H locs → lv_has ls 8 [(4, .int v4_34), (3, .int v3_10), (0, .ref m0), (1, .int p0), (2, .int p1)] → lpW2 (wb_M_over_55 rows p1 great_12 up_13 down_14 made_11 work_15 v3_10 (lpW7 (wb_M_over_29 p0 size code_3 funs rows post p1) n29)) n55 v4_34 xx_35 → G55 H locs (F0 m 55 ls []) from hL55 n55 (0 : Int32) xx_33 _ _ _ hP hD hS hl h
            clear h hP hD hS hl
            intro n55
            induction n55 with
            | zero => intro v4_34 xx_35 H locs ls hP hD hS hl h; exact (show False from h).elim
            | succ n55 ihL55 =>
              intro v4_34 xx_35 H locs ls hP hD hS hl h
              replace h : (wb_M_over_55 rows p1 great_12 up_13 down_14 made_11 work_15 v3_10 (lpW7 (wb_M_over_29 p0 size code_3 funs rows post p1) n29)) (lpW2 (wb_M_over_55 rows p1 great_12 up_13 down_14 made_11 work_15 v3_10 (lpW7 (wb_M_over_29 p0 size code_3 funs rows post p1) n29)) n55) v4_34 xx_35 := h
              refine Gi55 _ _ _ ?_
              refine lv_iload hx hb d_M_over_55 (lv_at hl 0 rfl) ?_
              refine lv_iconst (v := 5) hx hb d_M_over_57 (by decide) ?_
              refine lv_icmp_ge (tgt := 85) hx hb d_M_over_58 (by decide) (fun hc36 => ?_) (fun hc36 => ?_)
              · replace h := h.1 hc36
                refine lv_aload_n hx hb d_M_over_85 rfl (lv_at hl 2 rfl) ?_
                refine lv_iload_n hx hb d_M_over_86 rfl (lv_at hl 4 rfl) ?_
                refine lv_iconst (v := 0) hx hb d_M_over_87 (by decide) ?_
                refine lv_iconst (v := 5) hx hb d_M_over_88 (by decide) ?_
                have hF37 := va_free (wc := (wM m0 m1 m2 m3 m4 m5 k1 k2 k3 k4 k5 code_3 funs made_11 great_12 up_13 down_14 size rows work_15 xx_35 power)) hD hS hA [0, 1, 2, 3, 4, 5] rfl
                refine va_calli (va_runV (As := [.int p1, .int 0, .int 5]) (rest := []) ⟨hx, hb, hml, hown, hB⟩ (c_M_at l D m0 m1 m2 m3 m4 m5 k1 k2 k3 k4 k5 H.size code_3 funs made_11 great_12 up_13 down_14 size rows work_15 xx_35 power p1 0 5 _) (cwV 3 hB (goodV wd_408 wd_409 wd_517 wd_3 wd_410) rfl rfl rfl (by decide +kernel) ⟨Nat.le_of_ble_eq_true rfl, Nat.le_of_ble_eq_true rfl⟩) ⟨pcG_blind, va_recv hK hP (ci := 2) (q0 := 0) rfl rfl, pcG_pre hP hK hD h⟩ rfl rfl hl.1 rfl (lv_room (Nat.le_of_ble_eq_true rfl)) d_M_over_89 ⟨Nat.le_of_ble_eq_true rfl, Nat.le_of_ble_eq_true rfl⟩) hS (fun q _ h => hF37 q h) hF37 (fun r38 u t H locs ht hvm h hB hz1 hk1 hS => ?_)
                obtain ⟨hP1, hK1, hD1⟩ := hB
                rw [ht] at hP1
                have hP : va_P D vwCl (wM m0 m1 m2 m3 m4 m5 k1 k2 k3 k4 k5 code_3 funs made_11 great_12 up_13 down_14 size rows work_15 xx_35 power) H := hP1
                have hD : va_D A (wM m0 m1 m2 m3 m4 m5 k1 k2 k3 k4 k5 code_3 funs made_11 great_12 up_13 down_14 size rows work_15 xx_35 power) := hD1.weaken (fun _ _ _ hq => hF37 _ hq)
                refine lv_i2l hx hb d_M_over_92 rfl ?_
                refine lv_topl (fun x39 ex39 => ?_)
                replace h := h x39 ex39
                refine lv_lstore (lv' := [(4, .long x39), (3, .int v3_10), (0, .ref m0), (1, .int p0), (2, .int p1)]) hx hb d_M_over_93 hl (by decide) rfl (fun ls hl => ?_)
                refine lv_aload_n hx hb d_M_over_95 rfl (lv_at hl 2 rfl) ?_
                refine lv_iload_n hx hb d_M_over_96 rfl (lv_at hl 4 rfl) ?_
                refine lv_iconst (v := 0) hx hb d_M_over_97 (by decide) ?_
                refine lv_bipush (v := 6) hx hb d_M_over_98 (by decide) ?_
                have hF40 := va_free (wc := (wM m0 m1 m2 m3 m4 m5 k1 k2 k3 k4 k5 code_3 funs made_11 great_12 up_13 down_14 size rows work_15 xx_35 power)) hD hS hA [0, 1, 2, 3, 4, 5] rfl
                refine va_calli (va_runV (As := [.int p1, .int 0, .int 6]) (rest := []) ⟨hx, hb, hml, hown, hB⟩ (c_M_at l D m0 m1 m2 m3 m4 m5 k1 k2 k3 k4 k5 H.size code_3 funs made_11 great_12 up_13 down_14 size rows work_15 xx_35 power p1 0 6 _) (cwV 3 hB (goodV wd_408 wd_409 wd_517 wd_3 wd_410) rfl rfl rfl (by decide +kernel) ⟨Nat.le_of_ble_eq_true rfl, Nat.le_of_ble_eq_true rfl⟩) ⟨pcG_blind, va_recv hK hP (ci := 2) (q0 := 0) rfl rfl, pcG_pre hP hK hD h⟩ rfl rfl hl.1 rfl (lv_room (Nat.le_of_ble_eq_true rfl)) d_M_over_100 ⟨Nat.le_of_ble_eq_true rfl, Nat.le_of_ble_eq_true rfl⟩) hS (fun q _ h => hF40 q h) hF40 (fun r41 u t H locs ht hvm h hB hz1 hk1 hS => ?_)
                obtain ⟨hP1, hK1, hD1⟩ := hB
                rw [ht] at hP1
                have hP : va_P D vwCl (wM m0 m1 m2 m3 m4 m5 k1 k2 k3 k4 k5 code_3 funs made_11 great_12 up_13 down_14 size rows work_15 xx_35 power) H := hP1
                have hD : va_D A (wM m0 m1 m2 m3 m4 m5 k1 k2 k3 k4 k5 code_3 funs made_11 great_12 up_13 down_14 size rows work_15 xx_35 power) := hD1.weaken (fun _ _ _ hq => hF40 _ hq)
                refine lv_i2l hx hb d_M_over_103 rfl ?_
                refine lv_topl (fun x42 ex42 => ?_)
                replace h := h x42 ex42
                refine lv_lstore (lv' := [(6, .long x42), (4, .long x39), (3, .int v3_10), (0, .ref m0), (1, .int p0), (2, .int p1)]) hx hb d_M_over_104 hl (by decide) rfl (fun ls hl => ?_)
                refine lv_aload_n hx hb d_M_over_106 rfl (lv_at hl 3 rfl) ?_
                refine lv_lload hx hb d_M_over_107 (lv_at hl 1 rfl) ?_
                refine lv_lconst (v := 0) hx hb d_M_over_109 (by decide) ?_
                refine W.lcmp hx hb d_M_over_110 ?_
                refine lv_if_ge (tgt := 120) hx hb d_M_over_111 (by decide) (fun hc43 => ?_) (fun hc43 => ?_)
                · replace h := h.1 hc43
                  refine lv_lload hx hb d_M_over_120 (lv_at hl 0 rfl) ?_
                  refine lv_lload hx hb d_M_over_122 (lv_at hl 1 rfl) ?_
                  have hF44 := va_free (wc := (wM m0 m1 m2 m3 m4 m5 k1 k2 k3 k4 k5 code_3 funs made_11 great_12 up_13 down_14 size rows work_15 xx_35 power)) hD hS hA [0, 1, 2, 3, 4, 5] rfl
                  refine va_calll (va_runS (As := [.long x39]) (rest := [.long x42, .ref m0]) ⟨hx, hb, hml, hown, hB⟩ (c_M_size l D m0 m1 m2 m3 m4 m5 k1 k2 k3 k4 k5 H.size code_3 funs made_11 great_12 up_13 down_14 size rows work_15 xx_35 power x39 _) (cwS 1 hB (goodS wd_369 wd_370 wd_3 wd_371) rfl rfl rfl (by decide +kernel) ⟨Nat.le_of_ble_eq_true rfl, Nat.le_of_ble_eq_true rfl⟩) ⟨pcG_blind, pcG_pre hP hK hD h⟩ rfl rfl hl.1 rfl (lv_room (Nat.le_of_ble_eq_true rfl)) d_M_over_124 ⟨Nat.le_of_ble_eq_true rfl, Nat.le_of_ble_eq_true rfl⟩) hS (fun q _ h => hF44 q h) hF44 (fun r45 u t H locs ht hvm h hB hz1 hk1 hS => ?_)
                  obtain ⟨hP1, hK1, hD1⟩ := hB
                  rw [ht] at hP1
                  have hP : va_P D vwCl (wM m0 m1 m2 m3 m4 m5 k1 k2 k3 k4 k5 code_3 funs made_11 great_12 up_13 down_14 size rows work_15 xx_35 power) H := hP1
                  have hD : va_D A (wM m0 m1 m2 m3 m4 m5 k1 k2 k3 k4 k5 code_3 funs made_11 great_12 up_13 down_14 size rows work_15 xx_35 power) := hD1.weaken (fun _ _ _ hq => hF44 _ hq)
                  have hF46 := va_free (wc := (wM m0 m1 m2 m3 m4 m5 k1 k2 k3 k4 k5 code_3 funs made_11 great_12 up_13 down_14 size rows work_15 xx_35 power)) hD hS hA [0, 1, 2, 3, 4, 5] rfl
                  refine va_callv (va_runV (As := [.long x42, .long r45]) (rest := []) ⟨hx, hb, hml, hown, hB⟩ (c_M_scale l D m0 m1 m2 m3 m4 m5 k1 k2 k3 k4 k5 H.size code_3 funs made_11 great_12 up_13 down_14 size rows work_15 xx_35 power x42 r45 _) (cwV 2 hB (goodV wd_418 wd_419 wd_519 wd_3 wd_420) rfl rfl rfl (by decide +kernel) ⟨Nat.le_of_ble_eq_true rfl, Nat.le_of_ble_eq_true rfl⟩) ⟨pcG_blind, va_recv hK hP (ci := 2) (q0 := 0) rfl rfl, pcG_pre hP hK hD h⟩ rfl rfl hl.1 rfl (lv_room (Nat.le_of_ble_eq_true rfl)) d_M_over_127 ⟨Nat.le_of_ble_eq_true rfl, Nat.le_of_ble_eq_true rfl⟩) hS (fun q _ h => hF46 q h) hF46 (fun u t H locs ht hvm h hB hz1 hk1 hS => ?_)
                  obtain ⟨great_47, up_48, down_49, xx_50⟩ := u
                  obtain ⟨hP1, hK1, hD1⟩ := hB
                  rw [ht] at hP1
                  have hP : va_P D vwCl (wM m0 m1 m2 m3 m4 m5 k1 k2 k3 k4 k5 code_3 funs made_11 great_47 up_48 down_49 size rows work_15 xx_50 power) H := hP1
                  have hD : va_D A (wM m0 m1 m2 m3 m4 m5 k1 k2 k3 k4 k5 code_3 funs made_11 great_47 up_48 down_49 size rows work_15 xx_50 power) := hD1.weaken (fun _ _ _ hq => hF46 _ hq)
                  refine lv_aload_n hx hb d_M_over_130 rfl (lv_at hl 3 rfl) ?_
                  have hF51 := va_free (wc := (wM m0 m1 m2 m3 m4 m5 k1 k2 k3 k4 k5 code_3 funs made_11 great_47 up_48 down_49 size rows work_15 xx_50 power)) hD hS hA [0, 1, 2, 3, 4, 5] rfl
                  refine va_callv (va_runV (As := []) (rest := []) ⟨hx, hb, hml, hown, hB⟩ (c_M_put l D m0 m1 m2 m3 m4 m5 k1 k2 k3 k4 k5 H.size code_3 funs made_11 great_47 up_48 down_49 size rows work_15 xx_50 power _) (cwV 0 hB (goodV wd_376 wd_377 wd_511 wd_3 wd_378) rfl rfl rfl (by decide +kernel) ⟨Nat.le_of_ble_eq_true rfl, Nat.le_of_ble_eq_true rfl⟩) ⟨pcG_blind, va_recv hK hP (ci := 2) (q0 := 0) rfl rfl, pcG_pre hP hK hD h⟩ rfl rfl hl.1 rfl (lv_room (Nat.le_of_ble_eq_true rfl)) d_M_over_131 ⟨Nat.le_of_ble_eq_true rfl, Nat.le_of_ble_eq_true rfl⟩) hS (fun q _ h => hF51 q h) hF51 (fun u t H locs ht hvm h hB hz1 hk1 hS => ?_)
                  obtain ⟨made_52, great_53, up_54, down_55, work_56⟩ := u
                  obtain ⟨hP1, hK1, hD1⟩ := hB
                  rw [ht] at hP1
                  have hP : va_P D vwCl (wM m0 m1 m2 m3 m4 m5 k1 k2 k3 k4 k5 code_3 funs made_52 great_53 up_54 down_55 size rows work_56 xx_50 power) H := hP1
                  have hD : va_D A (wM m0 m1 m2 m3 m4 m5 k1 k2 k3 k4 k5 code_3 funs made_52 great_53 up_54 down_55 size rows work_56 xx_50 power) := hD1.weaken (fun _ _ _ hq => hF51 _ hq)
                  obtain ⟨x57, ex57⟩ : ∃ z : Int32, z = v3_10 + 1 := ⟨_, rfl⟩
                  replace h := h x57 ex57
                  refine lv_iinc (v := x57) (lv' := [(3, .int x57), (6, .long x42), (4, .long x39), (0, .ref m0), (1, .int p0), (2, .int p1)]) hx hb d_M_over_134 hl (k := 2) rfl (by rw [ex57]; rfl) (by decide) rfl (fun ls hl => ?_)
                  refine lv_goto (tgt := 29) hx hb d_M_over_137 (by decide) ?_
                  exact Ge29 _ _ _ (ihL29 x57 made_52 great_53 up_54 down_55 work_56 xx_50 _ _ _ hP hD hS (lv_sub hl [0, 3, 4, 5] rfl) h)
                · replace h := h.2 hc43
                  refine lv_lload hx hb d_M_over_114 (lv_at hl 0 rfl) ?_
                  refine lv_lneg hx hb d_M_over_116 ?_
                  refine lv_goto (tgt := 122) hx hb d_M_over_117 (by decide) ?_
                  refine lv_lload hx hb d_M_over_122 (lv_at hl 1 rfl) ?_
                  have hF58 := va_free (wc := (wM m0 m1 m2 m3 m4 m5 k1 k2 k3 k4 k5 code_3 funs made_11 great_12 up_13 down_14 size rows work_15 xx_35 power)) hD hS hA [0, 1, 2, 3, 4, 5] rfl
                  refine va_calll (va_runS (As := [.long x39]) (rest := [.long (-x42), .ref m0]) ⟨hx, hb, hml, hown, hB⟩ (c_M_size l D m0 m1 m2 m3 m4 m5 k1 k2 k3 k4 k5 H.size code_3 funs made_11 great_12 up_13 down_14 size rows work_15 xx_35 power x39 _) (cwS 1 hB (goodS wd_369 wd_370 wd_3 wd_371) rfl rfl rfl (by decide +kernel) ⟨Nat.le_of_ble_eq_true rfl, Nat.le_of_ble_eq_true rfl⟩) ⟨pcG_blind, pcG_pre hP hK hD h⟩ rfl rfl hl.1 rfl (lv_room (Nat.le_of_ble_eq_true rfl)) d_M_over_124 ⟨Nat.le_of_ble_eq_true rfl, Nat.le_of_ble_eq_true rfl⟩) hS (fun q _ h => hF58 q h) hF58 (fun r59 u t H locs ht hvm h hB hz1 hk1 hS => ?_)
                  obtain ⟨hP1, hK1, hD1⟩ := hB
                  rw [ht] at hP1
                  have hP : va_P D vwCl (wM m0 m1 m2 m3 m4 m5 k1 k2 k3 k4 k5 code_3 funs made_11 great_12 up_13 down_14 size rows work_15 xx_35 power) H := hP1
                  have hD : va_D A (wM m0 m1 m2 m3 m4 m5 k1 k2 k3 k4 k5 code_3 funs made_11 great_12 up_13 down_14 size rows work_15 xx_35 power) := hD1.weaken (fun _ _ _ hq => hF58 _ hq)
                  have hF60 := va_free (wc := (wM m0 m1 m2 m3 m4 m5 k1 k2 k3 k4 k5 code_3 funs made_11 great_12 up_13 down_14 size rows work_15 xx_35 power)) hD hS hA [0, 1, 2, 3, 4, 5] rfl
                  refine va_callv (va_runV (As := [.long (-x42), .long r59]) (rest := []) ⟨hx, hb, hml, hown, hB⟩ (c_M_scale l D m0 m1 m2 m3 m4 m5 k1 k2 k3 k4 k5 H.size code_3 funs made_11 great_12 up_13 down_14 size rows work_15 xx_35 power (-x42) r59 _) (cwV 2 hB (goodV wd_418 wd_419 wd_519 wd_3 wd_420) rfl rfl rfl (by decide +kernel) ⟨Nat.le_of_ble_eq_true rfl, Nat.le_of_ble_eq_true rfl⟩) ⟨pcG_blind, va_recv hK hP (ci := 2) (q0 := 0) rfl rfl, pcG_pre hP hK hD h⟩ rfl rfl hl.1 rfl (lv_room (Nat.le_of_ble_eq_true rfl)) d_M_over_127 ⟨Nat.le_of_ble_eq_true rfl, Nat.le_of_ble_eq_true rfl⟩) hS (fun q _ h => hF60 q h) hF60 (fun u t H locs ht hvm h hB hz1 hk1 hS => ?_)
                  obtain ⟨great_61, up_62, down_63, xx_64⟩ := u
                  obtain ⟨hP1, hK1, hD1⟩ := hB
                  rw [ht] at hP1
                  have hP : va_P D vwCl (wM m0 m1 m2 m3 m4 m5 k1 k2 k3 k4 k5 code_3 funs made_11 great_61 up_62 down_63 size rows work_15 xx_64 power) H := hP1
                  have hD : va_D A (wM m0 m1 m2 m3 m4 m5 k1 k2 k3 k4 k5 code_3 funs made_11 great_61 up_62 down_63 size rows work_15 xx_64 power) := hD1.weaken (fun _ _ _ hq => hF60 _ hq)
                  refine lv_aload_n hx hb d_M_over_130 rfl (lv_at hl 3 rfl) ?_
                  have hF65 := va_free (wc := (wM m0 m1 m2 m3 m4 m5 k1 k2 k3 k4 k5 code_3 funs made_11 great_61 up_62 down_63 size rows work_15 xx_64 power)) hD hS hA [0, 1, 2, 3, 4, 5] rfl
                  refine va_callv (va_runV (As := []) (rest := []) ⟨hx, hb, hml, hown, hB⟩ (c_M_put l D m0 m1 m2 m3 m4 m5 k1 k2 k3 k4 k5 H.size code_3 funs made_11 great_61 up_62 down_63 size rows work_15 xx_64 power _) (cwV 0 hB (goodV wd_376 wd_377 wd_511 wd_3 wd_378) rfl rfl rfl (by decide +kernel) ⟨Nat.le_of_ble_eq_true rfl, Nat.le_of_ble_eq_true rfl⟩) ⟨pcG_blind, va_recv hK hP (ci := 2) (q0 := 0) rfl rfl, pcG_pre hP hK hD h⟩ rfl rfl hl.1 rfl (lv_room (Nat.le_of_ble_eq_true rfl)) d_M_over_131 ⟨Nat.le_of_ble_eq_true rfl, Nat.le_of_ble_eq_true rfl⟩) hS (fun q _ h => hF65 q h) hF65 (fun u t H locs ht hvm h hB hz1 hk1 hS => ?_)
                  obtain ⟨made_66, great_67, up_68, down_69, work_70⟩ := u
                  obtain ⟨hP1, hK1, hD1⟩ := hB
                  rw [ht] at hP1
                  have hP : va_P D vwCl (wM m0 m1 m2 m3 m4 m5 k1 k2 k3 k4 k5 code_3 funs made_66 great_67 up_68 down_69 size rows work_70 xx_64 power) H := hP1
                  have hD : va_D A (wM m0 m1 m2 m3 m4 m5 k1 k2 k3 k4 k5 code_3 funs made_66 great_67 up_68 down_69 size rows work_70 xx_64 power) := hD1.weaken (fun _ _ _ hq => hF65 _ hq)
                  obtain ⟨x71, ex71⟩ : ∃ z : Int32, z = v3_10 + 1 := ⟨_, rfl⟩
                  replace h := h x71 ex71
                  refine lv_iinc (v := x71) (lv' := [(3, .int x71), (6, .long x42), (4, .long x39), (0, .ref m0), (1, .int p0), (2, .int p1)]) hx hb d_M_over_134 hl (k := 2) rfl (by rw [ex71]; rfl) (by decide) rfl (fun ls hl => ?_)
                  refine lv_goto (tgt := 29) hx hb d_M_over_137 (by decide) ?_
                  exact Ge29 _ _ _ (ihL29 x71 made_66 great_67 up_68 down_69 work_70 xx_64 _ _ _ hP hD hS (lv_sub hl [0, 3, 4, 5] rfl) h)
              · replace h := h.2 hc36
                refine lv_aload_n hx hb d_M_over_61 rfl (lv_at hl 2 rfl) ?_
                refine va_get (D := D) (ci := 2) (v := .ref m4) (C := R_M) (T := F_M) (N := 11) hx hb hB inF_M hown hK hP 0 rfl rfl 7 (by decide) (hB _ wd_345) (fun _ h9 => h9) rfl d_M_over_62 ?_
                refine lv_iload hx hb d_M_over_65 (lv_at hl 0 rfl) ?_
                refine lv_dup2_11 hx hb d_M_over_67 rfl rfl ?_
                obtain ⟨g72, h⟩ := h
                refine va_iald hx hb hK hP 4 3 rfl rfl g72 d_M_over_68 ?_
                refine lv_aload_n hx hb d_M_over_69 rfl (lv_at hl 2 rfl) ?_
                refine lv_iload_n hx hb d_M_over_70 rfl (lv_at hl 4 rfl) ?_
                refine lv_iconst (v := 0) hx hb d_M_over_71 (by decide) ?_
                refine lv_iload hx hb d_M_over_72 (lv_at hl 0 rfl) ?_
                have hF73 := va_free (wc := (wM m0 m1 m2 m3 m4 m5 k1 k2 k3 k4 k5 code_3 funs made_11 great_12 up_13 down_14 size rows work_15 xx_35 power)) hD hS hA [0, 1, 2, 3, 4, 5] rfl
                refine va_calli (va_runV (As := [.int p1, .int 0, .int v4_34]) (rest := [.int (xx_35 v4_34.toNatClampNeg), .int v4_34, .ref m4]) ⟨hx, hb, hml, hown, hB⟩ (c_M_at l D m0 m1 m2 m3 m4 m5 k1 k2 k3 k4 k5 H.size code_3 funs made_11 great_12 up_13 down_14 size rows work_15 xx_35 power p1 0 v4_34 _) (cwV 3 hB (goodV wd_408 wd_409 wd_517 wd_3 wd_410) rfl rfl rfl (by decide +kernel) ⟨Nat.le_of_ble_eq_true rfl, Nat.le_of_ble_eq_true rfl⟩) ⟨pcG_blind, va_recv hK hP (ci := 2) (q0 := 0) rfl rfl, pcG_pre hP hK hD h⟩ rfl rfl hl.1 rfl (lv_room (Nat.le_of_ble_eq_true rfl)) d_M_over_74 ⟨Nat.le_of_ble_eq_true rfl, Nat.le_of_ble_eq_true rfl⟩) hS (fun q _ h => hF73 q h) hF73 (fun r74 u t H locs ht hvm h hB hz1 hk1 hS => ?_)
                obtain ⟨hP1, hK1, hD1⟩ := hB
                rw [ht] at hP1
                have hP : va_P D vwCl (wM m0 m1 m2 m3 m4 m5 k1 k2 k3 k4 k5 code_3 funs made_11 great_12 up_13 down_14 size rows work_15 xx_35 power) H := hP1
                have hD : va_D A (wM m0 m1 m2 m3 m4 m5 k1 k2 k3 k4 k5 code_3 funs made_11 great_12 up_13 down_14 size rows work_15 xx_35 power) := hD1.weaken (fun _ _ _ hq => hF73 _ hq)
                refine lv_isub hx hb d_M_over_77 ?_
                obtain ⟨g75, h⟩ := h
                obtain ⟨xx_76, exx_76⟩ : ∃ z : (Nat → Int32), z = upd xx_35 v4_34.toNatClampNeg ((xx_35 v4_34.toNatClampNeg) - r74) := ⟨_, rfl⟩
                replace h := h xx_76 exx_76
                refine va_iast hx hb hK hP hD hS 4 3 rfl rfl g75 d_M_over_78 (fun H locs hP hD hS => ?_)
                have hP : va_P D vwCl (wM m0 m1 m2 m3 m4 m5 k1 k2 k3 k4 k5 code_3 funs made_11 great_12 up_13 down_14 size rows work_15 xx_76 power) H := by rw [exx_76]; exact hP
                have hD : va_D A (wM m0 m1 m2 m3 m4 m5 k1 k2 k3 k4 k5 code_3 funs made_11 great_12 up_13 down_14 size rows work_15 xx_76 power) := by rw [exx_76]; exact hD
                obtain ⟨x77, ex77⟩ : ∃ z : Int32, z = v4_34 + 1 := ⟨_, rfl⟩
                replace h := h x77 ex77
                refine lv_iinc (v := x77) (lv' := [(4, .int x77), (3, .int v3_10), (0, .ref m0), (1, .int p0), (2, .int p1)]) hx hb d_M_over_79 hl (k := 0) rfl (by rw [ex77]; rfl) (by decide) rfl (fun ls hl => ?_)
                refine lv_goto (tgt := 55) hx hb d_M_over_82 (by decide) ?_
                exact Ge55 _ _ _ (ihL55 x77 xx_76 _ _ _ hP hD hS (lv_sub hl [0, 1, 2, 3, 4] rfl) h)
    · replace h := h.2 hc6
      refine lv_iconst (v := (-1)) hx hb d_M_over_21 (by decide) ?_
      exact W.iret (v := (-1)) hx hb hr (fun t ht hW => ⟨⟨(-1), (code_3, funs, made, great, up, down, size, rows, work, xx), rfl, h, by rw [ht]; exact hP, va_K.moved hW.alike hK, hD⟩, hS.F ht⟩) hS.2.2 d_M_over_22
  · replace h := h.2 hc4
    refine lv_iconst (v := 0) hx hb d_M_over_9 (by decide) ?_
    exact W.iret (v := 0) hx hb hr (fun t ht hW => ⟨⟨0, (code_3, funs, made, great, up, down, size, rows, work, xx), rfl, h, by rw [ht]; exact hP, va_K.moved hW.alike hK, hD⟩, hS.F ht⟩) hS.2.2 d_M_over_10
