def wj_G_number_54 (made : Int32) (size_4 : Int32) (tooG_5 : Int32) (kept : (Nat → Int32)) (sizes : (Nat → Int32)) (rows : (Nat → Int32)) (post : Int32 → Int32 → Int32 → Int32 → (Nat → Int32) → (Nat → Int32) → (Nat → Int32) → (Nat → Int32) → Prop) (taken : (Nat → Int32)) (postx : String → Int32 → Int32 → Int32 → (Nat → Int32) → (Nat → Int32) → (Nat → Int32) → (Nat → Int32) → Prop) : Prop :=
  wp_G_keep made size_4 tooG_5 kept sizes rows (fun r8 made_9 kept_10 sizes_11 => post r8 made_9 size_4 tooG_5 kept_10 sizes_11 rows taken) (fun E made_9 kept_10 sizes_11 => postx E made_9 size_4 tooG_5 kept_10 sizes_11 rows taken)
def wp_G_number (made : Int32) (size : Int32) (tooG : Int32) (kept : (Nat → Int32)) (sizes : (Nat → Int32)) (rows : (Nat → Int32)) (taken : (Nat → Int32)) (p0 : Int32) (p1 : Int32) (post : Int32 → Int32 → Int32 → Int32 → (Nat → Int32) → (Nat → Int32) → (Nat → Int32) → (Nat → Int32) → Prop) (postx : String → Int32 → Int32 → Int32 → (Nat → Int32) → (Nat → Int32) → (Nat → Int32) → (Nat → Int32) → Prop) : Prop :=
  (¬ p1 = 0 → (wp_G_requireRoom made (wp_W_begin size tooG (fun size_4 tooG_5 => (p0 = 0 → (wj_G_number_54 made size_4 tooG_5 kept sizes rows post taken postx)) ∧ (¬ p0 = 0 → (wp_W_takeOne taken (fun taken_13 => wp_W_multiply tooG_5 taken_13 (p0.toInt64) (p1.toInt64) (fun tooG_15 taken_16 => wp_W_putTaken size_4 tooG_15 rows taken_16 (fun size_18 tooG_19 rows_20 => wj_G_number_54 made size_18 tooG_19 kept sizes rows_20 post taken_16 postx))))))) (fun E => postx E made size tooG kept sizes rows taken))) ∧ (p1 = 0 → (postx "java/lang/ArithmeticException" made size tooG kept sizes rows taken))
def wj_G_letter_9 (postx : String → Int32 → Int32 → Int32 → (Nat → Int32) → (Nat → Int32) → (Nat → Int32) → (Nat → Int32) → Prop) (made : Int32) (size : Int32) (tooG : Int32) (kept : (Nat → Int32)) (sizes : (Nat → Int32)) (rows : (Nat → Int32)) (taken : (Nat → Int32)) : Prop :=
  postx "java/lang/IllegalArgumentException" made size tooG kept sizes rows taken
def wp_G_letter (made : Int32) (size : Int32) (tooG : Int32) (kept : (Nat → Int32)) (sizes : (Nat → Int32)) (rows : (Nat → Int32)) (taken : (Nat → Int32)) (p0 : Int32) (post : Int32 → Int32 → Int32 → Int32 → (Nat → Int32) → (Nat → Int32) → (Nat → Int32) → (Nat → Int32) → Prop) (postx : String → Int32 → Int32 → Int32 → (Nat → Int32) → (Nat → Int32) → (Nat → Int32) → (Nat → Int32) → Prop) : Prop :=
  (p0 < 0 → (wj_G_letter_9 postx made size tooG kept sizes rows taken)) ∧ (¬ p0 < 0 → ((p0 ≤ 4 → (wp_G_requireRoom made (wp_W_begin size tooG (fun size_5 tooG_6 => wp_G_putMultiple size_5 tooG_6 rows taken 1 p0 1 (fun size_8 tooG_9 rows_10 taken_11 => wp_G_keep made size_8 tooG_9 kept sizes rows_10 (fun r13 made_14 kept_15 sizes_16 => post r13 made_14 size_8 tooG_9 kept_15 sizes_16 rows_10 taken_11) (fun E made_14 kept_15 sizes_16 => postx E made_14 size_8 tooG_9 kept_15 sizes_16 rows_10 taken_11)))) (fun E => postx E made size tooG kept sizes rows taken))) ∧ (¬ p0 ≤ 4 → (wj_G_letter_9 postx made size tooG kept sizes rows taken))))
def wp_G_add (made : Int32) (size : Int32) (tooG : Int32) (kept : (Nat → Int32)) (sizes : (Nat → Int32)) (rows : (Nat → Int32)) (taken : (Nat → Int32)) (p0 : Int32) (p1 : Int32) (post : Int32 → Int32 → Int32 → Int32 → (Nat → Int32) → (Nat → Int32) → (Nat → Int32) → (Nat → Int32) → Prop) (postx : String → Int32 → Int32 → Int32 → (Nat → Int32) → (Nat → Int32) → (Nat → Int32) → (Nat → Int32) → Prop) : Prop :=
  wp_G_requireFunction made p0 (wp_G_requireFunction made p1 (wp_G_requireRoom made (wp_W_begin size tooG (fun size_5 tooG_6 => wp_G_putAll size_5 tooG_6 kept sizes rows taken p0 (fun size_8 tooG_9 rows_10 taken_11 => wp_G_putAll size_8 tooG_9 kept sizes rows_10 taken_11 p1 (fun size_13 tooG_14 rows_15 taken_16 => wp_G_keep made size_13 tooG_14 kept sizes rows_15 (fun r18 made_19 kept_20 sizes_21 => post r18 made_19 size_13 tooG_14 kept_20 sizes_21 rows_15 taken_16) (fun E made_19 kept_20 sizes_21 => postx E made_19 size_13 tooG_14 kept_20 sizes_21 rows_15 taken_16))))) (fun E => postx E made size tooG kept sizes rows taken)) (fun E => postx E made size tooG kept sizes rows taken)) (fun E => postx E made size tooG kept sizes rows taken)
def wb_G_times_36 (p1 : Int32) (sizes : (Nat → Int32)) (v3_7 : Int32) (ih_23 : Int32 → Int32 → Int32 → (Nat → Int32) → (Nat → Int32) → Prop) (p0 : Int32) (kept : (Nat → Int32)) : (Int32 → Int32 → Int32 → (Nat → Int32) → (Nat → Int32) → Prop) → Int32 → Int32 → Int32 → (Nat → Int32) → (Nat → Int32) → Prop :=
  fun ih_36 v4_19 size_20 tooG_21 rows_22 taken_23 =>
  vp_in p1 80 ∧ (((sizes p1.toNatClampNeg) ≤ v4_19 → (∀ x26 : Int32, x26 = v3_7 + 1 → (ih_23 x26 size_20 tooG_21 rows_22 taken_23))) ∧ (¬ (sizes p1.toNatClampNeg) ≤ v4_19 → (wp_G_rowOf p0 v3_7 (fun r28 => wp_W_take kept taken_23 r28 (fun taken_30 => wp_G_rowOf p1 v4_19 (fun r32 => wp_W_multiplyByTerm tooG_21 kept taken_30 r32 (fun tooG_34 taken_35 => wp_W_putTaken size_20 tooG_34 rows_22 taken_35 (fun size_37 tooG_38 rows_39 => ∀ x40 : Int32, x40 = v4_19 + 1 → (ih_36 x40 size_37 tooG_38 rows_39 taken_35)))))))))
def wb_G_times_23 (p0 : Int32) (sizes : (Nat → Int32)) (made : Int32) (kept : (Nat → Int32)) (post : Int32 → Int32 → Int32 → Int32 → (Nat → Int32) → (Nat → Int32) → (Nat → Int32) → (Nat → Int32) → Prop) (postx : String → Int32 → Int32 → Int32 → (Nat → Int32) → (Nat → Int32) → (Nat → Int32) → (Nat → Int32) → Prop) (p1 : Int32) : (Int32 → Int32 → Int32 → (Nat → Int32) → (Nat → Int32) → Prop) → Int32 → Int32 → Int32 → (Nat → Int32) → (Nat → Int32) → Prop :=
  fun ih_23 v3_7 size_8 tooG_9 rows_10 taken_11 =>
  vp_in p0 80 ∧ (((sizes p0.toNatClampNeg) ≤ v3_7 → (wp_G_keep made size_8 tooG_9 kept sizes rows_10 (fun r15 made_16 kept_17 sizes_18 => post r15 made_16 size_8 tooG_9 kept_17 sizes_18 rows_10 taken_11) (fun E made_16 kept_17 sizes_18 => postx E made_16 size_8 tooG_9 kept_17 sizes_18 rows_10 taken_11))) ∧ (¬ (sizes p0.toNatClampNeg) ≤ v3_7 → (∃ n : Nat, lpW5 (wb_G_times_36 p1 sizes v3_7 ih_23 p0 kept) n (0 : Int32) size_8 tooG_9 rows_10 taken_11)))
def wp_G_times (made : Int32) (size : Int32) (tooG : Int32) (kept : (Nat → Int32)) (sizes : (Nat → Int32)) (rows : (Nat → Int32)) (taken : (Nat → Int32)) (p0 : Int32) (p1 : Int32) (post : Int32 → Int32 → Int32 → Int32 → (Nat → Int32) → (Nat → Int32) → (Nat → Int32) → (Nat → Int32) → Prop) (postx : String → Int32 → Int32 → Int32 → (Nat → Int32) → (Nat → Int32) → (Nat → Int32) → (Nat → Int32) → Prop) : Prop :=
  wp_G_requireFunction made p0 (wp_G_requireFunction made p1 (wp_G_requireRoom made (wp_W_begin size tooG (fun size_5 tooG_6 => ∃ n : Nat, lpW5 (wb_G_times_23 p0 sizes made kept post postx p1) n (0 : Int32) size_5 tooG_6 rows taken)) (fun E => postx E made size tooG kept sizes rows taken)) (fun E => postx E made size tooG kept sizes rows taken)) (fun E => postx E made size tooG kept sizes rows taken)
def wb_G_over_35 (p0 : Int32) (sizes : (Nat → Int32)) (made : Int32) (kept : (Nat → Int32)) (post : Int32 → Int32 → Int32 → Int32 → (Nat → Int32) → (Nat → Int32) → (Nat → Int32) → (Nat → Int32) → Prop) (postx : String → Int32 → Int32 → Int32 → (Nat → Int32) → (Nat → Int32) → (Nat → Int32) → (Nat → Int32) → Prop) (p1 : Int32) : (Int32 → Int32 → Int32 → (Nat → Int32) → (Nat → Int32) → Prop) → Int32 → Int32 → Int32 → (Nat → Int32) → (Nat → Int32) → Prop :=
  fun ih_35 v3_9 size_10 tooG_11 rows_12 taken_13 =>
  vp_in p0 80 ∧ (((sizes p0.toNatClampNeg) ≤ v3_9 → (wp_G_keep made size_10 tooG_11 kept sizes rows_12 (fun r17 made_18 kept_19 sizes_20 => post r17 made_18 size_10 tooG_11 kept_19 sizes_20 rows_12 taken_13) (fun E made_18 kept_19 sizes_20 => postx E made_18 size_10 tooG_11 kept_19 sizes_20 rows_12 taken_13))) ∧ (¬ (sizes p0.toNatClampNeg) ≤ v3_9 → (wp_G_rowOf p0 v3_9 (fun r22 => wp_W_take kept taken_13 r22 (fun taken_24 => wp_G_rowOf p1 0 (fun r26 => wp_W_divideByTerm tooG_11 kept taken_24 r26 (fun tooG_28 taken_29 => wp_W_putTaken size_10 tooG_28 rows_12 taken_29 (fun size_31 tooG_32 rows_33 => ∀ x34 : Int32, x34 = v3_9 + 1 → (ih_35 x34 size_31 tooG_32 rows_33 taken_29)))))))))
def wp_G_over (made : Int32) (size : Int32) (tooG : Int32) (kept : (Nat → Int32)) (sizes : (Nat → Int32)) (rows : (Nat → Int32)) (taken : (Nat → Int32)) (p0 : Int32) (p1 : Int32) (post : Int32 → Int32 → Int32 → Int32 → (Nat → Int32) → (Nat → Int32) → (Nat → Int32) → (Nat → Int32) → Prop) (postx : String → Int32 → Int32 → Int32 → (Nat → Int32) → (Nat → Int32) → (Nat → Int32) → (Nat → Int32) → Prop) : Prop :=
  wp_G_requireFunction made p0 (wp_G_requireFunction made p1 (wp_G_requireRoom made (vp_in p1 80 ∧ (((sizes p1.toNatClampNeg) = 1 → (wp_W_begin size tooG (fun size_7 tooG_8 => ∃ n : Nat, lpW5 (wb_G_over_35 p0 sizes made kept post postx p1) n (0 : Int32) size_7 tooG_8 rows taken))) ∧ (¬ (sizes p1.toNatClampNeg) = 1 → (post (-1) made size tooG kept sizes rows taken)))) (fun E => postx E made size tooG kept sizes rows taken)) (fun E => postx E made size tooG kept sizes rows taken)) (fun E => postx E made size tooG kept sizes rows taken)
def wb_G_derive_18 (p0 : Int32) (sizes : (Nat → Int32)) (made : Int32) (kept : (Nat → Int32)) (post : Int32 → Int32 → Int32 → Int32 → (Nat → Int32) → (Nat → Int32) → (Nat → Int32) → (Nat → Int32) → Prop) (postx : String → Int32 → Int32 → Int32 → (Nat → Int32) → (Nat → Int32) → (Nat → Int32) → (Nat → Int32) → Prop) : (Int32 → Int32 → Int32 → (Nat → Int32) → (Nat → Int32) → Prop) → Int32 → Int32 → Int32 → (Nat → Int32) → (Nat → Int32) → Prop :=
  fun ih_18 v2_6 size_7 tooG_8 rows_9 taken_10 =>
  vp_in p0 80 ∧ (((sizes p0.toNatClampNeg) ≤ v2_6 → (wp_G_keep made size_7 tooG_8 kept sizes rows_9 (fun r14 made_15 kept_16 sizes_17 => post r14 made_15 size_7 tooG_8 kept_16 sizes_17 rows_9 taken_10) (fun E made_15 kept_16 sizes_17 => postx E made_15 size_7 tooG_8 kept_16 sizes_17 rows_9 taken_10))) ∧ (¬ (sizes p0.toNatClampNeg) ≤ v2_6 → (wp_G_rowOf p0 v2_6 (fun r19 => vp_in (r19 + 0) 5600 ∧ (wp_G_putSlopePart size_7 tooG_8 kept rows_9 taken_10 r19 (2 * (kept (r19 + 0).toNatClampNeg)) 1 0 0 (fun size_22 tooG_23 rows_24 taken_25 => vp_in (r19 + 1) 5600 ∧ (wp_G_putSlopePart size_22 tooG_23 kept rows_24 taken_25 r19 (kept (r19 + 1).toNatClampNeg) 0 0 0 (fun size_28 tooG_29 rows_30 taken_31 => vp_in (r19 + 2) 5600 ∧ (wp_G_putSlopePart size_28 tooG_29 kept rows_30 taken_31 r19 (kept (r19 + 2).toNatClampNeg) (-1) 0 0 (fun size_34 tooG_35 rows_36 taken_37 => vp_in (r19 + 3) 5600 ∧ (wp_G_putSlopePart size_34 tooG_35 kept rows_36 taken_37 r19 (kept (r19 + 3).toNatClampNeg) (-1) (-1) 0 (fun size_40 tooG_41 rows_42 taken_43 => vp_in (r19 + 4) 5600 ∧ (wp_G_putSlopePart size_40 tooG_41 kept rows_42 taken_43 r19 (kept (r19 + 4).toNatClampNeg) (-1) (-1) (-1) (fun size_46 tooG_47 rows_48 taken_49 => ∀ x50 : Int32, x50 = v2_6 + 1 → (ih_18 x50 size_46 tooG_47 rows_48 taken_49)))))))))))))))
def wp_G_derive (made : Int32) (size : Int32) (tooG : Int32) (kept : (Nat → Int32)) (sizes : (Nat → Int32)) (rows : (Nat → Int32)) (taken : (Nat → Int32)) (p0 : Int32) (post : Int32 → Int32 → Int32 → Int32 → (Nat → Int32) → (Nat → Int32) → (Nat → Int32) → (Nat → Int32) → Prop) (postx : String → Int32 → Int32 → Int32 → (Nat → Int32) → (Nat → Int32) → (Nat → Int32) → (Nat → Int32) → Prop) : Prop :=
  wp_G_requireFunction made p0 (wp_G_requireRoom made (wp_W_begin size tooG (fun size_4 tooG_5 => ∃ n : Nat, lpW5 (wb_G_derive_18 p0 sizes made kept post postx) n (0 : Int32) size_4 tooG_5 rows taken)) (fun E => postx E made size tooG kept sizes rows taken)) (fun E => postx E made size tooG kept sizes rows taken)
def wp_G_logarithm (made : Int32) (size : Int32) (tooG : Int32) (kept : (Nat → Int32)) (sizes : (Nat → Int32)) (rows : (Nat → Int32)) (taken : (Nat → Int32)) (p0 : Int32) (post : Int32 → Int32 → Int32 → Int32 → (Nat → Int32) → (Nat → Int32) → (Nat → Int32) → (Nat → Int32) → Prop) (postx : String → Int32 → Int32 → Int32 → (Nat → Int32) → (Nat → Int32) → (Nat → Int32) → (Nat → Int32) → Prop) : Prop :=
  wp_G_requireFunction made p0 (wp_G_requireRoom made (wp_G_hasLogarithm kept sizes p0 (fun r4 => (¬ r4 = 0 → (wp_G_rowOf p0 0 (fun r7 => wp_W_begin size tooG (fun size_9 tooG_10 => vp_in (r7 + 0) 5600 ∧ (wp_G_putMultiple size_9 tooG_10 rows taken (kept (r7 + 0).toNatClampNeg) 2 2 (fun size_13 tooG_14 rows_15 taken_16 => vp_in (r7 + 1) 5600 ∧ (wp_G_putMultiple size_13 tooG_14 rows_15 taken_16 (kept (r7 + 1).toNatClampNeg) 2 1 (fun size_19 tooG_20 rows_21 taken_22 => vp_in (r7 + 2) 5600 ∧ (wp_G_putMultiple size_19 tooG_20 rows_21 taken_22 (kept (r7 + 2).toNatClampNeg) 3 1 (fun size_25 tooG_26 rows_27 taken_28 => vp_in (r7 + 3) 5600 ∧ (wp_G_putMultiple size_25 tooG_26 rows_27 taken_28 (kept (r7 + 3).toNatClampNeg) 4 1 (fun size_31 tooG_32 rows_33 taken_34 => wp_G_keep made size_31 tooG_32 kept sizes rows_33 (fun r36 made_37 kept_38 sizes_39 => post r36 made_37 size_31 tooG_32 kept_38 sizes_39 rows_33 taken_34) (fun E made_37 kept_38 sizes_39 => postx E made_37 size_31 tooG_32 kept_38 sizes_39 rows_33 taken_34))))))))))))) ∧ (r4 = 0 → (post (-1) made size tooG kept sizes rows taken)))) (fun E => postx E made size tooG kept sizes rows taken)) (fun E => postx E made size tooG kept sizes rows taken)
def wb_G_exponential_25 (p0 : Int32) (sizes : (Nat → Int32)) (size_4 : Int32) (rows : (Nat → Int32)) (made : Int32) (kept : (Nat → Int32)) (post : Int32 → Int32 → Int32 → Int32 → (Nat → Int32) → (Nat → Int32) → (Nat → Int32) → (Nat → Int32) → Prop) (postx : String → Int32 → Int32 → Int32 → (Nat → Int32) → (Nat → Int32) → (Nat → Int32) → (Nat → Int32) → Prop) : (Int32 → Int32 → (Nat → Int32) → Prop) → Int32 → Int32 → (Nat → Int32) → Prop :=
  fun ih_25 v2_8 tooG_9 taken_10 =>
  vp_in p0 80 ∧ (((sizes p0.toNatClampNeg) ≤ v2_8 → (wp_W_putTaken size_4 tooG_9 rows taken_10 (fun size_14 tooG_15 rows_16 => wp_G_keep made size_14 tooG_15 kept sizes rows_16 (fun r18 made_19 kept_20 sizes_21 => post r18 made_19 size_14 tooG_15 kept_20 sizes_21 rows_16 taken_10) (fun E made_19 kept_20 sizes_21 => postx E made_19 size_14 tooG_15 kept_20 sizes_21 rows_16 taken_10)))) ∧ (¬ (sizes p0.toNatClampNeg) ≤ v2_8 → (wp_G_rowOf p0 v2_8 (fun r23 => wp_G_cellOfExponential kept r23 (fun r25 => (0 ≤ r25 → (vp_in (r23 + 5) 5600 ∧ (wp_W_raise tooG_9 taken_10 r25 (kept (r23 + 5).toNatClampNeg) (fun tooG_29 taken_30 => ∀ x31 : Int32, x31 = v2_8 + 1 → (ih_25 x31 tooG_29 taken_30))))) ∧ (¬ 0 ≤ r25 → (post (-1) made size_4 tooG_9 kept sizes rows taken_10)))))))
def wp_G_exponential (made : Int32) (size : Int32) (tooG : Int32) (kept : (Nat → Int32)) (sizes : (Nat → Int32)) (rows : (Nat → Int32)) (taken : (Nat → Int32)) (p0 : Int32) (post : Int32 → Int32 → Int32 → Int32 → (Nat → Int32) → (Nat → Int32) → (Nat → Int32) → (Nat → Int32) → Prop) (postx : String → Int32 → Int32 → Int32 → (Nat → Int32) → (Nat → Int32) → (Nat → Int32) → (Nat → Int32) → Prop) : Prop :=
  wp_G_requireFunction made p0 (wp_G_requireRoom made (wp_W_begin size tooG (fun size_4 tooG_5 => wp_W_takeOne taken (fun taken_7 => ∃ n : Nat, lpW3 (wb_G_exponential_25 p0 sizes size_4 rows made kept post postx) n (0 : Int32) tooG_5 taken_7))) (fun E => postx E made size tooG kept sizes rows taken)) (fun E => postx E made size tooG kept sizes rows taken)
def wp_G_terms (made : Int32) (sizes : (Nat → Int32)) (p0 : Int32) (post : Int32 → Prop) (postx : String → Prop) : Prop :=
  wp_G_requireFunction made p0 (vp_in p0 80 ∧ (post (sizes p0.toNatClampNeg))) (fun E => postx E)
def wp_G_term (made : Int32) (kept : (Nat → Int32)) (sizes : (Nat → Int32)) (p0 : Int32) (p1 : Int32) (p2 : Int32) (post : Int32 → Prop) (postx : String → Prop) : Prop :=
  wp_G_requireFunction made p0 ((p1 < 0 → (postx "java/lang/IllegalArgumentException")) ∧ (¬ p1 < 0 → (vp_in p0 80 ∧ ((p1 < (sizes p0.toNatClampNeg) → ((p2 < 0 → (postx "java/lang/IllegalArgumentException")) ∧ (¬ p2 < 0 → ((p2 < 7 → (wp_G_rowOf p0 p1 (fun r8 => vp_in (r8 + p2) 5600 ∧ (post (kept (r8 + p2).toNatClampNeg))))) ∧ (¬ p2 < 7 → (postx "java/lang/IllegalArgumentException")))))) ∧ (¬ p1 < (sizes p0.toNatClampNeg) → (postx "java/lang/IllegalArgumentException")))))) (fun E => postx E)
def wp_G_limit (made : Int32) (kept : (Nat → Int32)) (sizes : (Nat → Int32)) (p0 : Int32) (post : Int32 → Prop) (postx : String → Prop) : Prop :=
  wp_G_requireFunction made p0 (wp_G_endOf kept sizes p0 (fun r3 => post r3)) (fun E => postx E)
def wp_G_value (made : Int32) (kept : (Nat → Int32)) (sizes : (Nat → Int32)) (p0 : Int32) (p1 : Int32) (post : Int32 → Prop) (postx : String → Prop) : Prop :=
  wp_G_requireFunction made p0 (wp_G_endOf kept sizes p0 (fun r3 => (r3 = 0 → (wp_G_requirePart p1 (wp_G_rowOf p0 0 (fun r7 => vp_in p0 80 ∧ (((sizes p0.toNatClampNeg) ≤ 0 → ((¬ p1 = 0 → (post 1)) ∧ (p1 = 0 → (post 0)))) ∧ (¬ (sizes p0.toNatClampNeg) ≤ 0 → (wp_G_trendOf kept r7 (fun r12 => (¬ r12 = 0 → ((¬ p1 = 0 → (post 1)) ∧ (p1 = 0 → (post 0)))) ∧ (r12 = 0 → ((¬ p1 = 0 → (vp_in (r7 + 6) 5600 ∧ (post (kept (r7 + 6).toNatClampNeg)))) ∧ (p1 = 0 → (vp_in (r7 + 5) 5600 ∧ (post (kept (r7 + 5).toNatClampNeg)))))))))))) (fun E => postx E))) ∧ (¬ r3 = 0 → (postx "java/lang/IllegalStateException")))) (fun E => postx E)
def wp_G_compare (made : Int32) (kept : (Nat → Int32)) (sizes : (Nat → Int32)) (p0 : Int32) (p1 : Int32) (post : Int32 → Prop) (postx : String → Prop) : Prop :=
  wp_G_requireFunction made p0 (wp_G_requireFunction made p1 (wp_G_rankOf kept sizes p0 p1 (fun r4 => post r4)) (fun E => postx E)) (fun E => postx E)
def wp_G_ratio (made : Int32) (kept : (Nat → Int32)) (sizes : (Nat → Int32)) (p0 : Int32) (p1 : Int32) (p2 : Int32) (post : Int64 → Prop) (postx : String → Prop) : Prop :=
  wp_G_requireFunction made p0 (wp_G_requireFunction made p1 (vp_in p0 80 ∧ (((sizes p0.toNatClampNeg) = 0 → (postx "java/lang/IllegalStateException")) ∧ (¬ (sizes p0.toNatClampNeg) = 0 → (vp_in p1 80 ∧ (((sizes p1.toNatClampNeg) = 0 → (postx "java/lang/IllegalStateException")) ∧ (¬ (sizes p1.toNatClampNeg) = 0 → (wp_G_rankOf kept sizes p0 p1 (fun r8 => (r8 = 0 → (wp_G_requirePart p2 (wp_G_rowOf p0 0 (fun r12 => wp_G_rowOf p1 0 (fun r14 => vp_in (r12 + 5) 5600 ∧ (vp_in (r14 + 6) 5600 ∧ (∀ x17 : Int64, x17 = ((kept (r12 + 5).toNatClampNeg).toInt64) * ((kept (r14 + 6).toNatClampNeg).toInt64) → (vp_in (r12 + 6) 5600 ∧ (vp_in (r14 + 5) 5600 ∧ (∀ x20 : Int64, x20 = ((kept (r12 + 6).toNatClampNeg).toInt64) * ((kept (r14 + 5).toNatClampNeg).toInt64) → (wp_G_divisorOf x17 x20 (fun r22 => (¬ p2 = 0 → ((¬ r22 = 0) ∧ (post (x20 / r22)))) ∧ (p2 = 0 → ((¬ r22 = 0) ∧ (post (x17 / r22)))))))))))))) (fun E => postx E))) ∧ (¬ r8 = 0 → (postx "java/lang/IllegalStateException")))))))))) (fun E => postx E)) (fun E => postx E)
def wp_G_sign (made : Int32) (kept : (Nat → Int32)) (sizes : (Nat → Int32)) (p0 : Int32) (post : Int32 → Prop) (postx : String → Prop) : Prop :=
  wp_G_requireFunction made p0 (vp_in p0 80 ∧ ((¬ (sizes p0.toNatClampNeg) = 0 → (wp_G_rowOf p0 0 (fun r5 => wp_G_signOf kept r5 (fun r7 => post r7)))) ∧ ((sizes p0.toNatClampNeg) = 0 → (post 0)))) (fun E => postx E)
def wb_G_same_43 (p0 : Int32) (sizes : (Nat → Int32)) (post : Int32 → Prop) (r7 : Int32) (r9 : Int32) (kept : (Nat → Int32)) : (Int32 → Prop) → Int32 → Prop :=
  fun ih_43 v5_10 =>
  vp_in p0 80 ∧ ((((sizes p0.toNatClampNeg) * 7) ≤ v5_10 → (post 1)) ∧ (¬ ((sizes p0.toNatClampNeg) * 7) ≤ v5_10 → (vp_in (r7 + v5_10) 5600 ∧ (vp_in (r9 + v5_10) 5600 ∧ (((kept (r7 + v5_10).toNatClampNeg) = (kept (r9 + v5_10).toNatClampNeg) → (∀ x16 : Int32, x16 = v5_10 + 1 → (ih_43 x16))) ∧ (¬ (kept (r7 + v5_10).toNatClampNeg) = (kept (r9 + v5_10).toNatClampNeg) → (post 0)))))))
def wp_G_same (made : Int32) (kept : (Nat → Int32)) (sizes : (Nat → Int32)) (p0 : Int32) (p1 : Int32) (post : Int32 → Prop) (postx : String → Prop) : Prop :=
  wp_G_requireFunction made p0 (wp_G_requireFunction made p1 (vp_in p0 80 ∧ (vp_in p1 80 ∧ (((sizes p0.toNatClampNeg) = (sizes p1.toNatClampNeg) → (wp_G_rowOf p0 0 (fun r7 => wp_G_rowOf p1 0 (fun r9 => ∃ n : Nat, lpW1 (wb_G_same_43 p0 sizes post r7 r9 kept) n (0 : Int32))))) ∧ (¬ (sizes p0.toNatClampNeg) = (sizes p1.toNatClampNeg) → (post 0))))) (fun E => postx E)) (fun E => postx E)
def wb_G_fastest_4 (post : Int32 → Prop) (p0 : Int32) (made : Int32) (kept : (Nat → Int32)) (sizes : (Nat → Int32)) (postx : String → Prop) : (Int32 → Int32 → Prop) → Int32 → Int32 → Prop :=
  fun ih_4 v2_1 v3_2 =>
  (32 ≤ v3_2 → (post v2_1)) ∧ (¬ 32 ≤ v3_2 → ((¬ (((p0.toUInt32 >>> (v3_2.toUInt32 &&& Int32.toUInt32 31)).toInt32) &&& 1) = 1 → (∀ x5 : Int32, x5 = v3_2 + 1 → (ih_4 v2_1 x5))) ∧ ((((p0.toUInt32 >>> (v3_2.toUInt32 &&& Int32.toUInt32 31)).toInt32) &&& 1) = 1 → ((v3_2 < made → ((v2_1 < 0 → (∀ x8 : Int32, x8 = v3_2 + 1 → (ih_4 v3_2 x8))) ∧ (¬ v2_1 < 0 → (wp_G_rankOf kept sizes v3_2 v2_1 (fun r10 => (r10 ≤ 0 → (∀ x12 : Int32, x12 = v3_2 + 1 → (ih_4 v2_1 x12))) ∧ (¬ r10 ≤ 0 → (∀ x13 : Int32, x13 = v3_2 + 1 → (ih_4 v3_2 x13)))))))) ∧ (¬ v3_2 < made → (postx "java/lang/IllegalArgumentException"))))))
def wp_G_fastest (made : Int32) (kept : (Nat → Int32)) (sizes : (Nat → Int32)) (p0 : Int32) (post : Int32 → Prop) (postx : String → Prop) : Prop :=
  ∃ n : Nat, lpW2 (wb_G_fastest_4 post p0 made kept sizes postx) n ((-1) : Int32) (0 : Int32)
def wp_G_count (made : Int32) (post : Int32 → Prop) : Prop :=
  post made
set_option maxHeartbeats 4000000 in
set_option maxRecDepth 100000 in
theorem c_G_number (l : Launch) (D : va_G) (a0 a1 a2 a3 a4 a5 : Nat) (c1 c2 c4 c5 : ClassId) (sz : Nat) (made : Int32) (size : Int32) (tooG : Int32) (kept : (Nat → Int32)) (sizes : (Nat → Int32)) (rows : (Nat → Int32)) (taken : (Nat → Int32)) (p0 : Int32) (p1 : Int32) (post : Int32 → Int32 → Int32 → Int32 → (Nat → Int32) → (Nat → Int32) → (Nat → Int32) → (Nat → Int32) → Prop) (postx : String → Int32 → Int32 → Int32 → (Nat → Int32) → (Nat → Int32) → (Nat → Int32) → (Nat → Int32) → Prop) (hst : l.stackTraces = false) : vx_Met l y_G_number (Cond.code y_G_number b_G_number 3 (some .int) :: BIG) ({ frames := 7, cells := 2, slots := 12, locals := 128 }) (va_Pc [.ref a0, .int p0, .int p1] (pcX D vwCl (wG a0 a1 a2 a3 a4 a5 c1 c2 c4 c5 made size tooG kept sizes rows taken) [(c1, .int), (c2, .int), (c4, .int), (c5, .int)] sz (wp_G_number made size tooG kept sizes rows taken p0 p1 post postx))) (va_Qi (fun (r : Int32) (u : Int32 × Int32 × Int32 × (Nat → Int32) × (Nat → Int32) × (Nat → Int32) × (Nat → Int32)) => post r (u.1) (u.2.1) (u.2.2.1) (u.2.2.2.1) (u.2.2.2.2.1) (u.2.2.2.2.2.1) (u.2.2.2.2.2.2)) (fun u => atG D vwCl [(c1, .int), (c2, .int), (c4, .int), (c5, .int)] (va_A (wG a0 a1 a2 a3 a4 a5 c1 c2 c4 c5 made size tooG kept sizes rows taken) sz) (wG a0 a1 a2 a3 a4 a5 c1 c2 c4 c5 (u.1) (u.2.1) (u.2.2.1) (u.2.2.2.1) (u.2.2.2.2.1) (u.2.2.2.2.2.1) (u.2.2.2.2.2.2))) (va_A (wG a0 a1 a2 a3 a4 a5 c1 c2 c4 c5 made size tooG kept sizes rows taken) sz)) (vx_X (fun _ : Int32 × Int32 × Int32 × (Nat → Int32) × (Nat → Int32) × (Nat → Int32) × (Nat → Int32) => True) (fun E u => atX D vwCl [(c1, .int), (c2, .int), (c4, .int), (c5, .int)] (va_A (wG a0 a1 a2 a3 a4 a5 c1 c2 c4 c5 made size tooG kept sizes rows taken) sz) (wG a0 a1 a2 a3 a4 a5 c1 c2 c4 c5 (u.1) (u.2.1) (u.2.2.1) (u.2.2.2.1) (u.2.2.2.2.1) (u.2.2.2.2.2.1) (u.2.2.2.2.2.2)) (postx E (u.1) (u.2.1) (u.2.2.1) (u.2.2.2.1) (u.2.2.2.2.1) (u.2.2.2.2.2.1) (u.2.2.2.2.2.2))) (va_A (wG a0 a1 a2 a3 a4 a5 c1 c2 c4 c5 made size tooG kept sizes rows taken) sz)) 2 12 (va_A (wG a0 a1 a2 a3 a4 a5 c1 c2 c4 c5 made size tooG kept sizes rows taken) sz) := by
  refine vx_ofW (cc := b_G_number) (maxL := 3) (ret := (some .int)) (by decide) rfl ?_
  intro p e s m args below meth c s₁ B hml hno hv
  obtain ⟨rfl, hsz, hP, hK, hD0, hX, h⟩ := hv
  have hx := B.exec
  have hb := B.bytes
  have hr := B.returns
  have hB : ∀ w ∈ BIG, w.before _ s = true := fun w h => atoms_spec (ws := (Cond.code y_G_number b_G_number 3 (some .int) :: BIG)) B.pre w (List.mem_cons_of_mem _ h)
  have hown : s.vm.findClass R_G = some m.cls := findClass_of_methodNamed B.named
  have hlocks := B.notSynchronized
  subst hsz
  have hD := hD0.self (sz := s.heap.size)
  generalize hAe : va_A (wG a0 a1 a2 a3 a4 a5 c1 c2 c4 c5 made size tooG kept sizes rows taken) s.heap.size = A at hD hX ⊢
  have hA : ∀ q : Nat, s.heap.size ≤ q → A q := fun q h => by rw [← hAe]; exact Or.inr h
  have hl := lv_entry ([.ref a0, .int p0, .int p1]) (n := 3) (Nat.le_of_ble_eq_true rfl)
  rw [lg_entry_eq]
  generalize (lg_sl ([.ref a0, .int p0, .int p1]) ++ List.replicate (3 - (lg_sl ([.ref a0, .int p0, .int p1])).length) Slot.unset).toArray = ls at hl ⊢
  have hl : lv_has ls 3 [(0, .ref a0), (1, .int p0), (2, .int p1)] := hl
  refine W.cap (fun G Gi Ge => ?_)
  suffices hL : ∀ (H : Heap) (locs : List Loc), va_P D vwCl (wG a0 a1 a2 a3 a4 a5 c1 c2 c4 c5 made size tooG kept sizes rows taken) H → va_S A s.heap H locs → G H locs (F0 m 0 ls []) from hL _ _ hP va_S.rf
  clear hP
  intro H locs hP hS
  refine Gi _ _ _ ?_
  unfold wp_G_number at h
  refine lv_iload_n hx hb d_G_number_0 rfl (lv_at hl 2 rfl) ?_
  refine lv_if_ne (tgt := 14) hx hb d_G_number_1 (by decide) (fun hc1 => ?_) (fun hc1 => ?_)
  · replace h := h.1 hc1
    refine lv_aload_n hx hb d_G_number_14 rfl (lv_at hl 0 rfl) ?_
    have hF2 := va_free (wc := (wG a0 a1 a2 a3 a4 a5 c1 c2 c4 c5 made size tooG kept sizes rows taken)) hD hS hA [0, 1, 2, 3, 4, 5] rfl
    refine vx_callv (vx_runV (As := []) (rest := []) ⟨hx, hb, hml, hown, hB⟩ (c_G_requireRoom l D a0 a1 a2 a3 a4 a5 c1 c2 c4 c5 H.size made size tooG kept sizes rows taken _ _ hst) (cwV 0 hB (goodV wd_88 wd_89 wd_489 wd_1 wd_90) rfl rfl rfl (by decide +kernel) ⟨Nat.le_of_ble_eq_true rfl, Nat.le_of_ble_eq_true rfl⟩) ⟨pcX_blind, va_recv hK hP (ci := 1) (q0 := 0) rfl rfl, pcX_pre hP hK hD hS hX hF2 h⟩ rfl rfl hl.1 rfl (lv_room (Nat.le_of_ble_eq_true rfl)) d_G_number_15 ⟨Nat.le_of_ble_eq_true rfl, Nat.le_of_ble_eq_true rfl⟩) hS (fun q _ h => hF2 q h) hF2 (fun q _ h => hF2 q h) (fun E ce q9 u t H locs ht hvm _ hB hz1 hk1 hS hce hcv hcl => ?_) (fun u t H locs ht hvm h hB hz1 hk1 hS => ?_)
    · -- thrown
      obtain ⟨h1, hP1, hK1, hD1⟩ := hB
      replace h := h1
      rw [ht] at hP1
      have hP : va_P D vwCl (wG a0 a1 a2 a3 a4 a5 c1 c2 c4 c5 made size tooG kept sizes rows taken) H := hP1
      have hD : va_D A (wG a0 a1 a2 a3 a4 a5 c1 c2 c4 c5 made size tooG kept sizes rows taken) := hD1.weaken (fun _ _ _ hq => hF2 _ hq)
      exact vx_out (fun x hx => (hno x hx).elim) hlocks hce hcv hcl (fun t9 ht9 hW9 => ⟨(made, size, tooG, kept, sizes, rows, taken), trivial, ⟨h, by rw [ht9]; exact hP, va_K.moved hW9 hK, hD⟩, hS.F ht9⟩) hS.2.2 (by omega) (by omega)
    ·
      obtain ⟨hP1, hK1, hD1⟩ := hB
      rw [ht] at hP1
      have hP : va_P D vwCl (wG a0 a1 a2 a3 a4 a5 c1 c2 c4 c5 made size tooG kept sizes rows taken) H := hP1
      have hD : va_D A (wG a0 a1 a2 a3 a4 a5 c1 c2 c4 c5 made size tooG kept sizes rows taken) := hD1.weaken (fun _ _ _ hq => hF2 _ hq)
      refine W.widen (k := 1) (n := 6) (by omega) (by omega) ?_
      refine lv_aload_n hx hb d_G_number_18 rfl (lv_at hl 0 rfl) ?_
      refine va_get (D := D) (ci := 1) (v := .ref a3) (C := R_G) (T := F_G) (N := 4) hx hb hB inF_G hown hK hP 0 rfl rfl 2 (by decide) (hB _ wd_37) (fun _ h9 => h9) rfl d_G_number_19 ?_
      have hF3 := va_free (wc := (wG a0 a1 a2 a3 a4 a5 c1 c2 c4 c5 made size tooG kept sizes rows taken)) hD hS hA [0, 1, 2, 3, 4, 5] rfl
      refine va_callv (va_runV (As := []) (rest := []) ⟨hx, hb, hml, hown, hB⟩ (c_W_begin l D a0 a1 a2 a3 a4 a5 c1 c2 c4 c5 H.size made size tooG kept sizes rows taken _) (cwV 0 hB (goodV wd_98 wd_99 wd_100 wd_2 wd_101) rfl rfl rfl (by decide +kernel) ⟨Nat.le_of_ble_eq_true rfl, Nat.le_of_ble_eq_true rfl⟩) ⟨pcX_blind, va_recv hK hP (ci := 0) (q0 := 3) rfl rfl, pcX_pre hP hK hD hS hX hF3 h⟩ rfl rfl hl.1 rfl (lv_room (Nat.le_of_ble_eq_true rfl)) d_G_number_22 ⟨Nat.le_of_ble_eq_true rfl, Nat.le_of_ble_eq_true rfl⟩) hS (fun q _ h => hF3 q h) hF3 (fun u t H locs ht hvm h hB hz1 hk1 hS => ?_)
      obtain ⟨size_4, tooG_5⟩ := u
      obtain ⟨hP1, hK1, hD1⟩ := hB
      rw [ht] at hP1
      have hP : va_P D vwCl (wG a0 a1 a2 a3 a4 a5 c1 c2 c4 c5 made size_4 tooG_5 kept sizes rows taken) H := hP1
      have hD : va_D A (wG a0 a1 a2 a3 a4 a5 c1 c2 c4 c5 made size_4 tooG_5 kept sizes rows taken) := hD1.weaken (fun _ _ _ hq => hF3 _ hq)
      refine lv_iload_n hx hb d_G_number_25 rfl (lv_at hl 1 rfl) ?_
      refine lv_if_eq (tgt := 54) hx hb d_G_number_26 (by decide) (fun hc6 => ?_) (fun hc6 => ?_)
      · replace h := h.1 hc6
        refine lv_aload_n hx hb d_G_number_54 rfl (lv_at hl 0 rfl) ?_
        have hF7 := va_free (wc := (wG a0 a1 a2 a3 a4 a5 c1 c2 c4 c5 made size_4 tooG_5 kept sizes rows taken)) hD hS hA [0, 1, 2, 3, 4, 5] rfl
        refine vx_calli (vx_runV (As := []) (rest := []) ⟨hx, hb, hml, hown, hB⟩ (c_G_keep l D a0 a1 a2 a3 a4 a5 c1 c2 c4 c5 H.size made size_4 tooG_5 kept sizes rows taken _ _ hst) (cwV 0 hB (goodV wd_141 wd_142 wd_495 wd_1 wd_143) rfl rfl rfl (by decide +kernel) ⟨Nat.le_of_ble_eq_true rfl, Nat.le_of_ble_eq_true rfl⟩) ⟨pcX_blind, va_recv hK hP (ci := 1) (q0 := 0) rfl rfl, pcX_pre hP hK hD hS hX hF7 h⟩ rfl rfl hl.1 rfl (lv_room (Nat.le_of_ble_eq_true rfl)) d_G_number_55 ⟨Nat.le_of_ble_eq_true rfl, Nat.le_of_ble_eq_true rfl⟩) hS (fun q _ h => hF7 q h) hF7 (fun q _ h => hF7 q h) (fun E ce q9 u t H locs ht hvm _ hB hz1 hk1 hS hce hcv hcl => ?_) (fun r8 u t H locs ht hvm h hB hz1 hk1 hS => ?_)
        · -- thrown
          obtain ⟨made_9, kept_10, sizes_11⟩ := u
          obtain ⟨h1, hP1, hK1, hD1⟩ := hB
          replace h := h1
          rw [ht] at hP1
          have hP : va_P D vwCl (wG a0 a1 a2 a3 a4 a5 c1 c2 c4 c5 made_9 size_4 tooG_5 kept_10 sizes_11 rows taken) H := hP1
          have hD : va_D A (wG a0 a1 a2 a3 a4 a5 c1 c2 c4 c5 made_9 size_4 tooG_5 kept_10 sizes_11 rows taken) := hD1.weaken (fun _ _ _ hq => hF7 _ hq)
          exact vx_out (fun x hx => (hno x hx).elim) hlocks hce hcv hcl (fun t9 ht9 hW9 => ⟨(made_9, size_4, tooG_5, kept_10, sizes_11, rows, taken), trivial, ⟨h, by rw [ht9]; exact hP, va_K.moved hW9 hK, hD⟩, hS.F ht9⟩) hS.2.2 (by omega) (by omega)
        ·
          obtain ⟨made_9, kept_10, sizes_11⟩ := u
          obtain ⟨hP1, hK1, hD1⟩ := hB
          rw [ht] at hP1
          have hP : va_P D vwCl (wG a0 a1 a2 a3 a4 a5 c1 c2 c4 c5 made_9 size_4 tooG_5 kept_10 sizes_11 rows taken) H := hP1
          have hD : va_D A (wG a0 a1 a2 a3 a4 a5 c1 c2 c4 c5 made_9 size_4 tooG_5 kept_10 sizes_11 rows taken) := hD1.weaken (fun _ _ _ hq => hF7 _ hq)
          refine W.widen (k := 2) (n := 12) (by omega) (by omega) ?_
          exact vx_ret (W.iret (v := r8) hx hb hr (fun t ht hW => ⟨⟨r8, (made_9, size_4, tooG_5, kept_10, sizes_11, rows, taken), rfl, h, by rw [ht]; exact hP, va_K.moved hW.alike hK, hD⟩, hS.F ht⟩) hS.2.2 d_G_number_58)
      · replace h := h.2 hc6
        refine lv_aload_n hx hb d_G_number_29 rfl (lv_at hl 0 rfl) ?_
        refine va_get (D := D) (ci := 1) (v := .ref a3) (C := R_G) (T := F_G) (N := 4) hx hb hB inF_G hown hK hP 0 rfl rfl 2 (by decide) (hB _ wd_37) (fun _ h9 => h9) rfl d_G_number_30 ?_
        have hF12 := va_free (wc := (wG a0 a1 a2 a3 a4 a5 c1 c2 c4 c5 made size_4 tooG_5 kept sizes rows taken)) hD hS hA [0, 1, 2, 3, 4, 5] rfl
        refine va_callv (va_runV (As := []) (rest := []) ⟨hx, hb, hml, hown, hB⟩ (c_W_takeOne l D a0 a1 a2 a3 a4 a5 c1 c2 c4 c5 H.size made size_4 tooG_5 kept sizes rows taken _) (cwV 0 hB (goodV wd_102 wd_103 wd_104 wd_2 wd_105) rfl rfl rfl (by decide +kernel) ⟨Nat.le_of_ble_eq_true rfl, Nat.le_of_ble_eq_true rfl⟩) ⟨pcX_blind, va_recv hK hP (ci := 0) (q0 := 3) rfl rfl, pcX_pre hP hK hD hS hX hF12 h⟩ rfl rfl hl.1 rfl (lv_room (Nat.le_of_ble_eq_true rfl)) d_G_number_33 ⟨Nat.le_of_ble_eq_true rfl, Nat.le_of_ble_eq_true rfl⟩) hS (fun q _ h => hF12 q h) hF12 (fun taken_13 t H locs ht hvm h hB hz1 hk1 hS => ?_)
        obtain ⟨hP1, hK1, hD1⟩ := hB
        rw [ht] at hP1
        have hP : va_P D vwCl (wG a0 a1 a2 a3 a4 a5 c1 c2 c4 c5 made size_4 tooG_5 kept sizes rows taken_13) H := hP1
        have hD : va_D A (wG a0 a1 a2 a3 a4 a5 c1 c2 c4 c5 made size_4 tooG_5 kept sizes rows taken_13) := hD1.weaken (fun _ _ _ hq => hF12 _ hq)
        refine lv_aload_n hx hb d_G_number_36 rfl (lv_at hl 0 rfl) ?_
        refine va_get (D := D) (ci := 1) (v := .ref a3) (C := R_G) (T := F_G) (N := 4) hx hb hB inF_G hown hK hP 0 rfl rfl 2 (by decide) (hB _ wd_37) (fun _ h9 => h9) rfl d_G_number_37 ?_
        refine lv_iload_n hx hb d_G_number_40 rfl (lv_at hl 1 rfl) ?_
        refine lv_i2l hx hb d_G_number_41 rfl ?_
        refine lv_iload_n hx hb d_G_number_42 rfl (lv_at hl 2 rfl) ?_
        refine lv_i2l hx hb d_G_number_43 rfl ?_
        have hF14 := va_free (wc := (wG a0 a1 a2 a3 a4 a5 c1 c2 c4 c5 made size_4 tooG_5 kept sizes rows taken_13)) hD hS hA [0, 1, 2, 3, 4, 5] rfl
        refine va_callv (va_runV (As := [.long (p0.toInt64), .long (p1.toInt64)]) (rest := []) ⟨hx, hb, hml, hown, hB⟩ (c_W_multiply l D a0 a1 a2 a3 a4 a5 c1 c2 c4 c5 H.size made size_4 tooG_5 kept sizes rows taken_13 (p0.toInt64) (p1.toInt64) _) (cwV 2 hB (goodV wd_106 wd_107 wd_108 wd_2 wd_109) rfl rfl rfl (by decide +kernel) ⟨Nat.le_of_ble_eq_true rfl, Nat.le_of_ble_eq_true rfl⟩) ⟨pcX_blind, va_recv hK hP (ci := 0) (q0 := 3) rfl rfl, pcX_pre hP hK hD hS hX hF14 h⟩ rfl rfl hl.1 rfl (lv_room (Nat.le_of_ble_eq_true rfl)) d_G_number_44 ⟨Nat.le_of_ble_eq_true rfl, Nat.le_of_ble_eq_true rfl⟩) hS (fun q _ h => hF14 q h) hF14 (fun u t H locs ht hvm h hB hz1 hk1 hS => ?_)
        obtain ⟨tooG_15, taken_16⟩ := u
        obtain ⟨hP1, hK1, hD1⟩ := hB
        rw [ht] at hP1
        have hP : va_P D vwCl (wG a0 a1 a2 a3 a4 a5 c1 c2 c4 c5 made size_4 tooG_15 kept sizes rows taken_16) H := hP1
        have hD : va_D A (wG a0 a1 a2 a3 a4 a5 c1 c2 c4 c5 made size_4 tooG_15 kept sizes rows taken_16) := hD1.weaken (fun _ _ _ hq => hF14 _ hq)
        refine lv_aload_n hx hb d_G_number_47 rfl (lv_at hl 0 rfl) ?_
        refine va_get (D := D) (ci := 1) (v := .ref a3) (C := R_G) (T := F_G) (N := 4) hx hb hB inF_G hown hK hP 0 rfl rfl 2 (by decide) (hB _ wd_37) (fun _ h9 => h9) rfl d_G_number_48 ?_
        have hF17 := va_free (wc := (wG a0 a1 a2 a3 a4 a5 c1 c2 c4 c5 made size_4 tooG_15 kept sizes rows taken_16)) hD hS hA [0, 1, 2, 3, 4, 5] rfl
        refine va_callv (va_runV (As := []) (rest := []) ⟨hx, hb, hml, hown, hB⟩ (c_W_putTaken l D a0 a1 a2 a3 a4 a5 c1 c2 c4 c5 H.size made size_4 tooG_15 kept sizes rows taken_16 _) (cwV 0 hB (goodV wd_120 wd_121 wd_122 wd_2 wd_123) rfl rfl rfl (by decide +kernel) ⟨Nat.le_of_ble_eq_true rfl, Nat.le_of_ble_eq_true rfl⟩) ⟨pcX_blind, va_recv hK hP (ci := 0) (q0 := 3) rfl rfl, pcX_pre hP hK hD hS hX hF17 h⟩ rfl rfl hl.1 rfl (lv_room (Nat.le_of_ble_eq_true rfl)) d_G_number_51 ⟨Nat.le_of_ble_eq_true rfl, Nat.le_of_ble_eq_true rfl⟩) hS (fun q _ h => hF17 q h) hF17 (fun u t H locs ht hvm h hB hz1 hk1 hS => ?_)
        obtain ⟨size_18, tooG_19, rows_20⟩ := u
        obtain ⟨hP1, hK1, hD1⟩ := hB
        rw [ht] at hP1
        have hP : va_P D vwCl (wG a0 a1 a2 a3 a4 a5 c1 c2 c4 c5 made size_18 tooG_19 kept sizes rows_20 taken_16) H := hP1
        have hD : va_D A (wG a0 a1 a2 a3 a4 a5 c1 c2 c4 c5 made size_18 tooG_19 kept sizes rows_20 taken_16) := hD1.weaken (fun _ _ _ hq => hF17 _ hq)
        refine lv_aload_n hx hb d_G_number_54 rfl (lv_at hl 0 rfl) ?_
        have hF21 := va_free (wc := (wG a0 a1 a2 a3 a4 a5 c1 c2 c4 c5 made size_18 tooG_19 kept sizes rows_20 taken_16)) hD hS hA [0, 1, 2, 3, 4, 5] rfl
        refine vx_calli (vx_runV (As := []) (rest := []) ⟨hx, hb, hml, hown, hB⟩ (c_G_keep l D a0 a1 a2 a3 a4 a5 c1 c2 c4 c5 H.size made size_18 tooG_19 kept sizes rows_20 taken_16 _ _ hst) (cwV 0 hB (goodV wd_141 wd_142 wd_495 wd_1 wd_143) rfl rfl rfl (by decide +kernel) ⟨Nat.le_of_ble_eq_true rfl, Nat.le_of_ble_eq_true rfl⟩) ⟨pcX_blind, va_recv hK hP (ci := 1) (q0 := 0) rfl rfl, pcX_pre hP hK hD hS hX hF21 h⟩ rfl rfl hl.1 rfl (lv_room (Nat.le_of_ble_eq_true rfl)) d_G_number_55 ⟨Nat.le_of_ble_eq_true rfl, Nat.le_of_ble_eq_true rfl⟩) hS (fun q _ h => hF21 q h) hF21 (fun q _ h => hF21 q h) (fun E ce q9 u t H locs ht hvm _ hB hz1 hk1 hS hce hcv hcl => ?_) (fun r22 u t H locs ht hvm h hB hz1 hk1 hS => ?_)
        · -- thrown
          obtain ⟨made_23, kept_24, sizes_25⟩ := u
          obtain ⟨h1, hP1, hK1, hD1⟩ := hB
          replace h := h1
          rw [ht] at hP1
          have hP : va_P D vwCl (wG a0 a1 a2 a3 a4 a5 c1 c2 c4 c5 made_23 size_18 tooG_19 kept_24 sizes_25 rows_20 taken_16) H := hP1
          have hD : va_D A (wG a0 a1 a2 a3 a4 a5 c1 c2 c4 c5 made_23 size_18 tooG_19 kept_24 sizes_25 rows_20 taken_16) := hD1.weaken (fun _ _ _ hq => hF21 _ hq)
          exact vx_out (fun x hx => (hno x hx).elim) hlocks hce hcv hcl (fun t9 ht9 hW9 => ⟨(made_23, size_18, tooG_19, kept_24, sizes_25, rows_20, taken_16), trivial, ⟨h, by rw [ht9]; exact hP, va_K.moved hW9 hK, hD⟩, hS.F ht9⟩) hS.2.2 (by omega) (by omega)
        ·
          obtain ⟨made_23, kept_24, sizes_25⟩ := u
          obtain ⟨hP1, hK1, hD1⟩ := hB
          rw [ht] at hP1
          have hP : va_P D vwCl (wG a0 a1 a2 a3 a4 a5 c1 c2 c4 c5 made_23 size_18 tooG_19 kept_24 sizes_25 rows_20 taken_16) H := hP1
          have hD : va_D A (wG a0 a1 a2 a3 a4 a5 c1 c2 c4 c5 made_23 size_18 tooG_19 kept_24 sizes_25 rows_20 taken_16) := hD1.weaken (fun _ _ _ hq => hF21 _ hq)
          refine W.widen (k := 2) (n := 12) (by omega) (by omega) ?_
          exact vx_ret (W.iret (v := r22) hx hb hr (fun t ht hW => ⟨⟨r22, (made_23, size_18, tooG_19, kept_24, sizes_25, rows_20, taken_16), rfl, h, by rw [ht]; exact hP, va_K.moved hW.alike hK, hD⟩, hS.F ht⟩) hS.2.2 d_G_number_58)
  · replace h := h.2 hc1
    obtain ⟨sa, hstr⟩ := hX.2.2.2 (29, "the part below is 0") (by decide +kernel); exact vx_throwS (names := ["java/lang/RuntimeException", "java/lang/Exception"]) hx hb hst hown (by decide) (by decide) (hB _ wd_52) (hB _ wd_7) hstr (vx_hat (fun w hw => hB w (atE_0 w hw)) ngE_0 (nwG_use hX.1)) (otE_0 _) hX.2.1 hX.2.2.1 hS (hl.1.trans hml.symm) d_G_number_4 d_G_number_7 d_G_number_8 d_G_number_10 d_G_number_13 (fun x hx => (hno x hx).elim) (Nat.le_of_ble_eq_true rfl) (Nat.le_of_ble_eq_true rfl) (Nat.le_of_ble_eq_true rfl) (Nat.le_of_ble_eq_true rfl) hlocks (fun t hvm hz hk => ⟨(made, size, tooG, kept, sizes, rows, taken), trivial, ⟨h, va_P_grown hP hk, va_K.moved hvm hK, hD⟩, va_F_grown hS hz hk⟩) hS.2.2 (Nat.le_of_ble_eq_true rfl) (Nat.le_of_ble_eq_true rfl)
set_option maxHeartbeats 4000000 in
set_option maxRecDepth 100000 in
theorem c_G_letter (l : Launch) (D : va_G) (a0 a1 a2 a3 a4 a5 : Nat) (c1 c2 c4 c5 : ClassId) (sz : Nat) (made : Int32) (size : Int32) (tooG : Int32) (kept : (Nat → Int32)) (sizes : (Nat → Int32)) (rows : (Nat → Int32)) (taken : (Nat → Int32)) (p0 : Int32) (post : Int32 → Int32 → Int32 → Int32 → (Nat → Int32) → (Nat → Int32) → (Nat → Int32) → (Nat → Int32) → Prop) (postx : String → Int32 → Int32 → Int32 → (Nat → Int32) → (Nat → Int32) → (Nat → Int32) → (Nat → Int32) → Prop) (hst : l.stackTraces = false) : vx_Met l y_G_letter (Cond.code y_G_letter b_G_letter 2 (some .int) :: BIG) ({ frames := 7, cells := 2, slots := 12, locals := 151 }) (va_Pc [.ref a0, .int p0] (pcX D vwCl (wG a0 a1 a2 a3 a4 a5 c1 c2 c4 c5 made size tooG kept sizes rows taken) [(c1, .int), (c2, .int), (c4, .int), (c5, .int)] sz (wp_G_letter made size tooG kept sizes rows taken p0 post postx))) (va_Qi (fun (r : Int32) (u : Int32 × Int32 × Int32 × (Nat → Int32) × (Nat → Int32) × (Nat → Int32) × (Nat → Int32)) => post r (u.1) (u.2.1) (u.2.2.1) (u.2.2.2.1) (u.2.2.2.2.1) (u.2.2.2.2.2.1) (u.2.2.2.2.2.2)) (fun u => atG D vwCl [(c1, .int), (c2, .int), (c4, .int), (c5, .int)] (va_A (wG a0 a1 a2 a3 a4 a5 c1 c2 c4 c5 made size tooG kept sizes rows taken) sz) (wG a0 a1 a2 a3 a4 a5 c1 c2 c4 c5 (u.1) (u.2.1) (u.2.2.1) (u.2.2.2.1) (u.2.2.2.2.1) (u.2.2.2.2.2.1) (u.2.2.2.2.2.2))) (va_A (wG a0 a1 a2 a3 a4 a5 c1 c2 c4 c5 made size tooG kept sizes rows taken) sz)) (vx_X (fun _ : Int32 × Int32 × Int32 × (Nat → Int32) × (Nat → Int32) × (Nat → Int32) × (Nat → Int32) => True) (fun E u => atX D vwCl [(c1, .int), (c2, .int), (c4, .int), (c5, .int)] (va_A (wG a0 a1 a2 a3 a4 a5 c1 c2 c4 c5 made size tooG kept sizes rows taken) sz) (wG a0 a1 a2 a3 a4 a5 c1 c2 c4 c5 (u.1) (u.2.1) (u.2.2.1) (u.2.2.2.1) (u.2.2.2.2.1) (u.2.2.2.2.2.1) (u.2.2.2.2.2.2)) (postx E (u.1) (u.2.1) (u.2.2.1) (u.2.2.2.1) (u.2.2.2.2.1) (u.2.2.2.2.2.1) (u.2.2.2.2.2.2))) (va_A (wG a0 a1 a2 a3 a4 a5 c1 c2 c4 c5 made size tooG kept sizes rows taken) sz)) 2 12 (va_A (wG a0 a1 a2 a3 a4 a5 c1 c2 c4 c5 made size tooG kept sizes rows taken) sz) := by
  refine vx_ofW (cc := b_G_letter) (maxL := 2) (ret := (some .int)) (by decide) rfl ?_
  intro p e s m args below meth c s₁ B hml hno hv
  obtain ⟨rfl, hsz, hP, hK, hD0, hX, h⟩ := hv
  have hx := B.exec
  have hb := B.bytes
  have hr := B.returns
  have hB : ∀ w ∈ BIG, w.before _ s = true := fun w h => atoms_spec (ws := (Cond.code y_G_letter b_G_letter 2 (some .int) :: BIG)) B.pre w (List.mem_cons_of_mem _ h)
  have hown : s.vm.findClass R_G = some m.cls := findClass_of_methodNamed B.named
  have hlocks := B.notSynchronized
  subst hsz
  have hD := hD0.self (sz := s.heap.size)
  generalize hAe : va_A (wG a0 a1 a2 a3 a4 a5 c1 c2 c4 c5 made size tooG kept sizes rows taken) s.heap.size = A at hD hX ⊢
  have hA : ∀ q : Nat, s.heap.size ≤ q → A q := fun q h => by rw [← hAe]; exact Or.inr h
  have hl := lv_entry ([.ref a0, .int p0]) (n := 2) (Nat.le_of_ble_eq_true rfl)
  rw [lg_entry_eq]
  generalize (lg_sl ([.ref a0, .int p0]) ++ List.replicate (2 - (lg_sl ([.ref a0, .int p0])).length) Slot.unset).toArray = ls at hl ⊢
  have hl : lv_has ls 2 [(0, .ref a0), (1, .int p0)] := hl
  refine W.cap (fun G Gi Ge => ?_)
  suffices hL : ∀ (H : Heap) (locs : List Loc), va_P D vwCl (wG a0 a1 a2 a3 a4 a5 c1 c2 c4 c5 made size tooG kept sizes rows taken) H → va_S A s.heap H locs → G H locs (F0 m 0 ls []) from hL _ _ hP va_S.rf
  clear hP
  intro H locs hP hS
  refine Gi _ _ _ ?_
  unfold wp_G_letter at h
  refine lv_iload_n hx hb d_G_letter_0 rfl (lv_at hl 1 rfl) ?_
  refine lv_if_lt (tgt := 9) hx hb d_G_letter_1 (by decide) (fun hc1 => ?_) (fun hc1 => ?_)
  · replace h := h.1 hc1
    obtain ⟨sa, hstr⟩ := hX.2.2.2 (56, "no such kind of letter") (by decide +kernel); exact vx_throwS (names := ["java/lang/RuntimeException", "java/lang/Exception"]) hx hb hst hown (by decide) (by decide) (hB _ wd_156) (hB _ wd_11) hstr (vx_hat (fun w hw => hB w (atE_1 w hw)) ngE_1 (nwG_use hX.1)) (otE_1 _) hX.2.1 hX.2.2.1 hS (hl.1.trans hml.symm) d_G_letter_9 d_G_letter_12 d_G_letter_13 d_G_letter_15 d_G_letter_18 (fun x hx => (hno x hx).elim) (Nat.le_of_ble_eq_true rfl) (Nat.le_of_ble_eq_true rfl) (Nat.le_of_ble_eq_true rfl) (Nat.le_of_ble_eq_true rfl) hlocks (fun t hvm hz hk => ⟨(made, size, tooG, kept, sizes, rows, taken), trivial, ⟨h, va_P_grown hP hk, va_K.moved hvm hK, hD⟩, va_F_grown hS hz hk⟩) hS.2.2 (Nat.le_of_ble_eq_true rfl) (Nat.le_of_ble_eq_true rfl)
  · replace h := h.2 hc1
    refine lv_iload_n hx hb d_G_letter_4 rfl (lv_at hl 1 rfl) ?_
    refine lv_iconst (v := 4) hx hb d_G_letter_5 (by decide) ?_
    refine lv_icmp_le (tgt := 19) hx hb d_G_letter_6 (by decide) (fun hc2 => ?_) (fun hc2 => ?_)
    · replace h := h.1 hc2
      refine lv_aload_n hx hb d_G_letter_19 rfl (lv_at hl 0 rfl) ?_
      have hF3 := va_free (wc := (wG a0 a1 a2 a3 a4 a5 c1 c2 c4 c5 made size tooG kept sizes rows taken)) hD hS hA [0, 1, 2, 3, 4, 5] rfl
      refine vx_callv (vx_runV (As := []) (rest := []) ⟨hx, hb, hml, hown, hB⟩ (c_G_requireRoom l D a0 a1 a2 a3 a4 a5 c1 c2 c4 c5 H.size made size tooG kept sizes rows taken _ _ hst) (cwV 0 hB (goodV wd_88 wd_89 wd_489 wd_1 wd_90) rfl rfl rfl (by decide +kernel) ⟨Nat.le_of_ble_eq_true rfl, Nat.le_of_ble_eq_true rfl⟩) ⟨pcX_blind, va_recv hK hP (ci := 1) (q0 := 0) rfl rfl, pcX_pre hP hK hD hS hX hF3 h⟩ rfl rfl hl.1 rfl (lv_room (Nat.le_of_ble_eq_true rfl)) d_G_letter_20 ⟨Nat.le_of_ble_eq_true rfl, Nat.le_of_ble_eq_true rfl⟩) hS (fun q _ h => hF3 q h) hF3 (fun q _ h => hF3 q h) (fun E ce q9 u t H locs ht hvm _ hB hz1 hk1 hS hce hcv hcl => ?_) (fun u t H locs ht hvm h hB hz1 hk1 hS => ?_)
      · -- thrown
        obtain ⟨h1, hP1, hK1, hD1⟩ := hB
        replace h := h1
        rw [ht] at hP1
        have hP : va_P D vwCl (wG a0 a1 a2 a3 a4 a5 c1 c2 c4 c5 made size tooG kept sizes rows taken) H := hP1
        have hD : va_D A (wG a0 a1 a2 a3 a4 a5 c1 c2 c4 c5 made size tooG kept sizes rows taken) := hD1.weaken (fun _ _ _ hq => hF3 _ hq)
        exact vx_out (fun x hx => (hno x hx).elim) hlocks hce hcv hcl (fun t9 ht9 hW9 => ⟨(made, size, tooG, kept, sizes, rows, taken), trivial, ⟨h, by rw [ht9]; exact hP, va_K.moved hW9 hK, hD⟩, hS.F ht9⟩) hS.2.2 (by omega) (by omega)
      ·
        obtain ⟨hP1, hK1, hD1⟩ := hB
        rw [ht] at hP1
        have hP : va_P D vwCl (wG a0 a1 a2 a3 a4 a5 c1 c2 c4 c5 made size tooG kept sizes rows taken) H := hP1
        have hD : va_D A (wG a0 a1 a2 a3 a4 a5 c1 c2 c4 c5 made size tooG kept sizes rows taken) := hD1.weaken (fun _ _ _ hq => hF3 _ hq)
        refine W.widen (k := 1) (n := 6) (by omega) (by omega) ?_
        refine lv_aload_n hx hb d_G_letter_23 rfl (lv_at hl 0 rfl) ?_
        refine va_get (D := D) (ci := 1) (v := .ref a3) (C := R_G) (T := F_G) (N := 4) hx hb hB inF_G hown hK hP 0 rfl rfl 2 (by decide) (hB _ wd_37) (fun _ h9 => h9) rfl d_G_letter_24 ?_
        have hF4 := va_free (wc := (wG a0 a1 a2 a3 a4 a5 c1 c2 c4 c5 made size tooG kept sizes rows taken)) hD hS hA [0, 1, 2, 3, 4, 5] rfl
        refine va_callv (va_runV (As := []) (rest := []) ⟨hx, hb, hml, hown, hB⟩ (c_W_begin l D a0 a1 a2 a3 a4 a5 c1 c2 c4 c5 H.size made size tooG kept sizes rows taken _) (cwV 0 hB (goodV wd_98 wd_99 wd_100 wd_2 wd_101) rfl rfl rfl (by decide +kernel) ⟨Nat.le_of_ble_eq_true rfl, Nat.le_of_ble_eq_true rfl⟩) ⟨pcX_blind, va_recv hK hP (ci := 0) (q0 := 3) rfl rfl, pcX_pre hP hK hD hS hX hF4 h⟩ rfl rfl hl.1 rfl (lv_room (Nat.le_of_ble_eq_true rfl)) d_G_letter_27 ⟨Nat.le_of_ble_eq_true rfl, Nat.le_of_ble_eq_true rfl⟩) hS (fun q _ h => hF4 q h) hF4 (fun u t H locs ht hvm h hB hz1 hk1 hS => ?_)
        obtain ⟨size_5, tooG_6⟩ := u
        obtain ⟨hP1, hK1, hD1⟩ := hB
        rw [ht] at hP1
        have hP : va_P D vwCl (wG a0 a1 a2 a3 a4 a5 c1 c2 c4 c5 made size_5 tooG_6 kept sizes rows taken) H := hP1
        have hD : va_D A (wG a0 a1 a2 a3 a4 a5 c1 c2 c4 c5 made size_5 tooG_6 kept sizes rows taken) := hD1.weaken (fun _ _ _ hq => hF4 _ hq)
        refine lv_aload_n hx hb d_G_letter_30 rfl (lv_at hl 0 rfl) ?_
        refine lv_iconst (v := 1) hx hb d_G_letter_31 (by decide) ?_
        refine lv_iload_n hx hb d_G_letter_32 rfl (lv_at hl 1 rfl) ?_
        refine lv_iconst (v := 1) hx hb d_G_letter_33 (by decide) ?_
        have hF7 := va_free (wc := (wG a0 a1 a2 a3 a4 a5 c1 c2 c4 c5 made size_5 tooG_6 kept sizes rows taken)) hD hS hA [0, 1, 2, 3, 4, 5] rfl
        refine va_callv (va_runV (As := [.int 1, .int p0, .int 1]) (rest := []) ⟨hx, hb, hml, hown, hB⟩ (c_G_putMultiple l D a0 a1 a2 a3 a4 a5 c1 c2 c4 c5 H.size made size_5 tooG_6 kept sizes rows taken 1 p0 1 _) (cwV 3 hB (goodV wd_163 wd_164 wd_496 wd_1 wd_165) rfl rfl rfl (by decide +kernel) ⟨Nat.le_of_ble_eq_true rfl, Nat.le_of_ble_eq_true rfl⟩) ⟨pcX_blind, va_recv hK hP (ci := 1) (q0 := 0) rfl rfl, pcX_pre hP hK hD hS hX hF7 h⟩ rfl rfl hl.1 rfl (lv_room (Nat.le_of_ble_eq_true rfl)) d_G_letter_34 ⟨Nat.le_of_ble_eq_true rfl, Nat.le_of_ble_eq_true rfl⟩) hS (fun q _ h => hF7 q h) hF7 (fun u t H locs ht hvm h hB hz1 hk1 hS => ?_)
        obtain ⟨size_8, tooG_9, rows_10, taken_11⟩ := u
        obtain ⟨hP1, hK1, hD1⟩ := hB
        rw [ht] at hP1
        have hP : va_P D vwCl (wG a0 a1 a2 a3 a4 a5 c1 c2 c4 c5 made size_8 tooG_9 kept sizes rows_10 taken_11) H := hP1
        have hD : va_D A (wG a0 a1 a2 a3 a4 a5 c1 c2 c4 c5 made size_8 tooG_9 kept sizes rows_10 taken_11) := hD1.weaken (fun _ _ _ hq => hF7 _ hq)
        refine lv_aload_n hx hb d_G_letter_37 rfl (lv_at hl 0 rfl) ?_
        have hF12 := va_free (wc := (wG a0 a1 a2 a3 a4 a5 c1 c2 c4 c5 made size_8 tooG_9 kept sizes rows_10 taken_11)) hD hS hA [0, 1, 2, 3, 4, 5] rfl
        refine vx_calli (vx_runV (As := []) (rest := []) ⟨hx, hb, hml, hown, hB⟩ (c_G_keep l D a0 a1 a2 a3 a4 a5 c1 c2 c4 c5 H.size made size_8 tooG_9 kept sizes rows_10 taken_11 _ _ hst) (cwV 0 hB (goodV wd_141 wd_142 wd_495 wd_1 wd_143) rfl rfl rfl (by decide +kernel) ⟨Nat.le_of_ble_eq_true rfl, Nat.le_of_ble_eq_true rfl⟩) ⟨pcX_blind, va_recv hK hP (ci := 1) (q0 := 0) rfl rfl, pcX_pre hP hK hD hS hX hF12 h⟩ rfl rfl hl.1 rfl (lv_room (Nat.le_of_ble_eq_true rfl)) d_G_letter_38 ⟨Nat.le_of_ble_eq_true rfl, Nat.le_of_ble_eq_true rfl⟩) hS (fun q _ h => hF12 q h) hF12 (fun q _ h => hF12 q h) (fun E ce q9 u t H locs ht hvm _ hB hz1 hk1 hS hce hcv hcl => ?_) (fun r13 u t H locs ht hvm h hB hz1 hk1 hS => ?_)
        · -- thrown
          obtain ⟨made_14, kept_15, sizes_16⟩ := u
          obtain ⟨h1, hP1, hK1, hD1⟩ := hB
          replace h := h1
          rw [ht] at hP1
          have hP : va_P D vwCl (wG a0 a1 a2 a3 a4 a5 c1 c2 c4 c5 made_14 size_8 tooG_9 kept_15 sizes_16 rows_10 taken_11) H := hP1
          have hD : va_D A (wG a0 a1 a2 a3 a4 a5 c1 c2 c4 c5 made_14 size_8 tooG_9 kept_15 sizes_16 rows_10 taken_11) := hD1.weaken (fun _ _ _ hq => hF12 _ hq)
          exact vx_out (fun x hx => (hno x hx).elim) hlocks hce hcv hcl (fun t9 ht9 hW9 => ⟨(made_14, size_8, tooG_9, kept_15, sizes_16, rows_10, taken_11), trivial, ⟨h, by rw [ht9]; exact hP, va_K.moved hW9 hK, hD⟩, hS.F ht9⟩) hS.2.2 (by omega) (by omega)
        ·
          obtain ⟨made_14, kept_15, sizes_16⟩ := u
          obtain ⟨hP1, hK1, hD1⟩ := hB
          rw [ht] at hP1
          have hP : va_P D vwCl (wG a0 a1 a2 a3 a4 a5 c1 c2 c4 c5 made_14 size_8 tooG_9 kept_15 sizes_16 rows_10 taken_11) H := hP1
          have hD : va_D A (wG a0 a1 a2 a3 a4 a5 c1 c2 c4 c5 made_14 size_8 tooG_9 kept_15 sizes_16 rows_10 taken_11) := hD1.weaken (fun _ _ _ hq => hF12 _ hq)
          refine W.widen (k := 2) (n := 12) (by omega) (by omega) ?_
          exact vx_ret (W.iret (v := r13) hx hb hr (fun t ht hW => ⟨⟨r13, (made_14, size_8, tooG_9, kept_15, sizes_16, rows_10, taken_11), rfl, h, by rw [ht]; exact hP, va_K.moved hW.alike hK, hD⟩, hS.F ht⟩) hS.2.2 d_G_letter_41)
    · replace h := h.2 hc2
      obtain ⟨sa, hstr⟩ := hX.2.2.2 (56, "no such kind of letter") (by decide +kernel); exact vx_throwS (names := ["java/lang/RuntimeException", "java/lang/Exception"]) hx hb hst hown (by decide) (by decide) (hB _ wd_156) (hB _ wd_11) hstr (vx_hat (fun w hw => hB w (atE_1 w hw)) ngE_1 (nwG_use hX.1)) (otE_1 _) hX.2.1 hX.2.2.1 hS (hl.1.trans hml.symm) d_G_letter_9 d_G_letter_12 d_G_letter_13 d_G_letter_15 d_G_letter_18 (fun x hx => (hno x hx).elim) (Nat.le_of_ble_eq_true rfl) (Nat.le_of_ble_eq_true rfl) (Nat.le_of_ble_eq_true rfl) (Nat.le_of_ble_eq_true rfl) hlocks (fun t hvm hz hk => ⟨(made, size, tooG, kept, sizes, rows, taken), trivial, ⟨h, va_P_grown hP hk, va_K.moved hvm hK, hD⟩, va_F_grown hS hz hk⟩) hS.2.2 (Nat.le_of_ble_eq_true rfl) (Nat.le_of_ble_eq_true rfl)
set_option maxHeartbeats 4000000 in
set_option maxRecDepth 100000 in
theorem c_G_add (l : Launch) (D : va_G) (a0 a1 a2 a3 a4 a5 : Nat) (c1 c2 c4 c5 : ClassId) (sz : Nat) (made : Int32) (size : Int32) (tooG : Int32) (kept : (Nat → Int32)) (sizes : (Nat → Int32)) (rows : (Nat → Int32)) (taken : (Nat → Int32)) (p0 : Int32) (p1 : Int32) (post : Int32 → Int32 → Int32 → Int32 → (Nat → Int32) → (Nat → Int32) → (Nat → Int32) → (Nat → Int32) → Prop) (postx : String → Int32 → Int32 → Int32 → (Nat → Int32) → (Nat → Int32) → (Nat → Int32) → (Nat → Int32) → Prop) (hst : l.stackTraces = false) : vx_Met l y_G_add (Cond.code y_G_add b_G_add 3 (some .int) :: BIG) ({ frames := 7, cells := 4, slots := 24, locals := 150 }) (va_Pc [.ref a0, .int p0, .int p1] (pcX D vwCl (wG a0 a1 a2 a3 a4 a5 c1 c2 c4 c5 made size tooG kept sizes rows taken) [(c1, .int), (c2, .int), (c4, .int), (c5, .int)] sz (wp_G_add made size tooG kept sizes rows taken p0 p1 post postx))) (va_Qi (fun (r : Int32) (u : Int32 × Int32 × Int32 × (Nat → Int32) × (Nat → Int32) × (Nat → Int32) × (Nat → Int32)) => post r (u.1) (u.2.1) (u.2.2.1) (u.2.2.2.1) (u.2.2.2.2.1) (u.2.2.2.2.2.1) (u.2.2.2.2.2.2)) (fun u => atG D vwCl [(c1, .int), (c2, .int), (c4, .int), (c5, .int)] (va_A (wG a0 a1 a2 a3 a4 a5 c1 c2 c4 c5 made size tooG kept sizes rows taken) sz) (wG a0 a1 a2 a3 a4 a5 c1 c2 c4 c5 (u.1) (u.2.1) (u.2.2.1) (u.2.2.2.1) (u.2.2.2.2.1) (u.2.2.2.2.2.1) (u.2.2.2.2.2.2))) (va_A (wG a0 a1 a2 a3 a4 a5 c1 c2 c4 c5 made size tooG kept sizes rows taken) sz)) (vx_X (fun _ : Int32 × Int32 × Int32 × (Nat → Int32) × (Nat → Int32) × (Nat → Int32) × (Nat → Int32) => True) (fun E u => atX D vwCl [(c1, .int), (c2, .int), (c4, .int), (c5, .int)] (va_A (wG a0 a1 a2 a3 a4 a5 c1 c2 c4 c5 made size tooG kept sizes rows taken) sz) (wG a0 a1 a2 a3 a4 a5 c1 c2 c4 c5 (u.1) (u.2.1) (u.2.2.1) (u.2.2.2.1) (u.2.2.2.2.1) (u.2.2.2.2.2.1) (u.2.2.2.2.2.2)) (postx E (u.1) (u.2.1) (u.2.2.1) (u.2.2.2.1) (u.2.2.2.2.1) (u.2.2.2.2.2.1) (u.2.2.2.2.2.2))) (va_A (wG a0 a1 a2 a3 a4 a5 c1 c2 c4 c5 made size tooG kept sizes rows taken) sz)) 4 24 (va_A (wG a0 a1 a2 a3 a4 a5 c1 c2 c4 c5 made size tooG kept sizes rows taken) sz) := by
  refine vx_ofW (cc := b_G_add) (maxL := 3) (ret := (some .int)) (by decide) rfl ?_
  intro p e s m args below meth c s₁ B hml hno hv
  obtain ⟨rfl, hsz, hP, hK, hD0, hX, h⟩ := hv
  have hx := B.exec
  have hb := B.bytes
  have hr := B.returns
  have hB : ∀ w ∈ BIG, w.before _ s = true := fun w h => atoms_spec (ws := (Cond.code y_G_add b_G_add 3 (some .int) :: BIG)) B.pre w (List.mem_cons_of_mem _ h)
  have hown : s.vm.findClass R_G = some m.cls := findClass_of_methodNamed B.named
  have hlocks := B.notSynchronized
  subst hsz
  have hD := hD0.self (sz := s.heap.size)
  generalize hAe : va_A (wG a0 a1 a2 a3 a4 a5 c1 c2 c4 c5 made size tooG kept sizes rows taken) s.heap.size = A at hD hX ⊢
  have hA : ∀ q : Nat, s.heap.size ≤ q → A q := fun q h => by rw [← hAe]; exact Or.inr h
  have hl := lv_entry ([.ref a0, .int p0, .int p1]) (n := 3) (Nat.le_of_ble_eq_true rfl)
  rw [lg_entry_eq]
  generalize (lg_sl ([.ref a0, .int p0, .int p1]) ++ List.replicate (3 - (lg_sl ([.ref a0, .int p0, .int p1])).length) Slot.unset).toArray = ls at hl ⊢
  have hl : lv_has ls 3 [(0, .ref a0), (1, .int p0), (2, .int p1)] := hl
  refine W.cap (fun G Gi Ge => ?_)
  suffices hL : ∀ (H : Heap) (locs : List Loc), va_P D vwCl (wG a0 a1 a2 a3 a4 a5 c1 c2 c4 c5 made size tooG kept sizes rows taken) H → va_S A s.heap H locs → G H locs (F0 m 0 ls []) from hL _ _ hP va_S.rf
  clear hP
  intro H locs hP hS
  refine Gi _ _ _ ?_
  unfold wp_G_add at h
  refine lv_aload_n hx hb d_G_add_0 rfl (lv_at hl 0 rfl) ?_
  refine lv_iload_n hx hb d_G_add_1 rfl (lv_at hl 1 rfl) ?_
  have hF1 := va_free (wc := (wG a0 a1 a2 a3 a4 a5 c1 c2 c4 c5 made size tooG kept sizes rows taken)) hD hS hA [0, 1, 2, 3, 4, 5] rfl
  refine vx_callv (vx_runV (As := [.int p0]) (rest := []) ⟨hx, hb, hml, hown, hB⟩ (c_G_requireFunction l D a0 a1 a2 a3 a4 a5 c1 c2 c4 c5 H.size made size tooG kept sizes rows taken p0 _ _ hst) (cwV 1 hB (goodV wd_178 wd_179 wd_497 wd_1 wd_180) rfl rfl rfl (by decide +kernel) ⟨Nat.le_of_ble_eq_true rfl, Nat.le_of_ble_eq_true rfl⟩) ⟨pcX_blind, va_recv hK hP (ci := 1) (q0 := 0) rfl rfl, pcX_pre hP hK hD hS hX hF1 h⟩ rfl rfl hl.1 rfl (lv_room (Nat.le_of_ble_eq_true rfl)) d_G_add_2 ⟨Nat.le_of_ble_eq_true rfl, Nat.le_of_ble_eq_true rfl⟩) hS (fun q _ h => hF1 q h) hF1 (fun q _ h => hF1 q h) (fun E ce q9 u t H locs ht hvm _ hB hz1 hk1 hS hce hcv hcl => ?_) (fun u t H locs ht hvm h hB hz1 hk1 hS => ?_)
  · -- thrown
    obtain ⟨h1, hP1, hK1, hD1⟩ := hB
    replace h := h1
    rw [ht] at hP1
    have hP : va_P D vwCl (wG a0 a1 a2 a3 a4 a5 c1 c2 c4 c5 made size tooG kept sizes rows taken) H := hP1
    have hD : va_D A (wG a0 a1 a2 a3 a4 a5 c1 c2 c4 c5 made size tooG kept sizes rows taken) := hD1.weaken (fun _ _ _ hq => hF1 _ hq)
    exact vx_out (fun x hx => (hno x hx).elim) hlocks hce hcv hcl (fun t9 ht9 hW9 => ⟨(made, size, tooG, kept, sizes, rows, taken), trivial, ⟨h, by rw [ht9]; exact hP, va_K.moved hW9 hK, hD⟩, hS.F ht9⟩) hS.2.2 (by omega) (by omega)
  ·
    obtain ⟨hP1, hK1, hD1⟩ := hB
    rw [ht] at hP1
    have hP : va_P D vwCl (wG a0 a1 a2 a3 a4 a5 c1 c2 c4 c5 made size tooG kept sizes rows taken) H := hP1
    have hD : va_D A (wG a0 a1 a2 a3 a4 a5 c1 c2 c4 c5 made size tooG kept sizes rows taken) := hD1.weaken (fun _ _ _ hq => hF1 _ hq)
    refine W.widen (k := 1) (n := 6) (by omega) (by omega) ?_
    refine lv_aload_n hx hb d_G_add_5 rfl (lv_at hl 0 rfl) ?_
    refine lv_iload_n hx hb d_G_add_6 rfl (lv_at hl 2 rfl) ?_
    have hF2 := va_free (wc := (wG a0 a1 a2 a3 a4 a5 c1 c2 c4 c5 made size tooG kept sizes rows taken)) hD hS hA [0, 1, 2, 3, 4, 5] rfl
    refine vx_callv (vx_runV (As := [.int p1]) (rest := []) ⟨hx, hb, hml, hown, hB⟩ (c_G_requireFunction l D a0 a1 a2 a3 a4 a5 c1 c2 c4 c5 H.size made size tooG kept sizes rows taken p1 _ _ hst) (cwV 1 hB (goodV wd_178 wd_179 wd_497 wd_1 wd_180) rfl rfl rfl (by decide +kernel) ⟨Nat.le_of_ble_eq_true rfl, Nat.le_of_ble_eq_true rfl⟩) ⟨pcX_blind, va_recv hK hP (ci := 1) (q0 := 0) rfl rfl, pcX_pre hP hK hD hS hX hF2 h⟩ rfl rfl hl.1 rfl (lv_room (Nat.le_of_ble_eq_true rfl)) d_G_add_7 ⟨Nat.le_of_ble_eq_true rfl, Nat.le_of_ble_eq_true rfl⟩) hS (fun q _ h => hF2 q h) hF2 (fun q _ h => hF2 q h) (fun E ce q9 u t H locs ht hvm _ hB hz1 hk1 hS hce hcv hcl => ?_) (fun u t H locs ht hvm h hB hz1 hk1 hS => ?_)
    · -- thrown
      obtain ⟨h1, hP1, hK1, hD1⟩ := hB
      replace h := h1
      rw [ht] at hP1
      have hP : va_P D vwCl (wG a0 a1 a2 a3 a4 a5 c1 c2 c4 c5 made size tooG kept sizes rows taken) H := hP1
      have hD : va_D A (wG a0 a1 a2 a3 a4 a5 c1 c2 c4 c5 made size tooG kept sizes rows taken) := hD1.weaken (fun _ _ _ hq => hF2 _ hq)
      exact vx_out (fun x hx => (hno x hx).elim) hlocks hce hcv hcl (fun t9 ht9 hW9 => ⟨(made, size, tooG, kept, sizes, rows, taken), trivial, ⟨h, by rw [ht9]; exact hP, va_K.moved hW9 hK, hD⟩, hS.F ht9⟩) hS.2.2 (by omega) (by omega)
    ·
      obtain ⟨hP1, hK1, hD1⟩ := hB
      rw [ht] at hP1
      have hP : va_P D vwCl (wG a0 a1 a2 a3 a4 a5 c1 c2 c4 c5 made size tooG kept sizes rows taken) H := hP1
      have hD : va_D A (wG a0 a1 a2 a3 a4 a5 c1 c2 c4 c5 made size tooG kept sizes rows taken) := hD1.weaken (fun _ _ _ hq => hF2 _ hq)
      refine W.widen (k := 2) (n := 12) (by omega) (by omega) ?_
      refine lv_aload_n hx hb d_G_add_10 rfl (lv_at hl 0 rfl) ?_
      have hF3 := va_free (wc := (wG a0 a1 a2 a3 a4 a5 c1 c2 c4 c5 made size tooG kept sizes rows taken)) hD hS hA [0, 1, 2, 3, 4, 5] rfl
      refine vx_callv (vx_runV (As := []) (rest := []) ⟨hx, hb, hml, hown, hB⟩ (c_G_requireRoom l D a0 a1 a2 a3 a4 a5 c1 c2 c4 c5 H.size made size tooG kept sizes rows taken _ _ hst) (cwV 0 hB (goodV wd_88 wd_89 wd_489 wd_1 wd_90) rfl rfl rfl (by decide +kernel) ⟨Nat.le_of_ble_eq_true rfl, Nat.le_of_ble_eq_true rfl⟩) ⟨pcX_blind, va_recv hK hP (ci := 1) (q0 := 0) rfl rfl, pcX_pre hP hK hD hS hX hF3 h⟩ rfl rfl hl.1 rfl (lv_room (Nat.le_of_ble_eq_true rfl)) d_G_add_11 ⟨Nat.le_of_ble_eq_true rfl, Nat.le_of_ble_eq_true rfl⟩) hS (fun q _ h => hF3 q h) hF3 (fun q _ h => hF3 q h) (fun E ce q9 u t H locs ht hvm _ hB hz1 hk1 hS hce hcv hcl => ?_) (fun u t H locs ht hvm h hB hz1 hk1 hS => ?_)
      · -- thrown
        obtain ⟨h1, hP1, hK1, hD1⟩ := hB
        replace h := h1
        rw [ht] at hP1
        have hP : va_P D vwCl (wG a0 a1 a2 a3 a4 a5 c1 c2 c4 c5 made size tooG kept sizes rows taken) H := hP1
        have hD : va_D A (wG a0 a1 a2 a3 a4 a5 c1 c2 c4 c5 made size tooG kept sizes rows taken) := hD1.weaken (fun _ _ _ hq => hF3 _ hq)
        exact vx_out (fun x hx => (hno x hx).elim) hlocks hce hcv hcl (fun t9 ht9 hW9 => ⟨(made, size, tooG, kept, sizes, rows, taken), trivial, ⟨h, by rw [ht9]; exact hP, va_K.moved hW9 hK, hD⟩, hS.F ht9⟩) hS.2.2 (by omega) (by omega)
      ·
        obtain ⟨hP1, hK1, hD1⟩ := hB
        rw [ht] at hP1
        have hP : va_P D vwCl (wG a0 a1 a2 a3 a4 a5 c1 c2 c4 c5 made size tooG kept sizes rows taken) H := hP1
        have hD : va_D A (wG a0 a1 a2 a3 a4 a5 c1 c2 c4 c5 made size tooG kept sizes rows taken) := hD1.weaken (fun _ _ _ hq => hF3 _ hq)
        refine W.widen (k := 3) (n := 18) (by omega) (by omega) ?_
        refine lv_aload_n hx hb d_G_add_14 rfl (lv_at hl 0 rfl) ?_
        refine va_get (D := D) (ci := 1) (v := .ref a3) (C := R_G) (T := F_G) (N := 4) hx hb hB inF_G hown hK hP 0 rfl rfl 2 (by decide) (hB _ wd_37) (fun _ h9 => h9) rfl d_G_add_15 ?_
        have hF4 := va_free (wc := (wG a0 a1 a2 a3 a4 a5 c1 c2 c4 c5 made size tooG kept sizes rows taken)) hD hS hA [0, 1, 2, 3, 4, 5] rfl
        refine va_callv (va_runV (As := []) (rest := []) ⟨hx, hb, hml, hown, hB⟩ (c_W_begin l D a0 a1 a2 a3 a4 a5 c1 c2 c4 c5 H.size made size tooG kept sizes rows taken _) (cwV 0 hB (goodV wd_98 wd_99 wd_100 wd_2 wd_101) rfl rfl rfl (by decide +kernel) ⟨Nat.le_of_ble_eq_true rfl, Nat.le_of_ble_eq_true rfl⟩) ⟨pcX_blind, va_recv hK hP (ci := 0) (q0 := 3) rfl rfl, pcX_pre hP hK hD hS hX hF4 h⟩ rfl rfl hl.1 rfl (lv_room (Nat.le_of_ble_eq_true rfl)) d_G_add_18 ⟨Nat.le_of_ble_eq_true rfl, Nat.le_of_ble_eq_true rfl⟩) hS (fun q _ h => hF4 q h) hF4 (fun u t H locs ht hvm h hB hz1 hk1 hS => ?_)
        obtain ⟨size_5, tooG_6⟩ := u
        obtain ⟨hP1, hK1, hD1⟩ := hB
        rw [ht] at hP1
        have hP : va_P D vwCl (wG a0 a1 a2 a3 a4 a5 c1 c2 c4 c5 made size_5 tooG_6 kept sizes rows taken) H := hP1
        have hD : va_D A (wG a0 a1 a2 a3 a4 a5 c1 c2 c4 c5 made size_5 tooG_6 kept sizes rows taken) := hD1.weaken (fun _ _ _ hq => hF4 _ hq)
        refine lv_aload_n hx hb d_G_add_21 rfl (lv_at hl 0 rfl) ?_
        refine lv_iload_n hx hb d_G_add_22 rfl (lv_at hl 1 rfl) ?_
        have hF7 := va_free (wc := (wG a0 a1 a2 a3 a4 a5 c1 c2 c4 c5 made size_5 tooG_6 kept sizes rows taken)) hD hS hA [0, 1, 2, 3, 4, 5] rfl
        refine va_callv (va_runV (As := [.int p0]) (rest := []) ⟨hx, hb, hml, hown, hB⟩ (c_G_putAll l D a0 a1 a2 a3 a4 a5 c1 c2 c4 c5 H.size made size_5 tooG_6 kept sizes rows taken p0 _) (cwV 1 hB (goodV wd_188 wd_189 wd_498 wd_1 wd_190) rfl rfl rfl (by decide +kernel) ⟨Nat.le_of_ble_eq_true rfl, Nat.le_of_ble_eq_true rfl⟩) ⟨pcX_blind, va_recv hK hP (ci := 1) (q0 := 0) rfl rfl, pcX_pre hP hK hD hS hX hF7 h⟩ rfl rfl hl.1 rfl (lv_room (Nat.le_of_ble_eq_true rfl)) d_G_add_23 ⟨Nat.le_of_ble_eq_true rfl, Nat.le_of_ble_eq_true rfl⟩) hS (fun q _ h => hF7 q h) hF7 (fun u t H locs ht hvm h hB hz1 hk1 hS => ?_)
        obtain ⟨size_8, tooG_9, rows_10, taken_11⟩ := u
        obtain ⟨hP1, hK1, hD1⟩ := hB
        rw [ht] at hP1
        have hP : va_P D vwCl (wG a0 a1 a2 a3 a4 a5 c1 c2 c4 c5 made size_8 tooG_9 kept sizes rows_10 taken_11) H := hP1
        have hD : va_D A (wG a0 a1 a2 a3 a4 a5 c1 c2 c4 c5 made size_8 tooG_9 kept sizes rows_10 taken_11) := hD1.weaken (fun _ _ _ hq => hF7 _ hq)
        refine lv_aload_n hx hb d_G_add_26 rfl (lv_at hl 0 rfl) ?_
        refine lv_iload_n hx hb d_G_add_27 rfl (lv_at hl 2 rfl) ?_
        have hF12 := va_free (wc := (wG a0 a1 a2 a3 a4 a5 c1 c2 c4 c5 made size_8 tooG_9 kept sizes rows_10 taken_11)) hD hS hA [0, 1, 2, 3, 4, 5] rfl
        refine va_callv (va_runV (As := [.int p1]) (rest := []) ⟨hx, hb, hml, hown, hB⟩ (c_G_putAll l D a0 a1 a2 a3 a4 a5 c1 c2 c4 c5 H.size made size_8 tooG_9 kept sizes rows_10 taken_11 p1 _) (cwV 1 hB (goodV wd_188 wd_189 wd_498 wd_1 wd_190) rfl rfl rfl (by decide +kernel) ⟨Nat.le_of_ble_eq_true rfl, Nat.le_of_ble_eq_true rfl⟩) ⟨pcX_blind, va_recv hK hP (ci := 1) (q0 := 0) rfl rfl, pcX_pre hP hK hD hS hX hF12 h⟩ rfl rfl hl.1 rfl (lv_room (Nat.le_of_ble_eq_true rfl)) d_G_add_28 ⟨Nat.le_of_ble_eq_true rfl, Nat.le_of_ble_eq_true rfl⟩) hS (fun q _ h => hF12 q h) hF12 (fun u t H locs ht hvm h hB hz1 hk1 hS => ?_)
        obtain ⟨size_13, tooG_14, rows_15, taken_16⟩ := u
        obtain ⟨hP1, hK1, hD1⟩ := hB
        rw [ht] at hP1
        have hP : va_P D vwCl (wG a0 a1 a2 a3 a4 a5 c1 c2 c4 c5 made size_13 tooG_14 kept sizes rows_15 taken_16) H := hP1
        have hD : va_D A (wG a0 a1 a2 a3 a4 a5 c1 c2 c4 c5 made size_13 tooG_14 kept sizes rows_15 taken_16) := hD1.weaken (fun _ _ _ hq => hF12 _ hq)
        refine lv_aload_n hx hb d_G_add_31 rfl (lv_at hl 0 rfl) ?_
        have hF17 := va_free (wc := (wG a0 a1 a2 a3 a4 a5 c1 c2 c4 c5 made size_13 tooG_14 kept sizes rows_15 taken_16)) hD hS hA [0, 1, 2, 3, 4, 5] rfl
        refine vx_calli (vx_runV (As := []) (rest := []) ⟨hx, hb, hml, hown, hB⟩ (c_G_keep l D a0 a1 a2 a3 a4 a5 c1 c2 c4 c5 H.size made size_13 tooG_14 kept sizes rows_15 taken_16 _ _ hst) (cwV 0 hB (goodV wd_141 wd_142 wd_495 wd_1 wd_143) rfl rfl rfl (by decide +kernel) ⟨Nat.le_of_ble_eq_true rfl, Nat.le_of_ble_eq_true rfl⟩) ⟨pcX_blind, va_recv hK hP (ci := 1) (q0 := 0) rfl rfl, pcX_pre hP hK hD hS hX hF17 h⟩ rfl rfl hl.1 rfl (lv_room (Nat.le_of_ble_eq_true rfl)) d_G_add_32 ⟨Nat.le_of_ble_eq_true rfl, Nat.le_of_ble_eq_true rfl⟩) hS (fun q _ h => hF17 q h) hF17 (fun q _ h => hF17 q h) (fun E ce q9 u t H locs ht hvm _ hB hz1 hk1 hS hce hcv hcl => ?_) (fun r18 u t H locs ht hvm h hB hz1 hk1 hS => ?_)
        · -- thrown
          obtain ⟨made_19, kept_20, sizes_21⟩ := u
          obtain ⟨h1, hP1, hK1, hD1⟩ := hB
          replace h := h1
          rw [ht] at hP1
          have hP : va_P D vwCl (wG a0 a1 a2 a3 a4 a5 c1 c2 c4 c5 made_19 size_13 tooG_14 kept_20 sizes_21 rows_15 taken_16) H := hP1
          have hD : va_D A (wG a0 a1 a2 a3 a4 a5 c1 c2 c4 c5 made_19 size_13 tooG_14 kept_20 sizes_21 rows_15 taken_16) := hD1.weaken (fun _ _ _ hq => hF17 _ hq)
          exact vx_out (fun x hx => (hno x hx).elim) hlocks hce hcv hcl (fun t9 ht9 hW9 => ⟨(made_19, size_13, tooG_14, kept_20, sizes_21, rows_15, taken_16), trivial, ⟨h, by rw [ht9]; exact hP, va_K.moved hW9 hK, hD⟩, hS.F ht9⟩) hS.2.2 (by omega) (by omega)
        ·
          obtain ⟨made_19, kept_20, sizes_21⟩ := u
          obtain ⟨hP1, hK1, hD1⟩ := hB
          rw [ht] at hP1
          have hP : va_P D vwCl (wG a0 a1 a2 a3 a4 a5 c1 c2 c4 c5 made_19 size_13 tooG_14 kept_20 sizes_21 rows_15 taken_16) H := hP1
          have hD : va_D A (wG a0 a1 a2 a3 a4 a5 c1 c2 c4 c5 made_19 size_13 tooG_14 kept_20 sizes_21 rows_15 taken_16) := hD1.weaken (fun _ _ _ hq => hF17 _ hq)
          refine W.widen (k := 4) (n := 24) (by omega) (by omega) ?_
          exact vx_ret (W.iret (v := r18) hx hb hr (fun t ht hW => ⟨⟨r18, (made_19, size_13, tooG_14, kept_20, sizes_21, rows_15, taken_16), rfl, h, by rw [ht]; exact hP, va_K.moved hW.alike hK, hD⟩, hS.F ht⟩) hS.2.2 d_G_add_35)
set_option maxHeartbeats 4000000 in
set_option maxRecDepth 100000 in
theorem c_G_times (l : Launch) (D : va_G) (a0 a1 a2 a3 a4 a5 : Nat) (c1 c2 c4 c5 : ClassId) (sz : Nat) (made : Int32) (size : Int32) (tooG : Int32) (kept : (Nat → Int32)) (sizes : (Nat → Int32)) (rows : (Nat → Int32)) (taken : (Nat → Int32)) (p0 : Int32) (p1 : Int32) (post : Int32 → Int32 → Int32 → Int32 → (Nat → Int32) → (Nat → Int32) → (Nat → Int32) → (Nat → Int32) → Prop) (postx : String → Int32 → Int32 → Int32 → (Nat → Int32) → (Nat → Int32) → (Nat → Int32) → (Nat → Int32) → Prop) (hst : l.stackTraces = false) : vx_Met l y_G_times (Cond.code y_G_times b_G_times 5 (some .int) :: BIG) ({ frames := 7, cells := 4, slots := 24, locals := 130 }) (va_Pc [.ref a0, .int p0, .int p1] (pcX D vwCl (wG a0 a1 a2 a3 a4 a5 c1 c2 c4 c5 made size tooG kept sizes rows taken) [(c1, .int), (c2, .int), (c4, .int), (c5, .int)] sz (wp_G_times made size tooG kept sizes rows taken p0 p1 post postx))) (va_Qi (fun (r : Int32) (u : Int32 × Int32 × Int32 × (Nat → Int32) × (Nat → Int32) × (Nat → Int32) × (Nat → Int32)) => post r (u.1) (u.2.1) (u.2.2.1) (u.2.2.2.1) (u.2.2.2.2.1) (u.2.2.2.2.2.1) (u.2.2.2.2.2.2)) (fun u => atG D vwCl [(c1, .int), (c2, .int), (c4, .int), (c5, .int)] (va_A (wG a0 a1 a2 a3 a4 a5 c1 c2 c4 c5 made size tooG kept sizes rows taken) sz) (wG a0 a1 a2 a3 a4 a5 c1 c2 c4 c5 (u.1) (u.2.1) (u.2.2.1) (u.2.2.2.1) (u.2.2.2.2.1) (u.2.2.2.2.2.1) (u.2.2.2.2.2.2))) (va_A (wG a0 a1 a2 a3 a4 a5 c1 c2 c4 c5 made size tooG kept sizes rows taken) sz)) (vx_X (fun _ : Int32 × Int32 × Int32 × (Nat → Int32) × (Nat → Int32) × (Nat → Int32) × (Nat → Int32) => True) (fun E u => atX D vwCl [(c1, .int), (c2, .int), (c4, .int), (c5, .int)] (va_A (wG a0 a1 a2 a3 a4 a5 c1 c2 c4 c5 made size tooG kept sizes rows taken) sz) (wG a0 a1 a2 a3 a4 a5 c1 c2 c4 c5 (u.1) (u.2.1) (u.2.2.1) (u.2.2.2.1) (u.2.2.2.2.1) (u.2.2.2.2.2.1) (u.2.2.2.2.2.2)) (postx E (u.1) (u.2.1) (u.2.2.1) (u.2.2.2.1) (u.2.2.2.2.1) (u.2.2.2.2.2.1) (u.2.2.2.2.2.2))) (va_A (wG a0 a1 a2 a3 a4 a5 c1 c2 c4 c5 made size tooG kept sizes rows taken) sz)) 4 24 (va_A (wG a0 a1 a2 a3 a4 a5 c1 c2 c4 c5 made size tooG kept sizes rows taken) sz) := by
  refine vx_ofW (cc := b_G_times) (maxL := 5) (ret := (some .int)) (by decide) rfl ?_
  intro p e s m args below meth c s₁ B hml hno hv
  obtain ⟨rfl, hsz, hP, hK, hD0, hX, h⟩ := hv
  have hx := B.exec
  have hb := B.bytes
  have hr := B.returns
  have hB : ∀ w ∈ BIG, w.before _ s = true := fun w h => atoms_spec (ws := (Cond.code y_G_times b_G_times 5 (some .int) :: BIG)) B.pre w (List.mem_cons_of_mem _ h)
  have hown : s.vm.findClass R_G = some m.cls := findClass_of_methodNamed B.named
  have hlocks := B.notSynchronized
  subst hsz
  have hD := hD0.self (sz := s.heap.size)
  generalize hAe : va_A (wG a0 a1 a2 a3 a4 a5 c1 c2 c4 c5 made size tooG kept sizes rows taken) s.heap.size = A at hD hX ⊢
  have hA : ∀ q : Nat, s.heap.size ≤ q → A q := fun q h => by rw [← hAe]; exact Or.inr h
  have hl := lv_entry ([.ref a0, .int p0, .int p1]) (n := 5) (Nat.le_of_ble_eq_true rfl)
  rw [lg_entry_eq]
  generalize (lg_sl ([.ref a0, .int p0, .int p1]) ++ List.replicate (5 - (lg_sl ([.ref a0, .int p0, .int p1])).length) Slot.unset).toArray = ls at hl ⊢
  have hl : lv_has ls 5 [(0, .ref a0), (1, .int p0), (2, .int p1)] := hl
  refine W.cap (fun G Gi Ge => ?_)
  suffices hL : ∀ (H : Heap) (locs : List Loc), va_P D vwCl (wG a0 a1 a2 a3 a4 a5 c1 c2 c4 c5 made size tooG kept sizes rows taken) H → va_S A s.heap H locs → G H locs (F0 m 0 ls []) from hL _ _ hP va_S.rf
  clear hP
  intro H locs hP hS
  refine Gi _ _ _ ?_
  unfold wp_G_times at h
  refine lv_aload_n hx hb d_G_times_0 rfl (lv_at hl 0 rfl) ?_
  refine lv_iload_n hx hb d_G_times_1 rfl (lv_at hl 1 rfl) ?_
  have hF1 := va_free (wc := (wG a0 a1 a2 a3 a4 a5 c1 c2 c4 c5 made size tooG kept sizes rows taken)) hD hS hA [0, 1, 2, 3, 4, 5] rfl
  refine vx_callv (vx_runV (As := [.int p0]) (rest := []) ⟨hx, hb, hml, hown, hB⟩ (c_G_requireFunction l D a0 a1 a2 a3 a4 a5 c1 c2 c4 c5 H.size made size tooG kept sizes rows taken p0 _ _ hst) (cwV 1 hB (goodV wd_178 wd_179 wd_497 wd_1 wd_180) rfl rfl rfl (by decide +kernel) ⟨Nat.le_of_ble_eq_true rfl, Nat.le_of_ble_eq_true rfl⟩) ⟨pcX_blind, va_recv hK hP (ci := 1) (q0 := 0) rfl rfl, pcX_pre hP hK hD hS hX hF1 h⟩ rfl rfl hl.1 rfl (lv_room (Nat.le_of_ble_eq_true rfl)) d_G_times_2 ⟨Nat.le_of_ble_eq_true rfl, Nat.le_of_ble_eq_true rfl⟩) hS (fun q _ h => hF1 q h) hF1 (fun q _ h => hF1 q h) (fun E ce q9 u t H locs ht hvm _ hB hz1 hk1 hS hce hcv hcl => ?_) (fun u t H locs ht hvm h hB hz1 hk1 hS => ?_)
  · -- thrown
    obtain ⟨h1, hP1, hK1, hD1⟩ := hB
    replace h := h1
    rw [ht] at hP1
    have hP : va_P D vwCl (wG a0 a1 a2 a3 a4 a5 c1 c2 c4 c5 made size tooG kept sizes rows taken) H := hP1
    have hD : va_D A (wG a0 a1 a2 a3 a4 a5 c1 c2 c4 c5 made size tooG kept sizes rows taken) := hD1.weaken (fun _ _ _ hq => hF1 _ hq)
    exact vx_out (fun x hx => (hno x hx).elim) hlocks hce hcv hcl (fun t9 ht9 hW9 => ⟨(made, size, tooG, kept, sizes, rows, taken), trivial, ⟨h, by rw [ht9]; exact hP, va_K.moved hW9 hK, hD⟩, hS.F ht9⟩) hS.2.2 (by omega) (by omega)
  ·
    obtain ⟨hP1, hK1, hD1⟩ := hB
    rw [ht] at hP1
    have hP : va_P D vwCl (wG a0 a1 a2 a3 a4 a5 c1 c2 c4 c5 made size tooG kept sizes rows taken) H := hP1
    have hD : va_D A (wG a0 a1 a2 a3 a4 a5 c1 c2 c4 c5 made size tooG kept sizes rows taken) := hD1.weaken (fun _ _ _ hq => hF1 _ hq)
    refine W.widen (k := 1) (n := 6) (by omega) (by omega) ?_
    refine lv_aload_n hx hb d_G_times_5 rfl (lv_at hl 0 rfl) ?_
    refine lv_iload_n hx hb d_G_times_6 rfl (lv_at hl 2 rfl) ?_
    have hF2 := va_free (wc := (wG a0 a1 a2 a3 a4 a5 c1 c2 c4 c5 made size tooG kept sizes rows taken)) hD hS hA [0, 1, 2, 3, 4, 5] rfl
    refine vx_callv (vx_runV (As := [.int p1]) (rest := []) ⟨hx, hb, hml, hown, hB⟩ (c_G_requireFunction l D a0 a1 a2 a3 a4 a5 c1 c2 c4 c5 H.size made size tooG kept sizes rows taken p1 _ _ hst) (cwV 1 hB (goodV wd_178 wd_179 wd_497 wd_1 wd_180) rfl rfl rfl (by decide +kernel) ⟨Nat.le_of_ble_eq_true rfl, Nat.le_of_ble_eq_true rfl⟩) ⟨pcX_blind, va_recv hK hP (ci := 1) (q0 := 0) rfl rfl, pcX_pre hP hK hD hS hX hF2 h⟩ rfl rfl hl.1 rfl (lv_room (Nat.le_of_ble_eq_true rfl)) d_G_times_7 ⟨Nat.le_of_ble_eq_true rfl, Nat.le_of_ble_eq_true rfl⟩) hS (fun q _ h => hF2 q h) hF2 (fun q _ h => hF2 q h) (fun E ce q9 u t H locs ht hvm _ hB hz1 hk1 hS hce hcv hcl => ?_) (fun u t H locs ht hvm h hB hz1 hk1 hS => ?_)
    · -- thrown
      obtain ⟨h1, hP1, hK1, hD1⟩ := hB
      replace h := h1
      rw [ht] at hP1
      have hP : va_P D vwCl (wG a0 a1 a2 a3 a4 a5 c1 c2 c4 c5 made size tooG kept sizes rows taken) H := hP1
      have hD : va_D A (wG a0 a1 a2 a3 a4 a5 c1 c2 c4 c5 made size tooG kept sizes rows taken) := hD1.weaken (fun _ _ _ hq => hF2 _ hq)
      exact vx_out (fun x hx => (hno x hx).elim) hlocks hce hcv hcl (fun t9 ht9 hW9 => ⟨(made, size, tooG, kept, sizes, rows, taken), trivial, ⟨h, by rw [ht9]; exact hP, va_K.moved hW9 hK, hD⟩, hS.F ht9⟩) hS.2.2 (by omega) (by omega)
    ·
      obtain ⟨hP1, hK1, hD1⟩ := hB
      rw [ht] at hP1
      have hP : va_P D vwCl (wG a0 a1 a2 a3 a4 a5 c1 c2 c4 c5 made size tooG kept sizes rows taken) H := hP1
      have hD : va_D A (wG a0 a1 a2 a3 a4 a5 c1 c2 c4 c5 made size tooG kept sizes rows taken) := hD1.weaken (fun _ _ _ hq => hF2 _ hq)
      refine W.widen (k := 2) (n := 12) (by omega) (by omega) ?_
      refine lv_aload_n hx hb d_G_times_10 rfl (lv_at hl 0 rfl) ?_
      have hF3 := va_free (wc := (wG a0 a1 a2 a3 a4 a5 c1 c2 c4 c5 made size tooG kept sizes rows taken)) hD hS hA [0, 1, 2, 3, 4, 5] rfl
      refine vx_callv (vx_runV (As := []) (rest := []) ⟨hx, hb, hml, hown, hB⟩ (c_G_requireRoom l D a0 a1 a2 a3 a4 a5 c1 c2 c4 c5 H.size made size tooG kept sizes rows taken _ _ hst) (cwV 0 hB (goodV wd_88 wd_89 wd_489 wd_1 wd_90) rfl rfl rfl (by decide +kernel) ⟨Nat.le_of_ble_eq_true rfl, Nat.le_of_ble_eq_true rfl⟩) ⟨pcX_blind, va_recv hK hP (ci := 1) (q0 := 0) rfl rfl, pcX_pre hP hK hD hS hX hF3 h⟩ rfl rfl hl.1 rfl (lv_room (Nat.le_of_ble_eq_true rfl)) d_G_times_11 ⟨Nat.le_of_ble_eq_true rfl, Nat.le_of_ble_eq_true rfl⟩) hS (fun q _ h => hF3 q h) hF3 (fun q _ h => hF3 q h) (fun E ce q9 u t H locs ht hvm _ hB hz1 hk1 hS hce hcv hcl => ?_) (fun u t H locs ht hvm h hB hz1 hk1 hS => ?_)
      · -- thrown
        obtain ⟨h1, hP1, hK1, hD1⟩ := hB
        replace h := h1
        rw [ht] at hP1
        have hP : va_P D vwCl (wG a0 a1 a2 a3 a4 a5 c1 c2 c4 c5 made size tooG kept sizes rows taken) H := hP1
        have hD : va_D A (wG a0 a1 a2 a3 a4 a5 c1 c2 c4 c5 made size tooG kept sizes rows taken) := hD1.weaken (fun _ _ _ hq => hF3 _ hq)
        exact vx_out (fun x hx => (hno x hx).elim) hlocks hce hcv hcl (fun t9 ht9 hW9 => ⟨(made, size, tooG, kept, sizes, rows, taken), trivial, ⟨h, by rw [ht9]; exact hP, va_K.moved hW9 hK, hD⟩, hS.F ht9⟩) hS.2.2 (by omega) (by omega)
      ·
        obtain ⟨hP1, hK1, hD1⟩ := hB
        rw [ht] at hP1
        have hP : va_P D vwCl (wG a0 a1 a2 a3 a4 a5 c1 c2 c4 c5 made size tooG kept sizes rows taken) H := hP1
        have hD : va_D A (wG a0 a1 a2 a3 a4 a5 c1 c2 c4 c5 made size tooG kept sizes rows taken) := hD1.weaken (fun _ _ _ hq => hF3 _ hq)
        refine W.widen (k := 3) (n := 18) (by omega) (by omega) ?_
        refine lv_aload_n hx hb d_G_times_14 rfl (lv_at hl 0 rfl) ?_
        refine va_get (D := D) (ci := 1) (v := .ref a3) (C := R_G) (T := F_G) (N := 4) hx hb hB inF_G hown hK hP 0 rfl rfl 2 (by decide) (hB _ wd_37) (fun _ h9 => h9) rfl d_G_times_15 ?_
        have hF4 := va_free (wc := (wG a0 a1 a2 a3 a4 a5 c1 c2 c4 c5 made size tooG kept sizes rows taken)) hD hS hA [0, 1, 2, 3, 4, 5] rfl
        refine va_callv (va_runV (As := []) (rest := []) ⟨hx, hb, hml, hown, hB⟩ (c_W_begin l D a0 a1 a2 a3 a4 a5 c1 c2 c4 c5 H.size made size tooG kept sizes rows taken _) (cwV 0 hB (goodV wd_98 wd_99 wd_100 wd_2 wd_101) rfl rfl rfl (by decide +kernel) ⟨Nat.le_of_ble_eq_true rfl, Nat.le_of_ble_eq_true rfl⟩) ⟨pcX_blind, va_recv hK hP (ci := 0) (q0 := 3) rfl rfl, pcX_pre hP hK hD hS hX hF4 h⟩ rfl rfl hl.1 rfl (lv_room (Nat.le_of_ble_eq_true rfl)) d_G_times_18 ⟨Nat.le_of_ble_eq_true rfl, Nat.le_of_ble_eq_true rfl⟩) hS (fun q _ h => hF4 q h) hF4 (fun u t H locs ht hvm h hB hz1 hk1 hS => ?_)
        obtain ⟨size_5, tooG_6⟩ := u
        obtain ⟨hP1, hK1, hD1⟩ := hB
        rw [ht] at hP1
        have hP : va_P D vwCl (wG a0 a1 a2 a3 a4 a5 c1 c2 c4 c5 made size_5 tooG_6 kept sizes rows taken) H := hP1
        have hD : va_D A (wG a0 a1 a2 a3 a4 a5 c1 c2 c4 c5 made size_5 tooG_6 kept sizes rows taken) := hD1.weaken (fun _ _ _ hq => hF4 _ hq)
        refine lv_iconst (v := 0) hx hb d_G_times_21 (by decide) ?_
        refine lv_istore_n (lv' := [(3, .int 0), (0, .ref a0), (1, .int p0), (2, .int p1)]) hx hb d_G_times_22 rfl hl (by decide) rfl (fun ls hl => ?_)
        obtain ⟨n23, h⟩ := h
        refine W.cap (fun G23 Gi23 Ge23 => ?_)
        suffices hL23 : ∀ (n23 : Nat) (v3_7 : Int32) (size_8 : Int32) (tooG_9 : Int32) (rows_10 : (Nat → Int32)) (taken_11 : (Nat → Int32)) (H : Heap) (locs : List Loc) (ls : Array Slot), va_P D vwCl (wG a0 a1 a2 a3 a4 a5 c1 c2 c4 c5 made size_8 tooG_9 kept sizes rows_10 taken_11) H → va_D A (wG a0 a1 a2 a3 a4 a5 c1 c2 c4 c5 made size_8 tooG_9 kept sizes rows_10 taken_11) → va_S A s.heap H locs → lv_has ls 5 [(3, .int v3_7), (0, .ref a0), (1, .int p0), (2, .int p1)] → lpW5 (wb_G_times_23 p0 sizes made kept post postx p1) n23 v3_7 size_8 tooG_9 rows_10 taken_11 → G23 H locs (F0 m 23 ls []) from hL23 n23 (0 : Int32) size_5 tooG_6 rows taken _ _ _ hP hD hS hl h
        clear h hP hD hS hl
        intro n23
        induction n23 with
        | zero => intro v3_7 size_8 tooG_9 rows_10 taken_11 H locs ls hP hD hS hl h; exact (show False from h).elim
        | succ n23 ihL23 =>
          intro v3_7 size_8 tooG_9 rows_10 taken_11 H locs ls hP hD hS hl h
          replace h : (wb_G_times_23 p0 sizes made kept post postx p1) (lpW5 (wb_G_times_23 p0 sizes made kept post postx p1) n23) v3_7 size_8 tooG_9 rows_10 taken_11 := h
          refine Gi23 _ _ _ ?_
          refine lv_iload_n hx hb d_G_times_23 rfl (lv_at hl 0 rfl) ?_
          refine lv_aload_n hx hb d_G_times_24 rfl (lv_at hl 1 rfl) ?_
          refine va_get (D := D) (ci := 1) (v := .ref a2) (C := R_G) (T := F_G) (N := 4) hx hb hB inF_G hown hK hP 0 rfl rfl 1 (by decide) (hB _ wd_36) (fun _ h9 => h9) rfl d_G_times_25 ?_
          refine lv_iload_n hx hb d_G_times_28 rfl (lv_at hl 2 rfl) ?_
          obtain ⟨g12, h⟩ := h
          refine va_iald hx hb hK hP 2 1 rfl rfl g12 d_G_times_29 ?_
          refine lv_icmp_ge (tgt := 99) hx hb d_G_times_30 (by decide) (fun hc13 => ?_) (fun hc13 => ?_)
          · replace h := h.1 hc13
            refine lv_aload_n hx hb d_G_times_99 rfl (lv_at hl 1 rfl) ?_
            have hF14 := va_free (wc := (wG a0 a1 a2 a3 a4 a5 c1 c2 c4 c5 made size_8 tooG_9 kept sizes rows_10 taken_11)) hD hS hA [0, 1, 2, 3, 4, 5] rfl
            refine vx_calli (vx_runV (As := []) (rest := []) ⟨hx, hb, hml, hown, hB⟩ (c_G_keep l D a0 a1 a2 a3 a4 a5 c1 c2 c4 c5 H.size made size_8 tooG_9 kept sizes rows_10 taken_11 _ _ hst) (cwV 0 hB (goodV wd_141 wd_142 wd_495 wd_1 wd_143) rfl rfl rfl (by decide +kernel) ⟨Nat.le_of_ble_eq_true rfl, Nat.le_of_ble_eq_true rfl⟩) ⟨pcX_blind, va_recv hK hP (ci := 1) (q0 := 0) rfl rfl, pcX_pre hP hK hD hS hX hF14 h⟩ rfl rfl hl.1 rfl (lv_room (Nat.le_of_ble_eq_true rfl)) d_G_times_100 ⟨Nat.le_of_ble_eq_true rfl, Nat.le_of_ble_eq_true rfl⟩) hS (fun q _ h => hF14 q h) hF14 (fun q _ h => hF14 q h) (fun E ce q9 u t H locs ht hvm _ hB hz1 hk1 hS hce hcv hcl => ?_) (fun r15 u t H locs ht hvm h hB hz1 hk1 hS => ?_)
            · -- thrown
              obtain ⟨made_16, kept_17, sizes_18⟩ := u
              obtain ⟨h1, hP1, hK1, hD1⟩ := hB
              replace h := h1
              rw [ht] at hP1
              have hP : va_P D vwCl (wG a0 a1 a2 a3 a4 a5 c1 c2 c4 c5 made_16 size_8 tooG_9 kept_17 sizes_18 rows_10 taken_11) H := hP1
              have hD : va_D A (wG a0 a1 a2 a3 a4 a5 c1 c2 c4 c5 made_16 size_8 tooG_9 kept_17 sizes_18 rows_10 taken_11) := hD1.weaken (fun _ _ _ hq => hF14 _ hq)
              exact vx_out (fun x hx => (hno x hx).elim) hlocks hce hcv hcl (fun t9 ht9 hW9 => ⟨(made_16, size_8, tooG_9, kept_17, sizes_18, rows_10, taken_11), trivial, ⟨h, by rw [ht9]; exact hP, va_K.moved hW9 hK, hD⟩, hS.F ht9⟩) hS.2.2 (by omega) (by omega)
            ·
              obtain ⟨made_16, kept_17, sizes_18⟩ := u
              obtain ⟨hP1, hK1, hD1⟩ := hB
              rw [ht] at hP1
              have hP : va_P D vwCl (wG a0 a1 a2 a3 a4 a5 c1 c2 c4 c5 made_16 size_8 tooG_9 kept_17 sizes_18 rows_10 taken_11) H := hP1
              have hD : va_D A (wG a0 a1 a2 a3 a4 a5 c1 c2 c4 c5 made_16 size_8 tooG_9 kept_17 sizes_18 rows_10 taken_11) := hD1.weaken (fun _ _ _ hq => hF14 _ hq)
              refine W.widen (k := 4) (n := 24) (by omega) (by omega) ?_
              exact vx_ret (W.iret (v := r15) hx hb hr (fun t ht hW => ⟨⟨r15, (made_16, size_8, tooG_9, kept_17, sizes_18, rows_10, taken_11), rfl, h, by rw [ht]; exact hP, va_K.moved hW.alike hK, hD⟩, hS.F ht⟩) hS.2.2 d_G_times_103)
          · replace h := h.2 hc13
            refine lv_iconst (v := 0) hx hb d_G_times_33 (by decide) ?_
            refine lv_istore (lv' := [(4, .int 0), (3, .int v3_7), (0, .ref a0), (1, .int p0), (2, .int p1)]) hx hb d_G_times_34 hl (by decide) rfl (fun ls hl => ?_)
            obtain ⟨n36, h⟩ := h
            refine W.cap (fun G36 Gi36 Ge36 => ?_)
            suffices hL36 : ∀ (n36 : Nat) (v4_19 : Int32) (size_20 : Int32) (tooG_21 : Int32) (rows_22 : (Nat → Int32)) (taken_23 : (Nat → Int32)) (H : Heap) (locs : List Loc) (ls : Array Slot), va_P D vwCl (wG a0 a1 a2 a3 a4 a5 c1 c2 c4 c5 made size_20 tooG_21 kept sizes rows_22 taken_23) H → va_D A (wG a0 a1 a2 a3 a4 a5 c1 c2 c4 c5 made size_20 tooG_21 kept sizes rows_22 taken_23) → va_S A s.heap H locs → lv_has ls 5 [(4, .int v4_19), (3, .int v3_7), (0, .ref a0), (1, .int p0), (2, .int p1)] → lpW5 (wb_G_times_36 p1 sizes v3_7 (lpW5 (wb_G_times_23 p0 sizes made kept post postx p1) n23) p0 kept) n36 v4_19 size_20 tooG_21 rows_22 taken_23 → G36 H locs (F0 m 36 ls []) from hL36 n36 (0 : Int32) size_8 tooG_9 rows_10 taken_11 _ _ _ hP hD hS hl h
            clear h hP hD hS hl
            intro n36
            induction n36 with
            | zero => intro v4_19 size_20 tooG_21 rows_22 taken_23 H locs ls hP hD hS hl h; exact (show False from h).elim
            | succ n36 ihL36 =>
              intro v4_19 size_20 tooG_21 rows_22 taken_23 H locs ls hP hD hS hl h
              replace h : (wb_G_times_36 p1 sizes v3_7 (lpW5 (wb_G_times_23 p0 sizes made kept post postx p1) n23) p0 kept) (lpW5 (wb_G_times_36 p1 sizes v3_7 (lpW5 (wb_G_times_23 p0 sizes made kept post postx p1) n23) p0 kept) n36) v4_19 size_20 tooG_21 rows_22 taken_23 := h
              refine Gi36 _ _ _ ?_
              refine lv_iload hx hb d_G_times_36 (lv_at hl 0 rfl) ?_
              refine lv_aload_n hx hb d_G_times_38 rfl (lv_at hl 2 rfl) ?_
              refine va_get (D := D) (ci := 1) (v := .ref a2) (C := R_G) (T := F_G) (N := 4) hx hb hB inF_G hown hK hP 0 rfl rfl 1 (by decide) (hB _ wd_36) (fun _ h9 => h9) rfl d_G_times_39 ?_
              refine lv_iload_n hx hb d_G_times_42 rfl (lv_at hl 4 rfl) ?_
              obtain ⟨g24, h⟩ := h
              refine va_iald hx hb hK hP 2 1 rfl rfl g24 d_G_times_43 ?_
              refine lv_icmp_ge (tgt := 93) hx hb d_G_times_44 (by decide) (fun hc25 => ?_) (fun hc25 => ?_)
              · replace h := h.1 hc25
                obtain ⟨x26, ex26⟩ : ∃ z : Int32, z = v3_7 + 1 := ⟨_, rfl⟩
                replace h := h x26 ex26
                refine lv_iinc (v := x26) (lv' := [(3, .int x26), (4, .int v4_19), (0, .ref a0), (1, .int p0), (2, .int p1)]) hx hb d_G_times_93 hl (k := 1) rfl (by rw [ex26]; rfl) (by decide) rfl (fun ls hl => ?_)
                refine lv_goto (tgt := 23) hx hb d_G_times_96 (by decide) ?_
                exact Ge23 _ _ _ (ihL23 x26 size_20 tooG_21 rows_22 taken_23 _ _ _ hP hD hS (lv_sub hl [0, 2, 3, 4] rfl) h)
              · replace h := h.2 hc25
                refine lv_aload_n hx hb d_G_times_47 rfl (lv_at hl 2 rfl) ?_
                refine va_get (D := D) (ci := 1) (v := .ref a3) (C := R_G) (T := F_G) (N := 4) hx hb hB inF_G hown hK hP 0 rfl rfl 2 (by decide) (hB _ wd_37) (fun _ h9 => h9) rfl d_G_times_48 ?_
                refine lv_aload_n hx hb d_G_times_51 rfl (lv_at hl 2 rfl) ?_
                refine va_get (D := D) (ci := 1) (v := .ref a1) (C := R_G) (T := F_G) (N := 4) hx hb hB inF_G hown hK hP 0 rfl rfl 0 (by decide) (hB _ wd_35) (fun _ h9 => h9) rfl d_G_times_52 ?_
                refine lv_iload_n hx hb d_G_times_55 rfl (lv_at hl 3 rfl) ?_
                refine lv_iload_n hx hb d_G_times_56 rfl (lv_at hl 1 rfl) ?_
                have hF27 := va_free (wc := (wG a0 a1 a2 a3 a4 a5 c1 c2 c4 c5 made size_20 tooG_21 kept sizes rows_22 taken_23)) hD hS hA [0, 1, 2, 3, 4, 5] rfl
                refine va_calli (va_runS (As := [.int p0, .int v3_7]) (rest := [.ref a1, .ref a3]) ⟨hx, hb, hml, hown, hB⟩ (c_G_rowOf l D a0 a1 a2 a3 a4 a5 c1 c2 c4 c5 H.size made size_20 tooG_21 kept sizes rows_22 taken_23 p0 v3_7 _) (cwS 2 hB (goodS wd_144 wd_145 wd_1 wd_146) rfl rfl rfl (by decide +kernel) ⟨Nat.le_of_ble_eq_true rfl, Nat.le_of_ble_eq_true rfl⟩) ⟨pcX_blind, pcX_pre hP hK hD hS hX hF27 h⟩ rfl rfl hl.1 rfl (lv_room (Nat.le_of_ble_eq_true rfl)) d_G_times_57 ⟨Nat.le_of_ble_eq_true rfl, Nat.le_of_ble_eq_true rfl⟩) hS (fun q _ h => hF27 q h) hF27 (fun r28 u t H locs ht hvm h hB hz1 hk1 hS => ?_)
                obtain ⟨hP1, hK1, hD1⟩ := hB
                rw [ht] at hP1
                have hP : va_P D vwCl (wG a0 a1 a2 a3 a4 a5 c1 c2 c4 c5 made size_20 tooG_21 kept sizes rows_22 taken_23) H := hP1
                have hD : va_D A (wG a0 a1 a2 a3 a4 a5 c1 c2 c4 c5 made size_20 tooG_21 kept sizes rows_22 taken_23) := hD1.weaken (fun _ _ _ hq => hF27 _ hq)
                have hF29 := va_free (wc := (wG a0 a1 a2 a3 a4 a5 c1 c2 c4 c5 made size_20 tooG_21 kept sizes rows_22 taken_23)) hD hS hA [0, 1, 2, 3, 4, 5] rfl
                refine va_callv (va_runV (As := [.ref a1, .int r28]) (rest := []) ⟨hx, hb, hml, hown, hB⟩ (c_W_take l D a0 a1 a2 a3 a4 a5 c1 c2 c4 c5 H.size made size_20 tooG_21 kept sizes rows_22 taken_23 r28 _) (cwV 2 hB (goodV wd_191 wd_192 wd_193 wd_2 wd_194) rfl rfl rfl (by decide +kernel) ⟨Nat.le_of_ble_eq_true rfl, Nat.le_of_ble_eq_true rfl⟩) ⟨pcX_blind, va_recv hK hP (ci := 0) (q0 := 3) rfl rfl, pcX_pre hP hK hD hS hX hF29 h⟩ rfl rfl hl.1 rfl (lv_room (Nat.le_of_ble_eq_true rfl)) d_G_times_60 ⟨Nat.le_of_ble_eq_true rfl, Nat.le_of_ble_eq_true rfl⟩) hS (fun q _ h => hF29 q h) hF29 (fun taken_30 t H locs ht hvm h hB hz1 hk1 hS => ?_)
                obtain ⟨hP1, hK1, hD1⟩ := hB
                rw [ht] at hP1
                have hP : va_P D vwCl (wG a0 a1 a2 a3 a4 a5 c1 c2 c4 c5 made size_20 tooG_21 kept sizes rows_22 taken_30) H := hP1
                have hD : va_D A (wG a0 a1 a2 a3 a4 a5 c1 c2 c4 c5 made size_20 tooG_21 kept sizes rows_22 taken_30) := hD1.weaken (fun _ _ _ hq => hF29 _ hq)
                refine lv_aload_n hx hb d_G_times_63 rfl (lv_at hl 2 rfl) ?_
                refine va_get (D := D) (ci := 1) (v := .ref a3) (C := R_G) (T := F_G) (N := 4) hx hb hB inF_G hown hK hP 0 rfl rfl 2 (by decide) (hB _ wd_37) (fun _ h9 => h9) rfl d_G_times_64 ?_
                refine lv_aload_n hx hb d_G_times_67 rfl (lv_at hl 2 rfl) ?_
                refine va_get (D := D) (ci := 1) (v := .ref a1) (C := R_G) (T := F_G) (N := 4) hx hb hB inF_G hown hK hP 0 rfl rfl 0 (by decide) (hB _ wd_35) (fun _ h9 => h9) rfl d_G_times_68 ?_
                refine lv_iload_n hx hb d_G_times_71 rfl (lv_at hl 4 rfl) ?_
                refine lv_iload hx hb d_G_times_72 (lv_at hl 0 rfl) ?_
                have hF31 := va_free (wc := (wG a0 a1 a2 a3 a4 a5 c1 c2 c4 c5 made size_20 tooG_21 kept sizes rows_22 taken_30)) hD hS hA [0, 1, 2, 3, 4, 5] rfl
                refine va_calli (va_runS (As := [.int p1, .int v4_19]) (rest := [.ref a1, .ref a3]) ⟨hx, hb, hml, hown, hB⟩ (c_G_rowOf l D a0 a1 a2 a3 a4 a5 c1 c2 c4 c5 H.size made size_20 tooG_21 kept sizes rows_22 taken_30 p1 v4_19 _) (cwS 2 hB (goodS wd_144 wd_145 wd_1 wd_146) rfl rfl rfl (by decide +kernel) ⟨Nat.le_of_ble_eq_true rfl, Nat.le_of_ble_eq_true rfl⟩) ⟨pcX_blind, pcX_pre hP hK hD hS hX hF31 h⟩ rfl rfl hl.1 rfl (lv_room (Nat.le_of_ble_eq_true rfl)) d_G_times_74 ⟨Nat.le_of_ble_eq_true rfl, Nat.le_of_ble_eq_true rfl⟩) hS (fun q _ h => hF31 q h) hF31 (fun r32 u t H locs ht hvm h hB hz1 hk1 hS => ?_)
                obtain ⟨hP1, hK1, hD1⟩ := hB
                rw [ht] at hP1
                have hP : va_P D vwCl (wG a0 a1 a2 a3 a4 a5 c1 c2 c4 c5 made size_20 tooG_21 kept sizes rows_22 taken_30) H := hP1
                have hD : va_D A (wG a0 a1 a2 a3 a4 a5 c1 c2 c4 c5 made size_20 tooG_21 kept sizes rows_22 taken_30) := hD1.weaken (fun _ _ _ hq => hF31 _ hq)
                have hF33 := va_free (wc := (wG a0 a1 a2 a3 a4 a5 c1 c2 c4 c5 made size_20 tooG_21 kept sizes rows_22 taken_30)) hD hS hA [0, 1, 2, 3, 4, 5] rfl
                refine va_callv (va_runV (As := [.ref a1, .int r32]) (rest := []) ⟨hx, hb, hml, hown, hB⟩ (c_W_multiplyByTerm l D a0 a1 a2 a3 a4 a5 c1 c2 c4 c5 H.size made size_20 tooG_21 kept sizes rows_22 taken_30 r32 _) (cwV 2 hB (goodV wd_202 wd_203 wd_204 wd_2 wd_205) rfl rfl rfl (by decide +kernel) ⟨Nat.le_of_ble_eq_true rfl, Nat.le_of_ble_eq_true rfl⟩) ⟨pcX_blind, va_recv hK hP (ci := 0) (q0 := 3) rfl rfl, pcX_pre hP hK hD hS hX hF33 h⟩ rfl rfl hl.1 rfl (lv_room (Nat.le_of_ble_eq_true rfl)) d_G_times_77 ⟨Nat.le_of_ble_eq_true rfl, Nat.le_of_ble_eq_true rfl⟩) hS (fun q _ h => hF33 q h) hF33 (fun u t H locs ht hvm h hB hz1 hk1 hS => ?_)
                obtain ⟨tooG_34, taken_35⟩ := u
                obtain ⟨hP1, hK1, hD1⟩ := hB
                rw [ht] at hP1
                have hP : va_P D vwCl (wG a0 a1 a2 a3 a4 a5 c1 c2 c4 c5 made size_20 tooG_34 kept sizes rows_22 taken_35) H := hP1
                have hD : va_D A (wG a0 a1 a2 a3 a4 a5 c1 c2 c4 c5 made size_20 tooG_34 kept sizes rows_22 taken_35) := hD1.weaken (fun _ _ _ hq => hF33 _ hq)
                refine lv_aload_n hx hb d_G_times_80 rfl (lv_at hl 2 rfl) ?_
                refine va_get (D := D) (ci := 1) (v := .ref a3) (C := R_G) (T := F_G) (N := 4) hx hb hB inF_G hown hK hP 0 rfl rfl 2 (by decide) (hB _ wd_37) (fun _ h9 => h9) rfl d_G_times_81 ?_
                have hF36 := va_free (wc := (wG a0 a1 a2 a3 a4 a5 c1 c2 c4 c5 made size_20 tooG_34 kept sizes rows_22 taken_35)) hD hS hA [0, 1, 2, 3, 4, 5] rfl
                refine va_callv (va_runV (As := []) (rest := []) ⟨hx, hb, hml, hown, hB⟩ (c_W_putTaken l D a0 a1 a2 a3 a4 a5 c1 c2 c4 c5 H.size made size_20 tooG_34 kept sizes rows_22 taken_35 _) (cwV 0 hB (goodV wd_120 wd_121 wd_122 wd_2 wd_123) rfl rfl rfl (by decide +kernel) ⟨Nat.le_of_ble_eq_true rfl, Nat.le_of_ble_eq_true rfl⟩) ⟨pcX_blind, va_recv hK hP (ci := 0) (q0 := 3) rfl rfl, pcX_pre hP hK hD hS hX hF36 h⟩ rfl rfl hl.1 rfl (lv_room (Nat.le_of_ble_eq_true rfl)) d_G_times_84 ⟨Nat.le_of_ble_eq_true rfl, Nat.le_of_ble_eq_true rfl⟩) hS (fun q _ h => hF36 q h) hF36 (fun u t H locs ht hvm h hB hz1 hk1 hS => ?_)
                obtain ⟨size_37, tooG_38, rows_39⟩ := u
                obtain ⟨hP1, hK1, hD1⟩ := hB
                rw [ht] at hP1
                have hP : va_P D vwCl (wG a0 a1 a2 a3 a4 a5 c1 c2 c4 c5 made size_37 tooG_38 kept sizes rows_39 taken_35) H := hP1
                have hD : va_D A (wG a0 a1 a2 a3 a4 a5 c1 c2 c4 c5 made size_37 tooG_38 kept sizes rows_39 taken_35) := hD1.weaken (fun _ _ _ hq => hF36 _ hq)
                obtain ⟨x40, ex40⟩ : ∃ z : Int32, z = v4_19 + 1 := ⟨_, rfl⟩
                replace h := h x40 ex40
                refine lv_iinc (v := x40) (lv' := [(4, .int x40), (3, .int v3_7), (0, .ref a0), (1, .int p0), (2, .int p1)]) hx hb d_G_times_87 hl (k := 0) rfl (by rw [ex40]; rfl) (by decide) rfl (fun ls hl => ?_)
                refine lv_goto (tgt := 36) hx hb d_G_times_90 (by decide) ?_
                exact Ge36 _ _ _ (ihL36 x40 size_37 tooG_38 rows_39 taken_35 _ _ _ hP hD hS (lv_sub hl [0, 1, 2, 3, 4] rfl) h)
set_option maxHeartbeats 4000000 in
set_option maxRecDepth 100000 in
theorem c_G_over (l : Launch) (D : va_G) (a0 a1 a2 a3 a4 a5 : Nat) (c1 c2 c4 c5 : ClassId) (sz : Nat) (made : Int32) (size : Int32) (tooG : Int32) (kept : (Nat → Int32)) (sizes : (Nat → Int32)) (rows : (Nat → Int32)) (taken : (Nat → Int32)) (p0 : Int32) (p1 : Int32) (post : Int32 → Int32 → Int32 → Int32 → (Nat → Int32) → (Nat → Int32) → (Nat → Int32) → (Nat → Int32) → Prop) (postx : String → Int32 → Int32 → Int32 → (Nat → Int32) → (Nat → Int32) → (Nat → Int32) → (Nat → Int32) → Prop) (hst : l.stackTraces = false) : vx_Met l y_G_over (Cond.code y_G_over b_G_over 4 (some .int) :: BIG) ({ frames := 7, cells := 4, slots := 24, locals := 130 }) (va_Pc [.ref a0, .int p0, .int p1] (pcX D vwCl (wG a0 a1 a2 a3 a4 a5 c1 c2 c4 c5 made size tooG kept sizes rows taken) [(c1, .int), (c2, .int), (c4, .int), (c5, .int)] sz (wp_G_over made size tooG kept sizes rows taken p0 p1 post postx))) (va_Qi (fun (r : Int32) (u : Int32 × Int32 × Int32 × (Nat → Int32) × (Nat → Int32) × (Nat → Int32) × (Nat → Int32)) => post r (u.1) (u.2.1) (u.2.2.1) (u.2.2.2.1) (u.2.2.2.2.1) (u.2.2.2.2.2.1) (u.2.2.2.2.2.2)) (fun u => atG D vwCl [(c1, .int), (c2, .int), (c4, .int), (c5, .int)] (va_A (wG a0 a1 a2 a3 a4 a5 c1 c2 c4 c5 made size tooG kept sizes rows taken) sz) (wG a0 a1 a2 a3 a4 a5 c1 c2 c4 c5 (u.1) (u.2.1) (u.2.2.1) (u.2.2.2.1) (u.2.2.2.2.1) (u.2.2.2.2.2.1) (u.2.2.2.2.2.2))) (va_A (wG a0 a1 a2 a3 a4 a5 c1 c2 c4 c5 made size tooG kept sizes rows taken) sz)) (vx_X (fun _ : Int32 × Int32 × Int32 × (Nat → Int32) × (Nat → Int32) × (Nat → Int32) × (Nat → Int32) => True) (fun E u => atX D vwCl [(c1, .int), (c2, .int), (c4, .int), (c5, .int)] (va_A (wG a0 a1 a2 a3 a4 a5 c1 c2 c4 c5 made size tooG kept sizes rows taken) sz) (wG a0 a1 a2 a3 a4 a5 c1 c2 c4 c5 (u.1) (u.2.1) (u.2.2.1) (u.2.2.2.1) (u.2.2.2.2.1) (u.2.2.2.2.2.1) (u.2.2.2.2.2.2)) (postx E (u.1) (u.2.1) (u.2.2.1) (u.2.2.2.1) (u.2.2.2.2.1) (u.2.2.2.2.2.1) (u.2.2.2.2.2.2))) (va_A (wG a0 a1 a2 a3 a4 a5 c1 c2 c4 c5 made size tooG kept sizes rows taken) sz)) 4 24 (va_A (wG a0 a1 a2 a3 a4 a5 c1 c2 c4 c5 made size tooG kept sizes rows taken) sz) := by
  refine vx_ofW (cc := b_G_over) (maxL := 4) (ret := (some .int)) (by decide) rfl ?_
  intro p e s m args below meth c s₁ B hml hno hv
  obtain ⟨rfl, hsz, hP, hK, hD0, hX, h⟩ := hv
  have hx := B.exec
  have hb := B.bytes
  have hr := B.returns
  have hB : ∀ w ∈ BIG, w.before _ s = true := fun w h => atoms_spec (ws := (Cond.code y_G_over b_G_over 4 (some .int) :: BIG)) B.pre w (List.mem_cons_of_mem _ h)
  have hown : s.vm.findClass R_G = some m.cls := findClass_of_methodNamed B.named
  have hlocks := B.notSynchronized
  subst hsz
  have hD := hD0.self (sz := s.heap.size)
  generalize hAe : va_A (wG a0 a1 a2 a3 a4 a5 c1 c2 c4 c5 made size tooG kept sizes rows taken) s.heap.size = A at hD hX ⊢
  have hA : ∀ q : Nat, s.heap.size ≤ q → A q := fun q h => by rw [← hAe]; exact Or.inr h
  have hl := lv_entry ([.ref a0, .int p0, .int p1]) (n := 4) (Nat.le_of_ble_eq_true rfl)
  rw [lg_entry_eq]
  generalize (lg_sl ([.ref a0, .int p0, .int p1]) ++ List.replicate (4 - (lg_sl ([.ref a0, .int p0, .int p1])).length) Slot.unset).toArray = ls at hl ⊢
  have hl : lv_has ls 4 [(0, .ref a0), (1, .int p0), (2, .int p1)] := hl
  refine W.cap (fun G Gi Ge => ?_)
  suffices hL : ∀ (H : Heap) (locs : List Loc), va_P D vwCl (wG a0 a1 a2 a3 a4 a5 c1 c2 c4 c5 made size tooG kept sizes rows taken) H → va_S A s.heap H locs → G H locs (F0 m 0 ls []) from hL _ _ hP va_S.rf
  clear hP
  intro H locs hP hS
  refine Gi _ _ _ ?_
  unfold wp_G_over at h
  refine lv_aload_n hx hb d_G_over_0 rfl (lv_at hl 0 rfl) ?_
  refine lv_iload_n hx hb d_G_over_1 rfl (lv_at hl 1 rfl) ?_
  have hF1 := va_free (wc := (wG a0 a1 a2 a3 a4 a5 c1 c2 c4 c5 made size tooG kept sizes rows taken)) hD hS hA [0, 1, 2, 3, 4, 5] rfl
  refine vx_callv (vx_runV (As := [.int p0]) (rest := []) ⟨hx, hb, hml, hown, hB⟩ (c_G_requireFunction l D a0 a1 a2 a3 a4 a5 c1 c2 c4 c5 H.size made size tooG kept sizes rows taken p0 _ _ hst) (cwV 1 hB (goodV wd_178 wd_179 wd_497 wd_1 wd_180) rfl rfl rfl (by decide +kernel) ⟨Nat.le_of_ble_eq_true rfl, Nat.le_of_ble_eq_true rfl⟩) ⟨pcX_blind, va_recv hK hP (ci := 1) (q0 := 0) rfl rfl, pcX_pre hP hK hD hS hX hF1 h⟩ rfl rfl hl.1 rfl (lv_room (Nat.le_of_ble_eq_true rfl)) d_G_over_2 ⟨Nat.le_of_ble_eq_true rfl, Nat.le_of_ble_eq_true rfl⟩) hS (fun q _ h => hF1 q h) hF1 (fun q _ h => hF1 q h) (fun E ce q9 u t H locs ht hvm _ hB hz1 hk1 hS hce hcv hcl => ?_) (fun u t H locs ht hvm h hB hz1 hk1 hS => ?_)
  · -- thrown
    obtain ⟨h1, hP1, hK1, hD1⟩ := hB
    replace h := h1
    rw [ht] at hP1
    have hP : va_P D vwCl (wG a0 a1 a2 a3 a4 a5 c1 c2 c4 c5 made size tooG kept sizes rows taken) H := hP1
    have hD : va_D A (wG a0 a1 a2 a3 a4 a5 c1 c2 c4 c5 made size tooG kept sizes rows taken) := hD1.weaken (fun _ _ _ hq => hF1 _ hq)
    exact vx_out (fun x hx => (hno x hx).elim) hlocks hce hcv hcl (fun t9 ht9 hW9 => ⟨(made, size, tooG, kept, sizes, rows, taken), trivial, ⟨h, by rw [ht9]; exact hP, va_K.moved hW9 hK, hD⟩, hS.F ht9⟩) hS.2.2 (by omega) (by omega)
  ·
    obtain ⟨hP1, hK1, hD1⟩ := hB
    rw [ht] at hP1
    have hP : va_P D vwCl (wG a0 a1 a2 a3 a4 a5 c1 c2 c4 c5 made size tooG kept sizes rows taken) H := hP1
    have hD : va_D A (wG a0 a1 a2 a3 a4 a5 c1 c2 c4 c5 made size tooG kept sizes rows taken) := hD1.weaken (fun _ _ _ hq => hF1 _ hq)
    refine W.widen (k := 1) (n := 6) (by omega) (by omega) ?_
    refine lv_aload_n hx hb d_G_over_5 rfl (lv_at hl 0 rfl) ?_
    refine lv_iload_n hx hb d_G_over_6 rfl (lv_at hl 2 rfl) ?_
    have hF2 := va_free (wc := (wG a0 a1 a2 a3 a4 a5 c1 c2 c4 c5 made size tooG kept sizes rows taken)) hD hS hA [0, 1, 2, 3, 4, 5] rfl
    refine vx_callv (vx_runV (As := [.int p1]) (rest := []) ⟨hx, hb, hml, hown, hB⟩ (c_G_requireFunction l D a0 a1 a2 a3 a4 a5 c1 c2 c4 c5 H.size made size tooG kept sizes rows taken p1 _ _ hst) (cwV 1 hB (goodV wd_178 wd_179 wd_497 wd_1 wd_180) rfl rfl rfl (by decide +kernel) ⟨Nat.le_of_ble_eq_true rfl, Nat.le_of_ble_eq_true rfl⟩) ⟨pcX_blind, va_recv hK hP (ci := 1) (q0 := 0) rfl rfl, pcX_pre hP hK hD hS hX hF2 h⟩ rfl rfl hl.1 rfl (lv_room (Nat.le_of_ble_eq_true rfl)) d_G_over_7 ⟨Nat.le_of_ble_eq_true rfl, Nat.le_of_ble_eq_true rfl⟩) hS (fun q _ h => hF2 q h) hF2 (fun q _ h => hF2 q h) (fun E ce q9 u t H locs ht hvm _ hB hz1 hk1 hS hce hcv hcl => ?_) (fun u t H locs ht hvm h hB hz1 hk1 hS => ?_)
    · -- thrown
      obtain ⟨h1, hP1, hK1, hD1⟩ := hB
      replace h := h1
      rw [ht] at hP1
      have hP : va_P D vwCl (wG a0 a1 a2 a3 a4 a5 c1 c2 c4 c5 made size tooG kept sizes rows taken) H := hP1
      have hD : va_D A (wG a0 a1 a2 a3 a4 a5 c1 c2 c4 c5 made size tooG kept sizes rows taken) := hD1.weaken (fun _ _ _ hq => hF2 _ hq)
      exact vx_out (fun x hx => (hno x hx).elim) hlocks hce hcv hcl (fun t9 ht9 hW9 => ⟨(made, size, tooG, kept, sizes, rows, taken), trivial, ⟨h, by rw [ht9]; exact hP, va_K.moved hW9 hK, hD⟩, hS.F ht9⟩) hS.2.2 (by omega) (by omega)
    ·
      obtain ⟨hP1, hK1, hD1⟩ := hB
      rw [ht] at hP1
      have hP : va_P D vwCl (wG a0 a1 a2 a3 a4 a5 c1 c2 c4 c5 made size tooG kept sizes rows taken) H := hP1
      have hD : va_D A (wG a0 a1 a2 a3 a4 a5 c1 c2 c4 c5 made size tooG kept sizes rows taken) := hD1.weaken (fun _ _ _ hq => hF2 _ hq)
      refine W.widen (k := 2) (n := 12) (by omega) (by omega) ?_
      refine lv_aload_n hx hb d_G_over_10 rfl (lv_at hl 0 rfl) ?_
      have hF3 := va_free (wc := (wG a0 a1 a2 a3 a4 a5 c1 c2 c4 c5 made size tooG kept sizes rows taken)) hD hS hA [0, 1, 2, 3, 4, 5] rfl
      refine vx_callv (vx_runV (As := []) (rest := []) ⟨hx, hb, hml, hown, hB⟩ (c_G_requireRoom l D a0 a1 a2 a3 a4 a5 c1 c2 c4 c5 H.size made size tooG kept sizes rows taken _ _ hst) (cwV 0 hB (goodV wd_88 wd_89 wd_489 wd_1 wd_90) rfl rfl rfl (by decide +kernel) ⟨Nat.le_of_ble_eq_true rfl, Nat.le_of_ble_eq_true rfl⟩) ⟨pcX_blind, va_recv hK hP (ci := 1) (q0 := 0) rfl rfl, pcX_pre hP hK hD hS hX hF3 h⟩ rfl rfl hl.1 rfl (lv_room (Nat.le_of_ble_eq_true rfl)) d_G_over_11 ⟨Nat.le_of_ble_eq_true rfl, Nat.le_of_ble_eq_true rfl⟩) hS (fun q _ h => hF3 q h) hF3 (fun q _ h => hF3 q h) (fun E ce q9 u t H locs ht hvm _ hB hz1 hk1 hS hce hcv hcl => ?_) (fun u t H locs ht hvm h hB hz1 hk1 hS => ?_)
      · -- thrown
        obtain ⟨h1, hP1, hK1, hD1⟩ := hB
        replace h := h1
        rw [ht] at hP1
        have hP : va_P D vwCl (wG a0 a1 a2 a3 a4 a5 c1 c2 c4 c5 made size tooG kept sizes rows taken) H := hP1
        have hD : va_D A (wG a0 a1 a2 a3 a4 a5 c1 c2 c4 c5 made size tooG kept sizes rows taken) := hD1.weaken (fun _ _ _ hq => hF3 _ hq)
        exact vx_out (fun x hx => (hno x hx).elim) hlocks hce hcv hcl (fun t9 ht9 hW9 => ⟨(made, size, tooG, kept, sizes, rows, taken), trivial, ⟨h, by rw [ht9]; exact hP, va_K.moved hW9 hK, hD⟩, hS.F ht9⟩) hS.2.2 (by omega) (by omega)
      ·
        obtain ⟨hP1, hK1, hD1⟩ := hB
        rw [ht] at hP1
        have hP : va_P D vwCl (wG a0 a1 a2 a3 a4 a5 c1 c2 c4 c5 made size tooG kept sizes rows taken) H := hP1
        have hD : va_D A (wG a0 a1 a2 a3 a4 a5 c1 c2 c4 c5 made size tooG kept sizes rows taken) := hD1.weaken (fun _ _ _ hq => hF3 _ hq)
        refine W.widen (k := 3) (n := 18) (by omega) (by omega) ?_
        refine lv_aload_n hx hb d_G_over_14 rfl (lv_at hl 0 rfl) ?_
        refine va_get (D := D) (ci := 1) (v := .ref a2) (C := R_G) (T := F_G) (N := 4) hx hb hB inF_G hown hK hP 0 rfl rfl 1 (by decide) (hB _ wd_36) (fun _ h9 => h9) rfl d_G_over_15 ?_
        refine lv_iload_n hx hb d_G_over_18 rfl (lv_at hl 2 rfl) ?_
        obtain ⟨g4, h⟩ := h
        refine va_iald hx hb hK hP 2 1 rfl rfl g4 d_G_over_19 ?_
        refine lv_iconst (v := 1) hx hb d_G_over_20 (by decide) ?_
        refine lv_icmp_eq (tgt := 26) hx hb d_G_over_21 (by decide) (fun hc5 => ?_) (fun hc5 => ?_)
        · replace h := h.1 hc5
          refine lv_aload_n hx hb d_G_over_26 rfl (lv_at hl 0 rfl) ?_
          refine va_get (D := D) (ci := 1) (v := .ref a3) (C := R_G) (T := F_G) (N := 4) hx hb hB inF_G hown hK hP 0 rfl rfl 2 (by decide) (hB _ wd_37) (fun _ h9 => h9) rfl d_G_over_27 ?_
          have hF6 := va_free (wc := (wG a0 a1 a2 a3 a4 a5 c1 c2 c4 c5 made size tooG kept sizes rows taken)) hD hS hA [0, 1, 2, 3, 4, 5] rfl
          refine va_callv (va_runV (As := []) (rest := []) ⟨hx, hb, hml, hown, hB⟩ (c_W_begin l D a0 a1 a2 a3 a4 a5 c1 c2 c4 c5 H.size made size tooG kept sizes rows taken _) (cwV 0 hB (goodV wd_98 wd_99 wd_100 wd_2 wd_101) rfl rfl rfl (by decide +kernel) ⟨Nat.le_of_ble_eq_true rfl, Nat.le_of_ble_eq_true rfl⟩) ⟨pcX_blind, va_recv hK hP (ci := 0) (q0 := 3) rfl rfl, pcX_pre hP hK hD hS hX hF6 h⟩ rfl rfl hl.1 rfl (lv_room (Nat.le_of_ble_eq_true rfl)) d_G_over_30 ⟨Nat.le_of_ble_eq_true rfl, Nat.le_of_ble_eq_true rfl⟩) hS (fun q _ h => hF6 q h) hF6 (fun u t H locs ht hvm h hB hz1 hk1 hS => ?_)
          obtain ⟨size_7, tooG_8⟩ := u
          obtain ⟨hP1, hK1, hD1⟩ := hB
          rw [ht] at hP1
          have hP : va_P D vwCl (wG a0 a1 a2 a3 a4 a5 c1 c2 c4 c5 made size_7 tooG_8 kept sizes rows taken) H := hP1
          have hD : va_D A (wG a0 a1 a2 a3 a4 a5 c1 c2 c4 c5 made size_7 tooG_8 kept sizes rows taken) := hD1.weaken (fun _ _ _ hq => hF6 _ hq)
          refine lv_iconst (v := 0) hx hb d_G_over_33 (by decide) ?_
          refine lv_istore_n (lv' := [(3, .int 0), (0, .ref a0), (1, .int p0), (2, .int p1)]) hx hb d_G_over_34 rfl hl (by decide) rfl (fun ls hl => ?_)
          obtain ⟨n35, h⟩ := h
          refine W.cap (fun G35 Gi35 Ge35 => ?_)
          suffices hL35 : ∀ (n35 : Nat) (v3_9 : Int32) (size_10 : Int32) (tooG_11 : Int32) (rows_12 : (Nat → Int32)) (taken_13 : (Nat → Int32)) (H : Heap) (locs : List Loc) (ls : Array Slot), va_P D vwCl (wG a0 a1 a2 a3 a4 a5 c1 c2 c4 c5 made size_10 tooG_11 kept sizes rows_12 taken_13) H → va_D A (wG a0 a1 a2 a3 a4 a5 c1 c2 c4 c5 made size_10 tooG_11 kept sizes rows_12 taken_13) → va_S A s.heap H locs → lv_has ls 4 [(3, .int v3_9), (0, .ref a0), (1, .int p0), (2, .int p1)] → lpW5 (wb_G_over_35 p0 sizes made kept post postx p1) n35 v3_9 size_10 tooG_11 rows_12 taken_13 → G35 H locs (F0 m 35 ls []) from hL35 n35 (0 : Int32) size_7 tooG_8 rows taken _ _ _ hP hD hS hl h
          clear h hP hD hS hl
          intro n35
          induction n35 with
          | zero => intro v3_9 size_10 tooG_11 rows_12 taken_13 H locs ls hP hD hS hl h; exact (show False from h).elim
          | succ n35 ihL35 =>
            intro v3_9 size_10 tooG_11 rows_12 taken_13 H locs ls hP hD hS hl h
            replace h : (wb_G_over_35 p0 sizes made kept post postx p1) (lpW5 (wb_G_over_35 p0 sizes made kept post postx p1) n35) v3_9 size_10 tooG_11 rows_12 taken_13 := h
            refine Gi35 _ _ _ ?_
            refine lv_iload_n hx hb d_G_over_35 rfl (lv_at hl 0 rfl) ?_
            refine lv_aload_n hx hb d_G_over_36 rfl (lv_at hl 1 rfl) ?_
            refine va_get (D := D) (ci := 1) (v := .ref a2) (C := R_G) (T := F_G) (N := 4) hx hb hB inF_G hown hK hP 0 rfl rfl 1 (by decide) (hB _ wd_36) (fun _ h9 => h9) rfl d_G_over_37 ?_
            refine lv_iload_n hx hb d_G_over_40 rfl (lv_at hl 2 rfl) ?_
            obtain ⟨g14, h⟩ := h
            refine va_iald hx hb hK hP 2 1 rfl rfl g14 d_G_over_41 ?_
            refine lv_icmp_ge (tgt := 90) hx hb d_G_over_42 (by decide) (fun hc15 => ?_) (fun hc15 => ?_)
            · replace h := h.1 hc15
              refine lv_aload_n hx hb d_G_over_90 rfl (lv_at hl 1 rfl) ?_
              have hF16 := va_free (wc := (wG a0 a1 a2 a3 a4 a5 c1 c2 c4 c5 made size_10 tooG_11 kept sizes rows_12 taken_13)) hD hS hA [0, 1, 2, 3, 4, 5] rfl
              refine vx_calli (vx_runV (As := []) (rest := []) ⟨hx, hb, hml, hown, hB⟩ (c_G_keep l D a0 a1 a2 a3 a4 a5 c1 c2 c4 c5 H.size made size_10 tooG_11 kept sizes rows_12 taken_13 _ _ hst) (cwV 0 hB (goodV wd_141 wd_142 wd_495 wd_1 wd_143) rfl rfl rfl (by decide +kernel) ⟨Nat.le_of_ble_eq_true rfl, Nat.le_of_ble_eq_true rfl⟩) ⟨pcX_blind, va_recv hK hP (ci := 1) (q0 := 0) rfl rfl, pcX_pre hP hK hD hS hX hF16 h⟩ rfl rfl hl.1 rfl (lv_room (Nat.le_of_ble_eq_true rfl)) d_G_over_91 ⟨Nat.le_of_ble_eq_true rfl, Nat.le_of_ble_eq_true rfl⟩) hS (fun q _ h => hF16 q h) hF16 (fun q _ h => hF16 q h) (fun E ce q9 u t H locs ht hvm _ hB hz1 hk1 hS hce hcv hcl => ?_) (fun r17 u t H locs ht hvm h hB hz1 hk1 hS => ?_)
              · -- thrown
                obtain ⟨made_18, kept_19, sizes_20⟩ := u
                obtain ⟨h1, hP1, hK1, hD1⟩ := hB
                replace h := h1
                rw [ht] at hP1
                have hP : va_P D vwCl (wG a0 a1 a2 a3 a4 a5 c1 c2 c4 c5 made_18 size_10 tooG_11 kept_19 sizes_20 rows_12 taken_13) H := hP1
                have hD : va_D A (wG a0 a1 a2 a3 a4 a5 c1 c2 c4 c5 made_18 size_10 tooG_11 kept_19 sizes_20 rows_12 taken_13) := hD1.weaken (fun _ _ _ hq => hF16 _ hq)
                exact vx_out (fun x hx => (hno x hx).elim) hlocks hce hcv hcl (fun t9 ht9 hW9 => ⟨(made_18, size_10, tooG_11, kept_19, sizes_20, rows_12, taken_13), trivial, ⟨h, by rw [ht9]; exact hP, va_K.moved hW9 hK, hD⟩, hS.F ht9⟩) hS.2.2 (by omega) (by omega)
              ·
                obtain ⟨made_18, kept_19, sizes_20⟩ := u
                obtain ⟨hP1, hK1, hD1⟩ := hB
                rw [ht] at hP1
                have hP : va_P D vwCl (wG a0 a1 a2 a3 a4 a5 c1 c2 c4 c5 made_18 size_10 tooG_11 kept_19 sizes_20 rows_12 taken_13) H := hP1
                have hD : va_D A (wG a0 a1 a2 a3 a4 a5 c1 c2 c4 c5 made_18 size_10 tooG_11 kept_19 sizes_20 rows_12 taken_13) := hD1.weaken (fun _ _ _ hq => hF16 _ hq)
                refine W.widen (k := 4) (n := 24) (by omega) (by omega) ?_
                exact vx_ret (W.iret (v := r17) hx hb hr (fun t ht hW => ⟨⟨r17, (made_18, size_10, tooG_11, kept_19, sizes_20, rows_12, taken_13), rfl, h, by rw [ht]; exact hP, va_K.moved hW.alike hK, hD⟩, hS.F ht⟩) hS.2.2 d_G_over_94)
            · replace h := h.2 hc15
              refine lv_aload_n hx hb d_G_over_45 rfl (lv_at hl 1 rfl) ?_
              refine va_get (D := D) (ci := 1) (v := .ref a3) (C := R_G) (T := F_G) (N := 4) hx hb hB inF_G hown hK hP 0 rfl rfl 2 (by decide) (hB _ wd_37) (fun _ h9 => h9) rfl d_G_over_46 ?_
              refine lv_aload_n hx hb d_G_over_49 rfl (lv_at hl 1 rfl) ?_
              refine va_get (D := D) (ci := 1) (v := .ref a1) (C := R_G) (T := F_G) (N := 4) hx hb hB inF_G hown hK hP 0 rfl rfl 0 (by decide) (hB _ wd_35) (fun _ h9 => h9) rfl d_G_over_50 ?_
              refine lv_iload_n hx hb d_G_over_53 rfl (lv_at hl 2 rfl) ?_
              refine lv_iload_n hx hb d_G_over_54 rfl (lv_at hl 0 rfl) ?_
              have hF21 := va_free (wc := (wG a0 a1 a2 a3 a4 a5 c1 c2 c4 c5 made size_10 tooG_11 kept sizes rows_12 taken_13)) hD hS hA [0, 1, 2, 3, 4, 5] rfl
              refine va_calli (va_runS (As := [.int p0, .int v3_9]) (rest := [.ref a1, .ref a3]) ⟨hx, hb, hml, hown, hB⟩ (c_G_rowOf l D a0 a1 a2 a3 a4 a5 c1 c2 c4 c5 H.size made size_10 tooG_11 kept sizes rows_12 taken_13 p0 v3_9 _) (cwS 2 hB (goodS wd_144 wd_145 wd_1 wd_146) rfl rfl rfl (by decide +kernel) ⟨Nat.le_of_ble_eq_true rfl, Nat.le_of_ble_eq_true rfl⟩) ⟨pcX_blind, pcX_pre hP hK hD hS hX hF21 h⟩ rfl rfl hl.1 rfl (lv_room (Nat.le_of_ble_eq_true rfl)) d_G_over_55 ⟨Nat.le_of_ble_eq_true rfl, Nat.le_of_ble_eq_true rfl⟩) hS (fun q _ h => hF21 q h) hF21 (fun r22 u t H locs ht hvm h hB hz1 hk1 hS => ?_)
              obtain ⟨hP1, hK1, hD1⟩ := hB
              rw [ht] at hP1
              have hP : va_P D vwCl (wG a0 a1 a2 a3 a4 a5 c1 c2 c4 c5 made size_10 tooG_11 kept sizes rows_12 taken_13) H := hP1
              have hD : va_D A (wG a0 a1 a2 a3 a4 a5 c1 c2 c4 c5 made size_10 tooG_11 kept sizes rows_12 taken_13) := hD1.weaken (fun _ _ _ hq => hF21 _ hq)
              have hF23 := va_free (wc := (wG a0 a1 a2 a3 a4 a5 c1 c2 c4 c5 made size_10 tooG_11 kept sizes rows_12 taken_13)) hD hS hA [0, 1, 2, 3, 4, 5] rfl
              refine va_callv (va_runV (As := [.ref a1, .int r22]) (rest := []) ⟨hx, hb, hml, hown, hB⟩ (c_W_take l D a0 a1 a2 a3 a4 a5 c1 c2 c4 c5 H.size made size_10 tooG_11 kept sizes rows_12 taken_13 r22 _) (cwV 2 hB (goodV wd_191 wd_192 wd_193 wd_2 wd_194) rfl rfl rfl (by decide +kernel) ⟨Nat.le_of_ble_eq_true rfl, Nat.le_of_ble_eq_true rfl⟩) ⟨pcX_blind, va_recv hK hP (ci := 0) (q0 := 3) rfl rfl, pcX_pre hP hK hD hS hX hF23 h⟩ rfl rfl hl.1 rfl (lv_room (Nat.le_of_ble_eq_true rfl)) d_G_over_58 ⟨Nat.le_of_ble_eq_true rfl, Nat.le_of_ble_eq_true rfl⟩) hS (fun q _ h => hF23 q h) hF23 (fun taken_24 t H locs ht hvm h hB hz1 hk1 hS => ?_)
              obtain ⟨hP1, hK1, hD1⟩ := hB
              rw [ht] at hP1
              have hP : va_P D vwCl (wG a0 a1 a2 a3 a4 a5 c1 c2 c4 c5 made size_10 tooG_11 kept sizes rows_12 taken_24) H := hP1
              have hD : va_D A (wG a0 a1 a2 a3 a4 a5 c1 c2 c4 c5 made size_10 tooG_11 kept sizes rows_12 taken_24) := hD1.weaken (fun _ _ _ hq => hF23 _ hq)
              refine lv_aload_n hx hb d_G_over_61 rfl (lv_at hl 1 rfl) ?_
              refine va_get (D := D) (ci := 1) (v := .ref a3) (C := R_G) (T := F_G) (N := 4) hx hb hB inF_G hown hK hP 0 rfl rfl 2 (by decide) (hB _ wd_37) (fun _ h9 => h9) rfl d_G_over_62 ?_
              refine lv_aload_n hx hb d_G_over_65 rfl (lv_at hl 1 rfl) ?_
              refine va_get (D := D) (ci := 1) (v := .ref a1) (C := R_G) (T := F_G) (N := 4) hx hb hB inF_G hown hK hP 0 rfl rfl 0 (by decide) (hB _ wd_35) (fun _ h9 => h9) rfl d_G_over_66 ?_
              refine lv_iload_n hx hb d_G_over_69 rfl (lv_at hl 3 rfl) ?_
              refine lv_iconst (v := 0) hx hb d_G_over_70 (by decide) ?_
              have hF25 := va_free (wc := (wG a0 a1 a2 a3 a4 a5 c1 c2 c4 c5 made size_10 tooG_11 kept sizes rows_12 taken_24)) hD hS hA [0, 1, 2, 3, 4, 5] rfl
              refine va_calli (va_runS (As := [.int p1, .int 0]) (rest := [.ref a1, .ref a3]) ⟨hx, hb, hml, hown, hB⟩ (c_G_rowOf l D a0 a1 a2 a3 a4 a5 c1 c2 c4 c5 H.size made size_10 tooG_11 kept sizes rows_12 taken_24 p1 0 _) (cwS 2 hB (goodS wd_144 wd_145 wd_1 wd_146) rfl rfl rfl (by decide +kernel) ⟨Nat.le_of_ble_eq_true rfl, Nat.le_of_ble_eq_true rfl⟩) ⟨pcX_blind, pcX_pre hP hK hD hS hX hF25 h⟩ rfl rfl hl.1 rfl (lv_room (Nat.le_of_ble_eq_true rfl)) d_G_over_71 ⟨Nat.le_of_ble_eq_true rfl, Nat.le_of_ble_eq_true rfl⟩) hS (fun q _ h => hF25 q h) hF25 (fun r26 u t H locs ht hvm h hB hz1 hk1 hS => ?_)
              obtain ⟨hP1, hK1, hD1⟩ := hB
              rw [ht] at hP1
              have hP : va_P D vwCl (wG a0 a1 a2 a3 a4 a5 c1 c2 c4 c5 made size_10 tooG_11 kept sizes rows_12 taken_24) H := hP1
              have hD : va_D A (wG a0 a1 a2 a3 a4 a5 c1 c2 c4 c5 made size_10 tooG_11 kept sizes rows_12 taken_24) := hD1.weaken (fun _ _ _ hq => hF25 _ hq)
              have hF27 := va_free (wc := (wG a0 a1 a2 a3 a4 a5 c1 c2 c4 c5 made size_10 tooG_11 kept sizes rows_12 taken_24)) hD hS hA [0, 1, 2, 3, 4, 5] rfl
              refine va_callv (va_runV (As := [.ref a1, .int r26]) (rest := []) ⟨hx, hb, hml, hown, hB⟩ (c_W_divideByTerm l D a0 a1 a2 a3 a4 a5 c1 c2 c4 c5 H.size made size_10 tooG_11 kept sizes rows_12 taken_24 r26 _) (cwV 2 hB (goodV wd_215 wd_216 wd_217 wd_2 wd_218) rfl rfl rfl (by decide +kernel) ⟨Nat.le_of_ble_eq_true rfl, Nat.le_of_ble_eq_true rfl⟩) ⟨pcX_blind, va_recv hK hP (ci := 0) (q0 := 3) rfl rfl, pcX_pre hP hK hD hS hX hF27 h⟩ rfl rfl hl.1 rfl (lv_room (Nat.le_of_ble_eq_true rfl)) d_G_over_74 ⟨Nat.le_of_ble_eq_true rfl, Nat.le_of_ble_eq_true rfl⟩) hS (fun q _ h => hF27 q h) hF27 (fun u t H locs ht hvm h hB hz1 hk1 hS => ?_)
              obtain ⟨tooG_28, taken_29⟩ := u
              obtain ⟨hP1, hK1, hD1⟩ := hB
              rw [ht] at hP1
              have hP : va_P D vwCl (wG a0 a1 a2 a3 a4 a5 c1 c2 c4 c5 made size_10 tooG_28 kept sizes rows_12 taken_29) H := hP1
              have hD : va_D A (wG a0 a1 a2 a3 a4 a5 c1 c2 c4 c5 made size_10 tooG_28 kept sizes rows_12 taken_29) := hD1.weaken (fun _ _ _ hq => hF27 _ hq)
              refine lv_aload_n hx hb d_G_over_77 rfl (lv_at hl 1 rfl) ?_
              refine va_get (D := D) (ci := 1) (v := .ref a3) (C := R_G) (T := F_G) (N := 4) hx hb hB inF_G hown hK hP 0 rfl rfl 2 (by decide) (hB _ wd_37) (fun _ h9 => h9) rfl d_G_over_78 ?_
              have hF30 := va_free (wc := (wG a0 a1 a2 a3 a4 a5 c1 c2 c4 c5 made size_10 tooG_28 kept sizes rows_12 taken_29)) hD hS hA [0, 1, 2, 3, 4, 5] rfl
              refine va_callv (va_runV (As := []) (rest := []) ⟨hx, hb, hml, hown, hB⟩ (c_W_putTaken l D a0 a1 a2 a3 a4 a5 c1 c2 c4 c5 H.size made size_10 tooG_28 kept sizes rows_12 taken_29 _) (cwV 0 hB (goodV wd_120 wd_121 wd_122 wd_2 wd_123) rfl rfl rfl (by decide +kernel) ⟨Nat.le_of_ble_eq_true rfl, Nat.le_of_ble_eq_true rfl⟩) ⟨pcX_blind, va_recv hK hP (ci := 0) (q0 := 3) rfl rfl, pcX_pre hP hK hD hS hX hF30 h⟩ rfl rfl hl.1 rfl (lv_room (Nat.le_of_ble_eq_true rfl)) d_G_over_81 ⟨Nat.le_of_ble_eq_true rfl, Nat.le_of_ble_eq_true rfl⟩) hS (fun q _ h => hF30 q h) hF30 (fun u t H locs ht hvm h hB hz1 hk1 hS => ?_)
              obtain ⟨size_31, tooG_32, rows_33⟩ := u
              obtain ⟨hP1, hK1, hD1⟩ := hB
              rw [ht] at hP1
              have hP : va_P D vwCl (wG a0 a1 a2 a3 a4 a5 c1 c2 c4 c5 made size_31 tooG_32 kept sizes rows_33 taken_29) H := hP1
              have hD : va_D A (wG a0 a1 a2 a3 a4 a5 c1 c2 c4 c5 made size_31 tooG_32 kept sizes rows_33 taken_29) := hD1.weaken (fun _ _ _ hq => hF30 _ hq)
              obtain ⟨x34, ex34⟩ : ∃ z : Int32, z = v3_9 + 1 := ⟨_, rfl⟩
              replace h := h x34 ex34
              refine lv_iinc (v := x34) (lv' := [(3, .int x34), (0, .ref a0), (1, .int p0), (2, .int p1)]) hx hb d_G_over_84 hl (k := 0) rfl (by rw [ex34]; rfl) (by decide) rfl (fun ls hl => ?_)
              refine lv_goto (tgt := 35) hx hb d_G_over_87 (by decide) ?_
              exact Ge35 _ _ _ (ihL35 x34 size_31 tooG_32 rows_33 taken_29 _ _ _ hP hD hS (lv_sub hl [0, 1, 2, 3] rfl) h)
        · replace h := h.2 hc5
          refine lv_iconst (v := (-1)) hx hb d_G_over_24 (by decide) ?_
          refine W.widen (k := 4) (n := 24) (by omega) (by omega) ?_
          exact vx_ret (W.iret (v := (-1)) hx hb hr (fun t ht hW => ⟨⟨(-1), (made, size, tooG, kept, sizes, rows, taken), rfl, h, by rw [ht]; exact hP, va_K.moved hW.alike hK, hD⟩, hS.F ht⟩) hS.2.2 d_G_over_25)
set_option maxHeartbeats 4000000 in
set_option maxRecDepth 100000 in
theorem c_G_derive (l : Launch) (D : va_G) (a0 a1 a2 a3 a4 a5 : Nat) (c1 c2 c4 c5 : ClassId) (sz : Nat) (made : Int32) (size : Int32) (tooG : Int32) (kept : (Nat → Int32)) (sizes : (Nat → Int32)) (rows : (Nat → Int32)) (taken : (Nat → Int32)) (p0 : Int32) (post : Int32 → Int32 → Int32 → Int32 → (Nat → Int32) → (Nat → Int32) → (Nat → Int32) → (Nat → Int32) → Prop) (postx : String → Int32 → Int32 → Int32 → (Nat → Int32) → (Nat → Int32) → (Nat → Int32) → (Nat → Int32) → Prop) (hst : l.stackTraces = false) : vx_Met l y_G_derive (Cond.code y_G_derive b_G_derive 4 (some .int) :: BIG) ({ frames := 7, cells := 3, slots := 18, locals := 153 }) (va_Pc [.ref a0, .int p0] (pcX D vwCl (wG a0 a1 a2 a3 a4 a5 c1 c2 c4 c5 made size tooG kept sizes rows taken) [(c1, .int), (c2, .int), (c4, .int), (c5, .int)] sz (wp_G_derive made size tooG kept sizes rows taken p0 post postx))) (va_Qi (fun (r : Int32) (u : Int32 × Int32 × Int32 × (Nat → Int32) × (Nat → Int32) × (Nat → Int32) × (Nat → Int32)) => post r (u.1) (u.2.1) (u.2.2.1) (u.2.2.2.1) (u.2.2.2.2.1) (u.2.2.2.2.2.1) (u.2.2.2.2.2.2)) (fun u => atG D vwCl [(c1, .int), (c2, .int), (c4, .int), (c5, .int)] (va_A (wG a0 a1 a2 a3 a4 a5 c1 c2 c4 c5 made size tooG kept sizes rows taken) sz) (wG a0 a1 a2 a3 a4 a5 c1 c2 c4 c5 (u.1) (u.2.1) (u.2.2.1) (u.2.2.2.1) (u.2.2.2.2.1) (u.2.2.2.2.2.1) (u.2.2.2.2.2.2))) (va_A (wG a0 a1 a2 a3 a4 a5 c1 c2 c4 c5 made size tooG kept sizes rows taken) sz)) (vx_X (fun _ : Int32 × Int32 × Int32 × (Nat → Int32) × (Nat → Int32) × (Nat → Int32) × (Nat → Int32) => True) (fun E u => atX D vwCl [(c1, .int), (c2, .int), (c4, .int), (c5, .int)] (va_A (wG a0 a1 a2 a3 a4 a5 c1 c2 c4 c5 made size tooG kept sizes rows taken) sz) (wG a0 a1 a2 a3 a4 a5 c1 c2 c4 c5 (u.1) (u.2.1) (u.2.2.1) (u.2.2.2.1) (u.2.2.2.2.1) (u.2.2.2.2.2.1) (u.2.2.2.2.2.2)) (postx E (u.1) (u.2.1) (u.2.2.1) (u.2.2.2.1) (u.2.2.2.2.1) (u.2.2.2.2.2.1) (u.2.2.2.2.2.2))) (va_A (wG a0 a1 a2 a3 a4 a5 c1 c2 c4 c5 made size tooG kept sizes rows taken) sz)) 3 18 (va_A (wG a0 a1 a2 a3 a4 a5 c1 c2 c4 c5 made size tooG kept sizes rows taken) sz) := by
  refine vx_ofW (cc := b_G_derive) (maxL := 4) (ret := (some .int)) (by decide) rfl ?_
  intro p e s m args below meth c s₁ B hml hno hv
  obtain ⟨rfl, hsz, hP, hK, hD0, hX, h⟩ := hv
  have hx := B.exec
  have hb := B.bytes
  have hr := B.returns
  have hB : ∀ w ∈ BIG, w.before _ s = true := fun w h => atoms_spec (ws := (Cond.code y_G_derive b_G_derive 4 (some .int) :: BIG)) B.pre w (List.mem_cons_of_mem _ h)
  have hown : s.vm.findClass R_G = some m.cls := findClass_of_methodNamed B.named
  have hlocks := B.notSynchronized
  subst hsz
  have hD := hD0.self (sz := s.heap.size)
  generalize hAe : va_A (wG a0 a1 a2 a3 a4 a5 c1 c2 c4 c5 made size tooG kept sizes rows taken) s.heap.size = A at hD hX ⊢
  have hA : ∀ q : Nat, s.heap.size ≤ q → A q := fun q h => by rw [← hAe]; exact Or.inr h
  have hl := lv_entry ([.ref a0, .int p0]) (n := 4) (Nat.le_of_ble_eq_true rfl)
  rw [lg_entry_eq]
  generalize (lg_sl ([.ref a0, .int p0]) ++ List.replicate (4 - (lg_sl ([.ref a0, .int p0])).length) Slot.unset).toArray = ls at hl ⊢
  have hl : lv_has ls 4 [(0, .ref a0), (1, .int p0)] := hl
  refine W.cap (fun G Gi Ge => ?_)
  suffices hL : ∀ (H : Heap) (locs : List Loc), va_P D vwCl (wG a0 a1 a2 a3 a4 a5 c1 c2 c4 c5 made size tooG kept sizes rows taken) H → va_S A s.heap H locs → G H locs (F0 m 0 ls []) from hL _ _ hP va_S.rf
  clear hP
  intro H locs hP hS
  refine Gi _ _ _ ?_
  unfold wp_G_derive at h
  refine lv_aload_n hx hb d_G_derive_0 rfl (lv_at hl 0 rfl) ?_
  refine lv_iload_n hx hb d_G_derive_1 rfl (lv_at hl 1 rfl) ?_
  have hF1 := va_free (wc := (wG a0 a1 a2 a3 a4 a5 c1 c2 c4 c5 made size tooG kept sizes rows taken)) hD hS hA [0, 1, 2, 3, 4, 5] rfl
  refine vx_callv (vx_runV (As := [.int p0]) (rest := []) ⟨hx, hb, hml, hown, hB⟩ (c_G_requireFunction l D a0 a1 a2 a3 a4 a5 c1 c2 c4 c5 H.size made size tooG kept sizes rows taken p0 _ _ hst) (cwV 1 hB (goodV wd_178 wd_179 wd_497 wd_1 wd_180) rfl rfl rfl (by decide +kernel) ⟨Nat.le_of_ble_eq_true rfl, Nat.le_of_ble_eq_true rfl⟩) ⟨pcX_blind, va_recv hK hP (ci := 1) (q0 := 0) rfl rfl, pcX_pre hP hK hD hS hX hF1 h⟩ rfl rfl hl.1 rfl (lv_room (Nat.le_of_ble_eq_true rfl)) d_G_derive_2 ⟨Nat.le_of_ble_eq_true rfl, Nat.le_of_ble_eq_true rfl⟩) hS (fun q _ h => hF1 q h) hF1 (fun q _ h => hF1 q h) (fun E ce q9 u t H locs ht hvm _ hB hz1 hk1 hS hce hcv hcl => ?_) (fun u t H locs ht hvm h hB hz1 hk1 hS => ?_)
  · -- thrown
    obtain ⟨h1, hP1, hK1, hD1⟩ := hB
    replace h := h1
    rw [ht] at hP1
    have hP : va_P D vwCl (wG a0 a1 a2 a3 a4 a5 c1 c2 c4 c5 made size tooG kept sizes rows taken) H := hP1
    have hD : va_D A (wG a0 a1 a2 a3 a4 a5 c1 c2 c4 c5 made size tooG kept sizes rows taken) := hD1.weaken (fun _ _ _ hq => hF1 _ hq)
    exact vx_out (fun x hx => (hno x hx).elim) hlocks hce hcv hcl (fun t9 ht9 hW9 => ⟨(made, size, tooG, kept, sizes, rows, taken), trivial, ⟨h, by rw [ht9]; exact hP, va_K.moved hW9 hK, hD⟩, hS.F ht9⟩) hS.2.2 (by omega) (by omega)
  ·
    obtain ⟨hP1, hK1, hD1⟩ := hB
    rw [ht] at hP1
    have hP : va_P D vwCl (wG a0 a1 a2 a3 a4 a5 c1 c2 c4 c5 made size tooG kept sizes rows taken) H := hP1
    have hD : va_D A (wG a0 a1 a2 a3 a4 a5 c1 c2 c4 c5 made size tooG kept sizes rows taken) := hD1.weaken (fun _ _ _ hq => hF1 _ hq)
    refine W.widen (k := 1) (n := 6) (by omega) (by omega) ?_
    refine lv_aload_n hx hb d_G_derive_5 rfl (lv_at hl 0 rfl) ?_
    have hF2 := va_free (wc := (wG a0 a1 a2 a3 a4 a5 c1 c2 c4 c5 made size tooG kept sizes rows taken)) hD hS hA [0, 1, 2, 3, 4, 5] rfl
    refine vx_callv (vx_runV (As := []) (rest := []) ⟨hx, hb, hml, hown, hB⟩ (c_G_requireRoom l D a0 a1 a2 a3 a4 a5 c1 c2 c4 c5 H.size made size tooG kept sizes rows taken _ _ hst) (cwV 0 hB (goodV wd_88 wd_89 wd_489 wd_1 wd_90) rfl rfl rfl (by decide +kernel) ⟨Nat.le_of_ble_eq_true rfl, Nat.le_of_ble_eq_true rfl⟩) ⟨pcX_blind, va_recv hK hP (ci := 1) (q0 := 0) rfl rfl, pcX_pre hP hK hD hS hX hF2 h⟩ rfl rfl hl.1 rfl (lv_room (Nat.le_of_ble_eq_true rfl)) d_G_derive_6 ⟨Nat.le_of_ble_eq_true rfl, Nat.le_of_ble_eq_true rfl⟩) hS (fun q _ h => hF2 q h) hF2 (fun q _ h => hF2 q h) (fun E ce q9 u t H locs ht hvm _ hB hz1 hk1 hS hce hcv hcl => ?_) (fun u t H locs ht hvm h hB hz1 hk1 hS => ?_)
    · -- thrown
      obtain ⟨h1, hP1, hK1, hD1⟩ := hB
      replace h := h1
      rw [ht] at hP1
      have hP : va_P D vwCl (wG a0 a1 a2 a3 a4 a5 c1 c2 c4 c5 made size tooG kept sizes rows taken) H := hP1
      have hD : va_D A (wG a0 a1 a2 a3 a4 a5 c1 c2 c4 c5 made size tooG kept sizes rows taken) := hD1.weaken (fun _ _ _ hq => hF2 _ hq)
      exact vx_out (fun x hx => (hno x hx).elim) hlocks hce hcv hcl (fun t9 ht9 hW9 => ⟨(made, size, tooG, kept, sizes, rows, taken), trivial, ⟨h, by rw [ht9]; exact hP, va_K.moved hW9 hK, hD⟩, hS.F ht9⟩) hS.2.2 (by omega) (by omega)
    ·
      obtain ⟨hP1, hK1, hD1⟩ := hB
      rw [ht] at hP1
      have hP : va_P D vwCl (wG a0 a1 a2 a3 a4 a5 c1 c2 c4 c5 made size tooG kept sizes rows taken) H := hP1
      have hD : va_D A (wG a0 a1 a2 a3 a4 a5 c1 c2 c4 c5 made size tooG kept sizes rows taken) := hD1.weaken (fun _ _ _ hq => hF2 _ hq)
      refine W.widen (k := 2) (n := 12) (by omega) (by omega) ?_
      refine lv_aload_n hx hb d_G_derive_9 rfl (lv_at hl 0 rfl) ?_
      refine va_get (D := D) (ci := 1) (v := .ref a3) (C := R_G) (T := F_G) (N := 4) hx hb hB inF_G hown hK hP 0 rfl rfl 2 (by decide) (hB _ wd_37) (fun _ h9 => h9) rfl d_G_derive_10 ?_
      have hF3 := va_free (wc := (wG a0 a1 a2 a3 a4 a5 c1 c2 c4 c5 made size tooG kept sizes rows taken)) hD hS hA [0, 1, 2, 3, 4, 5] rfl
      refine va_callv (va_runV (As := []) (rest := []) ⟨hx, hb, hml, hown, hB⟩ (c_W_begin l D a0 a1 a2 a3 a4 a5 c1 c2 c4 c5 H.size made size tooG kept sizes rows taken _) (cwV 0 hB (goodV wd_98 wd_99 wd_100 wd_2 wd_101) rfl rfl rfl (by decide +kernel) ⟨Nat.le_of_ble_eq_true rfl, Nat.le_of_ble_eq_true rfl⟩) ⟨pcX_blind, va_recv hK hP (ci := 0) (q0 := 3) rfl rfl, pcX_pre hP hK hD hS hX hF3 h⟩ rfl rfl hl.1 rfl (lv_room (Nat.le_of_ble_eq_true rfl)) d_G_derive_13 ⟨Nat.le_of_ble_eq_true rfl, Nat.le_of_ble_eq_true rfl⟩) hS (fun q _ h => hF3 q h) hF3 (fun u t H locs ht hvm h hB hz1 hk1 hS => ?_)
      obtain ⟨size_4, tooG_5⟩ := u
      obtain ⟨hP1, hK1, hD1⟩ := hB
      rw [ht] at hP1
      have hP : va_P D vwCl (wG a0 a1 a2 a3 a4 a5 c1 c2 c4 c5 made size_4 tooG_5 kept sizes rows taken) H := hP1
      have hD : va_D A (wG a0 a1 a2 a3 a4 a5 c1 c2 c4 c5 made size_4 tooG_5 kept sizes rows taken) := hD1.weaken (fun _ _ _ hq => hF3 _ hq)
      refine lv_iconst (v := 0) hx hb d_G_derive_16 (by decide) ?_
      refine lv_istore_n (lv' := [(2, .int 0), (0, .ref a0), (1, .int p0)]) hx hb d_G_derive_17 rfl hl (by decide) rfl (fun ls hl => ?_)
      obtain ⟨n18, h⟩ := h
      refine W.cap (fun G18 Gi18 Ge18 => ?_)
      suffices hL18 : ∀ (n18 : Nat) (v2_6 : Int32) (size_7 : Int32) (tooG_8 : Int32) (rows_9 : (Nat → Int32)) (taken_10 : (Nat → Int32)) (H : Heap) (locs : List Loc) (ls : Array Slot), va_P D vwCl (wG a0 a1 a2 a3 a4 a5 c1 c2 c4 c5 made size_7 tooG_8 kept sizes rows_9 taken_10) H → va_D A (wG a0 a1 a2 a3 a4 a5 c1 c2 c4 c5 made size_7 tooG_8 kept sizes rows_9 taken_10) → va_S A s.heap H locs → lv_has ls 4 [(2, .int v2_6), (0, .ref a0), (1, .int p0)] → lpW5 (wb_G_derive_18 p0 sizes made kept post postx) n18 v2_6 size_7 tooG_8 rows_9 taken_10 → G18 H locs (F0 m 18 ls []) from hL18 n18 (0 : Int32) size_4 tooG_5 rows taken _ _ _ hP hD hS hl h
      clear h hP hD hS hl
      intro n18
      induction n18 with
      | zero => intro v2_6 size_7 tooG_8 rows_9 taken_10 H locs ls hP hD hS hl h; exact (show False from h).elim
      | succ n18 ihL18 =>
        intro v2_6 size_7 tooG_8 rows_9 taken_10 H locs ls hP hD hS hl h
        replace h : (wb_G_derive_18 p0 sizes made kept post postx) (lpW5 (wb_G_derive_18 p0 sizes made kept post postx) n18) v2_6 size_7 tooG_8 rows_9 taken_10 := h
        refine Gi18 _ _ _ ?_
        refine lv_iload_n hx hb d_G_derive_18 rfl (lv_at hl 0 rfl) ?_
        refine lv_aload_n hx hb d_G_derive_19 rfl (lv_at hl 1 rfl) ?_
        refine va_get (D := D) (ci := 1) (v := .ref a2) (C := R_G) (T := F_G) (N := 4) hx hb hB inF_G hown hK hP 0 rfl rfl 1 (by decide) (hB _ wd_36) (fun _ h9 => h9) rfl d_G_derive_20 ?_
        refine lv_iload_n hx hb d_G_derive_23 rfl (lv_at hl 2 rfl) ?_
        obtain ⟨g11, h⟩ := h
        refine va_iald hx hb hK hP 2 1 rfl rfl g11 d_G_derive_24 ?_
        refine lv_icmp_ge (tgt := 122) hx hb d_G_derive_25 (by decide) (fun hc12 => ?_) (fun hc12 => ?_)
        · replace h := h.1 hc12
          refine lv_aload_n hx hb d_G_derive_122 rfl (lv_at hl 1 rfl) ?_
          have hF13 := va_free (wc := (wG a0 a1 a2 a3 a4 a5 c1 c2 c4 c5 made size_7 tooG_8 kept sizes rows_9 taken_10)) hD hS hA [0, 1, 2, 3, 4, 5] rfl
          refine vx_calli (vx_runV (As := []) (rest := []) ⟨hx, hb, hml, hown, hB⟩ (c_G_keep l D a0 a1 a2 a3 a4 a5 c1 c2 c4 c5 H.size made size_7 tooG_8 kept sizes rows_9 taken_10 _ _ hst) (cwV 0 hB (goodV wd_141 wd_142 wd_495 wd_1 wd_143) rfl rfl rfl (by decide +kernel) ⟨Nat.le_of_ble_eq_true rfl, Nat.le_of_ble_eq_true rfl⟩) ⟨pcX_blind, va_recv hK hP (ci := 1) (q0 := 0) rfl rfl, pcX_pre hP hK hD hS hX hF13 h⟩ rfl rfl hl.1 rfl (lv_room (Nat.le_of_ble_eq_true rfl)) d_G_derive_123 ⟨Nat.le_of_ble_eq_true rfl, Nat.le_of_ble_eq_true rfl⟩) hS (fun q _ h => hF13 q h) hF13 (fun q _ h => hF13 q h) (fun E ce q9 u t H locs ht hvm _ hB hz1 hk1 hS hce hcv hcl => ?_) (fun r14 u t H locs ht hvm h hB hz1 hk1 hS => ?_)
          · -- thrown
            obtain ⟨made_15, kept_16, sizes_17⟩ := u
            obtain ⟨h1, hP1, hK1, hD1⟩ := hB
            replace h := h1
            rw [ht] at hP1
            have hP : va_P D vwCl (wG a0 a1 a2 a3 a4 a5 c1 c2 c4 c5 made_15 size_7 tooG_8 kept_16 sizes_17 rows_9 taken_10) H := hP1
            have hD : va_D A (wG a0 a1 a2 a3 a4 a5 c1 c2 c4 c5 made_15 size_7 tooG_8 kept_16 sizes_17 rows_9 taken_10) := hD1.weaken (fun _ _ _ hq => hF13 _ hq)
            exact vx_out (fun x hx => (hno x hx).elim) hlocks hce hcv hcl (fun t9 ht9 hW9 => ⟨(made_15, size_7, tooG_8, kept_16, sizes_17, rows_9, taken_10), trivial, ⟨h, by rw [ht9]; exact hP, va_K.moved hW9 hK, hD⟩, hS.F ht9⟩) hS.2.2 (by omega) (by omega)
          ·
            obtain ⟨made_15, kept_16, sizes_17⟩ := u
            obtain ⟨hP1, hK1, hD1⟩ := hB
            rw [ht] at hP1
            have hP : va_P D vwCl (wG a0 a1 a2 a3 a4 a5 c1 c2 c4 c5 made_15 size_7 tooG_8 kept_16 sizes_17 rows_9 taken_10) H := hP1
            have hD : va_D A (wG a0 a1 a2 a3 a4 a5 c1 c2 c4 c5 made_15 size_7 tooG_8 kept_16 sizes_17 rows_9 taken_10) := hD1.weaken (fun _ _ _ hq => hF13 _ hq)
            refine W.widen (k := 3) (n := 18) (by omega) (by omega) ?_
            exact vx_ret (W.iret (v := r14) hx hb hr (fun t ht hW => ⟨⟨r14, (made_15, size_7, tooG_8, kept_16, sizes_17, rows_9, taken_10), rfl, h, by rw [ht]; exact hP, va_K.moved hW.alike hK, hD⟩, hS.F ht⟩) hS.2.2 d_G_derive_126)
        · replace h := h.2 hc12
          refine lv_iload_n hx hb d_G_derive_28 rfl (lv_at hl 2 rfl) ?_
          refine lv_iload_n hx hb d_G_derive_29 rfl (lv_at hl 0 rfl) ?_
          have hF18 := va_free (wc := (wG a0 a1 a2 a3 a4 a5 c1 c2 c4 c5 made size_7 tooG_8 kept sizes rows_9 taken_10)) hD hS hA [0, 1, 2, 3, 4, 5] rfl
          refine va_calli (va_runS (As := [.int p0, .int v2_6]) (rest := []) ⟨hx, hb, hml, hown, hB⟩ (c_G_rowOf l D a0 a1 a2 a3 a4 a5 c1 c2 c4 c5 H.size made size_7 tooG_8 kept sizes rows_9 taken_10 p0 v2_6 _) (cwS 2 hB (goodS wd_144 wd_145 wd_1 wd_146) rfl rfl rfl (by decide +kernel) ⟨Nat.le_of_ble_eq_true rfl, Nat.le_of_ble_eq_true rfl⟩) ⟨pcX_blind, pcX_pre hP hK hD hS hX hF18 h⟩ rfl rfl hl.1 rfl (lv_room (Nat.le_of_ble_eq_true rfl)) d_G_derive_30 ⟨Nat.le_of_ble_eq_true rfl, Nat.le_of_ble_eq_true rfl⟩) hS (fun q _ h => hF18 q h) hF18 (fun r19 u t H locs ht hvm h hB hz1 hk1 hS => ?_)
          obtain ⟨hP1, hK1, hD1⟩ := hB
          rw [ht] at hP1
          have hP : va_P D vwCl (wG a0 a1 a2 a3 a4 a5 c1 c2 c4 c5 made size_7 tooG_8 kept sizes rows_9 taken_10) H := hP1
          have hD : va_D A (wG a0 a1 a2 a3 a4 a5 c1 c2 c4 c5 made size_7 tooG_8 kept sizes rows_9 taken_10) := hD1.weaken (fun _ _ _ hq => hF18 _ hq)
          refine lv_istore_n (lv' := [(3, .int r19), (2, .int v2_6), (0, .ref a0), (1, .int p0)]) hx hb d_G_derive_33 rfl hl (by decide) rfl (fun ls hl => ?_)
          refine lv_aload_n hx hb d_G_derive_34 rfl (lv_at hl 2 rfl) ?_
          refine lv_iload_n hx hb d_G_derive_35 rfl (lv_at hl 0 rfl) ?_
          refine lv_iconst (v := 2) hx hb d_G_derive_36 (by decide) ?_
          refine lv_aload_n hx hb d_G_derive_37 rfl (lv_at hl 2 rfl) ?_
          refine va_get (D := D) (ci := 1) (v := .ref a1) (C := R_G) (T := F_G) (N := 4) hx hb hB inF_G hown hK hP 0 rfl rfl 0 (by decide) (hB _ wd_35) (fun _ h9 => h9) rfl d_G_derive_38 ?_
          refine lv_iload_n hx hb d_G_derive_41 rfl (lv_at hl 0 rfl) ?_
          refine lv_iconst (v := 0) hx hb d_G_derive_42 (by decide) ?_
          refine lv_iadd hx hb d_G_derive_43 ?_
          obtain ⟨g20, h⟩ := h
          refine va_iald hx hb hK hP 1 0 rfl rfl g20 d_G_derive_44 ?_
          refine lv_imul hx hb d_G_derive_45 ?_
          refine lv_iconst (v := 1) hx hb d_G_derive_46 (by decide) ?_
          refine lv_iconst (v := 0) hx hb d_G_derive_47 (by decide) ?_
          refine lv_iconst (v := 0) hx hb d_G_derive_48 (by decide) ?_
          have hF21 := va_free (wc := (wG a0 a1 a2 a3 a4 a5 c1 c2 c4 c5 made size_7 tooG_8 kept sizes rows_9 taken_10)) hD hS hA [0, 1, 2, 3, 4, 5] rfl
          refine va_callv (va_runV (As := [.int r19, .int (2 * (kept (r19 + 0).toNatClampNeg)), .int 1, .int 0, .int 0]) (rest := []) ⟨hx, hb, hml, hown, hB⟩ (c_G_putSlopePart l D a0 a1 a2 a3 a4 a5 c1 c2 c4 c5 H.size made size_7 tooG_8 kept sizes rows_9 taken_10 r19 (2 * (kept (r19 + 0).toNatClampNeg)) 1 0 0 _) (cwV 5 hB (goodV wd_226 wd_227 wd_499 wd_1 wd_228) rfl rfl rfl (by decide +kernel) ⟨Nat.le_of_ble_eq_true rfl, Nat.le_of_ble_eq_true rfl⟩) ⟨pcX_blind, va_recv hK hP (ci := 1) (q0 := 0) rfl rfl, pcX_pre hP hK hD hS hX hF21 h⟩ rfl rfl hl.1 rfl (lv_room (Nat.le_of_ble_eq_true rfl)) d_G_derive_49 ⟨Nat.le_of_ble_eq_true rfl, Nat.le_of_ble_eq_true rfl⟩) hS (fun q _ h => hF21 q h) hF21 (fun u t H locs ht hvm h hB hz1 hk1 hS => ?_)
          obtain ⟨size_22, tooG_23, rows_24, taken_25⟩ := u
          obtain ⟨hP1, hK1, hD1⟩ := hB
          rw [ht] at hP1
          have hP : va_P D vwCl (wG a0 a1 a2 a3 a4 a5 c1 c2 c4 c5 made size_22 tooG_23 kept sizes rows_24 taken_25) H := hP1
          have hD : va_D A (wG a0 a1 a2 a3 a4 a5 c1 c2 c4 c5 made size_22 tooG_23 kept sizes rows_24 taken_25) := hD1.weaken (fun _ _ _ hq => hF21 _ hq)
          refine lv_aload_n hx hb d_G_derive_52 rfl (lv_at hl 2 rfl) ?_
          refine lv_iload_n hx hb d_G_derive_53 rfl (lv_at hl 0 rfl) ?_
          refine lv_aload_n hx hb d_G_derive_54 rfl (lv_at hl 2 rfl) ?_
          refine va_get (D := D) (ci := 1) (v := .ref a1) (C := R_G) (T := F_G) (N := 4) hx hb hB inF_G hown hK hP 0 rfl rfl 0 (by decide) (hB _ wd_35) (fun _ h9 => h9) rfl d_G_derive_55 ?_
          refine lv_iload_n hx hb d_G_derive_58 rfl (lv_at hl 0 rfl) ?_
          refine lv_iconst (v := 1) hx hb d_G_derive_59 (by decide) ?_
          refine lv_iadd hx hb d_G_derive_60 ?_
          obtain ⟨g26, h⟩ := h
          refine va_iald hx hb hK hP 1 0 rfl rfl g26 d_G_derive_61 ?_
          refine lv_iconst (v := 0) hx hb d_G_derive_62 (by decide) ?_
          refine lv_iconst (v := 0) hx hb d_G_derive_63 (by decide) ?_
          refine lv_iconst (v := 0) hx hb d_G_derive_64 (by decide) ?_
          have hF27 := va_free (wc := (wG a0 a1 a2 a3 a4 a5 c1 c2 c4 c5 made size_22 tooG_23 kept sizes rows_24 taken_25)) hD hS hA [0, 1, 2, 3, 4, 5] rfl
          refine va_callv (va_runV (As := [.int r19, .int (kept (r19 + 1).toNatClampNeg), .int 0, .int 0, .int 0]) (rest := []) ⟨hx, hb, hml, hown, hB⟩ (c_G_putSlopePart l D a0 a1 a2 a3 a4 a5 c1 c2 c4 c5 H.size made size_22 tooG_23 kept sizes rows_24 taken_25 r19 (kept (r19 + 1).toNatClampNeg) 0 0 0 _) (cwV 5 hB (goodV wd_226 wd_227 wd_499 wd_1 wd_228) rfl rfl rfl (by decide +kernel) ⟨Nat.le_of_ble_eq_true rfl, Nat.le_of_ble_eq_true rfl⟩) ⟨pcX_blind, va_recv hK hP (ci := 1) (q0 := 0) rfl rfl, pcX_pre hP hK hD hS hX hF27 h⟩ rfl rfl hl.1 rfl (lv_room (Nat.le_of_ble_eq_true rfl)) d_G_derive_65 ⟨Nat.le_of_ble_eq_true rfl, Nat.le_of_ble_eq_true rfl⟩) hS (fun q _ h => hF27 q h) hF27 (fun u t H locs ht hvm h hB hz1 hk1 hS => ?_)
          obtain ⟨size_28, tooG_29, rows_30, taken_31⟩ := u
          obtain ⟨hP1, hK1, hD1⟩ := hB
          rw [ht] at hP1
          have hP : va_P D vwCl (wG a0 a1 a2 a3 a4 a5 c1 c2 c4 c5 made size_28 tooG_29 kept sizes rows_30 taken_31) H := hP1
          have hD : va_D A (wG a0 a1 a2 a3 a4 a5 c1 c2 c4 c5 made size_28 tooG_29 kept sizes rows_30 taken_31) := hD1.weaken (fun _ _ _ hq => hF27 _ hq)
          refine lv_aload_n hx hb d_G_derive_68 rfl (lv_at hl 2 rfl) ?_
          refine lv_iload_n hx hb d_G_derive_69 rfl (lv_at hl 0 rfl) ?_
          refine lv_aload_n hx hb d_G_derive_70 rfl (lv_at hl 2 rfl) ?_
          refine va_get (D := D) (ci := 1) (v := .ref a1) (C := R_G) (T := F_G) (N := 4) hx hb hB inF_G hown hK hP 0 rfl rfl 0 (by decide) (hB _ wd_35) (fun _ h9 => h9) rfl d_G_derive_71 ?_
          refine lv_iload_n hx hb d_G_derive_74 rfl (lv_at hl 0 rfl) ?_
          refine lv_iconst (v := 2) hx hb d_G_derive_75 (by decide) ?_
          refine lv_iadd hx hb d_G_derive_76 ?_
          obtain ⟨g32, h⟩ := h
          refine va_iald hx hb hK hP 1 0 rfl rfl g32 d_G_derive_77 ?_
          refine lv_iconst (v := (-1)) hx hb d_G_derive_78 (by decide) ?_
          refine lv_iconst (v := 0) hx hb d_G_derive_79 (by decide) ?_
          refine lv_iconst (v := 0) hx hb d_G_derive_80 (by decide) ?_
          have hF33 := va_free (wc := (wG a0 a1 a2 a3 a4 a5 c1 c2 c4 c5 made size_28 tooG_29 kept sizes rows_30 taken_31)) hD hS hA [0, 1, 2, 3, 4, 5] rfl
          refine va_callv (va_runV (As := [.int r19, .int (kept (r19 + 2).toNatClampNeg), .int (-1), .int 0, .int 0]) (rest := []) ⟨hx, hb, hml, hown, hB⟩ (c_G_putSlopePart l D a0 a1 a2 a3 a4 a5 c1 c2 c4 c5 H.size made size_28 tooG_29 kept sizes rows_30 taken_31 r19 (kept (r19 + 2).toNatClampNeg) (-1) 0 0 _) (cwV 5 hB (goodV wd_226 wd_227 wd_499 wd_1 wd_228) rfl rfl rfl (by decide +kernel) ⟨Nat.le_of_ble_eq_true rfl, Nat.le_of_ble_eq_true rfl⟩) ⟨pcX_blind, va_recv hK hP (ci := 1) (q0 := 0) rfl rfl, pcX_pre hP hK hD hS hX hF33 h⟩ rfl rfl hl.1 rfl (lv_room (Nat.le_of_ble_eq_true rfl)) d_G_derive_81 ⟨Nat.le_of_ble_eq_true rfl, Nat.le_of_ble_eq_true rfl⟩) hS (fun q _ h => hF33 q h) hF33 (fun u t H locs ht hvm h hB hz1 hk1 hS => ?_)
          obtain ⟨size_34, tooG_35, rows_36, taken_37⟩ := u
          obtain ⟨hP1, hK1, hD1⟩ := hB
          rw [ht] at hP1
          have hP : va_P D vwCl (wG a0 a1 a2 a3 a4 a5 c1 c2 c4 c5 made size_34 tooG_35 kept sizes rows_36 taken_37) H := hP1
          have hD : va_D A (wG a0 a1 a2 a3 a4 a5 c1 c2 c4 c5 made size_34 tooG_35 kept sizes rows_36 taken_37) := hD1.weaken (fun _ _ _ hq => hF33 _ hq)
          refine lv_aload_n hx hb d_G_derive_84 rfl (lv_at hl 2 rfl) ?_
          refine lv_iload_n hx hb d_G_derive_85 rfl (lv_at hl 0 rfl) ?_
          refine lv_aload_n hx hb d_G_derive_86 rfl (lv_at hl 2 rfl) ?_
          refine va_get (D := D) (ci := 1) (v := .ref a1) (C := R_G) (T := F_G) (N := 4) hx hb hB inF_G hown hK hP 0 rfl rfl 0 (by decide) (hB _ wd_35) (fun _ h9 => h9) rfl d_G_derive_87 ?_
          refine lv_iload_n hx hb d_G_derive_90 rfl (lv_at hl 0 rfl) ?_
          refine lv_iconst (v := 3) hx hb d_G_derive_91 (by decide) ?_
          refine lv_iadd hx hb d_G_derive_92 ?_
          obtain ⟨g38, h⟩ := h
          refine va_iald hx hb hK hP 1 0 rfl rfl g38 d_G_derive_93 ?_
          refine lv_iconst (v := (-1)) hx hb d_G_derive_94 (by decide) ?_
          refine lv_iconst (v := (-1)) hx hb d_G_derive_95 (by decide) ?_
          refine lv_iconst (v := 0) hx hb d_G_derive_96 (by decide) ?_
          have hF39 := va_free (wc := (wG a0 a1 a2 a3 a4 a5 c1 c2 c4 c5 made size_34 tooG_35 kept sizes rows_36 taken_37)) hD hS hA [0, 1, 2, 3, 4, 5] rfl
          refine va_callv (va_runV (As := [.int r19, .int (kept (r19 + 3).toNatClampNeg), .int (-1), .int (-1), .int 0]) (rest := []) ⟨hx, hb, hml, hown, hB⟩ (c_G_putSlopePart l D a0 a1 a2 a3 a4 a5 c1 c2 c4 c5 H.size made size_34 tooG_35 kept sizes rows_36 taken_37 r19 (kept (r19 + 3).toNatClampNeg) (-1) (-1) 0 _) (cwV 5 hB (goodV wd_226 wd_227 wd_499 wd_1 wd_228) rfl rfl rfl (by decide +kernel) ⟨Nat.le_of_ble_eq_true rfl, Nat.le_of_ble_eq_true rfl⟩) ⟨pcX_blind, va_recv hK hP (ci := 1) (q0 := 0) rfl rfl, pcX_pre hP hK hD hS hX hF39 h⟩ rfl rfl hl.1 rfl (lv_room (Nat.le_of_ble_eq_true rfl)) d_G_derive_97 ⟨Nat.le_of_ble_eq_true rfl, Nat.le_of_ble_eq_true rfl⟩) hS (fun q _ h => hF39 q h) hF39 (fun u t H locs ht hvm h hB hz1 hk1 hS => ?_)
          obtain ⟨size_40, tooG_41, rows_42, taken_43⟩ := u
          obtain ⟨hP1, hK1, hD1⟩ := hB
          rw [ht] at hP1
          have hP : va_P D vwCl (wG a0 a1 a2 a3 a4 a5 c1 c2 c4 c5 made size_40 tooG_41 kept sizes rows_42 taken_43) H := hP1
          have hD : va_D A (wG a0 a1 a2 a3 a4 a5 c1 c2 c4 c5 made size_40 tooG_41 kept sizes rows_42 taken_43) := hD1.weaken (fun _ _ _ hq => hF39 _ hq)
          refine lv_aload_n hx hb d_G_derive_100 rfl (lv_at hl 2 rfl) ?_
          refine lv_iload_n hx hb d_G_derive_101 rfl (lv_at hl 0 rfl) ?_
          refine lv_aload_n hx hb d_G_derive_102 rfl (lv_at hl 2 rfl) ?_
          refine va_get (D := D) (ci := 1) (v := .ref a1) (C := R_G) (T := F_G) (N := 4) hx hb hB inF_G hown hK hP 0 rfl rfl 0 (by decide) (hB _ wd_35) (fun _ h9 => h9) rfl d_G_derive_103 ?_
          refine lv_iload_n hx hb d_G_derive_106 rfl (lv_at hl 0 rfl) ?_
          refine lv_iconst (v := 4) hx hb d_G_derive_107 (by decide) ?_
          refine lv_iadd hx hb d_G_derive_108 ?_
          obtain ⟨g44, h⟩ := h
          refine va_iald hx hb hK hP 1 0 rfl rfl g44 d_G_derive_109 ?_
          refine lv_iconst (v := (-1)) hx hb d_G_derive_110 (by decide) ?_
          refine lv_iconst (v := (-1)) hx hb d_G_derive_111 (by decide) ?_
          refine lv_iconst (v := (-1)) hx hb d_G_derive_112 (by decide) ?_
          have hF45 := va_free (wc := (wG a0 a1 a2 a3 a4 a5 c1 c2 c4 c5 made size_40 tooG_41 kept sizes rows_42 taken_43)) hD hS hA [0, 1, 2, 3, 4, 5] rfl
          refine va_callv (va_runV (As := [.int r19, .int (kept (r19 + 4).toNatClampNeg), .int (-1), .int (-1), .int (-1)]) (rest := []) ⟨hx, hb, hml, hown, hB⟩ (c_G_putSlopePart l D a0 a1 a2 a3 a4 a5 c1 c2 c4 c5 H.size made size_40 tooG_41 kept sizes rows_42 taken_43 r19 (kept (r19 + 4).toNatClampNeg) (-1) (-1) (-1) _) (cwV 5 hB (goodV wd_226 wd_227 wd_499 wd_1 wd_228) rfl rfl rfl (by decide +kernel) ⟨Nat.le_of_ble_eq_true rfl, Nat.le_of_ble_eq_true rfl⟩) ⟨pcX_blind, va_recv hK hP (ci := 1) (q0 := 0) rfl rfl, pcX_pre hP hK hD hS hX hF45 h⟩ rfl rfl hl.1 rfl (lv_room (Nat.le_of_ble_eq_true rfl)) d_G_derive_113 ⟨Nat.le_of_ble_eq_true rfl, Nat.le_of_ble_eq_true rfl⟩) hS (fun q _ h => hF45 q h) hF45 (fun u t H locs ht hvm h hB hz1 hk1 hS => ?_)
          obtain ⟨size_46, tooG_47, rows_48, taken_49⟩ := u
          obtain ⟨hP1, hK1, hD1⟩ := hB
          rw [ht] at hP1
          have hP : va_P D vwCl (wG a0 a1 a2 a3 a4 a5 c1 c2 c4 c5 made size_46 tooG_47 kept sizes rows_48 taken_49) H := hP1
          have hD : va_D A (wG a0 a1 a2 a3 a4 a5 c1 c2 c4 c5 made size_46 tooG_47 kept sizes rows_48 taken_49) := hD1.weaken (fun _ _ _ hq => hF45 _ hq)
          obtain ⟨x50, ex50⟩ : ∃ z : Int32, z = v2_6 + 1 := ⟨_, rfl⟩
          replace h := h x50 ex50
          refine lv_iinc (v := x50) (lv' := [(2, .int x50), (3, .int r19), (0, .ref a0), (1, .int p0)]) hx hb d_G_derive_116 hl (k := 1) rfl (by rw [ex50]; rfl) (by decide) rfl (fun ls hl => ?_)
          refine lv_goto (tgt := 18) hx hb d_G_derive_119 (by decide) ?_
          exact Ge18 _ _ _ (ihL18 x50 size_46 tooG_47 rows_48 taken_49 _ _ _ hP hD hS (lv_sub hl [0, 2, 3] rfl) h)
set_option maxHeartbeats 4000000 in
set_option maxRecDepth 100000 in
theorem c_G_logarithm (l : Launch) (D : va_G) (a0 a1 a2 a3 a4 a5 : Nat) (c1 c2 c4 c5 : ClassId) (sz : Nat) (made : Int32) (size : Int32) (tooG : Int32) (kept : (Nat → Int32)) (sizes : (Nat → Int32)) (rows : (Nat → Int32)) (taken : (Nat → Int32)) (p0 : Int32) (post : Int32 → Int32 → Int32 → Int32 → (Nat → Int32) → (Nat → Int32) → (Nat → Int32) → (Nat → Int32) → Prop) (postx : String → Int32 → Int32 → Int32 → (Nat → Int32) → (Nat → Int32) → (Nat → Int32) → (Nat → Int32) → Prop) (hst : l.stackTraces = false) : vx_Met l y_G_logarithm (Cond.code y_G_logarithm b_G_logarithm 3 (some .int) :: BIG) ({ frames := 7, cells := 3, slots := 18, locals := 151 }) (va_Pc [.ref a0, .int p0] (pcX D vwCl (wG a0 a1 a2 a3 a4 a5 c1 c2 c4 c5 made size tooG kept sizes rows taken) [(c1, .int), (c2, .int), (c4, .int), (c5, .int)] sz (wp_G_logarithm made size tooG kept sizes rows taken p0 post postx))) (va_Qi (fun (r : Int32) (u : Int32 × Int32 × Int32 × (Nat → Int32) × (Nat → Int32) × (Nat → Int32) × (Nat → Int32)) => post r (u.1) (u.2.1) (u.2.2.1) (u.2.2.2.1) (u.2.2.2.2.1) (u.2.2.2.2.2.1) (u.2.2.2.2.2.2)) (fun u => atG D vwCl [(c1, .int), (c2, .int), (c4, .int), (c5, .int)] (va_A (wG a0 a1 a2 a3 a4 a5 c1 c2 c4 c5 made size tooG kept sizes rows taken) sz) (wG a0 a1 a2 a3 a4 a5 c1 c2 c4 c5 (u.1) (u.2.1) (u.2.2.1) (u.2.2.2.1) (u.2.2.2.2.1) (u.2.2.2.2.2.1) (u.2.2.2.2.2.2))) (va_A (wG a0 a1 a2 a3 a4 a5 c1 c2 c4 c5 made size tooG kept sizes rows taken) sz)) (vx_X (fun _ : Int32 × Int32 × Int32 × (Nat → Int32) × (Nat → Int32) × (Nat → Int32) × (Nat → Int32) => True) (fun E u => atX D vwCl [(c1, .int), (c2, .int), (c4, .int), (c5, .int)] (va_A (wG a0 a1 a2 a3 a4 a5 c1 c2 c4 c5 made size tooG kept sizes rows taken) sz) (wG a0 a1 a2 a3 a4 a5 c1 c2 c4 c5 (u.1) (u.2.1) (u.2.2.1) (u.2.2.2.1) (u.2.2.2.2.1) (u.2.2.2.2.2.1) (u.2.2.2.2.2.2)) (postx E (u.1) (u.2.1) (u.2.2.1) (u.2.2.2.1) (u.2.2.2.2.1) (u.2.2.2.2.2.1) (u.2.2.2.2.2.2))) (va_A (wG a0 a1 a2 a3 a4 a5 c1 c2 c4 c5 made size tooG kept sizes rows taken) sz)) 3 18 (va_A (wG a0 a1 a2 a3 a4 a5 c1 c2 c4 c5 made size tooG kept sizes rows taken) sz) := by
  refine vx_ofW (cc := b_G_logarithm) (maxL := 3) (ret := (some .int)) (by decide) rfl ?_
  intro p e s m args below meth c s₁ B hml hno hv
  obtain ⟨rfl, hsz, hP, hK, hD0, hX, h⟩ := hv
  have hx := B.exec
  have hb := B.bytes
  have hr := B.returns
  have hB : ∀ w ∈ BIG, w.before _ s = true := fun w h => atoms_spec (ws := (Cond.code y_G_logarithm b_G_logarithm 3 (some .int) :: BIG)) B.pre w (List.mem_cons_of_mem _ h)
  have hown : s.vm.findClass R_G = some m.cls := findClass_of_methodNamed B.named
  have hlocks := B.notSynchronized
  subst hsz
  have hD := hD0.self (sz := s.heap.size)
  generalize hAe : va_A (wG a0 a1 a2 a3 a4 a5 c1 c2 c4 c5 made size tooG kept sizes rows taken) s.heap.size = A at hD hX ⊢
  have hA : ∀ q : Nat, s.heap.size ≤ q → A q := fun q h => by rw [← hAe]; exact Or.inr h
  have hl := lv_entry ([.ref a0, .int p0]) (n := 3) (Nat.le_of_ble_eq_true rfl)
  rw [lg_entry_eq]
  generalize (lg_sl ([.ref a0, .int p0]) ++ List.replicate (3 - (lg_sl ([.ref a0, .int p0])).length) Slot.unset).toArray = ls at hl ⊢
  have hl : lv_has ls 3 [(0, .ref a0), (1, .int p0)] := hl
  refine W.cap (fun G Gi Ge => ?_)
  suffices hL : ∀ (H : Heap) (locs : List Loc), va_P D vwCl (wG a0 a1 a2 a3 a4 a5 c1 c2 c4 c5 made size tooG kept sizes rows taken) H → va_S A s.heap H locs → G H locs (F0 m 0 ls []) from hL _ _ hP va_S.rf
  clear hP
  intro H locs hP hS
  refine Gi _ _ _ ?_
  unfold wp_G_logarithm at h
  refine lv_aload_n hx hb d_G_logarithm_0 rfl (lv_at hl 0 rfl) ?_
  refine lv_iload_n hx hb d_G_logarithm_1 rfl (lv_at hl 1 rfl) ?_
  have hF1 := va_free (wc := (wG a0 a1 a2 a3 a4 a5 c1 c2 c4 c5 made size tooG kept sizes rows taken)) hD hS hA [0, 1, 2, 3, 4, 5] rfl
  refine vx_callv (vx_runV (As := [.int p0]) (rest := []) ⟨hx, hb, hml, hown, hB⟩ (c_G_requireFunction l D a0 a1 a2 a3 a4 a5 c1 c2 c4 c5 H.size made size tooG kept sizes rows taken p0 _ _ hst) (cwV 1 hB (goodV wd_178 wd_179 wd_497 wd_1 wd_180) rfl rfl rfl (by decide +kernel) ⟨Nat.le_of_ble_eq_true rfl, Nat.le_of_ble_eq_true rfl⟩) ⟨pcX_blind, va_recv hK hP (ci := 1) (q0 := 0) rfl rfl, pcX_pre hP hK hD hS hX hF1 h⟩ rfl rfl hl.1 rfl (lv_room (Nat.le_of_ble_eq_true rfl)) d_G_logarithm_2 ⟨Nat.le_of_ble_eq_true rfl, Nat.le_of_ble_eq_true rfl⟩) hS (fun q _ h => hF1 q h) hF1 (fun q _ h => hF1 q h) (fun E ce q9 u t H locs ht hvm _ hB hz1 hk1 hS hce hcv hcl => ?_) (fun u t H locs ht hvm h hB hz1 hk1 hS => ?_)
  · -- thrown
    obtain ⟨h1, hP1, hK1, hD1⟩ := hB
    replace h := h1
    rw [ht] at hP1
    have hP : va_P D vwCl (wG a0 a1 a2 a3 a4 a5 c1 c2 c4 c5 made size tooG kept sizes rows taken) H := hP1
    have hD : va_D A (wG a0 a1 a2 a3 a4 a5 c1 c2 c4 c5 made size tooG kept sizes rows taken) := hD1.weaken (fun _ _ _ hq => hF1 _ hq)
    exact vx_out (fun x hx => (hno x hx).elim) hlocks hce hcv hcl (fun t9 ht9 hW9 => ⟨(made, size, tooG, kept, sizes, rows, taken), trivial, ⟨h, by rw [ht9]; exact hP, va_K.moved hW9 hK, hD⟩, hS.F ht9⟩) hS.2.2 (by omega) (by omega)
  ·
    obtain ⟨hP1, hK1, hD1⟩ := hB
    rw [ht] at hP1
    have hP : va_P D vwCl (wG a0 a1 a2 a3 a4 a5 c1 c2 c4 c5 made size tooG kept sizes rows taken) H := hP1
    have hD : va_D A (wG a0 a1 a2 a3 a4 a5 c1 c2 c4 c5 made size tooG kept sizes rows taken) := hD1.weaken (fun _ _ _ hq => hF1 _ hq)
    refine W.widen (k := 1) (n := 6) (by omega) (by omega) ?_
    refine lv_aload_n hx hb d_G_logarithm_5 rfl (lv_at hl 0 rfl) ?_
    have hF2 := va_free (wc := (wG a0 a1 a2 a3 a4 a5 c1 c2 c4 c5 made size tooG kept sizes rows taken)) hD hS hA [0, 1, 2, 3, 4, 5] rfl
    refine vx_callv (vx_runV (As := []) (rest := []) ⟨hx, hb, hml, hown, hB⟩ (c_G_requireRoom l D a0 a1 a2 a3 a4 a5 c1 c2 c4 c5 H.size made size tooG kept sizes rows taken _ _ hst) (cwV 0 hB (goodV wd_88 wd_89 wd_489 wd_1 wd_90) rfl rfl rfl (by decide +kernel) ⟨Nat.le_of_ble_eq_true rfl, Nat.le_of_ble_eq_true rfl⟩) ⟨pcX_blind, va_recv hK hP (ci := 1) (q0 := 0) rfl rfl, pcX_pre hP hK hD hS hX hF2 h⟩ rfl rfl hl.1 rfl (lv_room (Nat.le_of_ble_eq_true rfl)) d_G_logarithm_6 ⟨Nat.le_of_ble_eq_true rfl, Nat.le_of_ble_eq_true rfl⟩) hS (fun q _ h => hF2 q h) hF2 (fun q _ h => hF2 q h) (fun E ce q9 u t H locs ht hvm _ hB hz1 hk1 hS hce hcv hcl => ?_) (fun u t H locs ht hvm h hB hz1 hk1 hS => ?_)
    · -- thrown
      obtain ⟨h1, hP1, hK1, hD1⟩ := hB
      replace h := h1
      rw [ht] at hP1
      have hP : va_P D vwCl (wG a0 a1 a2 a3 a4 a5 c1 c2 c4 c5 made size tooG kept sizes rows taken) H := hP1
      have hD : va_D A (wG a0 a1 a2 a3 a4 a5 c1 c2 c4 c5 made size tooG kept sizes rows taken) := hD1.weaken (fun _ _ _ hq => hF2 _ hq)
      exact vx_out (fun x hx => (hno x hx).elim) hlocks hce hcv hcl (fun t9 ht9 hW9 => ⟨(made, size, tooG, kept, sizes, rows, taken), trivial, ⟨h, by rw [ht9]; exact hP, va_K.moved hW9 hK, hD⟩, hS.F ht9⟩) hS.2.2 (by omega) (by omega)
    ·
      obtain ⟨hP1, hK1, hD1⟩ := hB
      rw [ht] at hP1
      have hP : va_P D vwCl (wG a0 a1 a2 a3 a4 a5 c1 c2 c4 c5 made size tooG kept sizes rows taken) H := hP1
      have hD : va_D A (wG a0 a1 a2 a3 a4 a5 c1 c2 c4 c5 made size tooG kept sizes rows taken) := hD1.weaken (fun _ _ _ hq => hF2 _ hq)
      refine W.widen (k := 2) (n := 12) (by omega) (by omega) ?_
      refine lv_aload_n hx hb d_G_logarithm_9 rfl (lv_at hl 0 rfl) ?_
      refine lv_iload_n hx hb d_G_logarithm_10 rfl (lv_at hl 1 rfl) ?_
      have hF3 := va_free (wc := (wG a0 a1 a2 a3 a4 a5 c1 c2 c4 c5 made size tooG kept sizes rows taken)) hD hS hA [0, 1, 2, 3, 4, 5] rfl
      refine va_calli (va_runV (As := [.int p0]) (rest := []) ⟨hx, hb, hml, hown, hB⟩ (c_G_hasLogarithm l D a0 a1 a2 a3 a4 a5 c1 c2 c4 c5 H.size made size tooG kept sizes rows taken p0 _) (cwV 1 hB (goodV wd_236 wd_237 wd_500 wd_1 wd_238) rfl rfl rfl (by decide +kernel) ⟨Nat.le_of_ble_eq_true rfl, Nat.le_of_ble_eq_true rfl⟩) ⟨pcX_blind, va_recv hK hP (ci := 1) (q0 := 0) rfl rfl, pcX_pre hP hK hD hS hX hF3 h⟩ rfl rfl hl.1 rfl (lv_room (Nat.le_of_ble_eq_true rfl)) d_G_logarithm_11 ⟨Nat.le_of_ble_eq_true rfl, Nat.le_of_ble_eq_true rfl⟩) hS (fun q _ h => hF3 q h) hF3 (fun r4 u t H locs ht hvm h hB hz1 hk1 hS => ?_)
      obtain ⟨hP1, hK1, hD1⟩ := hB
      rw [ht] at hP1
      have hP : va_P D vwCl (wG a0 a1 a2 a3 a4 a5 c1 c2 c4 c5 made size tooG kept sizes rows taken) H := hP1
      have hD : va_D A (wG a0 a1 a2 a3 a4 a5 c1 c2 c4 c5 made size tooG kept sizes rows taken) := hD1.weaken (fun _ _ _ hq => hF3 _ hq)
      refine lv_if_ne (tgt := 19) hx hb d_G_logarithm_14 (by decide) (fun hc5 => ?_) (fun hc5 => ?_)
      · replace h := h.1 hc5
        refine lv_iload_n hx hb d_G_logarithm_19 rfl (lv_at hl 1 rfl) ?_
        refine lv_iconst (v := 0) hx hb d_G_logarithm_20 (by decide) ?_
        have hF6 := va_free (wc := (wG a0 a1 a2 a3 a4 a5 c1 c2 c4 c5 made size tooG kept sizes rows taken)) hD hS hA [0, 1, 2, 3, 4, 5] rfl
        refine va_calli (va_runS (As := [.int p0, .int 0]) (rest := []) ⟨hx, hb, hml, hown, hB⟩ (c_G_rowOf l D a0 a1 a2 a3 a4 a5 c1 c2 c4 c5 H.size made size tooG kept sizes rows taken p0 0 _) (cwS 2 hB (goodS wd_144 wd_145 wd_1 wd_146) rfl rfl rfl (by decide +kernel) ⟨Nat.le_of_ble_eq_true rfl, Nat.le_of_ble_eq_true rfl⟩) ⟨pcX_blind, pcX_pre hP hK hD hS hX hF6 h⟩ rfl rfl hl.1 rfl (lv_room (Nat.le_of_ble_eq_true rfl)) d_G_logarithm_21 ⟨Nat.le_of_ble_eq_true rfl, Nat.le_of_ble_eq_true rfl⟩) hS (fun q _ h => hF6 q h) hF6 (fun r7 u t H locs ht hvm h hB hz1 hk1 hS => ?_)
        obtain ⟨hP1, hK1, hD1⟩ := hB
        rw [ht] at hP1
        have hP : va_P D vwCl (wG a0 a1 a2 a3 a4 a5 c1 c2 c4 c5 made size tooG kept sizes rows taken) H := hP1
        have hD : va_D A (wG a0 a1 a2 a3 a4 a5 c1 c2 c4 c5 made size tooG kept sizes rows taken) := hD1.weaken (fun _ _ _ hq => hF6 _ hq)
        refine lv_istore_n (lv' := [(2, .int r7), (0, .ref a0), (1, .int p0)]) hx hb d_G_logarithm_24 rfl hl (by decide) rfl (fun ls hl => ?_)
        refine lv_aload_n hx hb d_G_logarithm_25 rfl (lv_at hl 1 rfl) ?_
        refine va_get (D := D) (ci := 1) (v := .ref a3) (C := R_G) (T := F_G) (N := 4) hx hb hB inF_G hown hK hP 0 rfl rfl 2 (by decide) (hB _ wd_37) (fun _ h9 => h9) rfl d_G_logarithm_26 ?_
        have hF8 := va_free (wc := (wG a0 a1 a2 a3 a4 a5 c1 c2 c4 c5 made size tooG kept sizes rows taken)) hD hS hA [0, 1, 2, 3, 4, 5] rfl
        refine va_callv (va_runV (As := []) (rest := []) ⟨hx, hb, hml, hown, hB⟩ (c_W_begin l D a0 a1 a2 a3 a4 a5 c1 c2 c4 c5 H.size made size tooG kept sizes rows taken _) (cwV 0 hB (goodV wd_98 wd_99 wd_100 wd_2 wd_101) rfl rfl rfl (by decide +kernel) ⟨Nat.le_of_ble_eq_true rfl, Nat.le_of_ble_eq_true rfl⟩) ⟨pcX_blind, va_recv hK hP (ci := 0) (q0 := 3) rfl rfl, pcX_pre hP hK hD hS hX hF8 h⟩ rfl rfl hl.1 rfl (lv_room (Nat.le_of_ble_eq_true rfl)) d_G_logarithm_29 ⟨Nat.le_of_ble_eq_true rfl, Nat.le_of_ble_eq_true rfl⟩) hS (fun q _ h => hF8 q h) hF8 (fun u t H locs ht hvm h hB hz1 hk1 hS => ?_)
        obtain ⟨size_9, tooG_10⟩ := u
        obtain ⟨hP1, hK1, hD1⟩ := hB
        rw [ht] at hP1
        have hP : va_P D vwCl (wG a0 a1 a2 a3 a4 a5 c1 c2 c4 c5 made size_9 tooG_10 kept sizes rows taken) H := hP1
        have hD : va_D A (wG a0 a1 a2 a3 a4 a5 c1 c2 c4 c5 made size_9 tooG_10 kept sizes rows taken) := hD1.weaken (fun _ _ _ hq => hF8 _ hq)
        refine lv_aload_n hx hb d_G_logarithm_32 rfl (lv_at hl 1 rfl) ?_
        refine lv_aload_n hx hb d_G_logarithm_33 rfl (lv_at hl 1 rfl) ?_
        refine va_get (D := D) (ci := 1) (v := .ref a1) (C := R_G) (T := F_G) (N := 4) hx hb hB inF_G hown hK hP 0 rfl rfl 0 (by decide) (hB _ wd_35) (fun _ h9 => h9) rfl d_G_logarithm_34 ?_
        refine lv_iload_n hx hb d_G_logarithm_37 rfl (lv_at hl 0 rfl) ?_
        refine lv_iconst (v := 0) hx hb d_G_logarithm_38 (by decide) ?_
        refine lv_iadd hx hb d_G_logarithm_39 ?_
        obtain ⟨g11, h⟩ := h
        refine va_iald hx hb hK hP 1 0 rfl rfl g11 d_G_logarithm_40 ?_
        refine lv_iconst (v := 2) hx hb d_G_logarithm_41 (by decide) ?_
        refine lv_iconst (v := 2) hx hb d_G_logarithm_42 (by decide) ?_
        have hF12 := va_free (wc := (wG a0 a1 a2 a3 a4 a5 c1 c2 c4 c5 made size_9 tooG_10 kept sizes rows taken)) hD hS hA [0, 1, 2, 3, 4, 5] rfl
        refine va_callv (va_runV (As := [.int (kept (r7 + 0).toNatClampNeg), .int 2, .int 2]) (rest := []) ⟨hx, hb, hml, hown, hB⟩ (c_G_putMultiple l D a0 a1 a2 a3 a4 a5 c1 c2 c4 c5 H.size made size_9 tooG_10 kept sizes rows taken (kept (r7 + 0).toNatClampNeg) 2 2 _) (cwV 3 hB (goodV wd_163 wd_164 wd_496 wd_1 wd_165) rfl rfl rfl (by decide +kernel) ⟨Nat.le_of_ble_eq_true rfl, Nat.le_of_ble_eq_true rfl⟩) ⟨pcX_blind, va_recv hK hP (ci := 1) (q0 := 0) rfl rfl, pcX_pre hP hK hD hS hX hF12 h⟩ rfl rfl hl.1 rfl (lv_room (Nat.le_of_ble_eq_true rfl)) d_G_logarithm_43 ⟨Nat.le_of_ble_eq_true rfl, Nat.le_of_ble_eq_true rfl⟩) hS (fun q _ h => hF12 q h) hF12 (fun u t H locs ht hvm h hB hz1 hk1 hS => ?_)
        obtain ⟨size_13, tooG_14, rows_15, taken_16⟩ := u
        obtain ⟨hP1, hK1, hD1⟩ := hB
        rw [ht] at hP1
        have hP : va_P D vwCl (wG a0 a1 a2 a3 a4 a5 c1 c2 c4 c5 made size_13 tooG_14 kept sizes rows_15 taken_16) H := hP1
        have hD : va_D A (wG a0 a1 a2 a3 a4 a5 c1 c2 c4 c5 made size_13 tooG_14 kept sizes rows_15 taken_16) := hD1.weaken (fun _ _ _ hq => hF12 _ hq)
        refine lv_aload_n hx hb d_G_logarithm_46 rfl (lv_at hl 1 rfl) ?_
        refine lv_aload_n hx hb d_G_logarithm_47 rfl (lv_at hl 1 rfl) ?_
        refine va_get (D := D) (ci := 1) (v := .ref a1) (C := R_G) (T := F_G) (N := 4) hx hb hB inF_G hown hK hP 0 rfl rfl 0 (by decide) (hB _ wd_35) (fun _ h9 => h9) rfl d_G_logarithm_48 ?_
        refine lv_iload_n hx hb d_G_logarithm_51 rfl (lv_at hl 0 rfl) ?_
        refine lv_iconst (v := 1) hx hb d_G_logarithm_52 (by decide) ?_
        refine lv_iadd hx hb d_G_logarithm_53 ?_
        obtain ⟨g17, h⟩ := h
        refine va_iald hx hb hK hP 1 0 rfl rfl g17 d_G_logarithm_54 ?_
        refine lv_iconst (v := 2) hx hb d_G_logarithm_55 (by decide) ?_
        refine lv_iconst (v := 1) hx hb d_G_logarithm_56 (by decide) ?_
        have hF18 := va_free (wc := (wG a0 a1 a2 a3 a4 a5 c1 c2 c4 c5 made size_13 tooG_14 kept sizes rows_15 taken_16)) hD hS hA [0, 1, 2, 3, 4, 5] rfl
        refine va_callv (va_runV (As := [.int (kept (r7 + 1).toNatClampNeg), .int 2, .int 1]) (rest := []) ⟨hx, hb, hml, hown, hB⟩ (c_G_putMultiple l D a0 a1 a2 a3 a4 a5 c1 c2 c4 c5 H.size made size_13 tooG_14 kept sizes rows_15 taken_16 (kept (r7 + 1).toNatClampNeg) 2 1 _) (cwV 3 hB (goodV wd_163 wd_164 wd_496 wd_1 wd_165) rfl rfl rfl (by decide +kernel) ⟨Nat.le_of_ble_eq_true rfl, Nat.le_of_ble_eq_true rfl⟩) ⟨pcX_blind, va_recv hK hP (ci := 1) (q0 := 0) rfl rfl, pcX_pre hP hK hD hS hX hF18 h⟩ rfl rfl hl.1 rfl (lv_room (Nat.le_of_ble_eq_true rfl)) d_G_logarithm_57 ⟨Nat.le_of_ble_eq_true rfl, Nat.le_of_ble_eq_true rfl⟩) hS (fun q _ h => hF18 q h) hF18 (fun u t H locs ht hvm h hB hz1 hk1 hS => ?_)
        obtain ⟨size_19, tooG_20, rows_21, taken_22⟩ := u
        obtain ⟨hP1, hK1, hD1⟩ := hB
        rw [ht] at hP1
        have hP : va_P D vwCl (wG a0 a1 a2 a3 a4 a5 c1 c2 c4 c5 made size_19 tooG_20 kept sizes rows_21 taken_22) H := hP1
        have hD : va_D A (wG a0 a1 a2 a3 a4 a5 c1 c2 c4 c5 made size_19 tooG_20 kept sizes rows_21 taken_22) := hD1.weaken (fun _ _ _ hq => hF18 _ hq)
        refine lv_aload_n hx hb d_G_logarithm_60 rfl (lv_at hl 1 rfl) ?_
        refine lv_aload_n hx hb d_G_logarithm_61 rfl (lv_at hl 1 rfl) ?_
        refine va_get (D := D) (ci := 1) (v := .ref a1) (C := R_G) (T := F_G) (N := 4) hx hb hB inF_G hown hK hP 0 rfl rfl 0 (by decide) (hB _ wd_35) (fun _ h9 => h9) rfl d_G_logarithm_62 ?_
        refine lv_iload_n hx hb d_G_logarithm_65 rfl (lv_at hl 0 rfl) ?_
        refine lv_iconst (v := 2) hx hb d_G_logarithm_66 (by decide) ?_
        refine lv_iadd hx hb d_G_logarithm_67 ?_
        obtain ⟨g23, h⟩ := h
        refine va_iald hx hb hK hP 1 0 rfl rfl g23 d_G_logarithm_68 ?_
        refine lv_iconst (v := 3) hx hb d_G_logarithm_69 (by decide) ?_
        refine lv_iconst (v := 1) hx hb d_G_logarithm_70 (by decide) ?_
        have hF24 := va_free (wc := (wG a0 a1 a2 a3 a4 a5 c1 c2 c4 c5 made size_19 tooG_20 kept sizes rows_21 taken_22)) hD hS hA [0, 1, 2, 3, 4, 5] rfl
        refine va_callv (va_runV (As := [.int (kept (r7 + 2).toNatClampNeg), .int 3, .int 1]) (rest := []) ⟨hx, hb, hml, hown, hB⟩ (c_G_putMultiple l D a0 a1 a2 a3 a4 a5 c1 c2 c4 c5 H.size made size_19 tooG_20 kept sizes rows_21 taken_22 (kept (r7 + 2).toNatClampNeg) 3 1 _) (cwV 3 hB (goodV wd_163 wd_164 wd_496 wd_1 wd_165) rfl rfl rfl (by decide +kernel) ⟨Nat.le_of_ble_eq_true rfl, Nat.le_of_ble_eq_true rfl⟩) ⟨pcX_blind, va_recv hK hP (ci := 1) (q0 := 0) rfl rfl, pcX_pre hP hK hD hS hX hF24 h⟩ rfl rfl hl.1 rfl (lv_room (Nat.le_of_ble_eq_true rfl)) d_G_logarithm_71 ⟨Nat.le_of_ble_eq_true rfl, Nat.le_of_ble_eq_true rfl⟩) hS (fun q _ h => hF24 q h) hF24 (fun u t H locs ht hvm h hB hz1 hk1 hS => ?_)
        obtain ⟨size_25, tooG_26, rows_27, taken_28⟩ := u
        obtain ⟨hP1, hK1, hD1⟩ := hB
        rw [ht] at hP1
        have hP : va_P D vwCl (wG a0 a1 a2 a3 a4 a5 c1 c2 c4 c5 made size_25 tooG_26 kept sizes rows_27 taken_28) H := hP1
        have hD : va_D A (wG a0 a1 a2 a3 a4 a5 c1 c2 c4 c5 made size_25 tooG_26 kept sizes rows_27 taken_28) := hD1.weaken (fun _ _ _ hq => hF24 _ hq)
        refine lv_aload_n hx hb d_G_logarithm_74 rfl (lv_at hl 1 rfl) ?_
        refine lv_aload_n hx hb d_G_logarithm_75 rfl (lv_at hl 1 rfl) ?_
        refine va_get (D := D) (ci := 1) (v := .ref a1) (C := R_G) (T := F_G) (N := 4) hx hb hB inF_G hown hK hP 0 rfl rfl 0 (by decide) (hB _ wd_35) (fun _ h9 => h9) rfl d_G_logarithm_76 ?_
        refine lv_iload_n hx hb d_G_logarithm_79 rfl (lv_at hl 0 rfl) ?_
        refine lv_iconst (v := 3) hx hb d_G_logarithm_80 (by decide) ?_
        refine lv_iadd hx hb d_G_logarithm_81 ?_
        obtain ⟨g29, h⟩ := h
        refine va_iald hx hb hK hP 1 0 rfl rfl g29 d_G_logarithm_82 ?_
        refine lv_iconst (v := 4) hx hb d_G_logarithm_83 (by decide) ?_
        refine lv_iconst (v := 1) hx hb d_G_logarithm_84 (by decide) ?_
        have hF30 := va_free (wc := (wG a0 a1 a2 a3 a4 a5 c1 c2 c4 c5 made size_25 tooG_26 kept sizes rows_27 taken_28)) hD hS hA [0, 1, 2, 3, 4, 5] rfl
        refine va_callv (va_runV (As := [.int (kept (r7 + 3).toNatClampNeg), .int 4, .int 1]) (rest := []) ⟨hx, hb, hml, hown, hB⟩ (c_G_putMultiple l D a0 a1 a2 a3 a4 a5 c1 c2 c4 c5 H.size made size_25 tooG_26 kept sizes rows_27 taken_28 (kept (r7 + 3).toNatClampNeg) 4 1 _) (cwV 3 hB (goodV wd_163 wd_164 wd_496 wd_1 wd_165) rfl rfl rfl (by decide +kernel) ⟨Nat.le_of_ble_eq_true rfl, Nat.le_of_ble_eq_true rfl⟩) ⟨pcX_blind, va_recv hK hP (ci := 1) (q0 := 0) rfl rfl, pcX_pre hP hK hD hS hX hF30 h⟩ rfl rfl hl.1 rfl (lv_room (Nat.le_of_ble_eq_true rfl)) d_G_logarithm_85 ⟨Nat.le_of_ble_eq_true rfl, Nat.le_of_ble_eq_true rfl⟩) hS (fun q _ h => hF30 q h) hF30 (fun u t H locs ht hvm h hB hz1 hk1 hS => ?_)
        obtain ⟨size_31, tooG_32, rows_33, taken_34⟩ := u
        obtain ⟨hP1, hK1, hD1⟩ := hB
        rw [ht] at hP1
        have hP : va_P D vwCl (wG a0 a1 a2 a3 a4 a5 c1 c2 c4 c5 made size_31 tooG_32 kept sizes rows_33 taken_34) H := hP1
        have hD : va_D A (wG a0 a1 a2 a3 a4 a5 c1 c2 c4 c5 made size_31 tooG_32 kept sizes rows_33 taken_34) := hD1.weaken (fun _ _ _ hq => hF30 _ hq)
        refine lv_aload_n hx hb d_G_logarithm_88 rfl (lv_at hl 1 rfl) ?_
        have hF35 := va_free (wc := (wG a0 a1 a2 a3 a4 a5 c1 c2 c4 c5 made size_31 tooG_32 kept sizes rows_33 taken_34)) hD hS hA [0, 1, 2, 3, 4, 5] rfl
        refine vx_calli (vx_runV (As := []) (rest := []) ⟨hx, hb, hml, hown, hB⟩ (c_G_keep l D a0 a1 a2 a3 a4 a5 c1 c2 c4 c5 H.size made size_31 tooG_32 kept sizes rows_33 taken_34 _ _ hst) (cwV 0 hB (goodV wd_141 wd_142 wd_495 wd_1 wd_143) rfl rfl rfl (by decide +kernel) ⟨Nat.le_of_ble_eq_true rfl, Nat.le_of_ble_eq_true rfl⟩) ⟨pcX_blind, va_recv hK hP (ci := 1) (q0 := 0) rfl rfl, pcX_pre hP hK hD hS hX hF35 h⟩ rfl rfl hl.1 rfl (lv_room (Nat.le_of_ble_eq_true rfl)) d_G_logarithm_89 ⟨Nat.le_of_ble_eq_true rfl, Nat.le_of_ble_eq_true rfl⟩) hS (fun q _ h => hF35 q h) hF35 (fun q _ h => hF35 q h) (fun E ce q9 u t H locs ht hvm _ hB hz1 hk1 hS hce hcv hcl => ?_) (fun r36 u t H locs ht hvm h hB hz1 hk1 hS => ?_)
        · -- thrown
          obtain ⟨made_37, kept_38, sizes_39⟩ := u
          obtain ⟨h1, hP1, hK1, hD1⟩ := hB
          replace h := h1
          rw [ht] at hP1
          have hP : va_P D vwCl (wG a0 a1 a2 a3 a4 a5 c1 c2 c4 c5 made_37 size_31 tooG_32 kept_38 sizes_39 rows_33 taken_34) H := hP1
          have hD : va_D A (wG a0 a1 a2 a3 a4 a5 c1 c2 c4 c5 made_37 size_31 tooG_32 kept_38 sizes_39 rows_33 taken_34) := hD1.weaken (fun _ _ _ hq => hF35 _ hq)
          exact vx_out (fun x hx => (hno x hx).elim) hlocks hce hcv hcl (fun t9 ht9 hW9 => ⟨(made_37, size_31, tooG_32, kept_38, sizes_39, rows_33, taken_34), trivial, ⟨h, by rw [ht9]; exact hP, va_K.moved hW9 hK, hD⟩, hS.F ht9⟩) hS.2.2 (by omega) (by omega)
        ·
          obtain ⟨made_37, kept_38, sizes_39⟩ := u
          obtain ⟨hP1, hK1, hD1⟩ := hB
          rw [ht] at hP1
          have hP : va_P D vwCl (wG a0 a1 a2 a3 a4 a5 c1 c2 c4 c5 made_37 size_31 tooG_32 kept_38 sizes_39 rows_33 taken_34) H := hP1
          have hD : va_D A (wG a0 a1 a2 a3 a4 a5 c1 c2 c4 c5 made_37 size_31 tooG_32 kept_38 sizes_39 rows_33 taken_34) := hD1.weaken (fun _ _ _ hq => hF35 _ hq)
          refine W.widen (k := 3) (n := 18) (by omega) (by omega) ?_
          exact vx_ret (W.iret (v := r36) hx hb hr (fun t ht hW => ⟨⟨r36, (made_37, size_31, tooG_32, kept_38, sizes_39, rows_33, taken_34), rfl, h, by rw [ht]; exact hP, va_K.moved hW.alike hK, hD⟩, hS.F ht⟩) hS.2.2 d_G_logarithm_92)
      · replace h := h.2 hc5
        refine lv_iconst (v := (-1)) hx hb d_G_logarithm_17 (by decide) ?_
        refine W.widen (k := 3) (n := 18) (by omega) (by omega) ?_
        exact vx_ret (W.iret (v := (-1)) hx hb hr (fun t ht hW => ⟨⟨(-1), (made, size, tooG, kept, sizes, rows, taken), rfl, h, by rw [ht]; exact hP, va_K.moved hW.alike hK, hD⟩, hS.F ht⟩) hS.2.2 d_G_logarithm_18)
set_option maxHeartbeats 4000000 in
set_option maxRecDepth 100000 in
theorem c_G_exponential (l : Launch) (D : va_G) (a0 a1 a2 a3 a4 a5 : Nat) (c1 c2 c4 c5 : ClassId) (sz : Nat) (made : Int32) (size : Int32) (tooG : Int32) (kept : (Nat → Int32)) (sizes : (Nat → Int32)) (rows : (Nat → Int32)) (taken : (Nat → Int32)) (p0 : Int32) (post : Int32 → Int32 → Int32 → Int32 → (Nat → Int32) → (Nat → Int32) → (Nat → Int32) → (Nat → Int32) → Prop) (postx : String → Int32 → Int32 → Int32 → (Nat → Int32) → (Nat → Int32) → (Nat → Int32) → (Nat → Int32) → Prop) (hst : l.stackTraces = false) : vx_Met l y_G_exponential (Cond.code y_G_exponential b_G_exponential 5 (some .int) :: BIG) ({ frames := 7, cells := 3, slots := 18, locals := 128 }) (va_Pc [.ref a0, .int p0] (pcX D vwCl (wG a0 a1 a2 a3 a4 a5 c1 c2 c4 c5 made size tooG kept sizes rows taken) [(c1, .int), (c2, .int), (c4, .int), (c5, .int)] sz (wp_G_exponential made size tooG kept sizes rows taken p0 post postx))) (va_Qi (fun (r : Int32) (u : Int32 × Int32 × Int32 × (Nat → Int32) × (Nat → Int32) × (Nat → Int32) × (Nat → Int32)) => post r (u.1) (u.2.1) (u.2.2.1) (u.2.2.2.1) (u.2.2.2.2.1) (u.2.2.2.2.2.1) (u.2.2.2.2.2.2)) (fun u => atG D vwCl [(c1, .int), (c2, .int), (c4, .int), (c5, .int)] (va_A (wG a0 a1 a2 a3 a4 a5 c1 c2 c4 c5 made size tooG kept sizes rows taken) sz) (wG a0 a1 a2 a3 a4 a5 c1 c2 c4 c5 (u.1) (u.2.1) (u.2.2.1) (u.2.2.2.1) (u.2.2.2.2.1) (u.2.2.2.2.2.1) (u.2.2.2.2.2.2))) (va_A (wG a0 a1 a2 a3 a4 a5 c1 c2 c4 c5 made size tooG kept sizes rows taken) sz)) (vx_X (fun _ : Int32 × Int32 × Int32 × (Nat → Int32) × (Nat → Int32) × (Nat → Int32) × (Nat → Int32) => True) (fun E u => atX D vwCl [(c1, .int), (c2, .int), (c4, .int), (c5, .int)] (va_A (wG a0 a1 a2 a3 a4 a5 c1 c2 c4 c5 made size tooG kept sizes rows taken) sz) (wG a0 a1 a2 a3 a4 a5 c1 c2 c4 c5 (u.1) (u.2.1) (u.2.2.1) (u.2.2.2.1) (u.2.2.2.2.1) (u.2.2.2.2.2.1) (u.2.2.2.2.2.2)) (postx E (u.1) (u.2.1) (u.2.2.1) (u.2.2.2.1) (u.2.2.2.2.1) (u.2.2.2.2.2.1) (u.2.2.2.2.2.2))) (va_A (wG a0 a1 a2 a3 a4 a5 c1 c2 c4 c5 made size tooG kept sizes rows taken) sz)) 3 18 (va_A (wG a0 a1 a2 a3 a4 a5 c1 c2 c4 c5 made size tooG kept sizes rows taken) sz) := by
  refine vx_ofW (cc := b_G_exponential) (maxL := 5) (ret := (some .int)) (by decide) rfl ?_
  intro p e s m args below meth c s₁ B hml hno hv
  obtain ⟨rfl, hsz, hP, hK, hD0, hX, h⟩ := hv
  have hx := B.exec
  have hb := B.bytes
  have hr := B.returns
  have hB : ∀ w ∈ BIG, w.before _ s = true := fun w h => atoms_spec (ws := (Cond.code y_G_exponential b_G_exponential 5 (some .int) :: BIG)) B.pre w (List.mem_cons_of_mem _ h)
  have hown : s.vm.findClass R_G = some m.cls := findClass_of_methodNamed B.named
  have hlocks := B.notSynchronized
  subst hsz
  have hD := hD0.self (sz := s.heap.size)
  generalize hAe : va_A (wG a0 a1 a2 a3 a4 a5 c1 c2 c4 c5 made size tooG kept sizes rows taken) s.heap.size = A at hD hX ⊢
  have hA : ∀ q : Nat, s.heap.size ≤ q → A q := fun q h => by rw [← hAe]; exact Or.inr h
  have hl := lv_entry ([.ref a0, .int p0]) (n := 5) (Nat.le_of_ble_eq_true rfl)
  rw [lg_entry_eq]
  generalize (lg_sl ([.ref a0, .int p0]) ++ List.replicate (5 - (lg_sl ([.ref a0, .int p0])).length) Slot.unset).toArray = ls at hl ⊢
  have hl : lv_has ls 5 [(0, .ref a0), (1, .int p0)] := hl
  refine W.cap (fun G Gi Ge => ?_)
  suffices hL : ∀ (H : Heap) (locs : List Loc), va_P D vwCl (wG a0 a1 a2 a3 a4 a5 c1 c2 c4 c5 made size tooG kept sizes rows taken) H → va_S A s.heap H locs → G H locs (F0 m 0 ls []) from hL _ _ hP va_S.rf
  clear hP
  intro H locs hP hS
  refine Gi _ _ _ ?_
  unfold wp_G_exponential at h
  refine lv_aload_n hx hb d_G_exponential_0 rfl (lv_at hl 0 rfl) ?_
  refine lv_iload_n hx hb d_G_exponential_1 rfl (lv_at hl 1 rfl) ?_
  have hF1 := va_free (wc := (wG a0 a1 a2 a3 a4 a5 c1 c2 c4 c5 made size tooG kept sizes rows taken)) hD hS hA [0, 1, 2, 3, 4, 5] rfl
  refine vx_callv (vx_runV (As := [.int p0]) (rest := []) ⟨hx, hb, hml, hown, hB⟩ (c_G_requireFunction l D a0 a1 a2 a3 a4 a5 c1 c2 c4 c5 H.size made size tooG kept sizes rows taken p0 _ _ hst) (cwV 1 hB (goodV wd_178 wd_179 wd_497 wd_1 wd_180) rfl rfl rfl (by decide +kernel) ⟨Nat.le_of_ble_eq_true rfl, Nat.le_of_ble_eq_true rfl⟩) ⟨pcX_blind, va_recv hK hP (ci := 1) (q0 := 0) rfl rfl, pcX_pre hP hK hD hS hX hF1 h⟩ rfl rfl hl.1 rfl (lv_room (Nat.le_of_ble_eq_true rfl)) d_G_exponential_2 ⟨Nat.le_of_ble_eq_true rfl, Nat.le_of_ble_eq_true rfl⟩) hS (fun q _ h => hF1 q h) hF1 (fun q _ h => hF1 q h) (fun E ce q9 u t H locs ht hvm _ hB hz1 hk1 hS hce hcv hcl => ?_) (fun u t H locs ht hvm h hB hz1 hk1 hS => ?_)
  · -- thrown
    obtain ⟨h1, hP1, hK1, hD1⟩ := hB
    replace h := h1
    rw [ht] at hP1
    have hP : va_P D vwCl (wG a0 a1 a2 a3 a4 a5 c1 c2 c4 c5 made size tooG kept sizes rows taken) H := hP1
    have hD : va_D A (wG a0 a1 a2 a3 a4 a5 c1 c2 c4 c5 made size tooG kept sizes rows taken) := hD1.weaken (fun _ _ _ hq => hF1 _ hq)
    exact vx_out (fun x hx => (hno x hx).elim) hlocks hce hcv hcl (fun t9 ht9 hW9 => ⟨(made, size, tooG, kept, sizes, rows, taken), trivial, ⟨h, by rw [ht9]; exact hP, va_K.moved hW9 hK, hD⟩, hS.F ht9⟩) hS.2.2 (by omega) (by omega)
  ·
    obtain ⟨hP1, hK1, hD1⟩ := hB
    rw [ht] at hP1
    have hP : va_P D vwCl (wG a0 a1 a2 a3 a4 a5 c1 c2 c4 c5 made size tooG kept sizes rows taken) H := hP1
    have hD : va_D A (wG a0 a1 a2 a3 a4 a5 c1 c2 c4 c5 made size tooG kept sizes rows taken) := hD1.weaken (fun _ _ _ hq => hF1 _ hq)
    refine W.widen (k := 1) (n := 6) (by omega) (by omega) ?_
    refine lv_aload_n hx hb d_G_exponential_5 rfl (lv_at hl 0 rfl) ?_
    have hF2 := va_free (wc := (wG a0 a1 a2 a3 a4 a5 c1 c2 c4 c5 made size tooG kept sizes rows taken)) hD hS hA [0, 1, 2, 3, 4, 5] rfl
    refine vx_callv (vx_runV (As := []) (rest := []) ⟨hx, hb, hml, hown, hB⟩ (c_G_requireRoom l D a0 a1 a2 a3 a4 a5 c1 c2 c4 c5 H.size made size tooG kept sizes rows taken _ _ hst) (cwV 0 hB (goodV wd_88 wd_89 wd_489 wd_1 wd_90) rfl rfl rfl (by decide +kernel) ⟨Nat.le_of_ble_eq_true rfl, Nat.le_of_ble_eq_true rfl⟩) ⟨pcX_blind, va_recv hK hP (ci := 1) (q0 := 0) rfl rfl, pcX_pre hP hK hD hS hX hF2 h⟩ rfl rfl hl.1 rfl (lv_room (Nat.le_of_ble_eq_true rfl)) d_G_exponential_6 ⟨Nat.le_of_ble_eq_true rfl, Nat.le_of_ble_eq_true rfl⟩) hS (fun q _ h => hF2 q h) hF2 (fun q _ h => hF2 q h) (fun E ce q9 u t H locs ht hvm _ hB hz1 hk1 hS hce hcv hcl => ?_) (fun u t H locs ht hvm h hB hz1 hk1 hS => ?_)
    · -- thrown
      obtain ⟨h1, hP1, hK1, hD1⟩ := hB
      replace h := h1
      rw [ht] at hP1
      have hP : va_P D vwCl (wG a0 a1 a2 a3 a4 a5 c1 c2 c4 c5 made size tooG kept sizes rows taken) H := hP1
      have hD : va_D A (wG a0 a1 a2 a3 a4 a5 c1 c2 c4 c5 made size tooG kept sizes rows taken) := hD1.weaken (fun _ _ _ hq => hF2 _ hq)
      exact vx_out (fun x hx => (hno x hx).elim) hlocks hce hcv hcl (fun t9 ht9 hW9 => ⟨(made, size, tooG, kept, sizes, rows, taken), trivial, ⟨h, by rw [ht9]; exact hP, va_K.moved hW9 hK, hD⟩, hS.F ht9⟩) hS.2.2 (by omega) (by omega)
    ·
      obtain ⟨hP1, hK1, hD1⟩ := hB
      rw [ht] at hP1
      have hP : va_P D vwCl (wG a0 a1 a2 a3 a4 a5 c1 c2 c4 c5 made size tooG kept sizes rows taken) H := hP1
      have hD : va_D A (wG a0 a1 a2 a3 a4 a5 c1 c2 c4 c5 made size tooG kept sizes rows taken) := hD1.weaken (fun _ _ _ hq => hF2 _ hq)
      refine W.widen (k := 2) (n := 12) (by omega) (by omega) ?_
      refine lv_aload_n hx hb d_G_exponential_9 rfl (lv_at hl 0 rfl) ?_
      refine va_get (D := D) (ci := 1) (v := .ref a3) (C := R_G) (T := F_G) (N := 4) hx hb hB inF_G hown hK hP 0 rfl rfl 2 (by decide) (hB _ wd_37) (fun _ h9 => h9) rfl d_G_exponential_10 ?_
      have hF3 := va_free (wc := (wG a0 a1 a2 a3 a4 a5 c1 c2 c4 c5 made size tooG kept sizes rows taken)) hD hS hA [0, 1, 2, 3, 4, 5] rfl
      refine va_callv (va_runV (As := []) (rest := []) ⟨hx, hb, hml, hown, hB⟩ (c_W_begin l D a0 a1 a2 a3 a4 a5 c1 c2 c4 c5 H.size made size tooG kept sizes rows taken _) (cwV 0 hB (goodV wd_98 wd_99 wd_100 wd_2 wd_101) rfl rfl rfl (by decide +kernel) ⟨Nat.le_of_ble_eq_true rfl, Nat.le_of_ble_eq_true rfl⟩) ⟨pcX_blind, va_recv hK hP (ci := 0) (q0 := 3) rfl rfl, pcX_pre hP hK hD hS hX hF3 h⟩ rfl rfl hl.1 rfl (lv_room (Nat.le_of_ble_eq_true rfl)) d_G_exponential_13 ⟨Nat.le_of_ble_eq_true rfl, Nat.le_of_ble_eq_true rfl⟩) hS (fun q _ h => hF3 q h) hF3 (fun u t H locs ht hvm h hB hz1 hk1 hS => ?_)
      obtain ⟨size_4, tooG_5⟩ := u
      obtain ⟨hP1, hK1, hD1⟩ := hB
      rw [ht] at hP1
      have hP : va_P D vwCl (wG a0 a1 a2 a3 a4 a5 c1 c2 c4 c5 made size_4 tooG_5 kept sizes rows taken) H := hP1
      have hD : va_D A (wG a0 a1 a2 a3 a4 a5 c1 c2 c4 c5 made size_4 tooG_5 kept sizes rows taken) := hD1.weaken (fun _ _ _ hq => hF3 _ hq)
      refine lv_aload_n hx hb d_G_exponential_16 rfl (lv_at hl 0 rfl) ?_
      refine va_get (D := D) (ci := 1) (v := .ref a3) (C := R_G) (T := F_G) (N := 4) hx hb hB inF_G hown hK hP 0 rfl rfl 2 (by decide) (hB _ wd_37) (fun _ h9 => h9) rfl d_G_exponential_17 ?_
      have hF6 := va_free (wc := (wG a0 a1 a2 a3 a4 a5 c1 c2 c4 c5 made size_4 tooG_5 kept sizes rows taken)) hD hS hA [0, 1, 2, 3, 4, 5] rfl
      refine va_callv (va_runV (As := []) (rest := []) ⟨hx, hb, hml, hown, hB⟩ (c_W_takeOne l D a0 a1 a2 a3 a4 a5 c1 c2 c4 c5 H.size made size_4 tooG_5 kept sizes rows taken _) (cwV 0 hB (goodV wd_102 wd_103 wd_104 wd_2 wd_105) rfl rfl rfl (by decide +kernel) ⟨Nat.le_of_ble_eq_true rfl, Nat.le_of_ble_eq_true rfl⟩) ⟨pcX_blind, va_recv hK hP (ci := 0) (q0 := 3) rfl rfl, pcX_pre hP hK hD hS hX hF6 h⟩ rfl rfl hl.1 rfl (lv_room (Nat.le_of_ble_eq_true rfl)) d_G_exponential_20 ⟨Nat.le_of_ble_eq_true rfl, Nat.le_of_ble_eq_true rfl⟩) hS (fun q _ h => hF6 q h) hF6 (fun taken_7 t H locs ht hvm h hB hz1 hk1 hS => ?_)
      obtain ⟨hP1, hK1, hD1⟩ := hB
      rw [ht] at hP1
      have hP : va_P D vwCl (wG a0 a1 a2 a3 a4 a5 c1 c2 c4 c5 made size_4 tooG_5 kept sizes rows taken_7) H := hP1
      have hD : va_D A (wG a0 a1 a2 a3 a4 a5 c1 c2 c4 c5 made size_4 tooG_5 kept sizes rows taken_7) := hD1.weaken (fun _ _ _ hq => hF6 _ hq)
      refine lv_iconst (v := 0) hx hb d_G_exponential_23 (by decide) ?_
      refine lv_istore_n (lv' := [(2, .int 0), (0, .ref a0), (1, .int p0)]) hx hb d_G_exponential_24 rfl hl (by decide) rfl (fun ls hl => ?_)
      obtain ⟨n25, h⟩ := h
      refine W.cap (fun G25 Gi25 Ge25 => ?_)
      suffices hL25 : ∀ (n25 : Nat) (v2_8 : Int32) (tooG_9 : Int32) (taken_10 : (Nat → Int32)) (H : Heap) (locs : List Loc) (ls : Array Slot), va_P D vwCl (wG a0 a1 a2 a3 a4 a5 c1 c2 c4 c5 made size_4 tooG_9 kept sizes rows taken_10) H → va_D A (wG a0 a1 a2 a3 a4 a5 c1 c2 c4 c5 made size_4 tooG_9 kept sizes rows taken_10) → va_S A s.heap H locs → lv_has ls 5 [(2, .int v2_8), (0, .ref a0), (1, .int p0)] → lpW3 (wb_G_exponential_25 p0 sizes size_4 rows made kept post postx) n25 v2_8 tooG_9 taken_10 → G25 H locs (F0 m 25 ls []) from hL25 n25 (0 : Int32) tooG_5 taken_7 _ _ _ hP hD hS hl h
      clear h hP hD hS hl
      intro n25
      induction n25 with
      | zero => intro v2_8 tooG_9 taken_10 H locs ls hP hD hS hl h; exact (show False from h).elim
      | succ n25 ihL25 =>
        intro v2_8 tooG_9 taken_10 H locs ls hP hD hS hl h
        replace h : (wb_G_exponential_25 p0 sizes size_4 rows made kept post postx) (lpW3 (wb_G_exponential_25 p0 sizes size_4 rows made kept post postx) n25) v2_8 tooG_9 taken_10 := h
        refine Gi25 _ _ _ ?_
        refine lv_iload_n hx hb d_G_exponential_25 rfl (lv_at hl 0 rfl) ?_
        refine lv_aload_n hx hb d_G_exponential_26 rfl (lv_at hl 1 rfl) ?_
        refine va_get (D := D) (ci := 1) (v := .ref a2) (C := R_G) (T := F_G) (N := 4) hx hb hB inF_G hown hK hP 0 rfl rfl 1 (by decide) (hB _ wd_36) (fun _ h9 => h9) rfl d_G_exponential_27 ?_
        refine lv_iload_n hx hb d_G_exponential_30 rfl (lv_at hl 2 rfl) ?_
        obtain ⟨g11, h⟩ := h
        refine va_iald hx hb hK hP 2 1 rfl rfl g11 d_G_exponential_31 ?_
        refine lv_icmp_ge (tgt := 78) hx hb d_G_exponential_32 (by decide) (fun hc12 => ?_) (fun hc12 => ?_)
        · replace h := h.1 hc12
          refine lv_aload_n hx hb d_G_exponential_78 rfl (lv_at hl 1 rfl) ?_
          refine va_get (D := D) (ci := 1) (v := .ref a3) (C := R_G) (T := F_G) (N := 4) hx hb hB inF_G hown hK hP 0 rfl rfl 2 (by decide) (hB _ wd_37) (fun _ h9 => h9) rfl d_G_exponential_79 ?_
          have hF13 := va_free (wc := (wG a0 a1 a2 a3 a4 a5 c1 c2 c4 c5 made size_4 tooG_9 kept sizes rows taken_10)) hD hS hA [0, 1, 2, 3, 4, 5] rfl
          refine va_callv (va_runV (As := []) (rest := []) ⟨hx, hb, hml, hown, hB⟩ (c_W_putTaken l D a0 a1 a2 a3 a4 a5 c1 c2 c4 c5 H.size made size_4 tooG_9 kept sizes rows taken_10 _) (cwV 0 hB (goodV wd_120 wd_121 wd_122 wd_2 wd_123) rfl rfl rfl (by decide +kernel) ⟨Nat.le_of_ble_eq_true rfl, Nat.le_of_ble_eq_true rfl⟩) ⟨pcX_blind, va_recv hK hP (ci := 0) (q0 := 3) rfl rfl, pcX_pre hP hK hD hS hX hF13 h⟩ rfl rfl hl.1 rfl (lv_room (Nat.le_of_ble_eq_true rfl)) d_G_exponential_82 ⟨Nat.le_of_ble_eq_true rfl, Nat.le_of_ble_eq_true rfl⟩) hS (fun q _ h => hF13 q h) hF13 (fun u t H locs ht hvm h hB hz1 hk1 hS => ?_)
          obtain ⟨size_14, tooG_15, rows_16⟩ := u
          obtain ⟨hP1, hK1, hD1⟩ := hB
          rw [ht] at hP1
          have hP : va_P D vwCl (wG a0 a1 a2 a3 a4 a5 c1 c2 c4 c5 made size_14 tooG_15 kept sizes rows_16 taken_10) H := hP1
          have hD : va_D A (wG a0 a1 a2 a3 a4 a5 c1 c2 c4 c5 made size_14 tooG_15 kept sizes rows_16 taken_10) := hD1.weaken (fun _ _ _ hq => hF13 _ hq)
          refine lv_aload_n hx hb d_G_exponential_85 rfl (lv_at hl 1 rfl) ?_
          have hF17 := va_free (wc := (wG a0 a1 a2 a3 a4 a5 c1 c2 c4 c5 made size_14 tooG_15 kept sizes rows_16 taken_10)) hD hS hA [0, 1, 2, 3, 4, 5] rfl
          refine vx_calli (vx_runV (As := []) (rest := []) ⟨hx, hb, hml, hown, hB⟩ (c_G_keep l D a0 a1 a2 a3 a4 a5 c1 c2 c4 c5 H.size made size_14 tooG_15 kept sizes rows_16 taken_10 _ _ hst) (cwV 0 hB (goodV wd_141 wd_142 wd_495 wd_1 wd_143) rfl rfl rfl (by decide +kernel) ⟨Nat.le_of_ble_eq_true rfl, Nat.le_of_ble_eq_true rfl⟩) ⟨pcX_blind, va_recv hK hP (ci := 1) (q0 := 0) rfl rfl, pcX_pre hP hK hD hS hX hF17 h⟩ rfl rfl hl.1 rfl (lv_room (Nat.le_of_ble_eq_true rfl)) d_G_exponential_86 ⟨Nat.le_of_ble_eq_true rfl, Nat.le_of_ble_eq_true rfl⟩) hS (fun q _ h => hF17 q h) hF17 (fun q _ h => hF17 q h) (fun E ce q9 u t H locs ht hvm _ hB hz1 hk1 hS hce hcv hcl => ?_) (fun r18 u t H locs ht hvm h hB hz1 hk1 hS => ?_)
          · -- thrown
            obtain ⟨made_19, kept_20, sizes_21⟩ := u
            obtain ⟨h1, hP1, hK1, hD1⟩ := hB
            replace h := h1
            rw [ht] at hP1
            have hP : va_P D vwCl (wG a0 a1 a2 a3 a4 a5 c1 c2 c4 c5 made_19 size_14 tooG_15 kept_20 sizes_21 rows_16 taken_10) H := hP1
            have hD : va_D A (wG a0 a1 a2 a3 a4 a5 c1 c2 c4 c5 made_19 size_14 tooG_15 kept_20 sizes_21 rows_16 taken_10) := hD1.weaken (fun _ _ _ hq => hF17 _ hq)
            exact vx_out (fun x hx => (hno x hx).elim) hlocks hce hcv hcl (fun t9 ht9 hW9 => ⟨(made_19, size_14, tooG_15, kept_20, sizes_21, rows_16, taken_10), trivial, ⟨h, by rw [ht9]; exact hP, va_K.moved hW9 hK, hD⟩, hS.F ht9⟩) hS.2.2 (by omega) (by omega)
          ·
            obtain ⟨made_19, kept_20, sizes_21⟩ := u
            obtain ⟨hP1, hK1, hD1⟩ := hB
            rw [ht] at hP1
            have hP : va_P D vwCl (wG a0 a1 a2 a3 a4 a5 c1 c2 c4 c5 made_19 size_14 tooG_15 kept_20 sizes_21 rows_16 taken_10) H := hP1
            have hD : va_D A (wG a0 a1 a2 a3 a4 a5 c1 c2 c4 c5 made_19 size_14 tooG_15 kept_20 sizes_21 rows_16 taken_10) := hD1.weaken (fun _ _ _ hq => hF17 _ hq)
            refine W.widen (k := 3) (n := 18) (by omega) (by omega) ?_
            exact vx_ret (W.iret (v := r18) hx hb hr (fun t ht hW => ⟨⟨r18, (made_19, size_14, tooG_15, kept_20, sizes_21, rows_16, taken_10), rfl, h, by rw [ht]; exact hP, va_K.moved hW.alike hK, hD⟩, hS.F ht⟩) hS.2.2 d_G_exponential_89)
        · replace h := h.2 hc12
          refine lv_iload_n hx hb d_G_exponential_35 rfl (lv_at hl 2 rfl) ?_
          refine lv_iload_n hx hb d_G_exponential_36 rfl (lv_at hl 0 rfl) ?_
          have hF22 := va_free (wc := (wG a0 a1 a2 a3 a4 a5 c1 c2 c4 c5 made size_4 tooG_9 kept sizes rows taken_10)) hD hS hA [0, 1, 2, 3, 4, 5] rfl
          refine va_calli (va_runS (As := [.int p0, .int v2_8]) (rest := []) ⟨hx, hb, hml, hown, hB⟩ (c_G_rowOf l D a0 a1 a2 a3 a4 a5 c1 c2 c4 c5 H.size made size_4 tooG_9 kept sizes rows taken_10 p0 v2_8 _) (cwS 2 hB (goodS wd_144 wd_145 wd_1 wd_146) rfl rfl rfl (by decide +kernel) ⟨Nat.le_of_ble_eq_true rfl, Nat.le_of_ble_eq_true rfl⟩) ⟨pcX_blind, pcX_pre hP hK hD hS hX hF22 h⟩ rfl rfl hl.1 rfl (lv_room (Nat.le_of_ble_eq_true rfl)) d_G_exponential_37 ⟨Nat.le_of_ble_eq_true rfl, Nat.le_of_ble_eq_true rfl⟩) hS (fun q _ h => hF22 q h) hF22 (fun r23 u t H locs ht hvm h hB hz1 hk1 hS => ?_)
          obtain ⟨hP1, hK1, hD1⟩ := hB
          rw [ht] at hP1
          have hP : va_P D vwCl (wG a0 a1 a2 a3 a4 a5 c1 c2 c4 c5 made size_4 tooG_9 kept sizes rows taken_10) H := hP1
          have hD : va_D A (wG a0 a1 a2 a3 a4 a5 c1 c2 c4 c5 made size_4 tooG_9 kept sizes rows taken_10) := hD1.weaken (fun _ _ _ hq => hF22 _ hq)
          refine lv_istore_n (lv' := [(3, .int r23), (2, .int v2_8), (0, .ref a0), (1, .int p0)]) hx hb d_G_exponential_40 rfl hl (by decide) rfl (fun ls hl => ?_)
          refine lv_aload_n hx hb d_G_exponential_41 rfl (lv_at hl 2 rfl) ?_
          refine lv_iload_n hx hb d_G_exponential_42 rfl (lv_at hl 0 rfl) ?_
          have hF24 := va_free (wc := (wG a0 a1 a2 a3 a4 a5 c1 c2 c4 c5 made size_4 tooG_9 kept sizes rows taken_10)) hD hS hA [0, 1, 2, 3, 4, 5] rfl
          refine va_calli (va_runV (As := [.int r23]) (rest := []) ⟨hx, hb, hml, hown, hB⟩ (c_G_cellOfExponential l D a0 a1 a2 a3 a4 a5 c1 c2 c4 c5 H.size made size_4 tooG_9 kept sizes rows taken_10 r23 _) (cwV 1 hB (goodV wd_246 wd_247 wd_501 wd_1 wd_248) rfl rfl rfl (by decide +kernel) ⟨Nat.le_of_ble_eq_true rfl, Nat.le_of_ble_eq_true rfl⟩) ⟨pcX_blind, va_recv hK hP (ci := 1) (q0 := 0) rfl rfl, pcX_pre hP hK hD hS hX hF24 h⟩ rfl rfl hl.1 rfl (lv_room (Nat.le_of_ble_eq_true rfl)) d_G_exponential_43 ⟨Nat.le_of_ble_eq_true rfl, Nat.le_of_ble_eq_true rfl⟩) hS (fun q _ h => hF24 q h) hF24 (fun r25 u t H locs ht hvm h hB hz1 hk1 hS => ?_)
          obtain ⟨hP1, hK1, hD1⟩ := hB
          rw [ht] at hP1
          have hP : va_P D vwCl (wG a0 a1 a2 a3 a4 a5 c1 c2 c4 c5 made size_4 tooG_9 kept sizes rows taken_10) H := hP1
          have hD : va_D A (wG a0 a1 a2 a3 a4 a5 c1 c2 c4 c5 made size_4 tooG_9 kept sizes rows taken_10) := hD1.weaken (fun _ _ _ hq => hF24 _ hq)
          refine lv_istore (lv' := [(4, .int r25), (3, .int r23), (2, .int v2_8), (0, .ref a0), (1, .int p0)]) hx hb d_G_exponential_46 hl (by decide) rfl (fun ls hl => ?_)
          refine lv_iload hx hb d_G_exponential_48 (lv_at hl 0 rfl) ?_
          refine lv_if_ge (tgt := 55) hx hb d_G_exponential_50 (by decide) (fun hc26 => ?_) (fun hc26 => ?_)
          · replace h := h.1 hc26
            refine lv_aload_n hx hb d_G_exponential_55 rfl (lv_at hl 3 rfl) ?_
            refine va_get (D := D) (ci := 1) (v := .ref a3) (C := R_G) (T := F_G) (N := 4) hx hb hB inF_G hown hK hP 0 rfl rfl 2 (by decide) (hB _ wd_37) (fun _ h9 => h9) rfl d_G_exponential_56 ?_
            refine lv_iload hx hb d_G_exponential_59 (lv_at hl 0 rfl) ?_
            refine lv_aload_n hx hb d_G_exponential_61 rfl (lv_at hl 3 rfl) ?_
            refine va_get (D := D) (ci := 1) (v := .ref a1) (C := R_G) (T := F_G) (N := 4) hx hb hB inF_G hown hK hP 0 rfl rfl 0 (by decide) (hB _ wd_35) (fun _ h9 => h9) rfl d_G_exponential_62 ?_
            refine lv_iload_n hx hb d_G_exponential_65 rfl (lv_at hl 1 rfl) ?_
            refine lv_iconst (v := 5) hx hb d_G_exponential_66 (by decide) ?_
            refine lv_iadd hx hb d_G_exponential_67 ?_
            obtain ⟨g27, h⟩ := h
            refine va_iald hx hb hK hP 1 0 rfl rfl g27 d_G_exponential_68 ?_
            have hF28 := va_free (wc := (wG a0 a1 a2 a3 a4 a5 c1 c2 c4 c5 made size_4 tooG_9 kept sizes rows taken_10)) hD hS hA [0, 1, 2, 3, 4, 5] rfl
            refine va_callv (va_runV (As := [.int r25, .int (kept (r23 + 5).toNatClampNeg)]) (rest := []) ⟨hx, hb, hml, hown, hB⟩ (c_W_raise l D a0 a1 a2 a3 a4 a5 c1 c2 c4 c5 H.size made size_4 tooG_9 kept sizes rows taken_10 r25 (kept (r23 + 5).toNatClampNeg) _) (cwV 2 hB (goodV wd_166 wd_167 wd_168 wd_2 wd_169) rfl rfl rfl (by decide +kernel) ⟨Nat.le_of_ble_eq_true rfl, Nat.le_of_ble_eq_true rfl⟩) ⟨pcX_blind, va_recv hK hP (ci := 0) (q0 := 3) rfl rfl, pcX_pre hP hK hD hS hX hF28 h⟩ rfl rfl hl.1 rfl (lv_room (Nat.le_of_ble_eq_true rfl)) d_G_exponential_69 ⟨Nat.le_of_ble_eq_true rfl, Nat.le_of_ble_eq_true rfl⟩) hS (fun q _ h => hF28 q h) hF28 (fun u t H locs ht hvm h hB hz1 hk1 hS => ?_)
            obtain ⟨tooG_29, taken_30⟩ := u
            obtain ⟨hP1, hK1, hD1⟩ := hB
            rw [ht] at hP1
            have hP : va_P D vwCl (wG a0 a1 a2 a3 a4 a5 c1 c2 c4 c5 made size_4 tooG_29 kept sizes rows taken_30) H := hP1
            have hD : va_D A (wG a0 a1 a2 a3 a4 a5 c1 c2 c4 c5 made size_4 tooG_29 kept sizes rows taken_30) := hD1.weaken (fun _ _ _ hq => hF28 _ hq)
            obtain ⟨x31, ex31⟩ : ∃ z : Int32, z = v2_8 + 1 := ⟨_, rfl⟩
            replace h := h x31 ex31
            refine lv_iinc (v := x31) (lv' := [(2, .int x31), (4, .int r25), (3, .int r23), (0, .ref a0), (1, .int p0)]) hx hb d_G_exponential_72 hl (k := 2) rfl (by rw [ex31]; rfl) (by decide) rfl (fun ls hl => ?_)
            refine lv_goto (tgt := 25) hx hb d_G_exponential_75 (by decide) ?_
            exact Ge25 _ _ _ (ihL25 x31 tooG_29 taken_30 _ _ _ hP hD hS (lv_sub hl [0, 3, 4] rfl) h)
          · replace h := h.2 hc26
            refine lv_iconst (v := (-1)) hx hb d_G_exponential_53 (by decide) ?_
            refine W.widen (k := 3) (n := 18) (by omega) (by omega) ?_
            exact vx_ret (W.iret (v := (-1)) hx hb hr (fun t ht hW => ⟨⟨(-1), (made, size_4, tooG_9, kept, sizes, rows, taken_10), rfl, h, by rw [ht]; exact hP, va_K.moved hW.alike hK, hD⟩, hS.F ht⟩) hS.2.2 d_G_exponential_54)
set_option maxHeartbeats 4000000 in
set_option maxRecDepth 100000 in
theorem c_G_terms (l : Launch) (D : va_G) (a0 a1 a2 a3 a4 a5 : Nat) (c1 c2 c4 c5 : ClassId) (sz : Nat) (made : Int32) (size : Int32) (tooG : Int32) (kept : (Nat → Int32)) (sizes : (Nat → Int32)) (rows : (Nat → Int32)) (taken : (Nat → Int32)) (p0 : Int32) (post : Int32 → Prop) (postx : String → Prop) (hst : l.stackTraces = false) : vx_Met l y_G_terms (Cond.code y_G_terms b_G_terms 2 (some .int) :: BIG) ({ frames := 7, cells := 1, slots := 6, locals := 111 }) (va_Pc [.ref a0, .int p0] (pcX D vwCl (wG a0 a1 a2 a3 a4 a5 c1 c2 c4 c5 made size tooG kept sizes rows taken) [(c1, .int), (c2, .int), (c4, .int), (c5, .int)] sz (wp_G_terms made sizes p0 post postx))) (va_Qi (fun (r : Int32) (_ : Unit) => post r) (fun _ => atG D vwCl [(c1, .int), (c2, .int), (c4, .int), (c5, .int)] (va_A (wG a0 a1 a2 a3 a4 a5 c1 c2 c4 c5 made size tooG kept sizes rows taken) sz) (wG a0 a1 a2 a3 a4 a5 c1 c2 c4 c5 made size tooG kept sizes rows taken)) (va_A (wG a0 a1 a2 a3 a4 a5 c1 c2 c4 c5 made size tooG kept sizes rows taken) sz)) (vx_X (fun _ : Unit => True) (fun E u => atX D vwCl [(c1, .int), (c2, .int), (c4, .int), (c5, .int)] (va_A (wG a0 a1 a2 a3 a4 a5 c1 c2 c4 c5 made size tooG kept sizes rows taken) sz) (wG a0 a1 a2 a3 a4 a5 c1 c2 c4 c5 made size tooG kept sizes rows taken) (postx E)) (va_A (wG a0 a1 a2 a3 a4 a5 c1 c2 c4 c5 made size tooG kept sizes rows taken) sz)) 1 6 (va_A (wG a0 a1 a2 a3 a4 a5 c1 c2 c4 c5 made size tooG kept sizes rows taken) sz) := by
  refine vx_ofW (cc := b_G_terms) (maxL := 2) (ret := (some .int)) (by decide) rfl ?_
  intro p e s m args below meth c s₁ B hml hno hv
  obtain ⟨rfl, hsz, hP, hK, hD0, hX, h⟩ := hv
  have hx := B.exec
  have hb := B.bytes
  have hr := B.returns
  have hB : ∀ w ∈ BIG, w.before _ s = true := fun w h => atoms_spec (ws := (Cond.code y_G_terms b_G_terms 2 (some .int) :: BIG)) B.pre w (List.mem_cons_of_mem _ h)
  have hown : s.vm.findClass R_G = some m.cls := findClass_of_methodNamed B.named
  have hlocks := B.notSynchronized
  subst hsz
  have hD := hD0.self (sz := s.heap.size)
  generalize hAe : va_A (wG a0 a1 a2 a3 a4 a5 c1 c2 c4 c5 made size tooG kept sizes rows taken) s.heap.size = A at hD hX ⊢
  have hA : ∀ q : Nat, s.heap.size ≤ q → A q := fun q h => by rw [← hAe]; exact Or.inr h
  have hl := lv_entry ([.ref a0, .int p0]) (n := 2) (Nat.le_of_ble_eq_true rfl)
  rw [lg_entry_eq]
  generalize (lg_sl ([.ref a0, .int p0]) ++ List.replicate (2 - (lg_sl ([.ref a0, .int p0])).length) Slot.unset).toArray = ls at hl ⊢
  have hl : lv_has ls 2 [(0, .ref a0), (1, .int p0)] := hl
  refine W.cap (fun G Gi Ge => ?_)
  suffices hL : ∀ (H : Heap) (locs : List Loc), va_P D vwCl (wG a0 a1 a2 a3 a4 a5 c1 c2 c4 c5 made size tooG kept sizes rows taken) H → va_S A s.heap H locs → G H locs (F0 m 0 ls []) from hL _ _ hP va_S.rf
  clear hP
  intro H locs hP hS
  refine Gi _ _ _ ?_
  unfold wp_G_terms at h
  refine lv_aload_n hx hb d_G_terms_0 rfl (lv_at hl 0 rfl) ?_
  refine lv_iload_n hx hb d_G_terms_1 rfl (lv_at hl 1 rfl) ?_
  have hF1 := va_free (wc := (wG a0 a1 a2 a3 a4 a5 c1 c2 c4 c5 made size tooG kept sizes rows taken)) hD hS hA [0, 1, 2, 3, 4, 5] rfl
  refine vx_callv (vx_runV (As := [.int p0]) (rest := []) ⟨hx, hb, hml, hown, hB⟩ (c_G_requireFunction l D a0 a1 a2 a3 a4 a5 c1 c2 c4 c5 H.size made size tooG kept sizes rows taken p0 _ _ hst) (cwV 1 hB (goodV wd_178 wd_179 wd_497 wd_1 wd_180) rfl rfl rfl (by decide +kernel) ⟨Nat.le_of_ble_eq_true rfl, Nat.le_of_ble_eq_true rfl⟩) ⟨pcX_blind, va_recv hK hP (ci := 1) (q0 := 0) rfl rfl, pcX_pre hP hK hD hS hX hF1 h⟩ rfl rfl hl.1 rfl (lv_room (Nat.le_of_ble_eq_true rfl)) d_G_terms_2 ⟨Nat.le_of_ble_eq_true rfl, Nat.le_of_ble_eq_true rfl⟩) hS (fun q _ h => hF1 q h) hF1 (fun q _ h => hF1 q h) (fun E ce q9 u t H locs ht hvm _ hB hz1 hk1 hS hce hcv hcl => ?_) (fun u t H locs ht hvm h hB hz1 hk1 hS => ?_)
  · -- thrown
    obtain ⟨h1, hP1, hK1, hD1⟩ := hB
    replace h := h1
    rw [ht] at hP1
    have hP : va_P D vwCl (wG a0 a1 a2 a3 a4 a5 c1 c2 c4 c5 made size tooG kept sizes rows taken) H := hP1
    have hD : va_D A (wG a0 a1 a2 a3 a4 a5 c1 c2 c4 c5 made size tooG kept sizes rows taken) := hD1.weaken (fun _ _ _ hq => hF1 _ hq)
    exact vx_out (fun x hx => (hno x hx).elim) hlocks hce hcv hcl (fun t9 ht9 hW9 => ⟨(), trivial, ⟨h, by rw [ht9]; exact hP, va_K.moved hW9 hK, hD⟩, hS.F ht9⟩) hS.2.2 (by omega) (by omega)
  ·
    obtain ⟨hP1, hK1, hD1⟩ := hB
    rw [ht] at hP1
    have hP : va_P D vwCl (wG a0 a1 a2 a3 a4 a5 c1 c2 c4 c5 made size tooG kept sizes rows taken) H := hP1
    have hD : va_D A (wG a0 a1 a2 a3 a4 a5 c1 c2 c4 c5 made size tooG kept sizes rows taken) := hD1.weaken (fun _ _ _ hq => hF1 _ hq)
    refine W.widen (k := 1) (n := 6) (by omega) (by omega) ?_
    refine lv_aload_n hx hb d_G_terms_5 rfl (lv_at hl 0 rfl) ?_
    refine va_get (D := D) (ci := 1) (v := .ref a2) (C := R_G) (T := F_G) (N := 4) hx hb hB inF_G hown hK hP 0 rfl rfl 1 (by decide) (hB _ wd_36) (fun _ h9 => h9) rfl d_G_terms_6 ?_
    refine lv_iload_n hx hb d_G_terms_9 rfl (lv_at hl 1 rfl) ?_
    obtain ⟨g2, h⟩ := h
    refine va_iald hx hb hK hP 2 1 rfl rfl g2 d_G_terms_10 ?_
    exact vx_ret (W.iret (v := sizes p0.toNatClampNeg) hx hb hr (fun t ht hW => ⟨⟨sizes p0.toNatClampNeg, (), rfl, h, by rw [ht]; exact hP, va_K.moved hW.alike hK, hD⟩, hS.F ht⟩) hS.2.2 d_G_terms_11)
set_option maxHeartbeats 4000000 in
set_option maxRecDepth 100000 in
theorem c_G_term (l : Launch) (D : va_G) (a0 a1 a2 a3 a4 a5 : Nat) (c1 c2 c4 c5 : ClassId) (sz : Nat) (made : Int32) (size : Int32) (tooG : Int32) (kept : (Nat → Int32)) (sizes : (Nat → Int32)) (rows : (Nat → Int32)) (taken : (Nat → Int32)) (p0 : Int32) (p1 : Int32) (p2 : Int32) (post : Int32 → Prop) (postx : String → Prop) (hst : l.stackTraces = false) : vx_Met l y_G_term (Cond.code y_G_term b_G_term 4 (some .int) :: BIG) ({ frames := 7, cells := 2, slots := 12, locals := 111 }) (va_Pc [.ref a0, .int p0, .int p1, .int p2] (pcX D vwCl (wG a0 a1 a2 a3 a4 a5 c1 c2 c4 c5 made size tooG kept sizes rows taken) [(c1, .int), (c2, .int), (c4, .int), (c5, .int)] sz (wp_G_term made kept sizes p0 p1 p2 post postx))) (va_Qi (fun (r : Int32) (_ : Unit) => post r) (fun _ => atG D vwCl [(c1, .int), (c2, .int), (c4, .int), (c5, .int)] (va_A (wG a0 a1 a2 a3 a4 a5 c1 c2 c4 c5 made size tooG kept sizes rows taken) sz) (wG a0 a1 a2 a3 a4 a5 c1 c2 c4 c5 made size tooG kept sizes rows taken)) (va_A (wG a0 a1 a2 a3 a4 a5 c1 c2 c4 c5 made size tooG kept sizes rows taken) sz)) (vx_X (fun _ : Unit => True) (fun E u => atX D vwCl [(c1, .int), (c2, .int), (c4, .int), (c5, .int)] (va_A (wG a0 a1 a2 a3 a4 a5 c1 c2 c4 c5 made size tooG kept sizes rows taken) sz) (wG a0 a1 a2 a3 a4 a5 c1 c2 c4 c5 made size tooG kept sizes rows taken) (postx E)) (va_A (wG a0 a1 a2 a3 a4 a5 c1 c2 c4 c5 made size tooG kept sizes rows taken) sz)) 2 12 (va_A (wG a0 a1 a2 a3 a4 a5 c1 c2 c4 c5 made size tooG kept sizes rows taken) sz) := by
  refine vx_ofW (cc := b_G_term) (maxL := 4) (ret := (some .int)) (by decide) rfl ?_
  intro p e s m args below meth c s₁ B hml hno hv
  obtain ⟨rfl, hsz, hP, hK, hD0, hX, h⟩ := hv
  have hx := B.exec
  have hb := B.bytes
  have hr := B.returns
  have hB : ∀ w ∈ BIG, w.before _ s = true := fun w h => atoms_spec (ws := (Cond.code y_G_term b_G_term 4 (some .int) :: BIG)) B.pre w (List.mem_cons_of_mem _ h)
  have hown : s.vm.findClass R_G = some m.cls := findClass_of_methodNamed B.named
  have hlocks := B.notSynchronized
  subst hsz
  have hD := hD0.self (sz := s.heap.size)
  generalize hAe : va_A (wG a0 a1 a2 a3 a4 a5 c1 c2 c4 c5 made size tooG kept sizes rows taken) s.heap.size = A at hD hX ⊢
  have hA : ∀ q : Nat, s.heap.size ≤ q → A q := fun q h => by rw [← hAe]; exact Or.inr h
  have hl := lv_entry ([.ref a0, .int p0, .int p1, .int p2]) (n := 4) (Nat.le_of_ble_eq_true rfl)
  rw [lg_entry_eq]
  generalize (lg_sl ([.ref a0, .int p0, .int p1, .int p2]) ++ List.replicate (4 - (lg_sl ([.ref a0, .int p0, .int p1, .int p2])).length) Slot.unset).toArray = ls at hl ⊢
  have hl : lv_has ls 4 [(0, .ref a0), (1, .int p0), (2, .int p1), (3, .int p2)] := hl
  refine W.cap (fun G Gi Ge => ?_)
  suffices hL : ∀ (H : Heap) (locs : List Loc), va_P D vwCl (wG a0 a1 a2 a3 a4 a5 c1 c2 c4 c5 made size tooG kept sizes rows taken) H → va_S A s.heap H locs → G H locs (F0 m 0 ls []) from hL _ _ hP va_S.rf
  clear hP
  intro H locs hP hS
  refine Gi _ _ _ ?_
  unfold wp_G_term at h
  refine lv_aload_n hx hb d_G_term_0 rfl (lv_at hl 0 rfl) ?_
  refine lv_iload_n hx hb d_G_term_1 rfl (lv_at hl 1 rfl) ?_
  have hF1 := va_free (wc := (wG a0 a1 a2 a3 a4 a5 c1 c2 c4 c5 made size tooG kept sizes rows taken)) hD hS hA [0, 1, 2, 3, 4, 5] rfl
  refine vx_callv (vx_runV (As := [.int p0]) (rest := []) ⟨hx, hb, hml, hown, hB⟩ (c_G_requireFunction l D a0 a1 a2 a3 a4 a5 c1 c2 c4 c5 H.size made size tooG kept sizes rows taken p0 _ _ hst) (cwV 1 hB (goodV wd_178 wd_179 wd_497 wd_1 wd_180) rfl rfl rfl (by decide +kernel) ⟨Nat.le_of_ble_eq_true rfl, Nat.le_of_ble_eq_true rfl⟩) ⟨pcX_blind, va_recv hK hP (ci := 1) (q0 := 0) rfl rfl, pcX_pre hP hK hD hS hX hF1 h⟩ rfl rfl hl.1 rfl (lv_room (Nat.le_of_ble_eq_true rfl)) d_G_term_2 ⟨Nat.le_of_ble_eq_true rfl, Nat.le_of_ble_eq_true rfl⟩) hS (fun q _ h => hF1 q h) hF1 (fun q _ h => hF1 q h) (fun E ce q9 u t H locs ht hvm _ hB hz1 hk1 hS hce hcv hcl => ?_) (fun u t H locs ht hvm h hB hz1 hk1 hS => ?_)
  · -- thrown
    obtain ⟨h1, hP1, hK1, hD1⟩ := hB
    replace h := h1
    rw [ht] at hP1
    have hP : va_P D vwCl (wG a0 a1 a2 a3 a4 a5 c1 c2 c4 c5 made size tooG kept sizes rows taken) H := hP1
    have hD : va_D A (wG a0 a1 a2 a3 a4 a5 c1 c2 c4 c5 made size tooG kept sizes rows taken) := hD1.weaken (fun _ _ _ hq => hF1 _ hq)
    exact vx_out (fun x hx => (hno x hx).elim) hlocks hce hcv hcl (fun t9 ht9 hW9 => ⟨(), trivial, ⟨h, by rw [ht9]; exact hP, va_K.moved hW9 hK, hD⟩, hS.F ht9⟩) hS.2.2 (by omega) (by omega)
  ·
    obtain ⟨hP1, hK1, hD1⟩ := hB
    rw [ht] at hP1
    have hP : va_P D vwCl (wG a0 a1 a2 a3 a4 a5 c1 c2 c4 c5 made size tooG kept sizes rows taken) H := hP1
    have hD : va_D A (wG a0 a1 a2 a3 a4 a5 c1 c2 c4 c5 made size tooG kept sizes rows taken) := hD1.weaken (fun _ _ _ hq => hF1 _ hq)
    refine W.widen (k := 1) (n := 6) (by omega) (by omega) ?_
    refine lv_iload_n hx hb d_G_term_5 rfl (lv_at hl 2 rfl) ?_
    refine lv_if_lt (tgt := 19) hx hb d_G_term_6 (by decide) (fun hc2 => ?_) (fun hc2 => ?_)
    · replace h := h.1 hc2
      obtain ⟨sa, hstr⟩ := hX.2.2.2 (100, "no such term") (by decide +kernel); exact vx_throwS (names := ["java/lang/RuntimeException", "java/lang/Exception"]) hx hb hst hown (by decide) (by decide) (hB _ wd_156) (hB _ wd_11) hstr (vx_hat (fun w hw => hB w (atE_1 w hw)) ngE_1 (nwG_use hX.1)) (otE_1 _) hX.2.1 hX.2.2.1 hS (hl.1.trans hml.symm) d_G_term_19 d_G_term_22 d_G_term_23 d_G_term_25 d_G_term_28 (fun x hx => (hno x hx).elim) (Nat.le_of_ble_eq_true rfl) (Nat.le_of_ble_eq_true rfl) (Nat.le_of_ble_eq_true rfl) (Nat.le_of_ble_eq_true rfl) hlocks (fun t hvm hz hk => ⟨(), trivial, ⟨h, va_P_grown hP hk, va_K.moved hvm hK, hD⟩, va_F_grown hS hz hk⟩) hS.2.2 (Nat.le_of_ble_eq_true rfl) (Nat.le_of_ble_eq_true rfl)
    · replace h := h.2 hc2
      refine lv_iload_n hx hb d_G_term_9 rfl (lv_at hl 2 rfl) ?_
      refine lv_aload_n hx hb d_G_term_10 rfl (lv_at hl 0 rfl) ?_
      refine va_get (D := D) (ci := 1) (v := .ref a2) (C := R_G) (T := F_G) (N := 4) hx hb hB inF_G hown hK hP 0 rfl rfl 1 (by decide) (hB _ wd_36) (fun _ h9 => h9) rfl d_G_term_11 ?_
      refine lv_iload_n hx hb d_G_term_14 rfl (lv_at hl 1 rfl) ?_
      obtain ⟨g3, h⟩ := h
      refine va_iald hx hb hK hP 2 1 rfl rfl g3 d_G_term_15 ?_
      refine lv_icmp_lt (tgt := 29) hx hb d_G_term_16 (by decide) (fun hc4 => ?_) (fun hc4 => ?_)
      · replace h := h.1 hc4
        refine lv_iload_n hx hb d_G_term_29 rfl (lv_at hl 3 rfl) ?_
        refine lv_if_lt (tgt := 39) hx hb d_G_term_30 (by decide) (fun hc5 => ?_) (fun hc5 => ?_)
        · replace h := h.1 hc5
          obtain ⟨sa, hstr⟩ := hX.2.2.2 (102, "no such part of a term") (by decide +kernel); exact vx_throwS (names := ["java/lang/RuntimeException", "java/lang/Exception"]) hx hb hst hown (by decide) (by decide) (hB _ wd_156) (hB _ wd_11) hstr (vx_hat (fun w hw => hB w (atE_1 w hw)) ngE_1 (nwG_use hX.1)) (otE_1 _) hX.2.1 hX.2.2.1 hS (hl.1.trans hml.symm) d_G_term_39 d_G_term_42 d_G_term_43 d_G_term_45 d_G_term_48 (fun x hx => (hno x hx).elim) (Nat.le_of_ble_eq_true rfl) (Nat.le_of_ble_eq_true rfl) (Nat.le_of_ble_eq_true rfl) (Nat.le_of_ble_eq_true rfl) hlocks (fun t hvm hz hk => ⟨(), trivial, ⟨h, va_P_grown hP hk, va_K.moved hvm hK, hD⟩, va_F_grown hS hz hk⟩) hS.2.2 (Nat.le_of_ble_eq_true rfl) (Nat.le_of_ble_eq_true rfl)
        · replace h := h.2 hc5
          refine lv_iload_n hx hb d_G_term_33 rfl (lv_at hl 3 rfl) ?_
          refine lv_bipush (v := 7) hx hb d_G_term_34 (by decide) ?_
          refine lv_icmp_lt (tgt := 49) hx hb d_G_term_36 (by decide) (fun hc6 => ?_) (fun hc6 => ?_)
          · replace h := h.1 hc6
            refine lv_aload_n hx hb d_G_term_49 rfl (lv_at hl 0 rfl) ?_
            refine va_get (D := D) (ci := 1) (v := .ref a1) (C := R_G) (T := F_G) (N := 4) hx hb hB inF_G hown hK hP 0 rfl rfl 0 (by decide) (hB _ wd_35) (fun _ h9 => h9) rfl d_G_term_50 ?_
            refine lv_iload_n hx hb d_G_term_53 rfl (lv_at hl 1 rfl) ?_
            refine lv_iload_n hx hb d_G_term_54 rfl (lv_at hl 2 rfl) ?_
            have hF7 := va_free (wc := (wG a0 a1 a2 a3 a4 a5 c1 c2 c4 c5 made size tooG kept sizes rows taken)) hD hS hA [0, 1, 2, 3, 4, 5] rfl
            refine va_calli (va_runS (As := [.int p0, .int p1]) (rest := [.ref a1]) ⟨hx, hb, hml, hown, hB⟩ (c_G_rowOf l D a0 a1 a2 a3 a4 a5 c1 c2 c4 c5 H.size made size tooG kept sizes rows taken p0 p1 _) (cwS 2 hB (goodS wd_144 wd_145 wd_1 wd_146) rfl rfl rfl (by decide +kernel) ⟨Nat.le_of_ble_eq_true rfl, Nat.le_of_ble_eq_true rfl⟩) ⟨pcX_blind, pcX_pre hP hK hD hS hX hF7 h⟩ rfl rfl hl.1 rfl (lv_room (Nat.le_of_ble_eq_true rfl)) d_G_term_55 ⟨Nat.le_of_ble_eq_true rfl, Nat.le_of_ble_eq_true rfl⟩) hS (fun q _ h => hF7 q h) hF7 (fun r8 u t H locs ht hvm h hB hz1 hk1 hS => ?_)
            obtain ⟨hP1, hK1, hD1⟩ := hB
            rw [ht] at hP1
            have hP : va_P D vwCl (wG a0 a1 a2 a3 a4 a5 c1 c2 c4 c5 made size tooG kept sizes rows taken) H := hP1
            have hD : va_D A (wG a0 a1 a2 a3 a4 a5 c1 c2 c4 c5 made size tooG kept sizes rows taken) := hD1.weaken (fun _ _ _ hq => hF7 _ hq)
            refine lv_iload_n hx hb d_G_term_58 rfl (lv_at hl 3 rfl) ?_
            refine lv_iadd hx hb d_G_term_59 ?_
            obtain ⟨g9, h⟩ := h
            refine va_iald hx hb hK hP 1 0 rfl rfl g9 d_G_term_60 ?_
            refine W.widen (k := 2) (n := 12) (by omega) (by omega) ?_
            exact vx_ret (W.iret (v := kept (r8 + p2).toNatClampNeg) hx hb hr (fun t ht hW => ⟨⟨kept (r8 + p2).toNatClampNeg, (), rfl, h, by rw [ht]; exact hP, va_K.moved hW.alike hK, hD⟩, hS.F ht⟩) hS.2.2 d_G_term_61)
          · replace h := h.2 hc6
            obtain ⟨sa, hstr⟩ := hX.2.2.2 (102, "no such part of a term") (by decide +kernel); exact vx_throwS (names := ["java/lang/RuntimeException", "java/lang/Exception"]) hx hb hst hown (by decide) (by decide) (hB _ wd_156) (hB _ wd_11) hstr (vx_hat (fun w hw => hB w (atE_1 w hw)) ngE_1 (nwG_use hX.1)) (otE_1 _) hX.2.1 hX.2.2.1 hS (hl.1.trans hml.symm) d_G_term_39 d_G_term_42 d_G_term_43 d_G_term_45 d_G_term_48 (fun x hx => (hno x hx).elim) (Nat.le_of_ble_eq_true rfl) (Nat.le_of_ble_eq_true rfl) (Nat.le_of_ble_eq_true rfl) (Nat.le_of_ble_eq_true rfl) hlocks (fun t hvm hz hk => ⟨(), trivial, ⟨h, va_P_grown hP hk, va_K.moved hvm hK, hD⟩, va_F_grown hS hz hk⟩) hS.2.2 (Nat.le_of_ble_eq_true rfl) (Nat.le_of_ble_eq_true rfl)
      · replace h := h.2 hc4
        obtain ⟨sa, hstr⟩ := hX.2.2.2 (100, "no such term") (by decide +kernel); exact vx_throwS (names := ["java/lang/RuntimeException", "java/lang/Exception"]) hx hb hst hown (by decide) (by decide) (hB _ wd_156) (hB _ wd_11) hstr (vx_hat (fun w hw => hB w (atE_1 w hw)) ngE_1 (nwG_use hX.1)) (otE_1 _) hX.2.1 hX.2.2.1 hS (hl.1.trans hml.symm) d_G_term_19 d_G_term_22 d_G_term_23 d_G_term_25 d_G_term_28 (fun x hx => (hno x hx).elim) (Nat.le_of_ble_eq_true rfl) (Nat.le_of_ble_eq_true rfl) (Nat.le_of_ble_eq_true rfl) (Nat.le_of_ble_eq_true rfl) hlocks (fun t hvm hz hk => ⟨(), trivial, ⟨h, va_P_grown hP hk, va_K.moved hvm hK, hD⟩, va_F_grown hS hz hk⟩) hS.2.2 (Nat.le_of_ble_eq_true rfl) (Nat.le_of_ble_eq_true rfl)
set_option maxHeartbeats 4000000 in
set_option maxRecDepth 100000 in
theorem c_G_limit (l : Launch) (D : va_G) (a0 a1 a2 a3 a4 a5 : Nat) (c1 c2 c4 c5 : ClassId) (sz : Nat) (made : Int32) (size : Int32) (tooG : Int32) (kept : (Nat → Int32)) (sizes : (Nat → Int32)) (rows : (Nat → Int32)) (taken : (Nat → Int32)) (p0 : Int32) (post : Int32 → Prop) (postx : String → Prop) (hst : l.stackTraces = false) : vx_Met l y_G_limit (Cond.code y_G_limit b_G_limit 2 (some .int) :: BIG) ({ frames := 7, cells := 1, slots := 6, locals := 111 }) (va_Pc [.ref a0, .int p0] (pcX D vwCl (wG a0 a1 a2 a3 a4 a5 c1 c2 c4 c5 made size tooG kept sizes rows taken) [(c1, .int), (c2, .int), (c4, .int), (c5, .int)] sz (wp_G_limit made kept sizes p0 post postx))) (va_Qi (fun (r : Int32) (_ : Unit) => post r) (fun _ => atG D vwCl [(c1, .int), (c2, .int), (c4, .int), (c5, .int)] (va_A (wG a0 a1 a2 a3 a4 a5 c1 c2 c4 c5 made size tooG kept sizes rows taken) sz) (wG a0 a1 a2 a3 a4 a5 c1 c2 c4 c5 made size tooG kept sizes rows taken)) (va_A (wG a0 a1 a2 a3 a4 a5 c1 c2 c4 c5 made size tooG kept sizes rows taken) sz)) (vx_X (fun _ : Unit => True) (fun E u => atX D vwCl [(c1, .int), (c2, .int), (c4, .int), (c5, .int)] (va_A (wG a0 a1 a2 a3 a4 a5 c1 c2 c4 c5 made size tooG kept sizes rows taken) sz) (wG a0 a1 a2 a3 a4 a5 c1 c2 c4 c5 made size tooG kept sizes rows taken) (postx E)) (va_A (wG a0 a1 a2 a3 a4 a5 c1 c2 c4 c5 made size tooG kept sizes rows taken) sz)) 1 6 (va_A (wG a0 a1 a2 a3 a4 a5 c1 c2 c4 c5 made size tooG kept sizes rows taken) sz) := by
  refine vx_ofW (cc := b_G_limit) (maxL := 2) (ret := (some .int)) (by decide) rfl ?_
  intro p e s m args below meth c s₁ B hml hno hv
  obtain ⟨rfl, hsz, hP, hK, hD0, hX, h⟩ := hv
  have hx := B.exec
  have hb := B.bytes
  have hr := B.returns
  have hB : ∀ w ∈ BIG, w.before _ s = true := fun w h => atoms_spec (ws := (Cond.code y_G_limit b_G_limit 2 (some .int) :: BIG)) B.pre w (List.mem_cons_of_mem _ h)
  have hown : s.vm.findClass R_G = some m.cls := findClass_of_methodNamed B.named
  have hlocks := B.notSynchronized
  subst hsz
  have hD := hD0.self (sz := s.heap.size)
  generalize hAe : va_A (wG a0 a1 a2 a3 a4 a5 c1 c2 c4 c5 made size tooG kept sizes rows taken) s.heap.size = A at hD hX ⊢
  have hA : ∀ q : Nat, s.heap.size ≤ q → A q := fun q h => by rw [← hAe]; exact Or.inr h
  have hl := lv_entry ([.ref a0, .int p0]) (n := 2) (Nat.le_of_ble_eq_true rfl)
  rw [lg_entry_eq]
  generalize (lg_sl ([.ref a0, .int p0]) ++ List.replicate (2 - (lg_sl ([.ref a0, .int p0])).length) Slot.unset).toArray = ls at hl ⊢
  have hl : lv_has ls 2 [(0, .ref a0), (1, .int p0)] := hl
  refine W.cap (fun G Gi Ge => ?_)
  suffices hL : ∀ (H : Heap) (locs : List Loc), va_P D vwCl (wG a0 a1 a2 a3 a4 a5 c1 c2 c4 c5 made size tooG kept sizes rows taken) H → va_S A s.heap H locs → G H locs (F0 m 0 ls []) from hL _ _ hP va_S.rf
  clear hP
  intro H locs hP hS
  refine Gi _ _ _ ?_
  unfold wp_G_limit at h
  refine lv_aload_n hx hb d_G_limit_0 rfl (lv_at hl 0 rfl) ?_
  refine lv_iload_n hx hb d_G_limit_1 rfl (lv_at hl 1 rfl) ?_
  have hF1 := va_free (wc := (wG a0 a1 a2 a3 a4 a5 c1 c2 c4 c5 made size tooG kept sizes rows taken)) hD hS hA [0, 1, 2, 3, 4, 5] rfl
  refine vx_callv (vx_runV (As := [.int p0]) (rest := []) ⟨hx, hb, hml, hown, hB⟩ (c_G_requireFunction l D a0 a1 a2 a3 a4 a5 c1 c2 c4 c5 H.size made size tooG kept sizes rows taken p0 _ _ hst) (cwV 1 hB (goodV wd_178 wd_179 wd_497 wd_1 wd_180) rfl rfl rfl (by decide +kernel) ⟨Nat.le_of_ble_eq_true rfl, Nat.le_of_ble_eq_true rfl⟩) ⟨pcX_blind, va_recv hK hP (ci := 1) (q0 := 0) rfl rfl, pcX_pre hP hK hD hS hX hF1 h⟩ rfl rfl hl.1 rfl (lv_room (Nat.le_of_ble_eq_true rfl)) d_G_limit_2 ⟨Nat.le_of_ble_eq_true rfl, Nat.le_of_ble_eq_true rfl⟩) hS (fun q _ h => hF1 q h) hF1 (fun q _ h => hF1 q h) (fun E ce q9 u t H locs ht hvm _ hB hz1 hk1 hS hce hcv hcl => ?_) (fun u t H locs ht hvm h hB hz1 hk1 hS => ?_)
  · -- thrown
    obtain ⟨h1, hP1, hK1, hD1⟩ := hB
    replace h := h1
    rw [ht] at hP1
    have hP : va_P D vwCl (wG a0 a1 a2 a3 a4 a5 c1 c2 c4 c5 made size tooG kept sizes rows taken) H := hP1
    have hD : va_D A (wG a0 a1 a2 a3 a4 a5 c1 c2 c4 c5 made size tooG kept sizes rows taken) := hD1.weaken (fun _ _ _ hq => hF1 _ hq)
    exact vx_out (fun x hx => (hno x hx).elim) hlocks hce hcv hcl (fun t9 ht9 hW9 => ⟨(), trivial, ⟨h, by rw [ht9]; exact hP, va_K.moved hW9 hK, hD⟩, hS.F ht9⟩) hS.2.2 (by omega) (by omega)
  ·
    obtain ⟨hP1, hK1, hD1⟩ := hB
    rw [ht] at hP1
    have hP : va_P D vwCl (wG a0 a1 a2 a3 a4 a5 c1 c2 c4 c5 made size tooG kept sizes rows taken) H := hP1
    have hD : va_D A (wG a0 a1 a2 a3 a4 a5 c1 c2 c4 c5 made size tooG kept sizes rows taken) := hD1.weaken (fun _ _ _ hq => hF1 _ hq)
    refine W.widen (k := 1) (n := 6) (by omega) (by omega) ?_
    refine lv_aload_n hx hb d_G_limit_5 rfl (lv_at hl 0 rfl) ?_
    refine lv_iload_n hx hb d_G_limit_6 rfl (lv_at hl 1 rfl) ?_
    have hF2 := va_free (wc := (wG a0 a1 a2 a3 a4 a5 c1 c2 c4 c5 made size tooG kept sizes rows taken)) hD hS hA [0, 1, 2, 3, 4, 5] rfl
    refine va_calli (va_runV (As := [.int p0]) (rest := []) ⟨hx, hb, hml, hown, hB⟩ (c_G_endOf l D a0 a1 a2 a3 a4 a5 c1 c2 c4 c5 H.size made size tooG kept sizes rows taken p0 _) (cwV 1 hB (goodV wd_273 wd_274 wd_503 wd_1 wd_275) rfl rfl rfl (by decide +kernel) ⟨Nat.le_of_ble_eq_true rfl, Nat.le_of_ble_eq_true rfl⟩) ⟨pcX_blind, va_recv hK hP (ci := 1) (q0 := 0) rfl rfl, pcX_pre hP hK hD hS hX hF2 h⟩ rfl rfl hl.1 rfl (lv_room (Nat.le_of_ble_eq_true rfl)) d_G_limit_7 ⟨Nat.le_of_ble_eq_true rfl, Nat.le_of_ble_eq_true rfl⟩) hS (fun q _ h => hF2 q h) hF2 (fun r3 u t H locs ht hvm h hB hz1 hk1 hS => ?_)
    obtain ⟨hP1, hK1, hD1⟩ := hB
    rw [ht] at hP1
    have hP : va_P D vwCl (wG a0 a1 a2 a3 a4 a5 c1 c2 c4 c5 made size tooG kept sizes rows taken) H := hP1
    have hD : va_D A (wG a0 a1 a2 a3 a4 a5 c1 c2 c4 c5 made size tooG kept sizes rows taken) := hD1.weaken (fun _ _ _ hq => hF2 _ hq)
    exact vx_ret (W.iret (v := r3) hx hb hr (fun t ht hW => ⟨⟨r3, (), rfl, h, by rw [ht]; exact hP, va_K.moved hW.alike hK, hD⟩, hS.F ht⟩) hS.2.2 d_G_limit_10)
set_option maxHeartbeats 4000000 in
set_option maxRecDepth 100000 in
theorem c_G_value (l : Launch) (D : va_G) (a0 a1 a2 a3 a4 a5 : Nat) (c1 c2 c4 c5 : ClassId) (sz : Nat) (made : Int32) (size : Int32) (tooG : Int32) (kept : (Nat → Int32)) (sizes : (Nat → Int32)) (rows : (Nat → Int32)) (taken : (Nat → Int32)) (p0 : Int32) (p1 : Int32) (post : Int32 → Prop) (postx : String → Prop) (hst : l.stackTraces = false) : vx_Met l y_G_value (Cond.code y_G_value b_G_value 4 (some .int) :: BIG) ({ frames := 7, cells := 2, slots := 12, locals := 111 }) (va_Pc [.ref a0, .int p0, .int p1] (pcX D vwCl (wG a0 a1 a2 a3 a4 a5 c1 c2 c4 c5 made size tooG kept sizes rows taken) [(c1, .int), (c2, .int), (c4, .int), (c5, .int)] sz (wp_G_value made kept sizes p0 p1 post postx))) (va_Qi (fun (r : Int32) (_ : Unit) => post r) (fun _ => atG D vwCl [(c1, .int), (c2, .int), (c4, .int), (c5, .int)] (va_A (wG a0 a1 a2 a3 a4 a5 c1 c2 c4 c5 made size tooG kept sizes rows taken) sz) (wG a0 a1 a2 a3 a4 a5 c1 c2 c4 c5 made size tooG kept sizes rows taken)) (va_A (wG a0 a1 a2 a3 a4 a5 c1 c2 c4 c5 made size tooG kept sizes rows taken) sz)) (vx_X (fun _ : Unit => True) (fun E u => atX D vwCl [(c1, .int), (c2, .int), (c4, .int), (c5, .int)] (va_A (wG a0 a1 a2 a3 a4 a5 c1 c2 c4 c5 made size tooG kept sizes rows taken) sz) (wG a0 a1 a2 a3 a4 a5 c1 c2 c4 c5 made size tooG kept sizes rows taken) (postx E)) (va_A (wG a0 a1 a2 a3 a4 a5 c1 c2 c4 c5 made size tooG kept sizes rows taken) sz)) 2 12 (va_A (wG a0 a1 a2 a3 a4 a5 c1 c2 c4 c5 made size tooG kept sizes rows taken) sz) := by
  refine vx_ofW (cc := b_G_value) (maxL := 4) (ret := (some .int)) (by decide) rfl ?_
  intro p e s m args below meth c s₁ B hml hno hv
  obtain ⟨rfl, hsz, hP, hK, hD0, hX, h⟩ := hv
  have hx := B.exec
  have hb := B.bytes
  have hr := B.returns
  have hB : ∀ w ∈ BIG, w.before _ s = true := fun w h => atoms_spec (ws := (Cond.code y_G_value b_G_value 4 (some .int) :: BIG)) B.pre w (List.mem_cons_of_mem _ h)
  have hown : s.vm.findClass R_G = some m.cls := findClass_of_methodNamed B.named
  have hlocks := B.notSynchronized
  subst hsz
  have hD := hD0.self (sz := s.heap.size)
  generalize hAe : va_A (wG a0 a1 a2 a3 a4 a5 c1 c2 c4 c5 made size tooG kept sizes rows taken) s.heap.size = A at hD hX ⊢
  have hA : ∀ q : Nat, s.heap.size ≤ q → A q := fun q h => by rw [← hAe]; exact Or.inr h
  have hl := lv_entry ([.ref a0, .int p0, .int p1]) (n := 4) (Nat.le_of_ble_eq_true rfl)
  rw [lg_entry_eq]
  generalize (lg_sl ([.ref a0, .int p0, .int p1]) ++ List.replicate (4 - (lg_sl ([.ref a0, .int p0, .int p1])).length) Slot.unset).toArray = ls at hl ⊢
  have hl : lv_has ls 4 [(0, .ref a0), (1, .int p0), (2, .int p1)] := hl
  refine W.cap (fun G Gi Ge => ?_)
  suffices hL : ∀ (H : Heap) (locs : List Loc), va_P D vwCl (wG a0 a1 a2 a3 a4 a5 c1 c2 c4 c5 made size tooG kept sizes rows taken) H → va_S A s.heap H locs → G H locs (F0 m 0 ls []) from hL _ _ hP va_S.rf
  clear hP
  intro H locs hP hS
  refine Gi _ _ _ ?_
  unfold wp_G_value at h
  refine lv_aload_n hx hb d_G_value_0 rfl (lv_at hl 0 rfl) ?_
  refine lv_iload_n hx hb d_G_value_1 rfl (lv_at hl 1 rfl) ?_
  have hF1 := va_free (wc := (wG a0 a1 a2 a3 a4 a5 c1 c2 c4 c5 made size tooG kept sizes rows taken)) hD hS hA [0, 1, 2, 3, 4, 5] rfl
  refine vx_callv (vx_runV (As := [.int p0]) (rest := []) ⟨hx, hb, hml, hown, hB⟩ (c_G_requireFunction l D a0 a1 a2 a3 a4 a5 c1 c2 c4 c5 H.size made size tooG kept sizes rows taken p0 _ _ hst) (cwV 1 hB (goodV wd_178 wd_179 wd_497 wd_1 wd_180) rfl rfl rfl (by decide +kernel) ⟨Nat.le_of_ble_eq_true rfl, Nat.le_of_ble_eq_true rfl⟩) ⟨pcX_blind, va_recv hK hP (ci := 1) (q0 := 0) rfl rfl, pcX_pre hP hK hD hS hX hF1 h⟩ rfl rfl hl.1 rfl (lv_room (Nat.le_of_ble_eq_true rfl)) d_G_value_2 ⟨Nat.le_of_ble_eq_true rfl, Nat.le_of_ble_eq_true rfl⟩) hS (fun q _ h => hF1 q h) hF1 (fun q _ h => hF1 q h) (fun E ce q9 u t H locs ht hvm _ hB hz1 hk1 hS hce hcv hcl => ?_) (fun u t H locs ht hvm h hB hz1 hk1 hS => ?_)
  · -- thrown
    obtain ⟨h1, hP1, hK1, hD1⟩ := hB
    replace h := h1
    rw [ht] at hP1
    have hP : va_P D vwCl (wG a0 a1 a2 a3 a4 a5 c1 c2 c4 c5 made size tooG kept sizes rows taken) H := hP1
    have hD : va_D A (wG a0 a1 a2 a3 a4 a5 c1 c2 c4 c5 made size tooG kept sizes rows taken) := hD1.weaken (fun _ _ _ hq => hF1 _ hq)
    exact vx_out (fun x hx => (hno x hx).elim) hlocks hce hcv hcl (fun t9 ht9 hW9 => ⟨(), trivial, ⟨h, by rw [ht9]; exact hP, va_K.moved hW9 hK, hD⟩, hS.F ht9⟩) hS.2.2 (by omega) (by omega)
  ·
    obtain ⟨hP1, hK1, hD1⟩ := hB
    rw [ht] at hP1
    have hP : va_P D vwCl (wG a0 a1 a2 a3 a4 a5 c1 c2 c4 c5 made size tooG kept sizes rows taken) H := hP1
    have hD : va_D A (wG a0 a1 a2 a3 a4 a5 c1 c2 c4 c5 made size tooG kept sizes rows taken) := hD1.weaken (fun _ _ _ hq => hF1 _ hq)
    refine W.widen (k := 1) (n := 6) (by omega) (by omega) ?_
    refine lv_aload_n hx hb d_G_value_5 rfl (lv_at hl 0 rfl) ?_
    refine lv_iload_n hx hb d_G_value_6 rfl (lv_at hl 1 rfl) ?_
    have hF2 := va_free (wc := (wG a0 a1 a2 a3 a4 a5 c1 c2 c4 c5 made size tooG kept sizes rows taken)) hD hS hA [0, 1, 2, 3, 4, 5] rfl
    refine va_calli (va_runV (As := [.int p0]) (rest := []) ⟨hx, hb, hml, hown, hB⟩ (c_G_endOf l D a0 a1 a2 a3 a4 a5 c1 c2 c4 c5 H.size made size tooG kept sizes rows taken p0 _) (cwV 1 hB (goodV wd_273 wd_274 wd_503 wd_1 wd_275) rfl rfl rfl (by decide +kernel) ⟨Nat.le_of_ble_eq_true rfl, Nat.le_of_ble_eq_true rfl⟩) ⟨pcX_blind, va_recv hK hP (ci := 1) (q0 := 0) rfl rfl, pcX_pre hP hK hD hS hX hF2 h⟩ rfl rfl hl.1 rfl (lv_room (Nat.le_of_ble_eq_true rfl)) d_G_value_7 ⟨Nat.le_of_ble_eq_true rfl, Nat.le_of_ble_eq_true rfl⟩) hS (fun q _ h => hF2 q h) hF2 (fun r3 u t H locs ht hvm h hB hz1 hk1 hS => ?_)
    obtain ⟨hP1, hK1, hD1⟩ := hB
    rw [ht] at hP1
    have hP : va_P D vwCl (wG a0 a1 a2 a3 a4 a5 c1 c2 c4 c5 made size tooG kept sizes rows taken) H := hP1
    have hD : va_D A (wG a0 a1 a2 a3 a4 a5 c1 c2 c4 c5 made size tooG kept sizes rows taken) := hD1.weaken (fun _ _ _ hq => hF2 _ hq)
    refine lv_if_eq (tgt := 23) hx hb d_G_value_10 (by decide) (fun hc4 => ?_) (fun hc4 => ?_)
    · replace h := h.1 hc4
      refine lv_iload_n hx hb d_G_value_23 rfl (lv_at hl 2 rfl) ?_
      have hF5 := va_free (wc := (wG a0 a1 a2 a3 a4 a5 c1 c2 c4 c5 made size tooG kept sizes rows taken)) hD hS hA [0, 1, 2, 3, 4, 5] rfl
      refine vx_callv (vx_runS (As := [.int p1]) (rest := []) ⟨hx, hb, hml, hown, hB⟩ (c_G_requirePart l D a0 a1 a2 a3 a4 a5 c1 c2 c4 c5 H.size made size tooG kept sizes rows taken p1 _ _ hst) (cwS 1 hB (goodS wd_289 wd_290 wd_1 wd_291) rfl rfl rfl (by decide +kernel) ⟨Nat.le_of_ble_eq_true rfl, Nat.le_of_ble_eq_true rfl⟩) ⟨pcX_blind, pcX_pre hP hK hD hS hX hF5 h⟩ rfl rfl hl.1 rfl (lv_room (Nat.le_of_ble_eq_true rfl)) d_G_value_24 ⟨Nat.le_of_ble_eq_true rfl, Nat.le_of_ble_eq_true rfl⟩) hS (fun q _ h => hF5 q h) hF5 (fun q _ h => hF5 q h) (fun E ce q9 u t H locs ht hvm _ hB hz1 hk1 hS hce hcv hcl => ?_) (fun u t H locs ht hvm h hB hz1 hk1 hS => ?_)
      · -- thrown
        obtain ⟨h1, hP1, hK1, hD1⟩ := hB
        replace h := h1
        rw [ht] at hP1
        have hP : va_P D vwCl (wG a0 a1 a2 a3 a4 a5 c1 c2 c4 c5 made size tooG kept sizes rows taken) H := hP1
        have hD : va_D A (wG a0 a1 a2 a3 a4 a5 c1 c2 c4 c5 made size tooG kept sizes rows taken) := hD1.weaken (fun _ _ _ hq => hF5 _ hq)
        exact vx_out (fun x hx => (hno x hx).elim) hlocks hce hcv hcl (fun t9 ht9 hW9 => ⟨(), trivial, ⟨h, by rw [ht9]; exact hP, va_K.moved hW9 hK, hD⟩, hS.F ht9⟩) hS.2.2 (by omega) (by omega)
      ·
        obtain ⟨hP1, hK1, hD1⟩ := hB
        rw [ht] at hP1
        have hP : va_P D vwCl (wG a0 a1 a2 a3 a4 a5 c1 c2 c4 c5 made size tooG kept sizes rows taken) H := hP1
        have hD : va_D A (wG a0 a1 a2 a3 a4 a5 c1 c2 c4 c5 made size tooG kept sizes rows taken) := hD1.weaken (fun _ _ _ hq => hF5 _ hq)
        refine W.widen (k := 2) (n := 12) (by omega) (by omega) ?_
        refine lv_iload_n hx hb d_G_value_27 rfl (lv_at hl 1 rfl) ?_
        refine lv_iconst (v := 0) hx hb d_G_value_28 (by decide) ?_
        have hF6 := va_free (wc := (wG a0 a1 a2 a3 a4 a5 c1 c2 c4 c5 made size tooG kept sizes rows taken)) hD hS hA [0, 1, 2, 3, 4, 5] rfl
        refine va_calli (va_runS (As := [.int p0, .int 0]) (rest := []) ⟨hx, hb, hml, hown, hB⟩ (c_G_rowOf l D a0 a1 a2 a3 a4 a5 c1 c2 c4 c5 H.size made size tooG kept sizes rows taken p0 0 _) (cwS 2 hB (goodS wd_144 wd_145 wd_1 wd_146) rfl rfl rfl (by decide +kernel) ⟨Nat.le_of_ble_eq_true rfl, Nat.le_of_ble_eq_true rfl⟩) ⟨pcX_blind, pcX_pre hP hK hD hS hX hF6 h⟩ rfl rfl hl.1 rfl (lv_room (Nat.le_of_ble_eq_true rfl)) d_G_value_29 ⟨Nat.le_of_ble_eq_true rfl, Nat.le_of_ble_eq_true rfl⟩) hS (fun q _ h => hF6 q h) hF6 (fun r7 u t H locs ht hvm h hB hz1 hk1 hS => ?_)
        obtain ⟨hP1, hK1, hD1⟩ := hB
        rw [ht] at hP1
        have hP : va_P D vwCl (wG a0 a1 a2 a3 a4 a5 c1 c2 c4 c5 made size tooG kept sizes rows taken) H := hP1
        have hD : va_D A (wG a0 a1 a2 a3 a4 a5 c1 c2 c4 c5 made size tooG kept sizes rows taken) := hD1.weaken (fun _ _ _ hq => hF6 _ hq)
        refine lv_istore_n (lv' := [(3, .int r7), (0, .ref a0), (1, .int p0), (2, .int p1)]) hx hb d_G_value_32 rfl hl (by decide) rfl (fun ls hl => ?_)
        refine lv_aload_n hx hb d_G_value_33 rfl (lv_at hl 1 rfl) ?_
        refine va_get (D := D) (ci := 1) (v := .ref a2) (C := R_G) (T := F_G) (N := 4) hx hb hB inF_G hown hK hP 0 rfl rfl 1 (by decide) (hB _ wd_36) (fun _ h9 => h9) rfl d_G_value_34 ?_
        refine lv_iload_n hx hb d_G_value_37 rfl (lv_at hl 2 rfl) ?_
        obtain ⟨g8, h⟩ := h
        refine va_iald hx hb hK hP 2 1 rfl rfl g8 d_G_value_38 ?_
        refine lv_if_le (tgt := 68) hx hb d_G_value_39 (by decide) (fun hc9 => ?_) (fun hc9 => ?_)
        · replace h := h.1 hc9
          refine lv_iload_n hx hb d_G_value_68 rfl (lv_at hl 3 rfl) ?_
          refine lv_if_ne (tgt := 76) hx hb d_G_value_69 (by decide) (fun hc10 => ?_) (fun hc10 => ?_)
          · replace h := h.1 hc10
            refine lv_iconst (v := 1) hx hb d_G_value_76 (by decide) ?_
            exact vx_ret (W.iret (v := 1) hx hb hr (fun t ht hW => ⟨⟨1, (), rfl, h, by rw [ht]; exact hP, va_K.moved hW.alike hK, hD⟩, hS.F ht⟩) hS.2.2 d_G_value_77)
          · replace h := h.2 hc10
            refine lv_iconst (v := 0) hx hb d_G_value_72 (by decide) ?_
            refine lv_goto (tgt := 77) hx hb d_G_value_73 (by decide) ?_
            exact vx_ret (W.iret (v := 0) hx hb hr (fun t ht hW => ⟨⟨0, (), rfl, h, by rw [ht]; exact hP, va_K.moved hW.alike hK, hD⟩, hS.F ht⟩) hS.2.2 d_G_value_77)
        · replace h := h.2 hc9
          refine lv_aload_n hx hb d_G_value_42 rfl (lv_at hl 1 rfl) ?_
          refine lv_iload_n hx hb d_G_value_43 rfl (lv_at hl 0 rfl) ?_
          have hF11 := va_free (wc := (wG a0 a1 a2 a3 a4 a5 c1 c2 c4 c5 made size tooG kept sizes rows taken)) hD hS hA [0, 1, 2, 3, 4, 5] rfl
          refine va_calli (va_runV (As := [.int r7]) (rest := []) ⟨hx, hb, hml, hown, hB⟩ (c_G_trendOf l D a0 a1 a2 a3 a4 a5 c1 c2 c4 c5 H.size made size tooG kept sizes rows taken r7 _) (cwV 1 hB (goodV wd_276 wd_277 wd_504 wd_1 wd_278) rfl rfl rfl (by decide +kernel) ⟨Nat.le_of_ble_eq_true rfl, Nat.le_of_ble_eq_true rfl⟩) ⟨pcX_blind, va_recv hK hP (ci := 1) (q0 := 0) rfl rfl, pcX_pre hP hK hD hS hX hF11 h⟩ rfl rfl hl.1 rfl (lv_room (Nat.le_of_ble_eq_true rfl)) d_G_value_44 ⟨Nat.le_of_ble_eq_true rfl, Nat.le_of_ble_eq_true rfl⟩) hS (fun q _ h => hF11 q h) hF11 (fun r12 u t H locs ht hvm h hB hz1 hk1 hS => ?_)
          obtain ⟨hP1, hK1, hD1⟩ := hB
          rw [ht] at hP1
          have hP : va_P D vwCl (wG a0 a1 a2 a3 a4 a5 c1 c2 c4 c5 made size tooG kept sizes rows taken) H := hP1
          have hD : va_D A (wG a0 a1 a2 a3 a4 a5 c1 c2 c4 c5 made size tooG kept sizes rows taken) := hD1.weaken (fun _ _ _ hq => hF11 _ hq)
          refine lv_if_ne (tgt := 68) hx hb d_G_value_47 (by decide) (fun hc13 => ?_) (fun hc13 => ?_)
          · replace h := h.1 hc13
            refine lv_iload_n hx hb d_G_value_68 rfl (lv_at hl 3 rfl) ?_
            refine lv_if_ne (tgt := 76) hx hb d_G_value_69 (by decide) (fun hc14 => ?_) (fun hc14 => ?_)
            · replace h := h.1 hc14
              refine lv_iconst (v := 1) hx hb d_G_value_76 (by decide) ?_
              exact vx_ret (W.iret (v := 1) hx hb hr (fun t ht hW => ⟨⟨1, (), rfl, h, by rw [ht]; exact hP, va_K.moved hW.alike hK, hD⟩, hS.F ht⟩) hS.2.2 d_G_value_77)
            · replace h := h.2 hc14
              refine lv_iconst (v := 0) hx hb d_G_value_72 (by decide) ?_
              refine lv_goto (tgt := 77) hx hb d_G_value_73 (by decide) ?_
              exact vx_ret (W.iret (v := 0) hx hb hr (fun t ht hW => ⟨⟨0, (), rfl, h, by rw [ht]; exact hP, va_K.moved hW.alike hK, hD⟩, hS.F ht⟩) hS.2.2 d_G_value_77)
          · replace h := h.2 hc13
            refine lv_aload_n hx hb d_G_value_50 rfl (lv_at hl 1 rfl) ?_
            refine va_get (D := D) (ci := 1) (v := .ref a1) (C := R_G) (T := F_G) (N := 4) hx hb hB inF_G hown hK hP 0 rfl rfl 0 (by decide) (hB _ wd_35) (fun _ h9 => h9) rfl d_G_value_51 ?_
            refine lv_iload_n hx hb d_G_value_54 rfl (lv_at hl 0 rfl) ?_
            refine lv_iload_n hx hb d_G_value_55 rfl (lv_at hl 3 rfl) ?_
            refine lv_if_ne (tgt := 63) hx hb d_G_value_56 (by decide) (fun hc15 => ?_) (fun hc15 => ?_)
            · replace h := h.1 hc15
              refine lv_bipush (v := 6) hx hb d_G_value_63 (by decide) ?_
              refine lv_iadd hx hb d_G_value_65 ?_
              obtain ⟨g16, h⟩ := h
              refine va_iald hx hb hK hP 1 0 rfl rfl g16 d_G_value_66 ?_
              exact vx_ret (W.iret (v := kept (r7 + 6).toNatClampNeg) hx hb hr (fun t ht hW => ⟨⟨kept (r7 + 6).toNatClampNeg, (), rfl, h, by rw [ht]; exact hP, va_K.moved hW.alike hK, hD⟩, hS.F ht⟩) hS.2.2 d_G_value_67)
            · replace h := h.2 hc15
              refine lv_iconst (v := 5) hx hb d_G_value_59 (by decide) ?_
              refine lv_goto (tgt := 65) hx hb d_G_value_60 (by decide) ?_
              refine lv_iadd hx hb d_G_value_65 ?_
              obtain ⟨g17, h⟩ := h
              refine va_iald hx hb hK hP 1 0 rfl rfl g17 d_G_value_66 ?_
              exact vx_ret (W.iret (v := kept (r7 + 5).toNatClampNeg) hx hb hr (fun t ht hW => ⟨⟨kept (r7 + 5).toNatClampNeg, (), rfl, h, by rw [ht]; exact hP, va_K.moved hW.alike hK, hD⟩, hS.F ht⟩) hS.2.2 d_G_value_67)
    · replace h := h.2 hc4
      obtain ⟨sa, hstr⟩ := hX.2.2.2 (109, "it comes near to no number") (by decide +kernel); exact vx_throwS (names := ["java/lang/RuntimeException", "java/lang/Exception"]) hx hb hst hown (by decide) (by decide) (hB _ wd_91) (hB _ wd_8) hstr (vx_hat (fun w hw => hB w (atE_2 w hw)) ngE_2 (nwG_use hX.1)) (otE_2 _) hX.2.1 hX.2.2.1 hS (hl.1.trans hml.symm) d_G_value_13 d_G_value_16 d_G_value_17 d_G_value_19 d_G_value_22 (fun x hx => (hno x hx).elim) (Nat.le_of_ble_eq_true rfl) (Nat.le_of_ble_eq_true rfl) (Nat.le_of_ble_eq_true rfl) (Nat.le_of_ble_eq_true rfl) hlocks (fun t hvm hz hk => ⟨(), trivial, ⟨h, va_P_grown hP hk, va_K.moved hvm hK, hD⟩, va_F_grown hS hz hk⟩) hS.2.2 (Nat.le_of_ble_eq_true rfl) (Nat.le_of_ble_eq_true rfl)
set_option maxHeartbeats 4000000 in
set_option maxRecDepth 100000 in
theorem c_G_compare (l : Launch) (D : va_G) (a0 a1 a2 a3 a4 a5 : Nat) (c1 c2 c4 c5 : ClassId) (sz : Nat) (made : Int32) (size : Int32) (tooG : Int32) (kept : (Nat → Int32)) (sizes : (Nat → Int32)) (rows : (Nat → Int32)) (taken : (Nat → Int32)) (p0 : Int32) (p1 : Int32) (post : Int32 → Prop) (postx : String → Prop) (hst : l.stackTraces = false) : vx_Met l y_G_compare (Cond.code y_G_compare b_G_compare 3 (some .int) :: BIG) ({ frames := 7, cells := 2, slots := 12, locals := 111 }) (va_Pc [.ref a0, .int p0, .int p1] (pcX D vwCl (wG a0 a1 a2 a3 a4 a5 c1 c2 c4 c5 made size tooG kept sizes rows taken) [(c1, .int), (c2, .int), (c4, .int), (c5, .int)] sz (wp_G_compare made kept sizes p0 p1 post postx))) (va_Qi (fun (r : Int32) (_ : Unit) => post r) (fun _ => atG D vwCl [(c1, .int), (c2, .int), (c4, .int), (c5, .int)] (va_A (wG a0 a1 a2 a3 a4 a5 c1 c2 c4 c5 made size tooG kept sizes rows taken) sz) (wG a0 a1 a2 a3 a4 a5 c1 c2 c4 c5 made size tooG kept sizes rows taken)) (va_A (wG a0 a1 a2 a3 a4 a5 c1 c2 c4 c5 made size tooG kept sizes rows taken) sz)) (vx_X (fun _ : Unit => True) (fun E u => atX D vwCl [(c1, .int), (c2, .int), (c4, .int), (c5, .int)] (va_A (wG a0 a1 a2 a3 a4 a5 c1 c2 c4 c5 made size tooG kept sizes rows taken) sz) (wG a0 a1 a2 a3 a4 a5 c1 c2 c4 c5 made size tooG kept sizes rows taken) (postx E)) (va_A (wG a0 a1 a2 a3 a4 a5 c1 c2 c4 c5 made size tooG kept sizes rows taken) sz)) 2 12 (va_A (wG a0 a1 a2 a3 a4 a5 c1 c2 c4 c5 made size tooG kept sizes rows taken) sz) := by
  refine vx_ofW (cc := b_G_compare) (maxL := 3) (ret := (some .int)) (by decide) rfl ?_
  intro p e s m args below meth c s₁ B hml hno hv
  obtain ⟨rfl, hsz, hP, hK, hD0, hX, h⟩ := hv
  have hx := B.exec
  have hb := B.bytes
  have hr := B.returns
  have hB : ∀ w ∈ BIG, w.before _ s = true := fun w h => atoms_spec (ws := (Cond.code y_G_compare b_G_compare 3 (some .int) :: BIG)) B.pre w (List.mem_cons_of_mem _ h)
  have hown : s.vm.findClass R_G = some m.cls := findClass_of_methodNamed B.named
  have hlocks := B.notSynchronized
  subst hsz
  have hD := hD0.self (sz := s.heap.size)
  generalize hAe : va_A (wG a0 a1 a2 a3 a4 a5 c1 c2 c4 c5 made size tooG kept sizes rows taken) s.heap.size = A at hD hX ⊢
  have hA : ∀ q : Nat, s.heap.size ≤ q → A q := fun q h => by rw [← hAe]; exact Or.inr h
  have hl := lv_entry ([.ref a0, .int p0, .int p1]) (n := 3) (Nat.le_of_ble_eq_true rfl)
  rw [lg_entry_eq]
  generalize (lg_sl ([.ref a0, .int p0, .int p1]) ++ List.replicate (3 - (lg_sl ([.ref a0, .int p0, .int p1])).length) Slot.unset).toArray = ls at hl ⊢
  have hl : lv_has ls 3 [(0, .ref a0), (1, .int p0), (2, .int p1)] := hl
  refine W.cap (fun G Gi Ge => ?_)
  suffices hL : ∀ (H : Heap) (locs : List Loc), va_P D vwCl (wG a0 a1 a2 a3 a4 a5 c1 c2 c4 c5 made size tooG kept sizes rows taken) H → va_S A s.heap H locs → G H locs (F0 m 0 ls []) from hL _ _ hP va_S.rf
  clear hP
  intro H locs hP hS
  refine Gi _ _ _ ?_
  unfold wp_G_compare at h
  refine lv_aload_n hx hb d_G_compare_0 rfl (lv_at hl 0 rfl) ?_
  refine lv_iload_n hx hb d_G_compare_1 rfl (lv_at hl 1 rfl) ?_
  have hF1 := va_free (wc := (wG a0 a1 a2 a3 a4 a5 c1 c2 c4 c5 made size tooG kept sizes rows taken)) hD hS hA [0, 1, 2, 3, 4, 5] rfl
  refine vx_callv (vx_runV (As := [.int p0]) (rest := []) ⟨hx, hb, hml, hown, hB⟩ (c_G_requireFunction l D a0 a1 a2 a3 a4 a5 c1 c2 c4 c5 H.size made size tooG kept sizes rows taken p0 _ _ hst) (cwV 1 hB (goodV wd_178 wd_179 wd_497 wd_1 wd_180) rfl rfl rfl (by decide +kernel) ⟨Nat.le_of_ble_eq_true rfl, Nat.le_of_ble_eq_true rfl⟩) ⟨pcX_blind, va_recv hK hP (ci := 1) (q0 := 0) rfl rfl, pcX_pre hP hK hD hS hX hF1 h⟩ rfl rfl hl.1 rfl (lv_room (Nat.le_of_ble_eq_true rfl)) d_G_compare_2 ⟨Nat.le_of_ble_eq_true rfl, Nat.le_of_ble_eq_true rfl⟩) hS (fun q _ h => hF1 q h) hF1 (fun q _ h => hF1 q h) (fun E ce q9 u t H locs ht hvm _ hB hz1 hk1 hS hce hcv hcl => ?_) (fun u t H locs ht hvm h hB hz1 hk1 hS => ?_)
  · -- thrown
    obtain ⟨h1, hP1, hK1, hD1⟩ := hB
    replace h := h1
    rw [ht] at hP1
    have hP : va_P D vwCl (wG a0 a1 a2 a3 a4 a5 c1 c2 c4 c5 made size tooG kept sizes rows taken) H := hP1
    have hD : va_D A (wG a0 a1 a2 a3 a4 a5 c1 c2 c4 c5 made size tooG kept sizes rows taken) := hD1.weaken (fun _ _ _ hq => hF1 _ hq)
    exact vx_out (fun x hx => (hno x hx).elim) hlocks hce hcv hcl (fun t9 ht9 hW9 => ⟨(), trivial, ⟨h, by rw [ht9]; exact hP, va_K.moved hW9 hK, hD⟩, hS.F ht9⟩) hS.2.2 (by omega) (by omega)
  ·
    obtain ⟨hP1, hK1, hD1⟩ := hB
    rw [ht] at hP1
    have hP : va_P D vwCl (wG a0 a1 a2 a3 a4 a5 c1 c2 c4 c5 made size tooG kept sizes rows taken) H := hP1
    have hD : va_D A (wG a0 a1 a2 a3 a4 a5 c1 c2 c4 c5 made size tooG kept sizes rows taken) := hD1.weaken (fun _ _ _ hq => hF1 _ hq)
    refine W.widen (k := 1) (n := 6) (by omega) (by omega) ?_
    refine lv_aload_n hx hb d_G_compare_5 rfl (lv_at hl 0 rfl) ?_
    refine lv_iload_n hx hb d_G_compare_6 rfl (lv_at hl 2 rfl) ?_
    have hF2 := va_free (wc := (wG a0 a1 a2 a3 a4 a5 c1 c2 c4 c5 made size tooG kept sizes rows taken)) hD hS hA [0, 1, 2, 3, 4, 5] rfl
    refine vx_callv (vx_runV (As := [.int p1]) (rest := []) ⟨hx, hb, hml, hown, hB⟩ (c_G_requireFunction l D a0 a1 a2 a3 a4 a5 c1 c2 c4 c5 H.size made size tooG kept sizes rows taken p1 _ _ hst) (cwV 1 hB (goodV wd_178 wd_179 wd_497 wd_1 wd_180) rfl rfl rfl (by decide +kernel) ⟨Nat.le_of_ble_eq_true rfl, Nat.le_of_ble_eq_true rfl⟩) ⟨pcX_blind, va_recv hK hP (ci := 1) (q0 := 0) rfl rfl, pcX_pre hP hK hD hS hX hF2 h⟩ rfl rfl hl.1 rfl (lv_room (Nat.le_of_ble_eq_true rfl)) d_G_compare_7 ⟨Nat.le_of_ble_eq_true rfl, Nat.le_of_ble_eq_true rfl⟩) hS (fun q _ h => hF2 q h) hF2 (fun q _ h => hF2 q h) (fun E ce q9 u t H locs ht hvm _ hB hz1 hk1 hS hce hcv hcl => ?_) (fun u t H locs ht hvm h hB hz1 hk1 hS => ?_)
    · -- thrown
      obtain ⟨h1, hP1, hK1, hD1⟩ := hB
      replace h := h1
      rw [ht] at hP1
      have hP : va_P D vwCl (wG a0 a1 a2 a3 a4 a5 c1 c2 c4 c5 made size tooG kept sizes rows taken) H := hP1
      have hD : va_D A (wG a0 a1 a2 a3 a4 a5 c1 c2 c4 c5 made size tooG kept sizes rows taken) := hD1.weaken (fun _ _ _ hq => hF2 _ hq)
      exact vx_out (fun x hx => (hno x hx).elim) hlocks hce hcv hcl (fun t9 ht9 hW9 => ⟨(), trivial, ⟨h, by rw [ht9]; exact hP, va_K.moved hW9 hK, hD⟩, hS.F ht9⟩) hS.2.2 (by omega) (by omega)
    ·
      obtain ⟨hP1, hK1, hD1⟩ := hB
      rw [ht] at hP1
      have hP : va_P D vwCl (wG a0 a1 a2 a3 a4 a5 c1 c2 c4 c5 made size tooG kept sizes rows taken) H := hP1
      have hD : va_D A (wG a0 a1 a2 a3 a4 a5 c1 c2 c4 c5 made size tooG kept sizes rows taken) := hD1.weaken (fun _ _ _ hq => hF2 _ hq)
      refine W.widen (k := 2) (n := 12) (by omega) (by omega) ?_
      refine lv_aload_n hx hb d_G_compare_10 rfl (lv_at hl 0 rfl) ?_
      refine lv_iload_n hx hb d_G_compare_11 rfl (lv_at hl 1 rfl) ?_
      refine lv_iload_n hx hb d_G_compare_12 rfl (lv_at hl 2 rfl) ?_
      have hF3 := va_free (wc := (wG a0 a1 a2 a3 a4 a5 c1 c2 c4 c5 made size tooG kept sizes rows taken)) hD hS hA [0, 1, 2, 3, 4, 5] rfl
      refine va_calli (va_runV (As := [.int p0, .int p1]) (rest := []) ⟨hx, hb, hml, hown, hB⟩ (c_G_rankOf l D a0 a1 a2 a3 a4 a5 c1 c2 c4 c5 H.size made size tooG kept sizes rows taken p0 p1 _) (cwV 2 hB (goodV wd_299 wd_300 wd_506 wd_1 wd_301) rfl rfl rfl (by decide +kernel) ⟨Nat.le_of_ble_eq_true rfl, Nat.le_of_ble_eq_true rfl⟩) ⟨pcX_blind, va_recv hK hP (ci := 1) (q0 := 0) rfl rfl, pcX_pre hP hK hD hS hX hF3 h⟩ rfl rfl hl.1 rfl (lv_room (Nat.le_of_ble_eq_true rfl)) d_G_compare_13 ⟨Nat.le_of_ble_eq_true rfl, Nat.le_of_ble_eq_true rfl⟩) hS (fun q _ h => hF3 q h) hF3 (fun r4 u t H locs ht hvm h hB hz1 hk1 hS => ?_)
      obtain ⟨hP1, hK1, hD1⟩ := hB
      rw [ht] at hP1
      have hP : va_P D vwCl (wG a0 a1 a2 a3 a4 a5 c1 c2 c4 c5 made size tooG kept sizes rows taken) H := hP1
      have hD : va_D A (wG a0 a1 a2 a3 a4 a5 c1 c2 c4 c5 made size tooG kept sizes rows taken) := hD1.weaken (fun _ _ _ hq => hF3 _ hq)
      exact vx_ret (W.iret (v := r4) hx hb hr (fun t ht hW => ⟨⟨r4, (), rfl, h, by rw [ht]; exact hP, va_K.moved hW.alike hK, hD⟩, hS.F ht⟩) hS.2.2 d_G_compare_16)
set_option maxHeartbeats 4000000 in
set_option maxRecDepth 100000 in
theorem c_G_ratio (l : Launch) (D : va_G) (a0 a1 a2 a3 a4 a5 : Nat) (c1 c2 c4 c5 : ClassId) (sz : Nat) (made : Int32) (size : Int32) (tooG : Int32) (kept : (Nat → Int32)) (sizes : (Nat → Int32)) (rows : (Nat → Int32)) (taken : (Nat → Int32)) (p0 : Int32) (p1 : Int32) (p2 : Int32) (post : Int64 → Prop) (postx : String → Prop) (hst : l.stackTraces = false) : vx_Met l y_G_ratio (Cond.code y_G_ratio b_G_ratio 12 (some .long) :: BIG) ({ frames := 7, cells := 3, slots := 18, locals := 111 }) (va_Pc [.ref a0, .int p0, .int p1, .int p2] (pcX D vwCl (wG a0 a1 a2 a3 a4 a5 c1 c2 c4 c5 made size tooG kept sizes rows taken) [(c1, .int), (c2, .int), (c4, .int), (c5, .int)] sz (wp_G_ratio made kept sizes p0 p1 p2 post postx))) (va_Ql (fun (r : Int64) (_ : Unit) => post r) (fun _ => atG D vwCl [(c1, .int), (c2, .int), (c4, .int), (c5, .int)] (va_A (wG a0 a1 a2 a3 a4 a5 c1 c2 c4 c5 made size tooG kept sizes rows taken) sz) (wG a0 a1 a2 a3 a4 a5 c1 c2 c4 c5 made size tooG kept sizes rows taken)) (va_A (wG a0 a1 a2 a3 a4 a5 c1 c2 c4 c5 made size tooG kept sizes rows taken) sz)) (vx_X (fun _ : Unit => True) (fun E u => atX D vwCl [(c1, .int), (c2, .int), (c4, .int), (c5, .int)] (va_A (wG a0 a1 a2 a3 a4 a5 c1 c2 c4 c5 made size tooG kept sizes rows taken) sz) (wG a0 a1 a2 a3 a4 a5 c1 c2 c4 c5 made size tooG kept sizes rows taken) (postx E)) (va_A (wG a0 a1 a2 a3 a4 a5 c1 c2 c4 c5 made size tooG kept sizes rows taken) sz)) 3 18 (va_A (wG a0 a1 a2 a3 a4 a5 c1 c2 c4 c5 made size tooG kept sizes rows taken) sz) := by
  refine vx_ofW (cc := b_G_ratio) (maxL := 12) (ret := (some .long)) (by decide) rfl ?_
  intro p e s m args below meth c s₁ B hml hno hv
  obtain ⟨rfl, hsz, hP, hK, hD0, hX, h⟩ := hv
  have hx := B.exec
  have hb := B.bytes
  have hr := B.returns
  have hB : ∀ w ∈ BIG, w.before _ s = true := fun w h => atoms_spec (ws := (Cond.code y_G_ratio b_G_ratio 12 (some .long) :: BIG)) B.pre w (List.mem_cons_of_mem _ h)
  have hown : s.vm.findClass R_G = some m.cls := findClass_of_methodNamed B.named
  have hlocks := B.notSynchronized
  subst hsz
  have hD := hD0.self (sz := s.heap.size)
  generalize hAe : va_A (wG a0 a1 a2 a3 a4 a5 c1 c2 c4 c5 made size tooG kept sizes rows taken) s.heap.size = A at hD hX ⊢
  have hA : ∀ q : Nat, s.heap.size ≤ q → A q := fun q h => by rw [← hAe]; exact Or.inr h
  have hl := lv_entry ([.ref a0, .int p0, .int p1, .int p2]) (n := 12) (Nat.le_of_ble_eq_true rfl)
  rw [lg_entry_eq]
  generalize (lg_sl ([.ref a0, .int p0, .int p1, .int p2]) ++ List.replicate (12 - (lg_sl ([.ref a0, .int p0, .int p1, .int p2])).length) Slot.unset).toArray = ls at hl ⊢
  have hl : lv_has ls 12 [(0, .ref a0), (1, .int p0), (2, .int p1), (3, .int p2)] := hl
  refine W.cap (fun G Gi Ge => ?_)
  suffices hL : ∀ (H : Heap) (locs : List Loc), va_P D vwCl (wG a0 a1 a2 a3 a4 a5 c1 c2 c4 c5 made size tooG kept sizes rows taken) H → va_S A s.heap H locs → G H locs (F0 m 0 ls []) from hL _ _ hP va_S.rf
  clear hP
  intro H locs hP hS
  refine Gi _ _ _ ?_
  unfold wp_G_ratio at h
  refine lv_aload_n hx hb d_G_ratio_0 rfl (lv_at hl 0 rfl) ?_
  refine lv_iload_n hx hb d_G_ratio_1 rfl (lv_at hl 1 rfl) ?_
  have hF1 := va_free (wc := (wG a0 a1 a2 a3 a4 a5 c1 c2 c4 c5 made size tooG kept sizes rows taken)) hD hS hA [0, 1, 2, 3, 4, 5] rfl
  refine vx_callv (vx_runV (As := [.int p0]) (rest := []) ⟨hx, hb, hml, hown, hB⟩ (c_G_requireFunction l D a0 a1 a2 a3 a4 a5 c1 c2 c4 c5 H.size made size tooG kept sizes rows taken p0 _ _ hst) (cwV 1 hB (goodV wd_178 wd_179 wd_497 wd_1 wd_180) rfl rfl rfl (by decide +kernel) ⟨Nat.le_of_ble_eq_true rfl, Nat.le_of_ble_eq_true rfl⟩) ⟨pcX_blind, va_recv hK hP (ci := 1) (q0 := 0) rfl rfl, pcX_pre hP hK hD hS hX hF1 h⟩ rfl rfl hl.1 rfl (lv_room (Nat.le_of_ble_eq_true rfl)) d_G_ratio_2 ⟨Nat.le_of_ble_eq_true rfl, Nat.le_of_ble_eq_true rfl⟩) hS (fun q _ h => hF1 q h) hF1 (fun q _ h => hF1 q h) (fun E ce q9 u t H locs ht hvm _ hB hz1 hk1 hS hce hcv hcl => ?_) (fun u t H locs ht hvm h hB hz1 hk1 hS => ?_)
  · -- thrown
    obtain ⟨h1, hP1, hK1, hD1⟩ := hB
    replace h := h1
    rw [ht] at hP1
    have hP : va_P D vwCl (wG a0 a1 a2 a3 a4 a5 c1 c2 c4 c5 made size tooG kept sizes rows taken) H := hP1
    have hD : va_D A (wG a0 a1 a2 a3 a4 a5 c1 c2 c4 c5 made size tooG kept sizes rows taken) := hD1.weaken (fun _ _ _ hq => hF1 _ hq)
    exact vx_out (fun x hx => (hno x hx).elim) hlocks hce hcv hcl (fun t9 ht9 hW9 => ⟨(), trivial, ⟨h, by rw [ht9]; exact hP, va_K.moved hW9 hK, hD⟩, hS.F ht9⟩) hS.2.2 (by omega) (by omega)
  ·
    obtain ⟨hP1, hK1, hD1⟩ := hB
    rw [ht] at hP1
    have hP : va_P D vwCl (wG a0 a1 a2 a3 a4 a5 c1 c2 c4 c5 made size tooG kept sizes rows taken) H := hP1
    have hD : va_D A (wG a0 a1 a2 a3 a4 a5 c1 c2 c4 c5 made size tooG kept sizes rows taken) := hD1.weaken (fun _ _ _ hq => hF1 _ hq)
    refine W.widen (k := 1) (n := 6) (by omega) (by omega) ?_
    refine lv_aload_n hx hb d_G_ratio_5 rfl (lv_at hl 0 rfl) ?_
    refine lv_iload_n hx hb d_G_ratio_6 rfl (lv_at hl 2 rfl) ?_
    have hF2 := va_free (wc := (wG a0 a1 a2 a3 a4 a5 c1 c2 c4 c5 made size tooG kept sizes rows taken)) hD hS hA [0, 1, 2, 3, 4, 5] rfl
    refine vx_callv (vx_runV (As := [.int p1]) (rest := []) ⟨hx, hb, hml, hown, hB⟩ (c_G_requireFunction l D a0 a1 a2 a3 a4 a5 c1 c2 c4 c5 H.size made size tooG kept sizes rows taken p1 _ _ hst) (cwV 1 hB (goodV wd_178 wd_179 wd_497 wd_1 wd_180) rfl rfl rfl (by decide +kernel) ⟨Nat.le_of_ble_eq_true rfl, Nat.le_of_ble_eq_true rfl⟩) ⟨pcX_blind, va_recv hK hP (ci := 1) (q0 := 0) rfl rfl, pcX_pre hP hK hD hS hX hF2 h⟩ rfl rfl hl.1 rfl (lv_room (Nat.le_of_ble_eq_true rfl)) d_G_ratio_7 ⟨Nat.le_of_ble_eq_true rfl, Nat.le_of_ble_eq_true rfl⟩) hS (fun q _ h => hF2 q h) hF2 (fun q _ h => hF2 q h) (fun E ce q9 u t H locs ht hvm _ hB hz1 hk1 hS hce hcv hcl => ?_) (fun u t H locs ht hvm h hB hz1 hk1 hS => ?_)
    · -- thrown
      obtain ⟨h1, hP1, hK1, hD1⟩ := hB
      replace h := h1
      rw [ht] at hP1
      have hP : va_P D vwCl (wG a0 a1 a2 a3 a4 a5 c1 c2 c4 c5 made size tooG kept sizes rows taken) H := hP1
      have hD : va_D A (wG a0 a1 a2 a3 a4 a5 c1 c2 c4 c5 made size tooG kept sizes rows taken) := hD1.weaken (fun _ _ _ hq => hF2 _ hq)
      exact vx_out (fun x hx => (hno x hx).elim) hlocks hce hcv hcl (fun t9 ht9 hW9 => ⟨(), trivial, ⟨h, by rw [ht9]; exact hP, va_K.moved hW9 hK, hD⟩, hS.F ht9⟩) hS.2.2 (by omega) (by omega)
    ·
      obtain ⟨hP1, hK1, hD1⟩ := hB
      rw [ht] at hP1
      have hP : va_P D vwCl (wG a0 a1 a2 a3 a4 a5 c1 c2 c4 c5 made size tooG kept sizes rows taken) H := hP1
      have hD : va_D A (wG a0 a1 a2 a3 a4 a5 c1 c2 c4 c5 made size tooG kept sizes rows taken) := hD1.weaken (fun _ _ _ hq => hF2 _ hq)
      refine W.widen (k := 2) (n := 12) (by omega) (by omega) ?_
      refine lv_aload_n hx hb d_G_ratio_10 rfl (lv_at hl 0 rfl) ?_
      refine va_get (D := D) (ci := 1) (v := .ref a2) (C := R_G) (T := F_G) (N := 4) hx hb hB inF_G hown hK hP 0 rfl rfl 1 (by decide) (hB _ wd_36) (fun _ h9 => h9) rfl d_G_ratio_11 ?_
      refine lv_iload_n hx hb d_G_ratio_14 rfl (lv_at hl 1 rfl) ?_
      obtain ⟨g3, h⟩ := h
      refine va_iald hx hb hK hP 2 1 rfl rfl g3 d_G_ratio_15 ?_
      refine lv_if_eq (tgt := 37) hx hb d_G_ratio_16 (by decide) (fun hc4 => ?_) (fun hc4 => ?_)
      · replace h := h.1 hc4
        obtain ⟨sa, hstr⟩ := hX.2.2.2 (121, "their quotient comes near to no number but 0") (by decide +kernel); exact vx_throwS (names := ["java/lang/RuntimeException", "java/lang/Exception"]) hx hb hst hown (by decide) (by decide) (hB _ wd_91) (hB _ wd_8) hstr (vx_hat (fun w hw => hB w (atE_2 w hw)) ngE_2 (nwG_use hX.1)) (otE_2 _) hX.2.1 hX.2.2.1 hS (hl.1.trans hml.symm) d_G_ratio_37 d_G_ratio_40 d_G_ratio_41 d_G_ratio_43 d_G_ratio_46 (fun x hx => (hno x hx).elim) (Nat.le_of_ble_eq_true rfl) (Nat.le_of_ble_eq_true rfl) (Nat.le_of_ble_eq_true rfl) (Nat.le_of_ble_eq_true rfl) hlocks (fun t hvm hz hk => ⟨(), trivial, ⟨h, va_P_grown hP hk, va_K.moved hvm hK, hD⟩, va_F_grown hS hz hk⟩) hS.2.2 (Nat.le_of_ble_eq_true rfl) (Nat.le_of_ble_eq_true rfl)
      · replace h := h.2 hc4
        refine lv_aload_n hx hb d_G_ratio_19 rfl (lv_at hl 0 rfl) ?_
        refine va_get (D := D) (ci := 1) (v := .ref a2) (C := R_G) (T := F_G) (N := 4) hx hb hB inF_G hown hK hP 0 rfl rfl 1 (by decide) (hB _ wd_36) (fun _ h9 => h9) rfl d_G_ratio_20 ?_
        refine lv_iload_n hx hb d_G_ratio_23 rfl (lv_at hl 2 rfl) ?_
        obtain ⟨g5, h⟩ := h
        refine va_iald hx hb hK hP 2 1 rfl rfl g5 d_G_ratio_24 ?_
        refine lv_if_eq (tgt := 37) hx hb d_G_ratio_25 (by decide) (fun hc6 => ?_) (fun hc6 => ?_)
        · replace h := h.1 hc6
          obtain ⟨sa, hstr⟩ := hX.2.2.2 (121, "their quotient comes near to no number but 0") (by decide +kernel); exact vx_throwS (names := ["java/lang/RuntimeException", "java/lang/Exception"]) hx hb hst hown (by decide) (by decide) (hB _ wd_91) (hB _ wd_8) hstr (vx_hat (fun w hw => hB w (atE_2 w hw)) ngE_2 (nwG_use hX.1)) (otE_2 _) hX.2.1 hX.2.2.1 hS (hl.1.trans hml.symm) d_G_ratio_37 d_G_ratio_40 d_G_ratio_41 d_G_ratio_43 d_G_ratio_46 (fun x hx => (hno x hx).elim) (Nat.le_of_ble_eq_true rfl) (Nat.le_of_ble_eq_true rfl) (Nat.le_of_ble_eq_true rfl) (Nat.le_of_ble_eq_true rfl) hlocks (fun t hvm hz hk => ⟨(), trivial, ⟨h, va_P_grown hP hk, va_K.moved hvm hK, hD⟩, va_F_grown hS hz hk⟩) hS.2.2 (Nat.le_of_ble_eq_true rfl) (Nat.le_of_ble_eq_true rfl)
        · replace h := h.2 hc6
          refine lv_aload_n hx hb d_G_ratio_28 rfl (lv_at hl 0 rfl) ?_
          refine lv_iload_n hx hb d_G_ratio_29 rfl (lv_at hl 1 rfl) ?_
          refine lv_iload_n hx hb d_G_ratio_30 rfl (lv_at hl 2 rfl) ?_
          have hF7 := va_free (wc := (wG a0 a1 a2 a3 a4 a5 c1 c2 c4 c5 made size tooG kept sizes rows taken)) hD hS hA [0, 1, 2, 3, 4, 5] rfl
          refine va_calli (va_runV (As := [.int p0, .int p1]) (rest := []) ⟨hx, hb, hml, hown, hB⟩ (c_G_rankOf l D a0 a1 a2 a3 a4 a5 c1 c2 c4 c5 H.size made size tooG kept sizes rows taken p0 p1 _) (cwV 2 hB (goodV wd_299 wd_300 wd_506 wd_1 wd_301) rfl rfl rfl (by decide +kernel) ⟨Nat.le_of_ble_eq_true rfl, Nat.le_of_ble_eq_true rfl⟩) ⟨pcX_blind, va_recv hK hP (ci := 1) (q0 := 0) rfl rfl, pcX_pre hP hK hD hS hX hF7 h⟩ rfl rfl hl.1 rfl (lv_room (Nat.le_of_ble_eq_true rfl)) d_G_ratio_31 ⟨Nat.le_of_ble_eq_true rfl, Nat.le_of_ble_eq_true rfl⟩) hS (fun q _ h => hF7 q h) hF7 (fun r8 u t H locs ht hvm h hB hz1 hk1 hS => ?_)
          obtain ⟨hP1, hK1, hD1⟩ := hB
          rw [ht] at hP1
          have hP : va_P D vwCl (wG a0 a1 a2 a3 a4 a5 c1 c2 c4 c5 made size tooG kept sizes rows taken) H := hP1
          have hD : va_D A (wG a0 a1 a2 a3 a4 a5 c1 c2 c4 c5 made size tooG kept sizes rows taken) := hD1.weaken (fun _ _ _ hq => hF7 _ hq)
          refine lv_if_eq (tgt := 47) hx hb d_G_ratio_34 (by decide) (fun hc9 => ?_) (fun hc9 => ?_)
          · replace h := h.1 hc9
            refine lv_iload_n hx hb d_G_ratio_47 rfl (lv_at hl 3 rfl) ?_
            have hF10 := va_free (wc := (wG a0 a1 a2 a3 a4 a5 c1 c2 c4 c5 made size tooG kept sizes rows taken)) hD hS hA [0, 1, 2, 3, 4, 5] rfl
            refine vx_callv (vx_runS (As := [.int p2]) (rest := []) ⟨hx, hb, hml, hown, hB⟩ (c_G_requirePart l D a0 a1 a2 a3 a4 a5 c1 c2 c4 c5 H.size made size tooG kept sizes rows taken p2 _ _ hst) (cwS 1 hB (goodS wd_289 wd_290 wd_1 wd_291) rfl rfl rfl (by decide +kernel) ⟨Nat.le_of_ble_eq_true rfl, Nat.le_of_ble_eq_true rfl⟩) ⟨pcX_blind, pcX_pre hP hK hD hS hX hF10 h⟩ rfl rfl hl.1 rfl (lv_room (Nat.le_of_ble_eq_true rfl)) d_G_ratio_48 ⟨Nat.le_of_ble_eq_true rfl, Nat.le_of_ble_eq_true rfl⟩) hS (fun q _ h => hF10 q h) hF10 (fun q _ h => hF10 q h) (fun E ce q9 u t H locs ht hvm _ hB hz1 hk1 hS hce hcv hcl => ?_) (fun u t H locs ht hvm h hB hz1 hk1 hS => ?_)
            · -- thrown
              obtain ⟨h1, hP1, hK1, hD1⟩ := hB
              replace h := h1
              rw [ht] at hP1
              have hP : va_P D vwCl (wG a0 a1 a2 a3 a4 a5 c1 c2 c4 c5 made size tooG kept sizes rows taken) H := hP1
              have hD : va_D A (wG a0 a1 a2 a3 a4 a5 c1 c2 c4 c5 made size tooG kept sizes rows taken) := hD1.weaken (fun _ _ _ hq => hF10 _ hq)
              exact vx_out (fun x hx => (hno x hx).elim) hlocks hce hcv hcl (fun t9 ht9 hW9 => ⟨(), trivial, ⟨h, by rw [ht9]; exact hP, va_K.moved hW9 hK, hD⟩, hS.F ht9⟩) hS.2.2 (by omega) (by omega)
            ·
              obtain ⟨hP1, hK1, hD1⟩ := hB
              rw [ht] at hP1
              have hP : va_P D vwCl (wG a0 a1 a2 a3 a4 a5 c1 c2 c4 c5 made size tooG kept sizes rows taken) H := hP1
              have hD : va_D A (wG a0 a1 a2 a3 a4 a5 c1 c2 c4 c5 made size tooG kept sizes rows taken) := hD1.weaken (fun _ _ _ hq => hF10 _ hq)
              refine W.widen (k := 3) (n := 18) (by omega) (by omega) ?_
              refine lv_iload_n hx hb d_G_ratio_51 rfl (lv_at hl 1 rfl) ?_
              refine lv_iconst (v := 0) hx hb d_G_ratio_52 (by decide) ?_
              have hF11 := va_free (wc := (wG a0 a1 a2 a3 a4 a5 c1 c2 c4 c5 made size tooG kept sizes rows taken)) hD hS hA [0, 1, 2, 3, 4, 5] rfl
              refine va_calli (va_runS (As := [.int p0, .int 0]) (rest := []) ⟨hx, hb, hml, hown, hB⟩ (c_G_rowOf l D a0 a1 a2 a3 a4 a5 c1 c2 c4 c5 H.size made size tooG kept sizes rows taken p0 0 _) (cwS 2 hB (goodS wd_144 wd_145 wd_1 wd_146) rfl rfl rfl (by decide +kernel) ⟨Nat.le_of_ble_eq_true rfl, Nat.le_of_ble_eq_true rfl⟩) ⟨pcX_blind, pcX_pre hP hK hD hS hX hF11 h⟩ rfl rfl hl.1 rfl (lv_room (Nat.le_of_ble_eq_true rfl)) d_G_ratio_53 ⟨Nat.le_of_ble_eq_true rfl, Nat.le_of_ble_eq_true rfl⟩) hS (fun q _ h => hF11 q h) hF11 (fun r12 u t H locs ht hvm h hB hz1 hk1 hS => ?_)
              obtain ⟨hP1, hK1, hD1⟩ := hB
              rw [ht] at hP1
              have hP : va_P D vwCl (wG a0 a1 a2 a3 a4 a5 c1 c2 c4 c5 made size tooG kept sizes rows taken) H := hP1
              have hD : va_D A (wG a0 a1 a2 a3 a4 a5 c1 c2 c4 c5 made size tooG kept sizes rows taken) := hD1.weaken (fun _ _ _ hq => hF11 _ hq)
              refine lv_istore (lv' := [(4, .int r12), (0, .ref a0), (1, .int p0), (2, .int p1), (3, .int p2)]) hx hb d_G_ratio_56 hl (by decide) rfl (fun ls hl => ?_)
              refine lv_iload_n hx hb d_G_ratio_58 rfl (lv_at hl 3 rfl) ?_
              refine lv_iconst (v := 0) hx hb d_G_ratio_59 (by decide) ?_
              have hF13 := va_free (wc := (wG a0 a1 a2 a3 a4 a5 c1 c2 c4 c5 made size tooG kept sizes rows taken)) hD hS hA [0, 1, 2, 3, 4, 5] rfl
              refine va_calli (va_runS (As := [.int p1, .int 0]) (rest := []) ⟨hx, hb, hml, hown, hB⟩ (c_G_rowOf l D a0 a1 a2 a3 a4 a5 c1 c2 c4 c5 H.size made size tooG kept sizes rows taken p1 0 _) (cwS 2 hB (goodS wd_144 wd_145 wd_1 wd_146) rfl rfl rfl (by decide +kernel) ⟨Nat.le_of_ble_eq_true rfl, Nat.le_of_ble_eq_true rfl⟩) ⟨pcX_blind, pcX_pre hP hK hD hS hX hF13 h⟩ rfl rfl hl.1 rfl (lv_room (Nat.le_of_ble_eq_true rfl)) d_G_ratio_60 ⟨Nat.le_of_ble_eq_true rfl, Nat.le_of_ble_eq_true rfl⟩) hS (fun q _ h => hF13 q h) hF13 (fun r14 u t H locs ht hvm h hB hz1 hk1 hS => ?_)
              obtain ⟨hP1, hK1, hD1⟩ := hB
              rw [ht] at hP1
              have hP : va_P D vwCl (wG a0 a1 a2 a3 a4 a5 c1 c2 c4 c5 made size tooG kept sizes rows taken) H := hP1
              have hD : va_D A (wG a0 a1 a2 a3 a4 a5 c1 c2 c4 c5 made size tooG kept sizes rows taken) := hD1.weaken (fun _ _ _ hq => hF13 _ hq)
              refine lv_istore (lv' := [(5, .int r14), (4, .int r12), (0, .ref a0), (1, .int p0), (2, .int p1), (3, .int p2)]) hx hb d_G_ratio_63 hl (by decide) rfl (fun ls hl => ?_)
              refine lv_aload_n hx hb d_G_ratio_65 rfl (lv_at hl 2 rfl) ?_
              refine va_get (D := D) (ci := 1) (v := .ref a1) (C := R_G) (T := F_G) (N := 4) hx hb hB inF_G hown hK hP 0 rfl rfl 0 (by decide) (hB _ wd_35) (fun _ h9 => h9) rfl d_G_ratio_66 ?_
              refine lv_iload hx hb d_G_ratio_69 (lv_at hl 1 rfl) ?_
              refine lv_iconst (v := 5) hx hb d_G_ratio_71 (by decide) ?_
              refine lv_iadd hx hb d_G_ratio_72 ?_
              obtain ⟨g15, h⟩ := h
              refine va_iald hx hb hK hP 1 0 rfl rfl g15 d_G_ratio_73 ?_
              refine lv_i2l hx hb d_G_ratio_74 rfl ?_
              refine lv_aload_n hx hb d_G_ratio_75 rfl (lv_at hl 2 rfl) ?_
              refine va_get (D := D) (ci := 1) (v := .ref a1) (C := R_G) (T := F_G) (N := 4) hx hb hB inF_G hown hK hP 0 rfl rfl 0 (by decide) (hB _ wd_35) (fun _ h9 => h9) rfl d_G_ratio_76 ?_
              refine lv_iload hx hb d_G_ratio_79 (lv_at hl 0 rfl) ?_
              refine lv_bipush (v := 6) hx hb d_G_ratio_81 (by decide) ?_
              refine lv_iadd hx hb d_G_ratio_83 ?_
              obtain ⟨g16, h⟩ := h
              refine va_iald hx hb hK hP 1 0 rfl rfl g16 d_G_ratio_84 ?_
              refine lv_i2l hx hb d_G_ratio_85 rfl ?_
              refine lv_lmul hx hb d_G_ratio_86 ?_
              refine lv_topl (fun x17 ex17 => ?_)
              replace h := h x17 ex17
              refine lv_lstore (lv' := [(6, .long x17), (5, .int r14), (4, .int r12), (0, .ref a0), (1, .int p0), (2, .int p1), (3, .int p2)]) hx hb d_G_ratio_87 hl (by decide) rfl (fun ls hl => ?_)
              refine lv_aload_n hx hb d_G_ratio_89 rfl (lv_at hl 3 rfl) ?_
              refine va_get (D := D) (ci := 1) (v := .ref a1) (C := R_G) (T := F_G) (N := 4) hx hb hB inF_G hown hK hP 0 rfl rfl 0 (by decide) (hB _ wd_35) (fun _ h9 => h9) rfl d_G_ratio_90 ?_
              refine lv_iload hx hb d_G_ratio_93 (lv_at hl 2 rfl) ?_
              refine lv_bipush (v := 6) hx hb d_G_ratio_95 (by decide) ?_
              refine lv_iadd hx hb d_G_ratio_97 ?_
              obtain ⟨g18, h⟩ := h
              refine va_iald hx hb hK hP 1 0 rfl rfl g18 d_G_ratio_98 ?_
              refine lv_i2l hx hb d_G_ratio_99 rfl ?_
              refine lv_aload_n hx hb d_G_ratio_100 rfl (lv_at hl 3 rfl) ?_
              refine va_get (D := D) (ci := 1) (v := .ref a1) (C := R_G) (T := F_G) (N := 4) hx hb hB inF_G hown hK hP 0 rfl rfl 0 (by decide) (hB _ wd_35) (fun _ h9 => h9) rfl d_G_ratio_101 ?_
              refine lv_iload hx hb d_G_ratio_104 (lv_at hl 1 rfl) ?_
              refine lv_iconst (v := 5) hx hb d_G_ratio_106 (by decide) ?_
              refine lv_iadd hx hb d_G_ratio_107 ?_
              obtain ⟨g19, h⟩ := h
              refine va_iald hx hb hK hP 1 0 rfl rfl g19 d_G_ratio_108 ?_
              refine lv_i2l hx hb d_G_ratio_109 rfl ?_
              refine lv_lmul hx hb d_G_ratio_110 ?_
              refine lv_topl (fun x20 ex20 => ?_)
              replace h := h x20 ex20
              refine lv_lstore (lv' := [(8, .long x20), (6, .long x17), (5, .int r14), (4, .int r12), (0, .ref a0), (1, .int p0), (2, .int p1), (3, .int p2)]) hx hb d_G_ratio_111 hl (by decide) rfl (fun ls hl => ?_)
              refine lv_lload hx hb d_G_ratio_113 (lv_at hl 1 rfl) ?_
              refine lv_lload hx hb d_G_ratio_115 (lv_at hl 0 rfl) ?_
              have hF21 := va_free (wc := (wG a0 a1 a2 a3 a4 a5 c1 c2 c4 c5 made size tooG kept sizes rows taken)) hD hS hA [0, 1, 2, 3, 4, 5] rfl
              refine va_calll (va_runS (As := [.long x17, .long x20]) (rest := []) ⟨hx, hb, hml, hown, hB⟩ (c_G_divisorOf l D a0 a1 a2 a3 a4 a5 c1 c2 c4 c5 H.size made size tooG kept sizes rows taken x17 x20 _) (cwS 2 hB (goodS wd_310 wd_113 wd_1 wd_114) rfl rfl rfl (by decide +kernel) ⟨Nat.le_of_ble_eq_true rfl, Nat.le_of_ble_eq_true rfl⟩) ⟨pcX_blind, pcX_pre hP hK hD hS hX hF21 h⟩ rfl rfl hl.1 rfl (lv_room (Nat.le_of_ble_eq_true rfl)) d_G_ratio_117 ⟨Nat.le_of_ble_eq_true rfl, Nat.le_of_ble_eq_true rfl⟩) hS (fun q _ h => hF21 q h) hF21 (fun r22 u t H locs ht hvm h hB hz1 hk1 hS => ?_)
              obtain ⟨hP1, hK1, hD1⟩ := hB
              rw [ht] at hP1
              have hP : va_P D vwCl (wG a0 a1 a2 a3 a4 a5 c1 c2 c4 c5 made size tooG kept sizes rows taken) H := hP1
              have hD : va_D A (wG a0 a1 a2 a3 a4 a5 c1 c2 c4 c5 made size tooG kept sizes rows taken) := hD1.weaken (fun _ _ _ hq => hF21 _ hq)
              refine lv_lstore (lv' := [(10, .long r22), (8, .long x20), (6, .long x17), (5, .int r14), (4, .int r12), (0, .ref a0), (1, .int p0), (2, .int p1), (3, .int p2)]) hx hb d_G_ratio_120 hl (by decide) rfl (fun ls hl => ?_)
              refine lv_iload_n hx hb d_G_ratio_122 rfl (lv_at hl 8 rfl) ?_
              refine lv_if_ne (tgt := 134) hx hb d_G_ratio_123 (by decide) (fun hc23 => ?_) (fun hc23 => ?_)
              · replace h := h.1 hc23
                refine lv_lload hx hb d_G_ratio_134 (lv_at hl 1 rfl) ?_
                refine lv_lload hx hb d_G_ratio_136 (lv_at hl 0 rfl) ?_
                obtain ⟨g24, h⟩ := h
                refine lv_ldiv hx hb d_G_ratio_138 g24 ?_
                exact vx_ret (W.lret (v := x20 / r22) hx hb hr (fun t ht hW => ⟨⟨x20 / r22, (), rfl, h, by rw [ht]; exact hP, va_K.moved hW.alike hK, hD⟩, hS.F ht⟩) hS.2.2 d_G_ratio_139)
              · replace h := h.2 hc23
                refine lv_lload hx hb d_G_ratio_126 (lv_at hl 2 rfl) ?_
                refine lv_lload hx hb d_G_ratio_128 (lv_at hl 0 rfl) ?_
                obtain ⟨g25, h⟩ := h
                refine lv_ldiv hx hb d_G_ratio_130 g25 ?_
                refine lv_goto (tgt := 139) hx hb d_G_ratio_131 (by decide) ?_
                exact vx_ret (W.lret (v := x17 / r22) hx hb hr (fun t ht hW => ⟨⟨x17 / r22, (), rfl, h, by rw [ht]; exact hP, va_K.moved hW.alike hK, hD⟩, hS.F ht⟩) hS.2.2 d_G_ratio_139)
          · replace h := h.2 hc9
            obtain ⟨sa, hstr⟩ := hX.2.2.2 (121, "their quotient comes near to no number but 0") (by decide +kernel); exact vx_throwS (names := ["java/lang/RuntimeException", "java/lang/Exception"]) hx hb hst hown (by decide) (by decide) (hB _ wd_91) (hB _ wd_8) hstr (vx_hat (fun w hw => hB w (atE_2 w hw)) ngE_2 (nwG_use hX.1)) (otE_2 _) hX.2.1 hX.2.2.1 hS (hl.1.trans hml.symm) d_G_ratio_37 d_G_ratio_40 d_G_ratio_41 d_G_ratio_43 d_G_ratio_46 (fun x hx => (hno x hx).elim) (Nat.le_of_ble_eq_true rfl) (Nat.le_of_ble_eq_true rfl) (Nat.le_of_ble_eq_true rfl) (Nat.le_of_ble_eq_true rfl) hlocks (fun t hvm hz hk => ⟨(), trivial, ⟨h, va_P_grown hP hk, va_K.moved hvm hK, hD⟩, va_F_grown hS hz hk⟩) hS.2.2 (Nat.le_of_ble_eq_true rfl) (Nat.le_of_ble_eq_true rfl)
set_option maxHeartbeats 4000000 in
set_option maxRecDepth 100000 in
theorem c_G_sign (l : Launch) (D : va_G) (a0 a1 a2 a3 a4 a5 : Nat) (c1 c2 c4 c5 : ClassId) (sz : Nat) (made : Int32) (size : Int32) (tooG : Int32) (kept : (Nat → Int32)) (sizes : (Nat → Int32)) (rows : (Nat → Int32)) (taken : (Nat → Int32)) (p0 : Int32) (post : Int32 → Prop) (postx : String → Prop) (hst : l.stackTraces = false) : vx_Met l y_G_sign (Cond.code y_G_sign b_G_sign 2 (some .int) :: BIG) ({ frames := 7, cells := 1, slots := 6, locals := 111 }) (va_Pc [.ref a0, .int p0] (pcX D vwCl (wG a0 a1 a2 a3 a4 a5 c1 c2 c4 c5 made size tooG kept sizes rows taken) [(c1, .int), (c2, .int), (c4, .int), (c5, .int)] sz (wp_G_sign made kept sizes p0 post postx))) (va_Qi (fun (r : Int32) (_ : Unit) => post r) (fun _ => atG D vwCl [(c1, .int), (c2, .int), (c4, .int), (c5, .int)] (va_A (wG a0 a1 a2 a3 a4 a5 c1 c2 c4 c5 made size tooG kept sizes rows taken) sz) (wG a0 a1 a2 a3 a4 a5 c1 c2 c4 c5 made size tooG kept sizes rows taken)) (va_A (wG a0 a1 a2 a3 a4 a5 c1 c2 c4 c5 made size tooG kept sizes rows taken) sz)) (vx_X (fun _ : Unit => True) (fun E u => atX D vwCl [(c1, .int), (c2, .int), (c4, .int), (c5, .int)] (va_A (wG a0 a1 a2 a3 a4 a5 c1 c2 c4 c5 made size tooG kept sizes rows taken) sz) (wG a0 a1 a2 a3 a4 a5 c1 c2 c4 c5 made size tooG kept sizes rows taken) (postx E)) (va_A (wG a0 a1 a2 a3 a4 a5 c1 c2 c4 c5 made size tooG kept sizes rows taken) sz)) 1 6 (va_A (wG a0 a1 a2 a3 a4 a5 c1 c2 c4 c5 made size tooG kept sizes rows taken) sz) := by
  refine vx_ofW (cc := b_G_sign) (maxL := 2) (ret := (some .int)) (by decide) rfl ?_
  intro p e s m args below meth c s₁ B hml hno hv
  obtain ⟨rfl, hsz, hP, hK, hD0, hX, h⟩ := hv
  have hx := B.exec
  have hb := B.bytes
  have hr := B.returns
  have hB : ∀ w ∈ BIG, w.before _ s = true := fun w h => atoms_spec (ws := (Cond.code y_G_sign b_G_sign 2 (some .int) :: BIG)) B.pre w (List.mem_cons_of_mem _ h)
  have hown : s.vm.findClass R_G = some m.cls := findClass_of_methodNamed B.named
  have hlocks := B.notSynchronized
  subst hsz
  have hD := hD0.self (sz := s.heap.size)
  generalize hAe : va_A (wG a0 a1 a2 a3 a4 a5 c1 c2 c4 c5 made size tooG kept sizes rows taken) s.heap.size = A at hD hX ⊢
  have hA : ∀ q : Nat, s.heap.size ≤ q → A q := fun q h => by rw [← hAe]; exact Or.inr h
  have hl := lv_entry ([.ref a0, .int p0]) (n := 2) (Nat.le_of_ble_eq_true rfl)
  rw [lg_entry_eq]
  generalize (lg_sl ([.ref a0, .int p0]) ++ List.replicate (2 - (lg_sl ([.ref a0, .int p0])).length) Slot.unset).toArray = ls at hl ⊢
  have hl : lv_has ls 2 [(0, .ref a0), (1, .int p0)] := hl
  refine W.cap (fun G Gi Ge => ?_)
  suffices hL : ∀ (H : Heap) (locs : List Loc), va_P D vwCl (wG a0 a1 a2 a3 a4 a5 c1 c2 c4 c5 made size tooG kept sizes rows taken) H → va_S A s.heap H locs → G H locs (F0 m 0 ls []) from hL _ _ hP va_S.rf
  clear hP
  intro H locs hP hS
  refine Gi _ _ _ ?_
  unfold wp_G_sign at h
  refine lv_aload_n hx hb d_G_sign_0 rfl (lv_at hl 0 rfl) ?_
  refine lv_iload_n hx hb d_G_sign_1 rfl (lv_at hl 1 rfl) ?_
  have hF1 := va_free (wc := (wG a0 a1 a2 a3 a4 a5 c1 c2 c4 c5 made size tooG kept sizes rows taken)) hD hS hA [0, 1, 2, 3, 4, 5] rfl
  refine vx_callv (vx_runV (As := [.int p0]) (rest := []) ⟨hx, hb, hml, hown, hB⟩ (c_G_requireFunction l D a0 a1 a2 a3 a4 a5 c1 c2 c4 c5 H.size made size tooG kept sizes rows taken p0 _ _ hst) (cwV 1 hB (goodV wd_178 wd_179 wd_497 wd_1 wd_180) rfl rfl rfl (by decide +kernel) ⟨Nat.le_of_ble_eq_true rfl, Nat.le_of_ble_eq_true rfl⟩) ⟨pcX_blind, va_recv hK hP (ci := 1) (q0 := 0) rfl rfl, pcX_pre hP hK hD hS hX hF1 h⟩ rfl rfl hl.1 rfl (lv_room (Nat.le_of_ble_eq_true rfl)) d_G_sign_2 ⟨Nat.le_of_ble_eq_true rfl, Nat.le_of_ble_eq_true rfl⟩) hS (fun q _ h => hF1 q h) hF1 (fun q _ h => hF1 q h) (fun E ce q9 u t H locs ht hvm _ hB hz1 hk1 hS hce hcv hcl => ?_) (fun u t H locs ht hvm h hB hz1 hk1 hS => ?_)
  · -- thrown
    obtain ⟨h1, hP1, hK1, hD1⟩ := hB
    replace h := h1
    rw [ht] at hP1
    have hP : va_P D vwCl (wG a0 a1 a2 a3 a4 a5 c1 c2 c4 c5 made size tooG kept sizes rows taken) H := hP1
    have hD : va_D A (wG a0 a1 a2 a3 a4 a5 c1 c2 c4 c5 made size tooG kept sizes rows taken) := hD1.weaken (fun _ _ _ hq => hF1 _ hq)
    exact vx_out (fun x hx => (hno x hx).elim) hlocks hce hcv hcl (fun t9 ht9 hW9 => ⟨(), trivial, ⟨h, by rw [ht9]; exact hP, va_K.moved hW9 hK, hD⟩, hS.F ht9⟩) hS.2.2 (by omega) (by omega)
  ·
    obtain ⟨hP1, hK1, hD1⟩ := hB
    rw [ht] at hP1
    have hP : va_P D vwCl (wG a0 a1 a2 a3 a4 a5 c1 c2 c4 c5 made size tooG kept sizes rows taken) H := hP1
    have hD : va_D A (wG a0 a1 a2 a3 a4 a5 c1 c2 c4 c5 made size tooG kept sizes rows taken) := hD1.weaken (fun _ _ _ hq => hF1 _ hq)
    refine W.widen (k := 1) (n := 6) (by omega) (by omega) ?_
    refine lv_aload_n hx hb d_G_sign_5 rfl (lv_at hl 0 rfl) ?_
    refine va_get (D := D) (ci := 1) (v := .ref a2) (C := R_G) (T := F_G) (N := 4) hx hb hB inF_G hown hK hP 0 rfl rfl 1 (by decide) (hB _ wd_36) (fun _ h9 => h9) rfl d_G_sign_6 ?_
    refine lv_iload_n hx hb d_G_sign_9 rfl (lv_at hl 1 rfl) ?_
    obtain ⟨g2, h⟩ := h
    refine va_iald hx hb hK hP 2 1 rfl rfl g2 d_G_sign_10 ?_
    refine lv_if_ne (tgt := 18) hx hb d_G_sign_11 (by decide) (fun hc3 => ?_) (fun hc3 => ?_)
    · replace h := h.1 hc3
      refine lv_aload_n hx hb d_G_sign_18 rfl (lv_at hl 0 rfl) ?_
      refine lv_iload_n hx hb d_G_sign_19 rfl (lv_at hl 1 rfl) ?_
      refine lv_iconst (v := 0) hx hb d_G_sign_20 (by decide) ?_
      have hF4 := va_free (wc := (wG a0 a1 a2 a3 a4 a5 c1 c2 c4 c5 made size tooG kept sizes rows taken)) hD hS hA [0, 1, 2, 3, 4, 5] rfl
      refine va_calli (va_runS (As := [.int p0, .int 0]) (rest := [.ref a0]) ⟨hx, hb, hml, hown, hB⟩ (c_G_rowOf l D a0 a1 a2 a3 a4 a5 c1 c2 c4 c5 H.size made size tooG kept sizes rows taken p0 0 _) (cwS 2 hB (goodS wd_144 wd_145 wd_1 wd_146) rfl rfl rfl (by decide +kernel) ⟨Nat.le_of_ble_eq_true rfl, Nat.le_of_ble_eq_true rfl⟩) ⟨pcX_blind, pcX_pre hP hK hD hS hX hF4 h⟩ rfl rfl hl.1 rfl (lv_room (Nat.le_of_ble_eq_true rfl)) d_G_sign_21 ⟨Nat.le_of_ble_eq_true rfl, Nat.le_of_ble_eq_true rfl⟩) hS (fun q _ h => hF4 q h) hF4 (fun r5 u t H locs ht hvm h hB hz1 hk1 hS => ?_)
      obtain ⟨hP1, hK1, hD1⟩ := hB
      rw [ht] at hP1
      have hP : va_P D vwCl (wG a0 a1 a2 a3 a4 a5 c1 c2 c4 c5 made size tooG kept sizes rows taken) H := hP1
      have hD : va_D A (wG a0 a1 a2 a3 a4 a5 c1 c2 c4 c5 made size tooG kept sizes rows taken) := hD1.weaken (fun _ _ _ hq => hF4 _ hq)
      have hF6 := va_free (wc := (wG a0 a1 a2 a3 a4 a5 c1 c2 c4 c5 made size tooG kept sizes rows taken)) hD hS hA [0, 1, 2, 3, 4, 5] rfl
      refine va_calli (va_runV (As := [.int r5]) (rest := []) ⟨hx, hb, hml, hown, hB⟩ (c_G_signOf l D a0 a1 a2 a3 a4 a5 c1 c2 c4 c5 H.size made size tooG kept sizes rows taken r5 _) (cwV 1 hB (goodV wd_279 wd_280 wd_505 wd_1 wd_281) rfl rfl rfl (by decide +kernel) ⟨Nat.le_of_ble_eq_true rfl, Nat.le_of_ble_eq_true rfl⟩) ⟨pcX_blind, va_recv hK hP (ci := 1) (q0 := 0) rfl rfl, pcX_pre hP hK hD hS hX hF6 h⟩ rfl rfl hl.1 rfl (lv_room (Nat.le_of_ble_eq_true rfl)) d_G_sign_24 ⟨Nat.le_of_ble_eq_true rfl, Nat.le_of_ble_eq_true rfl⟩) hS (fun q _ h => hF6 q h) hF6 (fun r7 u t H locs ht hvm h hB hz1 hk1 hS => ?_)
      obtain ⟨hP1, hK1, hD1⟩ := hB
      rw [ht] at hP1
      have hP : va_P D vwCl (wG a0 a1 a2 a3 a4 a5 c1 c2 c4 c5 made size tooG kept sizes rows taken) H := hP1
      have hD : va_D A (wG a0 a1 a2 a3 a4 a5 c1 c2 c4 c5 made size tooG kept sizes rows taken) := hD1.weaken (fun _ _ _ hq => hF6 _ hq)
      exact vx_ret (W.iret (v := r7) hx hb hr (fun t ht hW => ⟨⟨r7, (), rfl, h, by rw [ht]; exact hP, va_K.moved hW.alike hK, hD⟩, hS.F ht⟩) hS.2.2 d_G_sign_27)
    · replace h := h.2 hc3
      refine lv_iconst (v := 0) hx hb d_G_sign_14 (by decide) ?_
      refine lv_goto (tgt := 27) hx hb d_G_sign_15 (by decide) ?_
      exact vx_ret (W.iret (v := 0) hx hb hr (fun t ht hW => ⟨⟨0, (), rfl, h, by rw [ht]; exact hP, va_K.moved hW.alike hK, hD⟩, hS.F ht⟩) hS.2.2 d_G_sign_27)
set_option maxHeartbeats 4000000 in
set_option maxRecDepth 100000 in
theorem c_G_same (l : Launch) (D : va_G) (a0 a1 a2 a3 a4 a5 : Nat) (c1 c2 c4 c5 : ClassId) (sz : Nat) (made : Int32) (size : Int32) (tooG : Int32) (kept : (Nat → Int32)) (sizes : (Nat → Int32)) (rows : (Nat → Int32)) (taken : (Nat → Int32)) (p0 : Int32) (p1 : Int32) (post : Int32 → Prop) (postx : String → Prop) (hst : l.stackTraces = false) : vx_Met l y_G_same (Cond.code y_G_same b_G_same 6 (some .boolean) :: BIG) ({ frames := 7, cells := 2, slots := 12, locals := 111 }) (va_Pc [.ref a0, .int p0, .int p1] (pcX D vwCl (wG a0 a1 a2 a3 a4 a5 c1 c2 c4 c5 made size tooG kept sizes rows taken) [(c1, .int), (c2, .int), (c4, .int), (c5, .int)] sz (wp_G_same made kept sizes p0 p1 post postx))) (va_Qi (fun (r : Int32) (_ : Unit) => post r) (fun _ => atG D vwCl [(c1, .int), (c2, .int), (c4, .int), (c5, .int)] (va_A (wG a0 a1 a2 a3 a4 a5 c1 c2 c4 c5 made size tooG kept sizes rows taken) sz) (wG a0 a1 a2 a3 a4 a5 c1 c2 c4 c5 made size tooG kept sizes rows taken)) (va_A (wG a0 a1 a2 a3 a4 a5 c1 c2 c4 c5 made size tooG kept sizes rows taken) sz)) (vx_X (fun _ : Unit => True) (fun E u => atX D vwCl [(c1, .int), (c2, .int), (c4, .int), (c5, .int)] (va_A (wG a0 a1 a2 a3 a4 a5 c1 c2 c4 c5 made size tooG kept sizes rows taken) sz) (wG a0 a1 a2 a3 a4 a5 c1 c2 c4 c5 made size tooG kept sizes rows taken) (postx E)) (va_A (wG a0 a1 a2 a3 a4 a5 c1 c2 c4 c5 made size tooG kept sizes rows taken) sz)) 2 12 (va_A (wG a0 a1 a2 a3 a4 a5 c1 c2 c4 c5 made size tooG kept sizes rows taken) sz) := by
  refine vx_ofW (cc := b_G_same) (maxL := 6) (ret := (some .boolean)) (by decide) rfl ?_
  intro p e s m args below meth c s₁ B hml hno hv
  obtain ⟨rfl, hsz, hP, hK, hD0, hX, h⟩ := hv
  have hx := B.exec
  have hb := B.bytes
  have hr := B.returns
  have hB : ∀ w ∈ BIG, w.before _ s = true := fun w h => atoms_spec (ws := (Cond.code y_G_same b_G_same 6 (some .boolean) :: BIG)) B.pre w (List.mem_cons_of_mem _ h)
  have hown : s.vm.findClass R_G = some m.cls := findClass_of_methodNamed B.named
  have hlocks := B.notSynchronized
  subst hsz
  have hD := hD0.self (sz := s.heap.size)
  generalize hAe : va_A (wG a0 a1 a2 a3 a4 a5 c1 c2 c4 c5 made size tooG kept sizes rows taken) s.heap.size = A at hD hX ⊢
  have hA : ∀ q : Nat, s.heap.size ≤ q → A q := fun q h => by rw [← hAe]; exact Or.inr h
  have hl := lv_entry ([.ref a0, .int p0, .int p1]) (n := 6) (Nat.le_of_ble_eq_true rfl)
  rw [lg_entry_eq]
  generalize (lg_sl ([.ref a0, .int p0, .int p1]) ++ List.replicate (6 - (lg_sl ([.ref a0, .int p0, .int p1])).length) Slot.unset).toArray = ls at hl ⊢
  have hl : lv_has ls 6 [(0, .ref a0), (1, .int p0), (2, .int p1)] := hl
  refine W.cap (fun G Gi Ge => ?_)
  suffices hL : ∀ (H : Heap) (locs : List Loc), va_P D vwCl (wG a0 a1 a2 a3 a4 a5 c1 c2 c4 c5 made size tooG kept sizes rows taken) H → va_S A s.heap H locs → G H locs (F0 m 0 ls []) from hL _ _ hP va_S.rf
  clear hP
  intro H locs hP hS
  refine Gi _ _ _ ?_
  unfold wp_G_same at h
  refine lv_aload_n hx hb d_G_same_0 rfl (lv_at hl 0 rfl) ?_
  refine lv_iload_n hx hb d_G_same_1 rfl (lv_at hl 1 rfl) ?_
  have hF1 := va_free (wc := (wG a0 a1 a2 a3 a4 a5 c1 c2 c4 c5 made size tooG kept sizes rows taken)) hD hS hA [0, 1, 2, 3, 4, 5] rfl
  refine vx_callv (vx_runV (As := [.int p0]) (rest := []) ⟨hx, hb, hml, hown, hB⟩ (c_G_requireFunction l D a0 a1 a2 a3 a4 a5 c1 c2 c4 c5 H.size made size tooG kept sizes rows taken p0 _ _ hst) (cwV 1 hB (goodV wd_178 wd_179 wd_497 wd_1 wd_180) rfl rfl rfl (by decide +kernel) ⟨Nat.le_of_ble_eq_true rfl, Nat.le_of_ble_eq_true rfl⟩) ⟨pcX_blind, va_recv hK hP (ci := 1) (q0 := 0) rfl rfl, pcX_pre hP hK hD hS hX hF1 h⟩ rfl rfl hl.1 rfl (lv_room (Nat.le_of_ble_eq_true rfl)) d_G_same_2 ⟨Nat.le_of_ble_eq_true rfl, Nat.le_of_ble_eq_true rfl⟩) hS (fun q _ h => hF1 q h) hF1 (fun q _ h => hF1 q h) (fun E ce q9 u t H locs ht hvm _ hB hz1 hk1 hS hce hcv hcl => ?_) (fun u t H locs ht hvm h hB hz1 hk1 hS => ?_)
  · -- thrown
    obtain ⟨h1, hP1, hK1, hD1⟩ := hB
    replace h := h1
    rw [ht] at hP1
    have hP : va_P D vwCl (wG a0 a1 a2 a3 a4 a5 c1 c2 c4 c5 made size tooG kept sizes rows taken) H := hP1
    have hD : va_D A (wG a0 a1 a2 a3 a4 a5 c1 c2 c4 c5 made size tooG kept sizes rows taken) := hD1.weaken (fun _ _ _ hq => hF1 _ hq)
    exact vx_out (fun x hx => (hno x hx).elim) hlocks hce hcv hcl (fun t9 ht9 hW9 => ⟨(), trivial, ⟨h, by rw [ht9]; exact hP, va_K.moved hW9 hK, hD⟩, hS.F ht9⟩) hS.2.2 (by omega) (by omega)
  ·
    obtain ⟨hP1, hK1, hD1⟩ := hB
    rw [ht] at hP1
    have hP : va_P D vwCl (wG a0 a1 a2 a3 a4 a5 c1 c2 c4 c5 made size tooG kept sizes rows taken) H := hP1
    have hD : va_D A (wG a0 a1 a2 a3 a4 a5 c1 c2 c4 c5 made size tooG kept sizes rows taken) := hD1.weaken (fun _ _ _ hq => hF1 _ hq)
    refine W.widen (k := 1) (n := 6) (by omega) (by omega) ?_
    refine lv_aload_n hx hb d_G_same_5 rfl (lv_at hl 0 rfl) ?_
    refine lv_iload_n hx hb d_G_same_6 rfl (lv_at hl 2 rfl) ?_
    have hF2 := va_free (wc := (wG a0 a1 a2 a3 a4 a5 c1 c2 c4 c5 made size tooG kept sizes rows taken)) hD hS hA [0, 1, 2, 3, 4, 5] rfl
    refine vx_callv (vx_runV (As := [.int p1]) (rest := []) ⟨hx, hb, hml, hown, hB⟩ (c_G_requireFunction l D a0 a1 a2 a3 a4 a5 c1 c2 c4 c5 H.size made size tooG kept sizes rows taken p1 _ _ hst) (cwV 1 hB (goodV wd_178 wd_179 wd_497 wd_1 wd_180) rfl rfl rfl (by decide +kernel) ⟨Nat.le_of_ble_eq_true rfl, Nat.le_of_ble_eq_true rfl⟩) ⟨pcX_blind, va_recv hK hP (ci := 1) (q0 := 0) rfl rfl, pcX_pre hP hK hD hS hX hF2 h⟩ rfl rfl hl.1 rfl (lv_room (Nat.le_of_ble_eq_true rfl)) d_G_same_7 ⟨Nat.le_of_ble_eq_true rfl, Nat.le_of_ble_eq_true rfl⟩) hS (fun q _ h => hF2 q h) hF2 (fun q _ h => hF2 q h) (fun E ce q9 u t H locs ht hvm _ hB hz1 hk1 hS hce hcv hcl => ?_) (fun u t H locs ht hvm h hB hz1 hk1 hS => ?_)
    · -- thrown
      obtain ⟨h1, hP1, hK1, hD1⟩ := hB
      replace h := h1
      rw [ht] at hP1
      have hP : va_P D vwCl (wG a0 a1 a2 a3 a4 a5 c1 c2 c4 c5 made size tooG kept sizes rows taken) H := hP1
      have hD : va_D A (wG a0 a1 a2 a3 a4 a5 c1 c2 c4 c5 made size tooG kept sizes rows taken) := hD1.weaken (fun _ _ _ hq => hF2 _ hq)
      exact vx_out (fun x hx => (hno x hx).elim) hlocks hce hcv hcl (fun t9 ht9 hW9 => ⟨(), trivial, ⟨h, by rw [ht9]; exact hP, va_K.moved hW9 hK, hD⟩, hS.F ht9⟩) hS.2.2 (by omega) (by omega)
    ·
      obtain ⟨hP1, hK1, hD1⟩ := hB
      rw [ht] at hP1
      have hP : va_P D vwCl (wG a0 a1 a2 a3 a4 a5 c1 c2 c4 c5 made size tooG kept sizes rows taken) H := hP1
      have hD : va_D A (wG a0 a1 a2 a3 a4 a5 c1 c2 c4 c5 made size tooG kept sizes rows taken) := hD1.weaken (fun _ _ _ hq => hF2 _ hq)
      refine W.widen (k := 2) (n := 12) (by omega) (by omega) ?_
      refine lv_aload_n hx hb d_G_same_10 rfl (lv_at hl 0 rfl) ?_
      refine va_get (D := D) (ci := 1) (v := .ref a2) (C := R_G) (T := F_G) (N := 4) hx hb hB inF_G hown hK hP 0 rfl rfl 1 (by decide) (hB _ wd_36) (fun _ h9 => h9) rfl d_G_same_11 ?_
      refine lv_iload_n hx hb d_G_same_14 rfl (lv_at hl 1 rfl) ?_
      obtain ⟨g3, h⟩ := h
      refine va_iald hx hb hK hP 2 1 rfl rfl g3 d_G_same_15 ?_
      refine lv_aload_n hx hb d_G_same_16 rfl (lv_at hl 0 rfl) ?_
      refine va_get (D := D) (ci := 1) (v := .ref a2) (C := R_G) (T := F_G) (N := 4) hx hb hB inF_G hown hK hP 0 rfl rfl 1 (by decide) (hB _ wd_36) (fun _ h9 => h9) rfl d_G_same_17 ?_
      refine lv_iload_n hx hb d_G_same_20 rfl (lv_at hl 2 rfl) ?_
      obtain ⟨g4, h⟩ := h
      refine va_iald hx hb hK hP 2 1 rfl rfl g4 d_G_same_21 ?_
      refine lv_icmp_eq (tgt := 27) hx hb d_G_same_22 (by decide) (fun hc5 => ?_) (fun hc5 => ?_)
      · replace h := h.1 hc5
        refine lv_iload_n hx hb d_G_same_27 rfl (lv_at hl 1 rfl) ?_
        refine lv_iconst (v := 0) hx hb d_G_same_28 (by decide) ?_
        have hF6 := va_free (wc := (wG a0 a1 a2 a3 a4 a5 c1 c2 c4 c5 made size tooG kept sizes rows taken)) hD hS hA [0, 1, 2, 3, 4, 5] rfl
        refine va_calli (va_runS (As := [.int p0, .int 0]) (rest := []) ⟨hx, hb, hml, hown, hB⟩ (c_G_rowOf l D a0 a1 a2 a3 a4 a5 c1 c2 c4 c5 H.size made size tooG kept sizes rows taken p0 0 _) (cwS 2 hB (goodS wd_144 wd_145 wd_1 wd_146) rfl rfl rfl (by decide +kernel) ⟨Nat.le_of_ble_eq_true rfl, Nat.le_of_ble_eq_true rfl⟩) ⟨pcX_blind, pcX_pre hP hK hD hS hX hF6 h⟩ rfl rfl hl.1 rfl (lv_room (Nat.le_of_ble_eq_true rfl)) d_G_same_29 ⟨Nat.le_of_ble_eq_true rfl, Nat.le_of_ble_eq_true rfl⟩) hS (fun q _ h => hF6 q h) hF6 (fun r7 u t H locs ht hvm h hB hz1 hk1 hS => ?_)
        obtain ⟨hP1, hK1, hD1⟩ := hB
        rw [ht] at hP1
        have hP : va_P D vwCl (wG a0 a1 a2 a3 a4 a5 c1 c2 c4 c5 made size tooG kept sizes rows taken) H := hP1
        have hD : va_D A (wG a0 a1 a2 a3 a4 a5 c1 c2 c4 c5 made size tooG kept sizes rows taken) := hD1.weaken (fun _ _ _ hq => hF6 _ hq)
        refine lv_istore_n (lv' := [(3, .int r7), (0, .ref a0), (1, .int p0), (2, .int p1)]) hx hb d_G_same_32 rfl hl (by decide) rfl (fun ls hl => ?_)
        refine lv_iload_n hx hb d_G_same_33 rfl (lv_at hl 3 rfl) ?_
        refine lv_iconst (v := 0) hx hb d_G_same_34 (by decide) ?_
        have hF8 := va_free (wc := (wG a0 a1 a2 a3 a4 a5 c1 c2 c4 c5 made size tooG kept sizes rows taken)) hD hS hA [0, 1, 2, 3, 4, 5] rfl
        refine va_calli (va_runS (As := [.int p1, .int 0]) (rest := []) ⟨hx, hb, hml, hown, hB⟩ (c_G_rowOf l D a0 a1 a2 a3 a4 a5 c1 c2 c4 c5 H.size made size tooG kept sizes rows taken p1 0 _) (cwS 2 hB (goodS wd_144 wd_145 wd_1 wd_146) rfl rfl rfl (by decide +kernel) ⟨Nat.le_of_ble_eq_true rfl, Nat.le_of_ble_eq_true rfl⟩) ⟨pcX_blind, pcX_pre hP hK hD hS hX hF8 h⟩ rfl rfl hl.1 rfl (lv_room (Nat.le_of_ble_eq_true rfl)) d_G_same_35 ⟨Nat.le_of_ble_eq_true rfl, Nat.le_of_ble_eq_true rfl⟩) hS (fun q _ h => hF8 q h) hF8 (fun r9 u t H locs ht hvm h hB hz1 hk1 hS => ?_)
        obtain ⟨hP1, hK1, hD1⟩ := hB
        rw [ht] at hP1
        have hP : va_P D vwCl (wG a0 a1 a2 a3 a4 a5 c1 c2 c4 c5 made size tooG kept sizes rows taken) H := hP1
        have hD : va_D A (wG a0 a1 a2 a3 a4 a5 c1 c2 c4 c5 made size tooG kept sizes rows taken) := hD1.weaken (fun _ _ _ hq => hF8 _ hq)
        refine lv_istore (lv' := [(4, .int r9), (3, .int r7), (0, .ref a0), (1, .int p0), (2, .int p1)]) hx hb d_G_same_38 hl (by decide) rfl (fun ls hl => ?_)
        refine lv_iconst (v := 0) hx hb d_G_same_40 (by decide) ?_
        refine lv_istore (lv' := [(5, .int 0), (4, .int r9), (3, .int r7), (0, .ref a0), (1, .int p0), (2, .int p1)]) hx hb d_G_same_41 hl (by decide) rfl (fun ls hl => ?_)
        obtain ⟨n43, h⟩ := h
        refine W.cap (fun G43 Gi43 Ge43 => ?_)
        suffices hL43 : ∀ (n43 : Nat) (v5_10 : Int32) (H : Heap) (locs : List Loc) (ls : Array Slot), va_P D vwCl (wG a0 a1 a2 a3 a4 a5 c1 c2 c4 c5 made size tooG kept sizes rows taken) H → va_D A (wG a0 a1 a2 a3 a4 a5 c1 c2 c4 c5 made size tooG kept sizes rows taken) → va_S A s.heap H locs → lv_has ls 6 [(5, .int v5_10), (4, .int r9), (3, .int r7), (0, .ref a0), (1, .int p0), (2, .int p1)] → lpW1 (wb_G_same_43 p0 sizes post r7 r9 kept) n43 v5_10 → G43 H locs (F0 m 43 ls []) from hL43 n43 (0 : Int32) _ _ _ hP hD hS hl h
        clear h hP hD hS hl
        intro n43
        induction n43 with
        | zero => intro v5_10 H locs ls hP hD hS hl h; exact (show False from h).elim
        | succ n43 ihL43 =>
          intro v5_10 H locs ls hP hD hS hl h
          replace h : (wb_G_same_43 p0 sizes post r7 r9 kept) (lpW1 (wb_G_same_43 p0 sizes post r7 r9 kept) n43) v5_10 := h
          refine Gi43 _ _ _ ?_
          refine lv_iload hx hb d_G_same_43 (lv_at hl 0 rfl) ?_
          refine lv_aload_n hx hb d_G_same_45 rfl (lv_at hl 3 rfl) ?_
          refine va_get (D := D) (ci := 1) (v := .ref a2) (C := R_G) (T := F_G) (N := 4) hx hb hB inF_G hown hK hP 0 rfl rfl 1 (by decide) (hB _ wd_36) (fun _ h9 => h9) rfl d_G_same_46 ?_
          refine lv_iload_n hx hb d_G_same_49 rfl (lv_at hl 4 rfl) ?_
          obtain ⟨g11, h⟩ := h
          refine va_iald hx hb hK hP 2 1 rfl rfl g11 d_G_same_50 ?_
          refine lv_bipush (v := 7) hx hb d_G_same_51 (by decide) ?_
          refine lv_imul hx hb d_G_same_53 ?_
          refine lv_icmp_ge (tgt := 87) hx hb d_G_same_54 (by decide) (fun hc12 => ?_) (fun hc12 => ?_)
          · replace h := h.1 hc12
            refine lv_iconst (v := 1) hx hb d_G_same_87 (by decide) ?_
            exact vx_ret (W.zret (v := 1) hx hb hr (by first | rfl | decide) (fun t ht hW => ⟨⟨1, (), rfl, h, by rw [ht]; exact hP, va_K.moved hW.alike hK, hD⟩, hS.F ht⟩) hS.2.2 d_G_same_88)
          · replace h := h.2 hc12
            refine lv_aload_n hx hb d_G_same_57 rfl (lv_at hl 3 rfl) ?_
            refine va_get (D := D) (ci := 1) (v := .ref a1) (C := R_G) (T := F_G) (N := 4) hx hb hB inF_G hown hK hP 0 rfl rfl 0 (by decide) (hB _ wd_35) (fun _ h9 => h9) rfl d_G_same_58 ?_
            refine lv_iload_n hx hb d_G_same_61 rfl (lv_at hl 2 rfl) ?_
            refine lv_iload hx hb d_G_same_62 (lv_at hl 0 rfl) ?_
            refine lv_iadd hx hb d_G_same_64 ?_
            obtain ⟨g13, h⟩ := h
            refine va_iald hx hb hK hP 1 0 rfl rfl g13 d_G_same_65 ?_
            refine lv_aload_n hx hb d_G_same_66 rfl (lv_at hl 3 rfl) ?_
            refine va_get (D := D) (ci := 1) (v := .ref a1) (C := R_G) (T := F_G) (N := 4) hx hb hB inF_G hown hK hP 0 rfl rfl 0 (by decide) (hB _ wd_35) (fun _ h9 => h9) rfl d_G_same_67 ?_
            refine lv_iload hx hb d_G_same_70 (lv_at hl 1 rfl) ?_
            refine lv_iload hx hb d_G_same_72 (lv_at hl 0 rfl) ?_
            refine lv_iadd hx hb d_G_same_74 ?_
            obtain ⟨g14, h⟩ := h
            refine va_iald hx hb hK hP 1 0 rfl rfl g14 d_G_same_75 ?_
            refine lv_icmp_eq (tgt := 81) hx hb d_G_same_76 (by decide) (fun hc15 => ?_) (fun hc15 => ?_)
            · replace h := h.1 hc15
              obtain ⟨x16, ex16⟩ : ∃ z : Int32, z = v5_10 + 1 := ⟨_, rfl⟩
              replace h := h x16 ex16
              refine lv_iinc (v := x16) (lv' := [(5, .int x16), (4, .int r9), (3, .int r7), (0, .ref a0), (1, .int p0), (2, .int p1)]) hx hb d_G_same_81 hl (k := 0) rfl (by rw [ex16]; rfl) (by decide) rfl (fun ls hl => ?_)
              refine lv_goto (tgt := 43) hx hb d_G_same_84 (by decide) ?_
              exact Ge43 _ _ _ (ihL43 x16 _ _ _ hP hD hS (lv_sub hl [0, 1, 2, 3, 4, 5] rfl) h)
            · replace h := h.2 hc15
              refine lv_iconst (v := 0) hx hb d_G_same_79 (by decide) ?_
              exact vx_ret (W.zret (v := 0) hx hb hr (by first | rfl | decide) (fun t ht hW => ⟨⟨0, (), rfl, h, by rw [ht]; exact hP, va_K.moved hW.alike hK, hD⟩, hS.F ht⟩) hS.2.2 d_G_same_80)
      · replace h := h.2 hc5
        refine lv_iconst (v := 0) hx hb d_G_same_25 (by decide) ?_
        exact vx_ret (W.zret (v := 0) hx hb hr (by first | rfl | decide) (fun t ht hW => ⟨⟨0, (), rfl, h, by rw [ht]; exact hP, va_K.moved hW.alike hK, hD⟩, hS.F ht⟩) hS.2.2 d_G_same_26)
set_option maxHeartbeats 4000000 in
set_option maxRecDepth 100000 in
theorem c_G_fastest (l : Launch) (D : va_G) (a0 a1 a2 a3 a4 a5 : Nat) (c1 c2 c4 c5 : ClassId) (sz : Nat) (made : Int32) (size : Int32) (tooG : Int32) (kept : (Nat → Int32)) (sizes : (Nat → Int32)) (rows : (Nat → Int32)) (taken : (Nat → Int32)) (p0 : Int32) (post : Int32 → Prop) (postx : String → Prop) (hst : l.stackTraces = false) : vx_Met l y_G_fastest (Cond.code y_G_fastest b_G_fastest 4 (some .int) :: BIG) ({ frames := 6, cells := 1, slots := 6, locals := 90 }) (va_Pc [.ref a0, .int p0] (pcX D vwCl (wG a0 a1 a2 a3 a4 a5 c1 c2 c4 c5 made size tooG kept sizes rows taken) [(c1, .int), (c2, .int), (c4, .int), (c5, .int)] sz (wp_G_fastest made kept sizes p0 post postx))) (va_Qi (fun (r : Int32) (_ : Unit) => post r) (fun _ => atG D vwCl [(c1, .int), (c2, .int), (c4, .int), (c5, .int)] (va_A (wG a0 a1 a2 a3 a4 a5 c1 c2 c4 c5 made size tooG kept sizes rows taken) sz) (wG a0 a1 a2 a3 a4 a5 c1 c2 c4 c5 made size tooG kept sizes rows taken)) (va_A (wG a0 a1 a2 a3 a4 a5 c1 c2 c4 c5 made size tooG kept sizes rows taken) sz)) (vx_X (fun _ : Unit => True) (fun E u => atX D vwCl [(c1, .int), (c2, .int), (c4, .int), (c5, .int)] (va_A (wG a0 a1 a2 a3 a4 a5 c1 c2 c4 c5 made size tooG kept sizes rows taken) sz) (wG a0 a1 a2 a3 a4 a5 c1 c2 c4 c5 made size tooG kept sizes rows taken) (postx E)) (va_A (wG a0 a1 a2 a3 a4 a5 c1 c2 c4 c5 made size tooG kept sizes rows taken) sz)) 1 6 (va_A (wG a0 a1 a2 a3 a4 a5 c1 c2 c4 c5 made size tooG kept sizes rows taken) sz) := by
  refine vx_ofW (cc := b_G_fastest) (maxL := 4) (ret := (some .int)) (by decide) rfl ?_
  intro p e s m args below meth c s₁ B hml hno hv
  obtain ⟨rfl, hsz, hP, hK, hD0, hX, h⟩ := hv
  have hx := B.exec
  have hb := B.bytes
  have hr := B.returns
  have hB : ∀ w ∈ BIG, w.before _ s = true := fun w h => atoms_spec (ws := (Cond.code y_G_fastest b_G_fastest 4 (some .int) :: BIG)) B.pre w (List.mem_cons_of_mem _ h)
  have hown : s.vm.findClass R_G = some m.cls := findClass_of_methodNamed B.named
  have hlocks := B.notSynchronized
  subst hsz
  have hD := hD0.self (sz := s.heap.size)
  generalize hAe : va_A (wG a0 a1 a2 a3 a4 a5 c1 c2 c4 c5 made size tooG kept sizes rows taken) s.heap.size = A at hD hX ⊢
  have hA : ∀ q : Nat, s.heap.size ≤ q → A q := fun q h => by rw [← hAe]; exact Or.inr h
  have hl := lv_entry ([.ref a0, .int p0]) (n := 4) (Nat.le_of_ble_eq_true rfl)
  rw [lg_entry_eq]
  generalize (lg_sl ([.ref a0, .int p0]) ++ List.replicate (4 - (lg_sl ([.ref a0, .int p0])).length) Slot.unset).toArray = ls at hl ⊢
  have hl : lv_has ls 4 [(0, .ref a0), (1, .int p0)] := hl
  refine W.cap (fun G Gi Ge => ?_)
  suffices hL : ∀ (H : Heap) (locs : List Loc), va_P D vwCl (wG a0 a1 a2 a3 a4 a5 c1 c2 c4 c5 made size tooG kept sizes rows taken) H → va_S A s.heap H locs → G H locs (F0 m 0 ls []) from hL _ _ hP va_S.rf
  clear hP
  intro H locs hP hS
  refine Gi _ _ _ ?_
  unfold wp_G_fastest at h
  refine lv_iconst (v := (-1)) hx hb d_G_fastest_0 (by decide) ?_
  refine lv_istore_n (lv' := [(2, .int (-1)), (0, .ref a0), (1, .int p0)]) hx hb d_G_fastest_1 rfl hl (by decide) rfl (fun ls hl => ?_)
  refine lv_iconst (v := 0) hx hb d_G_fastest_2 (by decide) ?_
  refine lv_istore_n (lv' := [(3, .int 0), (2, .int (-1)), (0, .ref a0), (1, .int p0)]) hx hb d_G_fastest_3 rfl hl (by decide) rfl (fun ls hl => ?_)
  obtain ⟨n4, h⟩ := h
  refine W.cap (fun G4 Gi4 Ge4 => ?_)
  suffices hL4 : ∀ (n4 : Nat) (v2_1 : Int32) (v3_2 : Int32) (H : Heap) (locs : List Loc) (ls : Array Slot), va_P D vwCl (wG a0 a1 a2 a3 a4 a5 c1 c2 c4 c5 made size tooG kept sizes rows taken) H → va_D A (wG a0 a1 a2 a3 a4 a5 c1 c2 c4 c5 made size tooG kept sizes rows taken) → va_S A s.heap H locs → lv_has ls 4 [(3, .int v3_2), (2, .int v2_1), (0, .ref a0), (1, .int p0)] → lpW2 (wb_G_fastest_4 post p0 made kept sizes postx) n4 v2_1 v3_2 → G4 H locs (F0 m 4 ls []) from hL4 n4 ((-1) : Int32) (0 : Int32) _ _ _ hP hD hS hl h
  clear h hP hD hS hl
  intro n4
  induction n4 with
  | zero => intro v2_1 v3_2 H locs ls hP hD hS hl h; exact (show False from h).elim
  | succ n4 ihL4 =>
    intro v2_1 v3_2 H locs ls hP hD hS hl h
    replace h : (wb_G_fastest_4 post p0 made kept sizes postx) (lpW2 (wb_G_fastest_4 post p0 made kept sizes postx) n4) v2_1 v3_2 := h
    refine Gi4 _ _ _ ?_
    refine lv_iload_n hx hb d_G_fastest_4 rfl (lv_at hl 0 rfl) ?_
    refine lv_bipush (v := 32) hx hb d_G_fastest_5 (by decide) ?_
    refine lv_icmp_ge (tgt := 58) hx hb d_G_fastest_7 (by decide) (fun hc3 => ?_) (fun hc3 => ?_)
    · replace h := h.1 hc3
      refine lv_iload_n hx hb d_G_fastest_58 rfl (lv_at hl 1 rfl) ?_
      refine W.widen (k := 1) (n := 6) (by omega) (by omega) ?_
      exact vx_ret (W.iret (v := v2_1) hx hb hr (fun t ht hW => ⟨⟨v2_1, (), rfl, h, by rw [ht]; exact hP, va_K.moved hW.alike hK, hD⟩, hS.F ht⟩) hS.2.2 d_G_fastest_59)
    · replace h := h.2 hc3
      refine lv_iload_n hx hb d_G_fastest_10 rfl (lv_at hl 3 rfl) ?_
      refine lv_iload_n hx hb d_G_fastest_11 rfl (lv_at hl 0 rfl) ?_
      refine lv_iushr hx hb d_G_fastest_12 rfl ?_
      refine lv_iconst (v := 1) hx hb d_G_fastest_13 (by decide) ?_
      refine lv_iand hx hb d_G_fastest_14 ?_
      refine lv_iconst (v := 1) hx hb d_G_fastest_15 (by decide) ?_
      refine lv_icmp_ne (tgt := 52) hx hb d_G_fastest_16 (by decide) (fun hc4 => ?_) (fun hc4 => ?_)
      · replace h := h.1 hc4
        obtain ⟨x5, ex5⟩ : ∃ z : Int32, z = v3_2 + 1 := ⟨_, rfl⟩
        replace h := h x5 ex5
        refine lv_iinc (v := x5) (lv' := [(3, .int x5), (2, .int v2_1), (0, .ref a0), (1, .int p0)]) hx hb d_G_fastest_52 hl (k := 0) rfl (by rw [ex5]; rfl) (by decide) rfl (fun ls hl => ?_)
        refine lv_goto (tgt := 4) hx hb d_G_fastest_55 (by decide) ?_
        exact Ge4 _ _ _ (ihL4 v2_1 x5 _ _ _ hP hD hS (lv_sub hl [0, 1, 2, 3] rfl) h)
      · replace h := h.2 hc4
        refine lv_iload_n hx hb d_G_fastest_19 rfl (lv_at hl 0 rfl) ?_
        refine lv_aload_n hx hb d_G_fastest_20 rfl (lv_at hl 2 rfl) ?_
        refine va_get (D := D) (ci := 1) (v := .int made) (C := R_G) (T := F_G) (N := 4) hx hb hB inF_G hown hK hP 0 rfl rfl 3 (by decide) (hB _ wd_38) (fun _ h9 => h9) rfl d_G_fastest_21 ?_
        refine lv_icmp_lt (tgt := 37) hx hb d_G_fastest_24 (by decide) (fun hc6 => ?_) (fun hc6 => ?_)
        · replace h := h.1 hc6
          refine lv_iload_n hx hb d_G_fastest_37 rfl (lv_at hl 1 rfl) ?_
          refine lv_if_lt (tgt := 50) hx hb d_G_fastest_38 (by decide) (fun hc7 => ?_) (fun hc7 => ?_)
          · replace h := h.1 hc7
            refine lv_iload_n hx hb d_G_fastest_50 rfl (lv_at hl 0 rfl) ?_
            refine lv_istore_n (lv' := [(2, .int v3_2), (3, .int v3_2), (0, .ref a0), (1, .int p0)]) hx hb d_G_fastest_51 rfl hl (by decide) rfl (fun ls hl => ?_)
            obtain ⟨x8, ex8⟩ : ∃ z : Int32, z = v3_2 + 1 := ⟨_, rfl⟩
            replace h := h x8 ex8
            refine lv_iinc (v := x8) (lv' := [(3, .int x8), (2, .int v3_2), (0, .ref a0), (1, .int p0)]) hx hb d_G_fastest_52 hl (k := 1) rfl (by rw [ex8]; rfl) (by decide) rfl (fun ls hl => ?_)
            refine lv_goto (tgt := 4) hx hb d_G_fastest_55 (by decide) ?_
            exact Ge4 _ _ _ (ihL4 v3_2 x8 _ _ _ hP hD hS (lv_sub hl [0, 1, 2, 3] rfl) h)
          · replace h := h.2 hc7
            refine lv_aload_n hx hb d_G_fastest_41 rfl (lv_at hl 2 rfl) ?_
            refine lv_iload_n hx hb d_G_fastest_42 rfl (lv_at hl 0 rfl) ?_
            refine lv_iload_n hx hb d_G_fastest_43 rfl (lv_at hl 1 rfl) ?_
            have hF9 := va_free (wc := (wG a0 a1 a2 a3 a4 a5 c1 c2 c4 c5 made size tooG kept sizes rows taken)) hD hS hA [0, 1, 2, 3, 4, 5] rfl
            refine va_calli (va_runV (As := [.int v3_2, .int v2_1]) (rest := []) ⟨hx, hb, hml, hown, hB⟩ (c_G_rankOf l D a0 a1 a2 a3 a4 a5 c1 c2 c4 c5 H.size made size tooG kept sizes rows taken v3_2 v2_1 _) (cwV 2 hB (goodV wd_299 wd_300 wd_506 wd_1 wd_301) rfl rfl rfl (by decide +kernel) ⟨Nat.le_of_ble_eq_true rfl, Nat.le_of_ble_eq_true rfl⟩) ⟨pcX_blind, va_recv hK hP (ci := 1) (q0 := 0) rfl rfl, pcX_pre hP hK hD hS hX hF9 h⟩ rfl rfl hl.1 rfl (lv_room (Nat.le_of_ble_eq_true rfl)) d_G_fastest_44 ⟨Nat.le_of_ble_eq_true rfl, Nat.le_of_ble_eq_true rfl⟩) hS (fun q _ h => hF9 q h) hF9 (fun r10 u t H locs ht hvm h hB hz1 hk1 hS => ?_)
            obtain ⟨hP1, hK1, hD1⟩ := hB
            rw [ht] at hP1
            have hP : va_P D vwCl (wG a0 a1 a2 a3 a4 a5 c1 c2 c4 c5 made size tooG kept sizes rows taken) H := hP1
            have hD : va_D A (wG a0 a1 a2 a3 a4 a5 c1 c2 c4 c5 made size tooG kept sizes rows taken) := hD1.weaken (fun _ _ _ hq => hF9 _ hq)
            refine lv_if_le (tgt := 52) hx hb d_G_fastest_47 (by decide) (fun hc11 => ?_) (fun hc11 => ?_)
            · replace h := h.1 hc11
              obtain ⟨x12, ex12⟩ : ∃ z : Int32, z = v3_2 + 1 := ⟨_, rfl⟩
              replace h := h x12 ex12
              refine lv_iinc (v := x12) (lv' := [(3, .int x12), (2, .int v2_1), (0, .ref a0), (1, .int p0)]) hx hb d_G_fastest_52 hl (k := 0) rfl (by rw [ex12]; rfl) (by decide) rfl (fun ls hl => ?_)
              refine lv_goto (tgt := 4) hx hb d_G_fastest_55 (by decide) ?_
              exact Ge4 _ _ _ (ihL4 v2_1 x12 _ _ _ hP hD hS (lv_sub hl [0, 1, 2, 3] rfl) h)
            · replace h := h.2 hc11
              refine lv_iload_n hx hb d_G_fastest_50 rfl (lv_at hl 0 rfl) ?_
              refine lv_istore_n (lv' := [(2, .int v3_2), (3, .int v3_2), (0, .ref a0), (1, .int p0)]) hx hb d_G_fastest_51 rfl hl (by decide) rfl (fun ls hl => ?_)
              obtain ⟨x13, ex13⟩ : ∃ z : Int32, z = v3_2 + 1 := ⟨_, rfl⟩
              replace h := h x13 ex13
              refine lv_iinc (v := x13) (lv' := [(3, .int x13), (2, .int v3_2), (0, .ref a0), (1, .int p0)]) hx hb d_G_fastest_52 hl (k := 1) rfl (by rw [ex13]; rfl) (by decide) rfl (fun ls hl => ?_)
              refine lv_goto (tgt := 4) hx hb d_G_fastest_55 (by decide) ?_
              exact Ge4 _ _ _ (ihL4 v3_2 x13 _ _ _ hP hD hS (lv_sub hl [0, 1, 2, 3] rfl) h)
        · replace h := h.2 hc6
          obtain ⟨sa, hstr⟩ := hX.2.2.2 (130, "a bit is set of a function that isn't there") (by decide +kernel); exact vx_throwS (names := ["java/lang/RuntimeException", "java/lang/Exception"]) hx hb hst hown (by decide) (by decide) (hB _ wd_156) (hB _ wd_11) hstr (vx_hat (fun w hw => hB w (atE_1 w hw)) ngE_1 (nwG_use hX.1)) (otE_1 _) hX.2.1 hX.2.2.1 hS (hl.1.trans hml.symm) d_G_fastest_27 d_G_fastest_30 d_G_fastest_31 d_G_fastest_33 d_G_fastest_36 (fun x hx => (hno x hx).elim) (Nat.le_of_ble_eq_true rfl) (Nat.le_of_ble_eq_true rfl) (Nat.le_of_ble_eq_true rfl) (Nat.le_of_ble_eq_true rfl) hlocks (fun t hvm hz hk => ⟨(), trivial, ⟨h, va_P_grown hP hk, va_K.moved hvm hK, hD⟩, va_F_grown hS hz hk⟩) hS.2.2 (Nat.le_of_ble_eq_true rfl) (Nat.le_of_ble_eq_true rfl)
set_option maxHeartbeats 4000000 in
set_option maxRecDepth 100000 in
theorem c_G_count (l : Launch) (D : va_G) (a0 a1 a2 a3 a4 a5 : Nat) (c1 c2 c4 c5 : ClassId) (sz : Nat) (made : Int32) (size : Int32) (tooG : Int32) (kept : (Nat → Int32)) (sizes : (Nat → Int32)) (rows : (Nat → Int32)) (taken : (Nat → Int32)) (post : Int32 → Prop) : Met l y_G_count (Cond.code y_G_count b_G_count 1 (some .int) :: BIG) ({ frames := 0, cells := 0, slots := 0, locals := 0 }) (va_Pc [.ref a0] (pcX D vwCl (wG a0 a1 a2 a3 a4 a5 c1 c2 c4 c5 made size tooG kept sizes rows taken) [(c1, .int), (c2, .int), (c4, .int), (c5, .int)] sz (wp_G_count made post))) (va_Qi (fun (r : Int32) (_ : Unit) => post r) (fun _ => atG D vwCl [(c1, .int), (c2, .int), (c4, .int), (c5, .int)] (va_A (wG a0 a1 a2 a3 a4 a5 c1 c2 c4 c5 made size tooG kept sizes rows taken) sz) (wG a0 a1 a2 a3 a4 a5 c1 c2 c4 c5 made size tooG kept sizes rows taken)) (va_A (wG a0 a1 a2 a3 a4 a5 c1 c2 c4 c5 made size tooG kept sizes rows taken) sz)) 0 0 (va_A (wG a0 a1 a2 a3 a4 a5 c1 c2 c4 c5 made size tooG kept sizes rows taken) sz) := by
  refine Met.ofW (cc := b_G_count) (maxL := 1) (ret := (some .int)) (by decide) rfl ?_
  intro p e s m args below meth c s₁ B hml hv
  obtain ⟨rfl, hsz, hP, hK, hD0, hX, h⟩ := hv
  have hx := B.exec
  have hb := B.bytes
  have hr := B.returns
  have hB : ∀ w ∈ BIG, w.before _ s = true := fun w h => atoms_spec (ws := (Cond.code y_G_count b_G_count 1 (some .int) :: BIG)) B.pre w (List.mem_cons_of_mem _ h)
  have hown : s.vm.findClass R_G = some m.cls := findClass_of_methodNamed B.named
  have hlocks := B.notSynchronized
  subst hsz
  have hD := hD0.self (sz := s.heap.size)
  generalize hAe : va_A (wG a0 a1 a2 a3 a4 a5 c1 c2 c4 c5 made size tooG kept sizes rows taken) s.heap.size = A at hD hX ⊢
  have hA : ∀ q : Nat, s.heap.size ≤ q → A q := fun q h => by rw [← hAe]; exact Or.inr h
  have hl := lv_entry ([.ref a0]) (n := 1) (Nat.le_of_ble_eq_true rfl)
  rw [lg_entry_eq]
  generalize (lg_sl ([.ref a0]) ++ List.replicate (1 - (lg_sl ([.ref a0])).length) Slot.unset).toArray = ls at hl ⊢
  have hl : lv_has ls 1 [(0, .ref a0)] := hl
  refine W.cap (fun G Gi Ge => ?_)
  suffices hL : ∀ (H : Heap) (locs : List Loc), va_P D vwCl (wG a0 a1 a2 a3 a4 a5 c1 c2 c4 c5 made size tooG kept sizes rows taken) H → va_S A s.heap H locs → G H locs (F0 m 0 ls []) from hL _ _ hP va_S.rf
  clear hP
  intro H locs hP hS
  refine Gi _ _ _ ?_
  unfold wp_G_count at h
  refine lv_aload_n hx hb d_G_count_0 rfl (lv_at hl 0 rfl) ?_
  refine va_get (D := D) (ci := 1) (v := .int made) (C := R_G) (T := F_G) (N := 4) hx hb hB inF_G hown hK hP 0 rfl rfl 3 (by decide) (hB _ wd_38) (fun _ h9 => h9) rfl d_G_count_1 ?_
  exact W.iret (v := made) hx hb hr (fun t ht hW => ⟨⟨made, (), rfl, h, by rw [ht]; exact hP, va_K.moved hW.alike hK, hD⟩, hS.F ht⟩) hS.2.2 d_G_count_4
