def wp_W_begin (size : Int32) (tooG : Int32) (post : Int32 → Int32 → Prop) : Prop :=
  post 0 0
def wb_W_takeOne_2 (post : (Nat → Int32) → Prop) : (Int32 → (Nat → Int32) → Prop) → Int32 → (Nat → Int32) → Prop :=
  fun ih_2 v1_1 taken_2 =>
  (5 ≤ v1_1 → (vp_in 5 7 ∧ (∀ taken_5 : (Nat → Int32), taken_5 = upd taken_2 (5 : Int32).toNatClampNeg 1 → (vp_in 6 7 ∧ (∀ taken_7 : (Nat → Int32), taken_7 = upd taken_5 (6 : Int32).toNatClampNeg 1 → (post taken_7)))))) ∧ (¬ 5 ≤ v1_1 → (vp_in v1_1 7 ∧ (∀ taken_9 : (Nat → Int32), taken_9 = upd taken_2 v1_1.toNatClampNeg 0 → (∀ x10 : Int32, x10 = v1_1 + 1 → (ih_2 x10 taken_9)))))
def wp_W_takeOne (taken : (Nat → Int32)) (post : (Nat → Int32) → Prop) : Prop :=
  ∃ n : Nat, lpW2 (wb_W_takeOne_2 post) n (0 : Int32) taken
def wp_W_take (kept : (Nat → Int32)) (taken : (Nat → Int32)) (p1 : Int32) (post : (Nat → Int32) → Prop) : Prop :=
  (¬ p1 < 0 ∧ ¬ (0 : Int32) < 0 ∧ ¬ (7 : Int32) < 0 ∧ p1.toNatClampNeg + (7 : Int32).toNatClampNeg ≤ 5600 ∧ (0 : Int32).toNatClampNeg + (7 : Int32).toNatClampNeg ≤ 7) ∧ (∀ taken_2 : (Nat → Int32), taken_2 = va_cpy kept taken p1.toNatClampNeg (0 : Int32).toNatClampNeg (7 : Int32).toNatClampNeg → (post taken_2))
def wp_W_raise (tooG : Int32) (taken : (Nat → Int32)) (p0 : Int32) (p1 : Int32) (post : Int32 → (Nat → Int32) → Prop) : Prop :=
  vp_in p0 7 ∧ (∀ x2 : Int32, x2 = (taken p0.toNatClampNeg) + p1 → ((x2 < (-99) → (post 1 taken)) ∧ (¬ x2 < (-99) → ((x2 ≤ 99 → (vp_in p0 7 ∧ (∀ taken_6 : (Nat → Int32), taken_6 = upd taken p0.toNatClampNeg x2 → (post tooG taken_6)))) ∧ (¬ x2 ≤ 99 → (post 1 taken))))))
def wj_G_divisorOf_51 (v4_3 : Int64) (p1 : Int64) (post : Int64 → Prop) : Prop :=
  (¬ (lg_cmp v4_3 0) = 0 → ((0 ≤ (lg_cmp p1 0) → (post v4_3)) ∧ (¬ 0 ≤ (lg_cmp p1 0) → (post (-v4_3))))) ∧ ((lg_cmp v4_3 0) = 0 → (post 1))
def wb_G_divisorOf_15 (p1 : Int64) (post : Int64 → Prop) : (Int64 → Int64 → Int32 → Prop) → Int64 → Int64 → Int32 → Prop :=
  fun ih_15 v4_3 v6_4 v8_5 =>
  (200 ≤ v8_5 → (wj_G_divisorOf_51 v4_3 p1 post)) ∧ (¬ 200 ≤ v8_5 → (((lg_cmp v6_4 0) = 0 → (wj_G_divisorOf_51 v4_3 p1 post)) ∧ (¬ (lg_cmp v6_4 0) = 0 → ((¬ v6_4 = 0) ∧ (∀ x13 : Int64, x13 = v4_3 - v4_3 / v6_4 * v6_4 → (∀ x14 : Int32, x14 = v8_5 + 1 → (ih_15 v6_4 x13 x14)))))))
def wp_G_divisorOf  (p0 : Int64) (p1 : Int64) (post : Int64 → Prop) : Prop :=
  ∀ x1 : Int64, x1 = (if 0 < p0 then p0 else -p0) → (∀ x2 : Int64, x2 = (if 0 < p1 then p1 else -p1) → (∃ n : Nat, lpW3 (wb_G_divisorOf_15 p1 post) n x1 x2 (0 : Int32)))
def wb_G_rankOfTerms_rt_3 (post : Int32 → Prop) (p1 : Int32) (p3 : Int32) (rows : (Nat → Int32)) (taken : (Nat → Int32)) : (Int32 → Prop) → Int32 → Prop :=
  fun ih_3 v4_1 =>
  (5 ≤ v4_1 → (post 0)) ∧ (¬ 5 ≤ v4_1 → (vp_in (p1 + v4_1) 700 ∧ (vp_in (p3 + v4_1) 7 ∧ (((rows (p1 + v4_1).toNatClampNeg) = (taken (p3 + v4_1).toNatClampNeg) → (∀ x6 : Int32, x6 = v4_1 + 1 → (ih_3 x6))) ∧ (¬ (rows (p1 + v4_1).toNatClampNeg) = (taken (p3 + v4_1).toNatClampNeg) → (vp_in (p1 + v4_1) 700 ∧ (vp_in (p3 + v4_1) 7 ∧ (((rows (p1 + v4_1).toNatClampNeg) ≤ (taken (p3 + v4_1).toNatClampNeg) → (post (-1))) ∧ (¬ (rows (p1 + v4_1).toNatClampNeg) ≤ (taken (p3 + v4_1).toNatClampNeg) → (post 1))))))))))
def wp_G_rankOfTerms_rt (rows : (Nat → Int32)) (taken : (Nat → Int32)) (p1 : Int32) (p3 : Int32) (post : Int32 → Prop) : Prop :=
  ∃ n : Nat, lpW1 (wb_G_rankOfTerms_rt_3 post p1 p3 rows taken) n (0 : Int32)
def wb_G_rankOfTerms_kk_3 (post : Int32 → Prop) (p1 : Int32) (p3 : Int32) (kept : (Nat → Int32)) : (Int32 → Prop) → Int32 → Prop :=
  fun ih_3 v4_1 =>
  (5 ≤ v4_1 → (post 0)) ∧ (¬ 5 ≤ v4_1 → (vp_in (p1 + v4_1) 5600 ∧ (vp_in (p3 + v4_1) 5600 ∧ (((kept (p1 + v4_1).toNatClampNeg) = (kept (p3 + v4_1).toNatClampNeg) → (∀ x6 : Int32, x6 = v4_1 + 1 → (ih_3 x6))) ∧ (¬ (kept (p1 + v4_1).toNatClampNeg) = (kept (p3 + v4_1).toNatClampNeg) → (vp_in (p1 + v4_1) 5600 ∧ (vp_in (p3 + v4_1) 5600 ∧ (((kept (p1 + v4_1).toNatClampNeg) ≤ (kept (p3 + v4_1).toNatClampNeg) → (post (-1))) ∧ (¬ (kept (p1 + v4_1).toNatClampNeg) ≤ (kept (p3 + v4_1).toNatClampNeg) → (post 1))))))))))
def wp_G_rankOfTerms_kk (kept : (Nat → Int32)) (p1 : Int32) (p3 : Int32) (post : Int32 → Prop) : Prop :=
  ∃ n : Nat, lpW1 (wb_G_rankOfTerms_kk_3 post p1 p3 kept) n (0 : Int32)
def wp_G_rowOf  (p0 : Int32) (p1 : Int32) (post : Int32 → Prop) : Prop :=
  post (((p0 * 10) + p1) * 7)
def wp_W_setNumber_t (tooG : Int32) (taken : (Nat → Int32)) (p1 : Int32) (p2 : Int64) (p3 : Int64) (post : Int32 → (Nat → Int32) → Prop) : Prop :=
  wp_G_divisorOf p2 p3 (fun r2 => (¬ r2 = 0) ∧ (∀ x4 : Int64, x4 = p2 / r2 → ((¬ r2 = 0) ∧ (∀ x6 : Int64, x6 = p3 / r2 → ((0 < (lg_cmp (if 0 < x4 then x4 else -x4) 1000000) → (post 1 taken)) ∧ (¬ 0 < (lg_cmp (if 0 < x4 then x4 else -x4) 1000000) → (((lg_cmp x6 1000000) ≤ 0 → (vp_in (p1 + 5) 7 ∧ (∀ taken_10 : (Nat → Int32), taken_10 = upd taken (p1 + 5).toNatClampNeg (x4.toInt32) → (vp_in (p1 + 6) 7 ∧ (∀ taken_12 : (Nat → Int32), taken_12 = upd taken_10 (p1 + 6).toNatClampNeg (x6.toInt32) → (post tooG taken_12)))))) ∧ (¬ (lg_cmp x6 1000000) ≤ 0 → (post 1 taken)))))))))
def wp_W_setNumber_r (tooG : Int32) (rows : (Nat → Int32)) (p1 : Int32) (p2 : Int64) (p3 : Int64) (post : Int32 → (Nat → Int32) → Prop) : Prop :=
  wp_G_divisorOf p2 p3 (fun r2 => (¬ r2 = 0) ∧ (∀ x4 : Int64, x4 = p2 / r2 → ((¬ r2 = 0) ∧ (∀ x6 : Int64, x6 = p3 / r2 → ((0 < (lg_cmp (if 0 < x4 then x4 else -x4) 1000000) → (post 1 rows)) ∧ (¬ 0 < (lg_cmp (if 0 < x4 then x4 else -x4) 1000000) → (((lg_cmp x6 1000000) ≤ 0 → (vp_in (p1 + 5) 700 ∧ (∀ rows_10 : (Nat → Int32), rows_10 = upd rows (p1 + 5).toNatClampNeg (x4.toInt32) → (vp_in (p1 + 6) 700 ∧ (∀ rows_12 : (Nat → Int32), rows_12 = upd rows_10 (p1 + 6).toNatClampNeg (x6.toInt32) → (post tooG rows_12)))))) ∧ (¬ (lg_cmp x6 1000000) ≤ 0 → (post 1 rows)))))))))
def wp_W_multiply (tooG : Int32) (taken : (Nat → Int32)) (p0 : Int64) (p1 : Int64) (post : Int32 → (Nat → Int32) → Prop) : Prop :=
  vp_in 5 7 ∧ (vp_in 6 7 ∧ (wp_W_setNumber_t tooG taken 0 (((taken (5 : Int32).toNatClampNeg).toInt64) * p0) (((taken (6 : Int32).toNatClampNeg).toInt64) * p1) (fun tooG_4 taken_5 => post tooG_4 taken_5)))
def wb_W_multiplyByTerm_19 (post : Int32 → (Nat → Int32) → Prop) (p1 : Int32) (kept : (Nat → Int32)) : (Int32 → Int32 → (Nat → Int32) → Prop) → Int32 → Int32 → (Nat → Int32) → Prop :=
  fun ih_19 v3_6 tooG_7 taken_8 =>
  (5 ≤ v3_6 → (post tooG_7 taken_8)) ∧ (¬ 5 ≤ v3_6 → (vp_in (p1 + v3_6) 5600 ∧ (wp_W_raise tooG_7 taken_8 v3_6 (kept (p1 + v3_6).toNatClampNeg) (fun tooG_12 taken_13 => ∀ x14 : Int32, x14 = v3_6 + 1 → (ih_19 x14 tooG_12 taken_13)))))
def wp_W_multiplyByTerm (tooG : Int32) (kept : (Nat → Int32)) (taken : (Nat → Int32)) (p1 : Int32) (post : Int32 → (Nat → Int32) → Prop) : Prop :=
  vp_in (p1 + 5) 5600 ∧ (vp_in (p1 + 6) 5600 ∧ (wp_W_multiply tooG taken ((kept (p1 + 5).toNatClampNeg).toInt64) ((kept (p1 + 6).toNatClampNeg).toInt64) (fun tooG_4 taken_5 => ∃ n : Nat, lpW3 (wb_W_multiplyByTerm_19 post p1 kept) n (0 : Int32) tooG_4 taken_5)))
def wb_W_divideByTerm_19 (post : Int32 → (Nat → Int32) → Prop) (p1 : Int32) (kept : (Nat → Int32)) : (Int32 → Int32 → (Nat → Int32) → Prop) → Int32 → Int32 → (Nat → Int32) → Prop :=
  fun ih_19 v3_6 tooG_7 taken_8 =>
  (5 ≤ v3_6 → (post tooG_7 taken_8)) ∧ (¬ 5 ≤ v3_6 → (vp_in (p1 + v3_6) 5600 ∧ (wp_W_raise tooG_7 taken_8 v3_6 (-(kept (p1 + v3_6).toNatClampNeg)) (fun tooG_12 taken_13 => ∀ x14 : Int32, x14 = v3_6 + 1 → (ih_19 x14 tooG_12 taken_13)))))
def wp_W_divideByTerm (tooG : Int32) (kept : (Nat → Int32)) (taken : (Nat → Int32)) (p1 : Int32) (post : Int32 → (Nat → Int32) → Prop) : Prop :=
  vp_in (p1 + 6) 5600 ∧ (vp_in (p1 + 5) 5600 ∧ (wp_W_multiply tooG taken ((kept (p1 + 6).toNatClampNeg).toInt64) ((kept (p1 + 5).toNatClampNeg).toInt64) (fun tooG_4 taken_5 => ∃ n : Nat, lpW3 (wb_W_divideByTerm_19 post p1 kept) n (0 : Int32) tooG_4 taken_5)))
def wb_W_placeOfTaken_9 (post : Int32 → Prop) (rows : (Nat → Int32)) (taken : (Nat → Int32)) : (Int32 → Int32 → Int32 → Prop) → Int32 → Int32 → Int32 → Prop :=
  fun ih_9 v1_1 v2_2 v3_3 =>
  (100 ≤ v3_3 → (post v1_1)) ∧ (¬ 100 ≤ v3_3 → ((v2_2 ≤ v1_1 → (post v1_1)) ∧ (¬ v2_2 ≤ v1_1 → (∀ x6 : Int32, x6 = ((v1_1 + v2_2).toUInt32 >>> ((1 : Int32).toUInt32 &&& Int32.toUInt32 31)).toInt32 → (wp_G_rankOfTerms_rt rows taken (x6 * 7) 0 (fun r8 => (r8 ≤ 0 → (∀ x10 : Int32, x10 = v3_3 + 1 → (ih_9 v1_1 x6 x10))) ∧ (¬ r8 ≤ 0 → (∀ x11 : Int32, x11 = x6 + 1 → (∀ x12 : Int32, x12 = v3_3 + 1 → (ih_9 x11 v2_2 x12))))))))))
def wp_W_placeOfTaken (size : Int32) (rows : (Nat → Int32)) (taken : (Nat → Int32)) (post : Int32 → Prop) : Prop :=
  ∃ n : Nat, lpW3 (wb_W_placeOfTaken_9 post rows taken) n (0 : Int32) size (0 : Int32)
def wp_W_removeRow (size : Int32) (rows : (Nat → Int32)) (p0 : Int32) (post : Int32 → (Nat → Int32) → Prop) : Prop :=
  ∀ x1 : Int32, x1 = p0 * 7 → ((¬ (x1 + 7) < 0 ∧ ¬ x1 < 0 ∧ ¬ (((size - p0) - 1) * 7) < 0 ∧ (x1 + 7).toNatClampNeg + (((size - p0) - 1) * 7).toNatClampNeg ≤ 700 ∧ x1.toNatClampNeg + (((size - p0) - 1) * 7).toNatClampNeg ≤ 700) ∧ (∀ rows_3 : (Nat → Int32), rows_3 = va_cpy rows rows (x1 + 7).toNatClampNeg x1.toNatClampNeg (((size - p0) - 1) * 7).toNatClampNeg → (∀ x4 : Int32, x4 = size - 1 → (post x4 rows_3))))
def wp_W_insertTaken (size : Int32) (tooG : Int32) (rows : (Nat → Int32)) (taken : (Nat → Int32)) (p0 : Int32) (post : Int32 → Int32 → (Nat → Int32) → Prop) : Prop :=
  (size < 100 → (∀ x2 : Int32, x2 = p0 * 7 → ((¬ x2 < 0 ∧ ¬ (x2 + 7) < 0 ∧ ¬ ((size - p0) * 7) < 0 ∧ x2.toNatClampNeg + ((size - p0) * 7).toNatClampNeg ≤ 700 ∧ (x2 + 7).toNatClampNeg + ((size - p0) * 7).toNatClampNeg ≤ 700) ∧ (∀ rows_4 : (Nat → Int32), rows_4 = va_cpy rows rows x2.toNatClampNeg (x2 + 7).toNatClampNeg ((size - p0) * 7).toNatClampNeg → ((¬ (0 : Int32) < 0 ∧ ¬ x2 < 0 ∧ ¬ (7 : Int32) < 0 ∧ (0 : Int32).toNatClampNeg + (7 : Int32).toNatClampNeg ≤ 7 ∧ x2.toNatClampNeg + (7 : Int32).toNatClampNeg ≤ 700) ∧ (∀ rows_6 : (Nat → Int32), rows_6 = va_cpy taken rows_4 (0 : Int32).toNatClampNeg x2.toNatClampNeg (7 : Int32).toNatClampNeg → (∀ x7 : Int32, x7 = size + 1 → (post x7 tooG rows_6)))))))) ∧ (¬ size < 100 → (post size 1 rows))
def wp_W_addTaken (size : Int32) (tooG : Int32) (rows : (Nat → Int32)) (taken : (Nat → Int32)) (p0 : Int32) (post : Int32 → Int32 → (Nat → Int32) → Prop) : Prop :=
  ∀ x1 : Int32, x1 = p0 * 7 → (vp_in (x1 + 5) 700 ∧ (vp_in 6 7 ∧ (vp_in 5 7 ∧ (vp_in (x1 + 6) 700 ∧ (∀ x6 : Int64, x6 = (((rows (x1 + 5).toNatClampNeg).toInt64) * ((taken (6 : Int32).toNatClampNeg).toInt64)) + (((taken (5 : Int32).toNatClampNeg).toInt64) * ((rows (x1 + 6).toNatClampNeg).toInt64)) → ((¬ (lg_cmp x6 0) = 0 → (vp_in (x1 + 6) 700 ∧ (vp_in 6 7 ∧ (wp_W_setNumber_r tooG rows x1 x6 (((rows (x1 + 6).toNatClampNeg).toInt64) * ((taken (6 : Int32).toNatClampNeg).toInt64)) (fun tooG_11 rows_12 => post size tooG_11 rows_12))))) ∧ ((lg_cmp x6 0) = 0 → (wp_W_removeRow size rows p0 (fun size_14 rows_15 => post size_14 tooG rows_15)))))))))
def wj_W_putTaken_40 (size : Int32) (tooG : Int32) (rows : (Nat → Int32)) (taken : (Nat → Int32)) (r2 : Int32) (post : Int32 → Int32 → (Nat → Int32) → Prop) : Prop :=
  wp_W_insertTaken size tooG rows taken r2 (fun size_5 tooG_6 rows_7 => post size_5 tooG_6 rows_7)
def wp_W_putTaken (size : Int32) (tooG : Int32) (rows : (Nat → Int32)) (taken : (Nat → Int32)) (post : Int32 → Int32 → (Nat → Int32) → Prop) : Prop :=
  wp_W_placeOfTaken size rows taken (fun r2 => (size ≤ r2 → (wj_W_putTaken_40 size tooG rows taken r2 post)) ∧ (¬ size ≤ r2 → (wp_G_rankOfTerms_rt rows taken (r2 * 7) 0 (fun r9 => (¬ r9 = 0 → (wj_W_putTaken_40 size tooG rows taken r2 post)) ∧ (r9 = 0 → (wp_W_addTaken size tooG rows taken r2 (fun size_16 tooG_17 rows_18 => post size_16 tooG_17 rows_18)))))))
set_option maxHeartbeats 4000000 in
set_option maxRecDepth 100000 in
theorem c_W_begin (l : Launch) (D : va_G) (a0 a1 a2 a3 a4 a5 : Nat) (c1 c2 c4 c5 : ClassId) (sz : Nat) (made : Int32) (size : Int32) (tooG : Int32) (kept : (Nat → Int32)) (sizes : (Nat → Int32)) (rows : (Nat → Int32)) (taken : (Nat → Int32)) (post : Int32 → Int32 → Prop) : Met l y_W_begin (Cond.code y_W_begin b_W_begin 1 none :: BIG) ({ frames := 0, cells := 0, slots := 0, locals := 0 }) (va_Pc [.ref a3] (pcX D vwCl (wG a0 a1 a2 a3 a4 a5 c1 c2 c4 c5 made size tooG kept sizes rows taken) [(c1, .int), (c2, .int), (c4, .int), (c5, .int)] sz (wp_W_begin size tooG post))) (va_Qv (fun (u : Int32 × Int32) => post (u.1) (u.2)) (fun u => atG D vwCl [(c1, .int), (c2, .int), (c4, .int), (c5, .int)] (va_A (wG a0 a1 a2 a3 a4 a5 c1 c2 c4 c5 made size tooG kept sizes rows taken) sz) (wG a0 a1 a2 a3 a4 a5 c1 c2 c4 c5 made (u.1) (u.2) kept sizes rows taken)) (va_A (wG a0 a1 a2 a3 a4 a5 c1 c2 c4 c5 made size tooG kept sizes rows taken) sz)) 0 0 (va_A (wG a0 a1 a2 a3 a4 a5 c1 c2 c4 c5 made size tooG kept sizes rows taken) sz) := by
  refine Met.ofW (cc := b_W_begin) (maxL := 1) (ret := none) (by decide) rfl ?_
  intro p e s m args below meth c s₁ B hml hv
  obtain ⟨rfl, hsz, hP, hK, hD0, hX, h⟩ := hv
  have hx := B.exec
  have hb := B.bytes
  have hr := B.returns
  have hB : ∀ w ∈ BIG, w.before _ s = true := fun w h => atoms_spec (ws := (Cond.code y_W_begin b_W_begin 1 none :: BIG)) B.pre w (List.mem_cons_of_mem _ h)
  have hown : s.vm.findClass R_W = some m.cls := findClass_of_methodNamed B.named
  have hlocks := B.notSynchronized
  subst hsz
  have hD := hD0.self (sz := s.heap.size)
  generalize hAe : va_A (wG a0 a1 a2 a3 a4 a5 c1 c2 c4 c5 made size tooG kept sizes rows taken) s.heap.size = A at hD hX ⊢
  have hA : ∀ q : Nat, s.heap.size ≤ q → A q := fun q h => by rw [← hAe]; exact Or.inr h
  have hl := lv_entry ([.ref a3]) (n := 1) (Nat.le_of_ble_eq_true rfl)
  rw [lg_entry_eq]
  generalize (lg_sl ([.ref a3]) ++ List.replicate (1 - (lg_sl ([.ref a3])).length) Slot.unset).toArray = ls at hl ⊢
  have hl : lv_has ls 1 [(0, .ref a3)] := hl
  refine W.cap (fun G Gi Ge => ?_)
  suffices hL : ∀ (H : Heap) (locs : List Loc), va_P D vwCl (wG a0 a1 a2 a3 a4 a5 c1 c2 c4 c5 made size tooG kept sizes rows taken) H → va_S A s.heap H locs → G H locs (F0 m 0 ls []) from hL _ _ hP va_S.rf
  clear hP
  intro H locs hP hS
  refine Gi _ _ _ ?_
  unfold wp_W_begin at h
  refine lv_aload_n hx hb d_W_begin_0 rfl (lv_at hl 0 rfl) ?_
  refine lv_iconst (v := 0) hx hb d_W_begin_1 (by decide) ?_
  refine va_put (D := D) (ci := 0) (v := .int 0) (ty := .int) (C := R_W) (T := F_W) (N := 4) hx hb hB inF_W t_W t_W_ok n_W hown hK hP hD hS 3 rfl rfl 2 (by decide) (hB _ wd_30) (fun _ h9 => h9) rfl (by decide +kernel) rfl rfl (Nat.le_of_ble_eq_true rfl) d_W_begin_2 (fun H locs hP hD hS => ?_)
  have hP : va_P D vwCl (wG a0 a1 a2 a3 a4 a5 c1 c2 c4 c5 made 0 tooG kept sizes rows taken) H := hP
  have hD : va_D A (wG a0 a1 a2 a3 a4 a5 c1 c2 c4 c5 made 0 tooG kept sizes rows taken) := hD
  refine lv_aload_n hx hb d_W_begin_5 rfl (lv_at hl 0 rfl) ?_
  refine lv_iconst (v := 0) hx hb d_W_begin_6 (by decide) ?_
  refine va_put (D := D) (ci := 0) (v := .int 0) (ty := .boolean) (C := R_W) (T := F_W) (N := 4) hx hb hB inF_W t_W t_W_ok n_W hown hK hP hD hS 3 rfl rfl 3 (by decide) (hB _ wd_32) (fun _ h9 => h9) rfl (by decide +kernel) rfl rfl (Nat.le_of_ble_eq_true rfl) d_W_begin_7 (fun H locs hP hD hS => ?_)
  have hP : va_P D vwCl (wG a0 a1 a2 a3 a4 a5 c1 c2 c4 c5 made 0 0 kept sizes rows taken) H := hP
  have hD : va_D A (wG a0 a1 a2 a3 a4 a5 c1 c2 c4 c5 made 0 0 kept sizes rows taken) := hD
  exact W.vret hx hb hr (fun t ht hW => ⟨⟨(0, 0), rfl, h, by rw [ht]; exact hP, va_K.moved hW.alike hK, hD⟩, hS.F ht⟩) hS.2.2 d_W_begin_10
set_option maxHeartbeats 4000000 in
set_option maxRecDepth 100000 in
theorem c_W_takeOne (l : Launch) (D : va_G) (a0 a1 a2 a3 a4 a5 : Nat) (c1 c2 c4 c5 : ClassId) (sz : Nat) (made : Int32) (size : Int32) (tooG : Int32) (kept : (Nat → Int32)) (sizes : (Nat → Int32)) (rows : (Nat → Int32)) (taken : (Nat → Int32)) (post : (Nat → Int32) → Prop) : Met l y_W_takeOne (Cond.code y_W_takeOne b_W_takeOne 2 none :: BIG) ({ frames := 0, cells := 0, slots := 0, locals := 0 }) (va_Pc [.ref a3] (pcX D vwCl (wG a0 a1 a2 a3 a4 a5 c1 c2 c4 c5 made size tooG kept sizes rows taken) [(c1, .int), (c2, .int), (c4, .int), (c5, .int)] sz (wp_W_takeOne taken post))) (va_Qv (fun (u : (Nat → Int32)) => post u) (fun u => atG D vwCl [(c1, .int), (c2, .int), (c4, .int), (c5, .int)] (va_A (wG a0 a1 a2 a3 a4 a5 c1 c2 c4 c5 made size tooG kept sizes rows taken) sz) (wG a0 a1 a2 a3 a4 a5 c1 c2 c4 c5 made size tooG kept sizes rows u)) (va_A (wG a0 a1 a2 a3 a4 a5 c1 c2 c4 c5 made size tooG kept sizes rows taken) sz)) 0 0 (va_A (wG a0 a1 a2 a3 a4 a5 c1 c2 c4 c5 made size tooG kept sizes rows taken) sz) := by
  refine Met.ofW (cc := b_W_takeOne) (maxL := 2) (ret := none) (by decide) rfl ?_
  intro p e s m args below meth c s₁ B hml hv
  obtain ⟨rfl, hsz, hP, hK, hD0, hX, h⟩ := hv
  have hx := B.exec
  have hb := B.bytes
  have hr := B.returns
  have hB : ∀ w ∈ BIG, w.before _ s = true := fun w h => atoms_spec (ws := (Cond.code y_W_takeOne b_W_takeOne 2 none :: BIG)) B.pre w (List.mem_cons_of_mem _ h)
  have hown : s.vm.findClass R_W = some m.cls := findClass_of_methodNamed B.named
  have hlocks := B.notSynchronized
  subst hsz
  have hD := hD0.self (sz := s.heap.size)
  generalize hAe : va_A (wG a0 a1 a2 a3 a4 a5 c1 c2 c4 c5 made size tooG kept sizes rows taken) s.heap.size = A at hD hX ⊢
  have hA : ∀ q : Nat, s.heap.size ≤ q → A q := fun q h => by rw [← hAe]; exact Or.inr h
  have hl := lv_entry ([.ref a3]) (n := 2) (Nat.le_of_ble_eq_true rfl)
  rw [lg_entry_eq]
  generalize (lg_sl ([.ref a3]) ++ List.replicate (2 - (lg_sl ([.ref a3])).length) Slot.unset).toArray = ls at hl ⊢
  have hl : lv_has ls 2 [(0, .ref a3)] := hl
  refine W.cap (fun G Gi Ge => ?_)
  suffices hL : ∀ (H : Heap) (locs : List Loc), va_P D vwCl (wG a0 a1 a2 a3 a4 a5 c1 c2 c4 c5 made size tooG kept sizes rows taken) H → va_S A s.heap H locs → G H locs (F0 m 0 ls []) from hL _ _ hP va_S.rf
  clear hP
  intro H locs hP hS
  refine Gi _ _ _ ?_
  unfold wp_W_takeOne at h
  refine lv_iconst (v := 0) hx hb d_W_takeOne_0 (by decide) ?_
  refine lv_istore_n (lv' := [(1, .int 0), (0, .ref a3)]) hx hb d_W_takeOne_1 rfl hl (by decide) rfl (fun ls hl => ?_)
  obtain ⟨n2, h⟩ := h
  refine W.cap (fun G2 Gi2 Ge2 => ?_)
  suffices hL2 : ∀ (n2 : Nat) (v1_1 : Int32) (taken_2 : (Nat → Int32)) (H : Heap) (locs : List Loc) (ls : Array Slot), va_P D vwCl (wG a0 a1 a2 a3 a4 a5 c1 c2 c4 c5 made size tooG kept sizes rows taken_2) H → va_D A (wG a0 a1 a2 a3 a4 a5 c1 c2 c4 c5 made size tooG kept sizes rows taken_2) → va_S A s.heap H locs → lv_has ls 2 [(1, .int v1_1), (0, .ref a3)] → lpW2 (wb_W_takeOne_2 post) n2 v1_1 taken_2 → G2 H locs (F0 m 2 ls []) from hL2 n2 (0 : Int32) taken _ _ _ hP hD hS hl h
  clear h hP hD hS hl
  intro n2
  induction n2 with
  | zero => intro v1_1 taken_2 H locs ls hP hD hS hl h; exact (show False from h).elim
  | succ n2 ihL2 =>
    intro v1_1 taken_2 H locs ls hP hD hS hl h
    replace h : (wb_W_takeOne_2 post) (lpW2 (wb_W_takeOne_2 post) n2) v1_1 taken_2 := h
    refine Gi2 _ _ _ ?_
    refine lv_iload_n hx hb d_W_takeOne_2 rfl (lv_at hl 0 rfl) ?_
    refine lv_iconst (v := 5) hx hb d_W_takeOne_3 (by decide) ?_
    refine lv_icmp_ge (tgt := 20) hx hb d_W_takeOne_4 (by decide) (fun hc3 => ?_) (fun hc3 => ?_)
    · replace h := h.1 hc3
      refine lv_aload_n hx hb d_W_takeOne_20 rfl (lv_at hl 1 rfl) ?_
      refine va_get (D := D) (ci := 0) (v := .ref a5) (C := R_W) (T := F_W) (N := 4) hx hb hB inF_W hown hK hP 3 rfl rfl 1 (by decide) (hB _ wd_29) (fun _ h9 => h9) rfl d_W_takeOne_21 ?_
      refine lv_iconst (v := 5) hx hb d_W_takeOne_24 (by decide) ?_
      refine lv_iconst (v := 1) hx hb d_W_takeOne_25 (by decide) ?_
      obtain ⟨g4, h⟩ := h
      obtain ⟨taken_5, etaken_5⟩ : ∃ z : (Nat → Int32), z = upd taken_2 (5 : Int32).toNatClampNeg 1 := ⟨_, rfl⟩
      replace h := h taken_5 etaken_5
      refine va_iast hx hb hK hP hD hS 5 3 rfl rfl g4 d_W_takeOne_26 (fun H locs hP hD hS => ?_)
      have hP : va_P D vwCl (wG a0 a1 a2 a3 a4 a5 c1 c2 c4 c5 made size tooG kept sizes rows taken_5) H := by rw [etaken_5]; exact hP
      have hD : va_D A (wG a0 a1 a2 a3 a4 a5 c1 c2 c4 c5 made size tooG kept sizes rows taken_5) := by rw [etaken_5]; exact hD
      refine lv_aload_n hx hb d_W_takeOne_27 rfl (lv_at hl 1 rfl) ?_
      refine va_get (D := D) (ci := 0) (v := .ref a5) (C := R_W) (T := F_W) (N := 4) hx hb hB inF_W hown hK hP 3 rfl rfl 1 (by decide) (hB _ wd_29) (fun _ h9 => h9) rfl d_W_takeOne_28 ?_
      refine lv_bipush (v := 6) hx hb d_W_takeOne_31 (by decide) ?_
      refine lv_iconst (v := 1) hx hb d_W_takeOne_33 (by decide) ?_
      obtain ⟨g6, h⟩ := h
      obtain ⟨taken_7, etaken_7⟩ : ∃ z : (Nat → Int32), z = upd taken_5 (6 : Int32).toNatClampNeg 1 := ⟨_, rfl⟩
      replace h := h taken_7 etaken_7
      refine va_iast hx hb hK hP hD hS 5 3 rfl rfl g6 d_W_takeOne_34 (fun H locs hP hD hS => ?_)
      have hP : va_P D vwCl (wG a0 a1 a2 a3 a4 a5 c1 c2 c4 c5 made size tooG kept sizes rows taken_7) H := by rw [etaken_7]; exact hP
      have hD : va_D A (wG a0 a1 a2 a3 a4 a5 c1 c2 c4 c5 made size tooG kept sizes rows taken_7) := by rw [etaken_7]; exact hD
      exact W.vret hx hb hr (fun t ht hW => ⟨⟨taken_7, rfl, h, by rw [ht]; exact hP, va_K.moved hW.alike hK, hD⟩, hS.F ht⟩) hS.2.2 d_W_takeOne_35
    · replace h := h.2 hc3
      refine lv_aload_n hx hb d_W_takeOne_7 rfl (lv_at hl 1 rfl) ?_
      refine va_get (D := D) (ci := 0) (v := .ref a5) (C := R_W) (T := F_W) (N := 4) hx hb hB inF_W hown hK hP 3 rfl rfl 1 (by decide) (hB _ wd_29) (fun _ h9 => h9) rfl d_W_takeOne_8 ?_
      refine lv_iload_n hx hb d_W_takeOne_11 rfl (lv_at hl 0 rfl) ?_
      refine lv_iconst (v := 0) hx hb d_W_takeOne_12 (by decide) ?_
      obtain ⟨g8, h⟩ := h
      obtain ⟨taken_9, etaken_9⟩ : ∃ z : (Nat → Int32), z = upd taken_2 v1_1.toNatClampNeg 0 := ⟨_, rfl⟩
      replace h := h taken_9 etaken_9
      refine va_iast hx hb hK hP hD hS 5 3 rfl rfl g8 d_W_takeOne_13 (fun H locs hP hD hS => ?_)
      have hP : va_P D vwCl (wG a0 a1 a2 a3 a4 a5 c1 c2 c4 c5 made size tooG kept sizes rows taken_9) H := by rw [etaken_9]; exact hP
      have hD : va_D A (wG a0 a1 a2 a3 a4 a5 c1 c2 c4 c5 made size tooG kept sizes rows taken_9) := by rw [etaken_9]; exact hD
      obtain ⟨x10, ex10⟩ : ∃ z : Int32, z = v1_1 + 1 := ⟨_, rfl⟩
      replace h := h x10 ex10
      refine lv_iinc (v := x10) (lv' := [(1, .int x10), (0, .ref a3)]) hx hb d_W_takeOne_14 hl (k := 0) rfl (by rw [ex10]; rfl) (by decide) rfl (fun ls hl => ?_)
      refine lv_goto (tgt := 2) hx hb d_W_takeOne_17 (by decide) ?_
      exact Ge2 _ _ _ (ihL2 x10 taken_9 _ _ _ hP hD hS (lv_sub hl [0, 1] rfl) h)
set_option maxHeartbeats 4000000 in
set_option maxRecDepth 100000 in
theorem c_W_take (l : Launch) (D : va_G) (a0 a1 a2 a3 a4 a5 : Nat) (c1 c2 c4 c5 : ClassId) (sz : Nat) (made : Int32) (size : Int32) (tooG : Int32) (kept : (Nat → Int32)) (sizes : (Nat → Int32)) (rows : (Nat → Int32)) (taken : (Nat → Int32)) (p1 : Int32) (post : (Nat → Int32) → Prop) : Met l y_W_take (Cond.code y_W_take b_W_take 3 none :: BIG) ({ frames := 1, cells := 0, slots := 0, locals := 60 }) (va_Pc [.ref a3, .ref a1, .int p1] (pcX D vwCl (wG a0 a1 a2 a3 a4 a5 c1 c2 c4 c5 made size tooG kept sizes rows taken) [(c1, .int), (c2, .int), (c4, .int), (c5, .int)] sz (wp_W_take kept taken p1 post))) (va_Qv (fun (u : (Nat → Int32)) => post u) (fun u => atG D vwCl [(c1, .int), (c2, .int), (c4, .int), (c5, .int)] (va_A (wG a0 a1 a2 a3 a4 a5 c1 c2 c4 c5 made size tooG kept sizes rows taken) sz) (wG a0 a1 a2 a3 a4 a5 c1 c2 c4 c5 made size tooG kept sizes rows u)) (va_A (wG a0 a1 a2 a3 a4 a5 c1 c2 c4 c5 made size tooG kept sizes rows taken) sz)) 0 0 (va_A (wG a0 a1 a2 a3 a4 a5 c1 c2 c4 c5 made size tooG kept sizes rows taken) sz) := by
  refine Met.ofW (cc := b_W_take) (maxL := 3) (ret := none) (by decide) rfl ?_
  intro p e s m args below meth c s₁ B hml hv
  obtain ⟨rfl, hsz, hP, hK, hD0, hX, h⟩ := hv
  have hx := B.exec
  have hb := B.bytes
  have hr := B.returns
  have hB : ∀ w ∈ BIG, w.before _ s = true := fun w h => atoms_spec (ws := (Cond.code y_W_take b_W_take 3 none :: BIG)) B.pre w (List.mem_cons_of_mem _ h)
  have hown : s.vm.findClass R_W = some m.cls := findClass_of_methodNamed B.named
  have hlocks := B.notSynchronized
  subst hsz
  have hD := hD0.self (sz := s.heap.size)
  generalize hAe : va_A (wG a0 a1 a2 a3 a4 a5 c1 c2 c4 c5 made size tooG kept sizes rows taken) s.heap.size = A at hD hX ⊢
  have hA : ∀ q : Nat, s.heap.size ≤ q → A q := fun q h => by rw [← hAe]; exact Or.inr h
  have hl := lv_entry ([.ref a3, .ref a1, .int p1]) (n := 3) (Nat.le_of_ble_eq_true rfl)
  rw [lg_entry_eq]
  generalize (lg_sl ([.ref a3, .ref a1, .int p1]) ++ List.replicate (3 - (lg_sl ([.ref a3, .ref a1, .int p1])).length) Slot.unset).toArray = ls at hl ⊢
  have hl : lv_has ls 3 [(0, .ref a3), (1, .ref a1), (2, .int p1)] := hl
  refine W.cap (fun G Gi Ge => ?_)
  suffices hL : ∀ (H : Heap) (locs : List Loc), va_P D vwCl (wG a0 a1 a2 a3 a4 a5 c1 c2 c4 c5 made size tooG kept sizes rows taken) H → va_S A s.heap H locs → G H locs (F0 m 0 ls []) from hL _ _ hP va_S.rf
  clear hP
  intro H locs hP hS
  refine Gi _ _ _ ?_
  unfold wp_W_take at h
  refine lv_aload_n hx hb d_W_take_0 rfl (lv_at hl 1 rfl) ?_
  refine lv_iload_n hx hb d_W_take_1 rfl (lv_at hl 2 rfl) ?_
  refine lv_aload_n hx hb d_W_take_2 rfl (lv_at hl 0 rfl) ?_
  refine va_get (D := D) (ci := 0) (v := .ref a5) (C := R_W) (T := F_W) (N := 4) hx hb hB inF_W hown hK hP 3 rfl rfl 1 (by decide) (hB _ wd_29) (fun _ h9 => h9) rfl d_W_take_3 ?_
  refine lv_iconst (v := 0) hx hb d_W_take_6 (by decide) ?_
  refine lv_bipush (v := 7) hx hb d_W_take_7 (by decide) ?_
  obtain ⟨g1, h⟩ := h
  obtain ⟨taken_2, etaken_2⟩ : ∃ z : (Nat → Int32), z = va_cpy kept taken p1.toNatClampNeg (0 : Int32).toNatClampNeg (7 : Int32).toNatClampNeg := ⟨_, rfl⟩
  replace h := h taken_2 etaken_2
  refine va_copyi hx hb (hml.trans hl.1.symm) hown (hB _ wd_135) (hB _ wd_137) (hB _ wd_136) (hB _ wd_10) hK hP hD hS 1 5 0 3 (ty := .int) rfl rfl rfl rfl rfl g1.1 g1.2.1 g1.2.2.1 g1.2.2.2.1 g1.2.2.2.2 (fun _ _ => rfl) (Nat.le_of_ble_eq_true rfl) (Nat.le_of_ble_eq_true rfl) d_W_take_9 (fun H locs hP hD hS => ?_)
  have hP : va_P D vwCl (wG a0 a1 a2 a3 a4 a5 c1 c2 c4 c5 made size tooG kept sizes rows taken_2) H := by rw [etaken_2]; exact hP
  have hD : va_D A (wG a0 a1 a2 a3 a4 a5 c1 c2 c4 c5 made size tooG kept sizes rows taken_2) := by rw [etaken_2]; exact hD
  exact W.vret hx hb hr (fun t ht hW => ⟨⟨taken_2, rfl, h, by rw [ht]; exact hP, va_K.moved hW.alike hK, hD⟩, hS.F ht⟩) hS.2.2 d_W_take_12
set_option maxHeartbeats 4000000 in
set_option maxRecDepth 100000 in
theorem c_W_raise (l : Launch) (D : va_G) (a0 a1 a2 a3 a4 a5 : Nat) (c1 c2 c4 c5 : ClassId) (sz : Nat) (made : Int32) (size : Int32) (tooG : Int32) (kept : (Nat → Int32)) (sizes : (Nat → Int32)) (rows : (Nat → Int32)) (taken : (Nat → Int32)) (p0 : Int32) (p1 : Int32) (post : Int32 → (Nat → Int32) → Prop) : Met l y_W_raise (Cond.code y_W_raise b_W_raise 4 none :: BIG) ({ frames := 0, cells := 0, slots := 0, locals := 0 }) (va_Pc [.ref a3, .int p0, .int p1] (pcX D vwCl (wG a0 a1 a2 a3 a4 a5 c1 c2 c4 c5 made size tooG kept sizes rows taken) [(c1, .int), (c2, .int), (c4, .int), (c5, .int)] sz (wp_W_raise tooG taken p0 p1 post))) (va_Qv (fun (u : Int32 × (Nat → Int32)) => post (u.1) (u.2)) (fun u => atG D vwCl [(c1, .int), (c2, .int), (c4, .int), (c5, .int)] (va_A (wG a0 a1 a2 a3 a4 a5 c1 c2 c4 c5 made size tooG kept sizes rows taken) sz) (wG a0 a1 a2 a3 a4 a5 c1 c2 c4 c5 made size (u.1) kept sizes rows (u.2))) (va_A (wG a0 a1 a2 a3 a4 a5 c1 c2 c4 c5 made size tooG kept sizes rows taken) sz)) 0 0 (va_A (wG a0 a1 a2 a3 a4 a5 c1 c2 c4 c5 made size tooG kept sizes rows taken) sz) := by
  refine Met.ofW (cc := b_W_raise) (maxL := 4) (ret := none) (by decide) rfl ?_
  intro p e s m args below meth c s₁ B hml hv
  obtain ⟨rfl, hsz, hP, hK, hD0, hX, h⟩ := hv
  have hx := B.exec
  have hb := B.bytes
  have hr := B.returns
  have hB : ∀ w ∈ BIG, w.before _ s = true := fun w h => atoms_spec (ws := (Cond.code y_W_raise b_W_raise 4 none :: BIG)) B.pre w (List.mem_cons_of_mem _ h)
  have hown : s.vm.findClass R_W = some m.cls := findClass_of_methodNamed B.named
  have hlocks := B.notSynchronized
  subst hsz
  have hD := hD0.self (sz := s.heap.size)
  generalize hAe : va_A (wG a0 a1 a2 a3 a4 a5 c1 c2 c4 c5 made size tooG kept sizes rows taken) s.heap.size = A at hD hX ⊢
  have hA : ∀ q : Nat, s.heap.size ≤ q → A q := fun q h => by rw [← hAe]; exact Or.inr h
  have hl := lv_entry ([.ref a3, .int p0, .int p1]) (n := 4) (Nat.le_of_ble_eq_true rfl)
  rw [lg_entry_eq]
  generalize (lg_sl ([.ref a3, .int p0, .int p1]) ++ List.replicate (4 - (lg_sl ([.ref a3, .int p0, .int p1])).length) Slot.unset).toArray = ls at hl ⊢
  have hl : lv_has ls 4 [(0, .ref a3), (1, .int p0), (2, .int p1)] := hl
  refine W.cap (fun G Gi Ge => ?_)
  suffices hL : ∀ (H : Heap) (locs : List Loc), va_P D vwCl (wG a0 a1 a2 a3 a4 a5 c1 c2 c4 c5 made size tooG kept sizes rows taken) H → va_S A s.heap H locs → G H locs (F0 m 0 ls []) from hL _ _ hP va_S.rf
  clear hP
  intro H locs hP hS
  refine Gi _ _ _ ?_
  unfold wp_W_raise at h
  refine lv_aload_n hx hb d_W_raise_0 rfl (lv_at hl 0 rfl) ?_
  refine va_get (D := D) (ci := 0) (v := .ref a5) (C := R_W) (T := F_W) (N := 4) hx hb hB inF_W hown hK hP 3 rfl rfl 1 (by decide) (hB _ wd_29) (fun _ h9 => h9) rfl d_W_raise_1 ?_
  refine lv_iload_n hx hb d_W_raise_4 rfl (lv_at hl 1 rfl) ?_
  obtain ⟨g1, h⟩ := h
  refine va_iald hx hb hK hP 5 3 rfl rfl g1 d_W_raise_5 ?_
  refine lv_iload_n hx hb d_W_raise_6 rfl (lv_at hl 2 rfl) ?_
  refine lv_iadd hx hb d_W_raise_7 ?_
  refine lv_topi (fun x2 ex2 => ?_)
  replace h := h x2 ex2
  refine lv_istore_n (lv' := [(3, .int x2), (0, .ref a3), (1, .int p0), (2, .int p1)]) hx hb d_W_raise_8 rfl hl (by decide) rfl (fun ls hl => ?_)
  refine lv_iload_n hx hb d_W_raise_9 rfl (lv_at hl 0 rfl) ?_
  refine lv_bipush (v := (-99)) hx hb d_W_raise_10 (by decide) ?_
  refine lv_icmp_lt (tgt := 21) hx hb d_W_raise_12 (by decide) (fun hc3 => ?_) (fun hc3 => ?_)
  · replace h := h.1 hc3
    refine lv_aload_n hx hb d_W_raise_21 rfl (lv_at hl 1 rfl) ?_
    refine lv_iconst (v := 1) hx hb d_W_raise_22 (by decide) ?_
    refine va_put (D := D) (ci := 0) (v := .int 1) (ty := .boolean) (C := R_W) (T := F_W) (N := 4) hx hb hB inF_W t_W t_W_ok n_W hown hK hP hD hS 3 rfl rfl 3 (by decide) (hB _ wd_32) (fun _ h9 => h9) rfl (by decide +kernel) rfl rfl (Nat.le_of_ble_eq_true rfl) d_W_raise_23 (fun H locs hP hD hS => ?_)
    have hP : va_P D vwCl (wG a0 a1 a2 a3 a4 a5 c1 c2 c4 c5 made size 1 kept sizes rows taken) H := hP
    have hD : va_D A (wG a0 a1 a2 a3 a4 a5 c1 c2 c4 c5 made size 1 kept sizes rows taken) := hD
    refine lv_goto (tgt := 36) hx hb d_W_raise_26 (by decide) ?_
    exact W.vret hx hb hr (fun t ht hW => ⟨⟨(1, taken), rfl, h, by rw [ht]; exact hP, va_K.moved hW.alike hK, hD⟩, hS.F ht⟩) hS.2.2 d_W_raise_36
  · replace h := h.2 hc3
    refine lv_iload_n hx hb d_W_raise_15 rfl (lv_at hl 0 rfl) ?_
    refine lv_bipush (v := 99) hx hb d_W_raise_16 (by decide) ?_
    refine lv_icmp_le (tgt := 29) hx hb d_W_raise_18 (by decide) (fun hc4 => ?_) (fun hc4 => ?_)
    · replace h := h.1 hc4
      refine lv_aload_n hx hb d_W_raise_29 rfl (lv_at hl 1 rfl) ?_
      refine va_get (D := D) (ci := 0) (v := .ref a5) (C := R_W) (T := F_W) (N := 4) hx hb hB inF_W hown hK hP 3 rfl rfl 1 (by decide) (hB _ wd_29) (fun _ h9 => h9) rfl d_W_raise_30 ?_
      refine lv_iload_n hx hb d_W_raise_33 rfl (lv_at hl 2 rfl) ?_
      refine lv_iload_n hx hb d_W_raise_34 rfl (lv_at hl 0 rfl) ?_
      obtain ⟨g5, h⟩ := h
      obtain ⟨taken_6, etaken_6⟩ : ∃ z : (Nat → Int32), z = upd taken p0.toNatClampNeg x2 := ⟨_, rfl⟩
      replace h := h taken_6 etaken_6
      refine va_iast hx hb hK hP hD hS 5 3 rfl rfl g5 d_W_raise_35 (fun H locs hP hD hS => ?_)
      have hP : va_P D vwCl (wG a0 a1 a2 a3 a4 a5 c1 c2 c4 c5 made size tooG kept sizes rows taken_6) H := by rw [etaken_6]; exact hP
      have hD : va_D A (wG a0 a1 a2 a3 a4 a5 c1 c2 c4 c5 made size tooG kept sizes rows taken_6) := by rw [etaken_6]; exact hD
      exact W.vret hx hb hr (fun t ht hW => ⟨⟨(tooG, taken_6), rfl, h, by rw [ht]; exact hP, va_K.moved hW.alike hK, hD⟩, hS.F ht⟩) hS.2.2 d_W_raise_36
    · replace h := h.2 hc4
      refine lv_aload_n hx hb d_W_raise_21 rfl (lv_at hl 1 rfl) ?_
      refine lv_iconst (v := 1) hx hb d_W_raise_22 (by decide) ?_
      refine va_put (D := D) (ci := 0) (v := .int 1) (ty := .boolean) (C := R_W) (T := F_W) (N := 4) hx hb hB inF_W t_W t_W_ok n_W hown hK hP hD hS 3 rfl rfl 3 (by decide) (hB _ wd_32) (fun _ h9 => h9) rfl (by decide +kernel) rfl rfl (Nat.le_of_ble_eq_true rfl) d_W_raise_23 (fun H locs hP hD hS => ?_)
      have hP : va_P D vwCl (wG a0 a1 a2 a3 a4 a5 c1 c2 c4 c5 made size 1 kept sizes rows taken) H := hP
      have hD : va_D A (wG a0 a1 a2 a3 a4 a5 c1 c2 c4 c5 made size 1 kept sizes rows taken) := hD
      refine lv_goto (tgt := 36) hx hb d_W_raise_26 (by decide) ?_
      exact W.vret hx hb hr (fun t ht hW => ⟨⟨(1, taken), rfl, h, by rw [ht]; exact hP, va_K.moved hW.alike hK, hD⟩, hS.F ht⟩) hS.2.2 d_W_raise_36
set_option maxHeartbeats 4000000 in
set_option maxRecDepth 100000 in
theorem c_G_divisorOf (l : Launch) (D : va_G) (a0 a1 a2 a3 a4 a5 : Nat) (c1 c2 c4 c5 : ClassId) (sz : Nat) (made : Int32) (size : Int32) (tooG : Int32) (kept : (Nat → Int32)) (sizes : (Nat → Int32)) (rows : (Nat → Int32)) (taken : (Nat → Int32)) (p0 : Int64) (p1 : Int64) (post : Int64 → Prop) : Met l y_G_divisorOf (Cond.code y_G_divisorOf b_G_divisorOf 11 (some .long) :: BIG) ({ frames := 1, cells := 0, slots := 0, locals := 21 }) (va_Pc [.long p0, .long p1] (pcX D vwCl (wG a0 a1 a2 a3 a4 a5 c1 c2 c4 c5 made size tooG kept sizes rows taken) [(c1, .int), (c2, .int), (c4, .int), (c5, .int)] sz (wp_G_divisorOf p0 p1 post))) (va_Ql (fun (r : Int64) (_ : Unit) => post r) (fun _ => atG D vwCl [(c1, .int), (c2, .int), (c4, .int), (c5, .int)] (va_A (wG a0 a1 a2 a3 a4 a5 c1 c2 c4 c5 made size tooG kept sizes rows taken) sz) (wG a0 a1 a2 a3 a4 a5 c1 c2 c4 c5 made size tooG kept sizes rows taken)) (va_A (wG a0 a1 a2 a3 a4 a5 c1 c2 c4 c5 made size tooG kept sizes rows taken) sz)) 0 0 (va_A (wG a0 a1 a2 a3 a4 a5 c1 c2 c4 c5 made size tooG kept sizes rows taken) sz) := by
  refine Met.ofW (cc := b_G_divisorOf) (maxL := 11) (ret := (some .long)) (by decide) rfl ?_
  intro p e s m args below meth c s₁ B hml hv
  obtain ⟨rfl, hsz, hP, hK, hD0, hX, h⟩ := hv
  have hx := B.exec
  have hb := B.bytes
  have hr := B.returns
  have hB : ∀ w ∈ BIG, w.before _ s = true := fun w h => atoms_spec (ws := (Cond.code y_G_divisorOf b_G_divisorOf 11 (some .long) :: BIG)) B.pre w (List.mem_cons_of_mem _ h)
  have hown : s.vm.findClass R_G = some m.cls := findClass_of_methodNamed B.named
  have hlocks := B.notSynchronized
  subst hsz
  have hD := hD0.self (sz := s.heap.size)
  generalize hAe : va_A (wG a0 a1 a2 a3 a4 a5 c1 c2 c4 c5 made size tooG kept sizes rows taken) s.heap.size = A at hD hX ⊢
  have hA : ∀ q : Nat, s.heap.size ≤ q → A q := fun q h => by rw [← hAe]; exact Or.inr h
  have hl := lv_entry ([.long p0, .long p1]) (n := 11) (Nat.le_of_ble_eq_true rfl)
  rw [lg_entry_eq]
  generalize (lg_sl ([.long p0, .long p1]) ++ List.replicate (11 - (lg_sl ([.long p0, .long p1])).length) Slot.unset).toArray = ls at hl ⊢
  have hl : lv_has ls 11 [(0, .long p0), (2, .long p1)] := hl
  refine W.cap (fun G Gi Ge => ?_)
  suffices hL : ∀ (H : Heap) (locs : List Loc), va_P D vwCl (wG a0 a1 a2 a3 a4 a5 c1 c2 c4 c5 made size tooG kept sizes rows taken) H → va_S A s.heap H locs → G H locs (F0 m 0 ls []) from hL _ _ hP va_S.rf
  clear hP
  intro H locs hP hS
  refine Gi _ _ _ ?_
  unfold wp_G_divisorOf at h
  refine lv_lload_n hx hb d_G_divisorOf_0 rfl (lv_at hl 0 rfl) ?_
  refine va_mabs_long hx hb (hml.trans hl.1.symm) hown (hB _ wd_115) (hB _ wd_116) (hB _ wd_9) (hB _ wd_117) (Nat.le_of_ble_eq_true rfl) (Nat.le_of_ble_eq_true rfl) (Nat.le_of_ble_eq_true rfl) (Nat.le_of_ble_eq_true rfl) d_G_divisorOf_1 ?_
  refine lv_topl (fun x1 ex1 => ?_)
  replace h := h x1 ex1
  refine lv_lstore (lv' := [(4, .long x1), (0, .long p0), (2, .long p1)]) hx hb d_G_divisorOf_4 hl (by decide) rfl (fun ls hl => ?_)
  refine lv_lload_n hx hb d_G_divisorOf_6 rfl (lv_at hl 2 rfl) ?_
  refine va_mabs_long hx hb (hml.trans hl.1.symm) hown (hB _ wd_115) (hB _ wd_116) (hB _ wd_9) (hB _ wd_117) (Nat.le_of_ble_eq_true rfl) (Nat.le_of_ble_eq_true rfl) (Nat.le_of_ble_eq_true rfl) (Nat.le_of_ble_eq_true rfl) d_G_divisorOf_7 ?_
  refine lv_topl (fun x2 ex2 => ?_)
  replace h := h x2 ex2
  refine lv_lstore (lv' := [(6, .long x2), (4, .long x1), (0, .long p0), (2, .long p1)]) hx hb d_G_divisorOf_10 hl (by decide) rfl (fun ls hl => ?_)
  refine lv_iconst (v := 0) hx hb d_G_divisorOf_12 (by decide) ?_
  refine lv_istore (lv' := [(8, .int 0), (6, .long x2), (4, .long x1), (0, .long p0), (2, .long p1)]) hx hb d_G_divisorOf_13 hl (by decide) rfl (fun ls hl => ?_)
  obtain ⟨n15, h⟩ := h
  refine W.cap (fun G15 Gi15 Ge15 => ?_)
  suffices hL15 : ∀ (n15 : Nat) (v4_3 : Int64) (v6_4 : Int64) (v8_5 : Int32) (H : Heap) (locs : List Loc) (ls : Array Slot), va_P D vwCl (wG a0 a1 a2 a3 a4 a5 c1 c2 c4 c5 made size tooG kept sizes rows taken) H → va_D A (wG a0 a1 a2 a3 a4 a5 c1 c2 c4 c5 made size tooG kept sizes rows taken) → va_S A s.heap H locs → lv_has ls 11 [(8, .int v8_5), (6, .long v6_4), (4, .long v4_3), (0, .long p0), (2, .long p1)] → lpW3 (wb_G_divisorOf_15 p1 post) n15 v4_3 v6_4 v8_5 → G15 H locs (F0 m 15 ls []) from hL15 n15 x1 x2 (0 : Int32) _ _ _ hP hD hS hl h
  clear h hP hD hS hl
  intro n15
  induction n15 with
  | zero => intro v4_3 v6_4 v8_5 H locs ls hP hD hS hl h; exact (show False from h).elim
  | succ n15 ihL15 =>
    intro v4_3 v6_4 v8_5 H locs ls hP hD hS hl h
    replace h : (wb_G_divisorOf_15 p1 post) (lpW3 (wb_G_divisorOf_15 p1 post) n15) v4_3 v6_4 v8_5 := h
    refine Gi15 _ _ _ ?_
    refine lv_iload hx hb d_G_divisorOf_15 (lv_at hl 0 rfl) ?_
    refine lv_sipush (v := 200) hx hb d_G_divisorOf_17 (by decide) ?_
    refine lv_icmp_ge (tgt := 51) hx hb d_G_divisorOf_20 (by decide) (fun hc6 => ?_) (fun hc6 => ?_)
    · replace h := h.1 hc6
      refine lv_lload hx hb d_G_divisorOf_51 (lv_at hl 2 rfl) ?_
      refine lv_lconst (v := 0) hx hb d_G_divisorOf_53 (by decide) ?_
      refine W.lcmp hx hb d_G_divisorOf_54 ?_
      refine lv_if_ne (tgt := 60) hx hb d_G_divisorOf_55 (by decide) (fun hc7 => ?_) (fun hc7 => ?_)
      · replace h := h.1 hc7
        refine lv_lload_n hx hb d_G_divisorOf_60 rfl (lv_at hl 4 rfl) ?_
        refine lv_lconst (v := 0) hx hb d_G_divisorOf_61 (by decide) ?_
        refine W.lcmp hx hb d_G_divisorOf_62 ?_
        refine lv_if_ge (tgt := 72) hx hb d_G_divisorOf_63 (by decide) (fun hc8 => ?_) (fun hc8 => ?_)
        · replace h := h.1 hc8
          refine lv_lload hx hb d_G_divisorOf_72 (lv_at hl 2 rfl) ?_
          exact W.lret (v := v4_3) hx hb hr (fun t ht hW => ⟨⟨v4_3, (), rfl, h, by rw [ht]; exact hP, va_K.moved hW.alike hK, hD⟩, hS.F ht⟩) hS.2.2 d_G_divisorOf_74
        · replace h := h.2 hc8
          refine lv_lload hx hb d_G_divisorOf_66 (lv_at hl 2 rfl) ?_
          refine lv_lneg hx hb d_G_divisorOf_68 ?_
          refine lv_goto (tgt := 74) hx hb d_G_divisorOf_69 (by decide) ?_
          exact W.lret (v := -v4_3) hx hb hr (fun t ht hW => ⟨⟨-v4_3, (), rfl, h, by rw [ht]; exact hP, va_K.moved hW.alike hK, hD⟩, hS.F ht⟩) hS.2.2 d_G_divisorOf_74
      · replace h := h.2 hc7
        refine lv_lconst (v := 1) hx hb d_G_divisorOf_58 (by decide) ?_
        exact W.lret (v := 1) hx hb hr (fun t ht hW => ⟨⟨1, (), rfl, h, by rw [ht]; exact hP, va_K.moved hW.alike hK, hD⟩, hS.F ht⟩) hS.2.2 d_G_divisorOf_59
    · replace h := h.2 hc6
      refine lv_lload hx hb d_G_divisorOf_23 (lv_at hl 1 rfl) ?_
      refine lv_lconst (v := 0) hx hb d_G_divisorOf_25 (by decide) ?_
      refine W.lcmp hx hb d_G_divisorOf_26 ?_
      refine lv_if_eq (tgt := 51) hx hb d_G_divisorOf_27 (by decide) (fun hc9 => ?_) (fun hc9 => ?_)
      · replace h := h.1 hc9
        refine lv_lload hx hb d_G_divisorOf_51 (lv_at hl 2 rfl) ?_
        refine lv_lconst (v := 0) hx hb d_G_divisorOf_53 (by decide) ?_
        refine W.lcmp hx hb d_G_divisorOf_54 ?_
        refine lv_if_ne (tgt := 60) hx hb d_G_divisorOf_55 (by decide) (fun hc10 => ?_) (fun hc10 => ?_)
        · replace h := h.1 hc10
          refine lv_lload_n hx hb d_G_divisorOf_60 rfl (lv_at hl 4 rfl) ?_
          refine lv_lconst (v := 0) hx hb d_G_divisorOf_61 (by decide) ?_
          refine W.lcmp hx hb d_G_divisorOf_62 ?_
          refine lv_if_ge (tgt := 72) hx hb d_G_divisorOf_63 (by decide) (fun hc11 => ?_) (fun hc11 => ?_)
          · replace h := h.1 hc11
            refine lv_lload hx hb d_G_divisorOf_72 (lv_at hl 2 rfl) ?_
            exact W.lret (v := v4_3) hx hb hr (fun t ht hW => ⟨⟨v4_3, (), rfl, h, by rw [ht]; exact hP, va_K.moved hW.alike hK, hD⟩, hS.F ht⟩) hS.2.2 d_G_divisorOf_74
          · replace h := h.2 hc11
            refine lv_lload hx hb d_G_divisorOf_66 (lv_at hl 2 rfl) ?_
            refine lv_lneg hx hb d_G_divisorOf_68 ?_
            refine lv_goto (tgt := 74) hx hb d_G_divisorOf_69 (by decide) ?_
            exact W.lret (v := -v4_3) hx hb hr (fun t ht hW => ⟨⟨-v4_3, (), rfl, h, by rw [ht]; exact hP, va_K.moved hW.alike hK, hD⟩, hS.F ht⟩) hS.2.2 d_G_divisorOf_74
        · replace h := h.2 hc10
          refine lv_lconst (v := 1) hx hb d_G_divisorOf_58 (by decide) ?_
          exact W.lret (v := 1) hx hb hr (fun t ht hW => ⟨⟨1, (), rfl, h, by rw [ht]; exact hP, va_K.moved hW.alike hK, hD⟩, hS.F ht⟩) hS.2.2 d_G_divisorOf_59
      · replace h := h.2 hc9
        refine lv_lload hx hb d_G_divisorOf_30 (lv_at hl 2 rfl) ?_
        refine lv_lload hx hb d_G_divisorOf_32 (lv_at hl 1 rfl) ?_
        obtain ⟨g12, h⟩ := h
        refine lv_lrem hx hb d_G_divisorOf_34 g12 ?_
        refine lv_topl (fun x13 ex13 => ?_)
        replace h := h x13 ex13
        refine lv_lstore (lv' := [(9, .long x13), (8, .int v8_5), (6, .long v6_4), (4, .long v4_3), (0, .long p0), (2, .long p1)]) hx hb d_G_divisorOf_35 hl (by decide) rfl (fun ls hl => ?_)
        refine lv_lload hx hb d_G_divisorOf_37 (lv_at hl 2 rfl) ?_
        refine lv_lstore (lv' := [(4, .long v6_4), (9, .long x13), (8, .int v8_5), (6, .long v6_4), (0, .long p0), (2, .long p1)]) hx hb d_G_divisorOf_39 hl (by decide) rfl (fun ls hl => ?_)
        refine lv_lload hx hb d_G_divisorOf_41 (lv_at hl 1 rfl) ?_
        refine lv_lstore (lv' := [(6, .long x13), (4, .long v6_4), (9, .long x13), (8, .int v8_5), (0, .long p0), (2, .long p1)]) hx hb d_G_divisorOf_43 hl (by decide) rfl (fun ls hl => ?_)
        obtain ⟨x14, ex14⟩ : ∃ z : Int32, z = v8_5 + 1 := ⟨_, rfl⟩
        replace h := h x14 ex14
        refine lv_iinc (v := x14) (lv' := [(8, .int x14), (6, .long x13), (4, .long v6_4), (9, .long x13), (0, .long p0), (2, .long p1)]) hx hb d_G_divisorOf_45 hl (k := 3) rfl (by rw [ex14]; rfl) (by decide) rfl (fun ls hl => ?_)
        refine lv_goto (tgt := 15) hx hb d_G_divisorOf_48 (by decide) ?_
        exact Ge15 _ _ _ (ihL15 v6_4 x13 x14 _ _ _ hP hD hS (lv_sub hl [0, 1, 2, 4, 5] rfl) h)
set_option maxHeartbeats 4000000 in
set_option maxRecDepth 100000 in
theorem c_G_rankOfTerms_rt (l : Launch) (D : va_G) (a0 a1 a2 a3 a4 a5 : Nat) (c1 c2 c4 c5 : ClassId) (sz : Nat) (made : Int32) (size : Int32) (tooG : Int32) (kept : (Nat → Int32)) (sizes : (Nat → Int32)) (rows : (Nat → Int32)) (taken : (Nat → Int32)) (p1 : Int32) (p3 : Int32) (post : Int32 → Prop) : Met l y_G_rankOfTerms (Cond.code y_G_rankOfTerms b_G_rankOfTerms 5 (some .int) :: BIG) ({ frames := 0, cells := 0, slots := 0, locals := 0 }) (va_Pc [.ref a4, .int p1, .ref a5, .int p3] (pcX D vwCl (wG a0 a1 a2 a3 a4 a5 c1 c2 c4 c5 made size tooG kept sizes rows taken) [(c1, .int), (c2, .int), (c4, .int), (c5, .int)] sz (wp_G_rankOfTerms_rt rows taken p1 p3 post))) (va_Qi (fun (r : Int32) (_ : Unit) => post r) (fun _ => atG D vwCl [(c1, .int), (c2, .int), (c4, .int), (c5, .int)] (va_A (wG a0 a1 a2 a3 a4 a5 c1 c2 c4 c5 made size tooG kept sizes rows taken) sz) (wG a0 a1 a2 a3 a4 a5 c1 c2 c4 c5 made size tooG kept sizes rows taken)) (va_A (wG a0 a1 a2 a3 a4 a5 c1 c2 c4 c5 made size tooG kept sizes rows taken) sz)) 0 0 (va_A (wG a0 a1 a2 a3 a4 a5 c1 c2 c4 c5 made size tooG kept sizes rows taken) sz) := by
  refine Met.ofW (cc := b_G_rankOfTerms) (maxL := 5) (ret := (some .int)) (by decide) rfl ?_
  intro p e s m args below meth c s₁ B hml hv
  obtain ⟨rfl, hsz, hP, hK, hD0, hX, h⟩ := hv
  have hx := B.exec
  have hb := B.bytes
  have hr := B.returns
  have hB : ∀ w ∈ BIG, w.before _ s = true := fun w h => atoms_spec (ws := (Cond.code y_G_rankOfTerms b_G_rankOfTerms 5 (some .int) :: BIG)) B.pre w (List.mem_cons_of_mem _ h)
  have hown : s.vm.findClass R_G = some m.cls := findClass_of_methodNamed B.named
  have hlocks := B.notSynchronized
  subst hsz
  have hD := hD0.self (sz := s.heap.size)
  generalize hAe : va_A (wG a0 a1 a2 a3 a4 a5 c1 c2 c4 c5 made size tooG kept sizes rows taken) s.heap.size = A at hD hX ⊢
  have hA : ∀ q : Nat, s.heap.size ≤ q → A q := fun q h => by rw [← hAe]; exact Or.inr h
  have hl := lv_entry ([.ref a4, .int p1, .ref a5, .int p3]) (n := 5) (Nat.le_of_ble_eq_true rfl)
  rw [lg_entry_eq]
  generalize (lg_sl ([.ref a4, .int p1, .ref a5, .int p3]) ++ List.replicate (5 - (lg_sl ([.ref a4, .int p1, .ref a5, .int p3])).length) Slot.unset).toArray = ls at hl ⊢
  have hl : lv_has ls 5 [(0, .ref a4), (1, .int p1), (2, .ref a5), (3, .int p3)] := hl
  refine W.cap (fun G Gi Ge => ?_)
  suffices hL : ∀ (H : Heap) (locs : List Loc), va_P D vwCl (wG a0 a1 a2 a3 a4 a5 c1 c2 c4 c5 made size tooG kept sizes rows taken) H → va_S A s.heap H locs → G H locs (F0 m 0 ls []) from hL _ _ hP va_S.rf
  clear hP
  intro H locs hP hS
  refine Gi _ _ _ ?_
  unfold wp_G_rankOfTerms_rt at h
  refine lv_iconst (v := 0) hx hb d_G_rankOfTerms_0 (by decide) ?_
  refine lv_istore (lv' := [(4, .int 0), (0, .ref a4), (1, .int p1), (2, .ref a5), (3, .int p3)]) hx hb d_G_rankOfTerms_1 hl (by decide) rfl (fun ls hl => ?_)
  obtain ⟨n3, h⟩ := h
  refine W.cap (fun G3 Gi3 Ge3 => ?_)
  suffices hL3 : ∀ (n3 : Nat) (v4_1 : Int32) (H : Heap) (locs : List Loc) (ls : Array Slot), va_P D vwCl (wG a0 a1 a2 a3 a4 a5 c1 c2 c4 c5 made size tooG kept sizes rows taken) H → va_D A (wG a0 a1 a2 a3 a4 a5 c1 c2 c4 c5 made size tooG kept sizes rows taken) → va_S A s.heap H locs → lv_has ls 5 [(4, .int v4_1), (0, .ref a4), (1, .int p1), (2, .ref a5), (3, .int p3)] → lpW1 (wb_G_rankOfTerms_rt_3 post p1 p3 rows taken) n3 v4_1 → G3 H locs (F0 m 3 ls []) from hL3 n3 (0 : Int32) _ _ _ hP hD hS hl h
  clear h hP hD hS hl
  intro n3
  induction n3 with
  | zero => intro v4_1 H locs ls hP hD hS hl h; exact (show False from h).elim
  | succ n3 ihL3 =>
    intro v4_1 H locs ls hP hD hS hl h
    replace h : (wb_G_rankOfTerms_rt_3 post p1 p3 rows taken) (lpW1 (wb_G_rankOfTerms_rt_3 post p1 p3 rows taken) n3) v4_1 := h
    refine Gi3 _ _ _ ?_
    refine lv_iload hx hb d_G_rankOfTerms_3 (lv_at hl 0 rfl) ?_
    refine lv_iconst (v := 5) hx hb d_G_rankOfTerms_5 (by decide) ?_
    refine lv_icmp_ge (tgt := 51) hx hb d_G_rankOfTerms_6 (by decide) (fun hc2 => ?_) (fun hc2 => ?_)
    · replace h := h.1 hc2
      refine lv_iconst (v := 0) hx hb d_G_rankOfTerms_51 (by decide) ?_
      exact W.iret (v := 0) hx hb hr (fun t ht hW => ⟨⟨0, (), rfl, h, by rw [ht]; exact hP, va_K.moved hW.alike hK, hD⟩, hS.F ht⟩) hS.2.2 d_G_rankOfTerms_52
    · replace h := h.2 hc2
      refine lv_aload_n hx hb d_G_rankOfTerms_9 rfl (lv_at hl 1 rfl) ?_
      refine lv_iload_n hx hb d_G_rankOfTerms_10 rfl (lv_at hl 2 rfl) ?_
      refine lv_iload hx hb d_G_rankOfTerms_11 (lv_at hl 0 rfl) ?_
      refine lv_iadd hx hb d_G_rankOfTerms_13 ?_
      obtain ⟨g3, h⟩ := h
      refine va_iald hx hb hK hP 4 2 rfl rfl g3 d_G_rankOfTerms_14 ?_
      refine lv_aload_n hx hb d_G_rankOfTerms_15 rfl (lv_at hl 3 rfl) ?_
      refine lv_iload_n hx hb d_G_rankOfTerms_16 rfl (lv_at hl 4 rfl) ?_
      refine lv_iload hx hb d_G_rankOfTerms_17 (lv_at hl 0 rfl) ?_
      refine lv_iadd hx hb d_G_rankOfTerms_19 ?_
      obtain ⟨g4, h⟩ := h
      refine va_iald hx hb hK hP 5 3 rfl rfl g4 d_G_rankOfTerms_20 ?_
      refine lv_icmp_eq (tgt := 45) hx hb d_G_rankOfTerms_21 (by decide) (fun hc5 => ?_) (fun hc5 => ?_)
      · replace h := h.1 hc5
        obtain ⟨x6, ex6⟩ : ∃ z : Int32, z = v4_1 + 1 := ⟨_, rfl⟩
        replace h := h x6 ex6
        refine lv_iinc (v := x6) (lv' := [(4, .int x6), (0, .ref a4), (1, .int p1), (2, .ref a5), (3, .int p3)]) hx hb d_G_rankOfTerms_45 hl (k := 0) rfl (by rw [ex6]; rfl) (by decide) rfl (fun ls hl => ?_)
        refine lv_goto (tgt := 3) hx hb d_G_rankOfTerms_48 (by decide) ?_
        exact Ge3 _ _ _ (ihL3 x6 _ _ _ hP hD hS (lv_sub hl [0, 1, 2, 3, 4] rfl) h)
      · replace h := h.2 hc5
        refine lv_aload_n hx hb d_G_rankOfTerms_24 rfl (lv_at hl 1 rfl) ?_
        refine lv_iload_n hx hb d_G_rankOfTerms_25 rfl (lv_at hl 2 rfl) ?_
        refine lv_iload hx hb d_G_rankOfTerms_26 (lv_at hl 0 rfl) ?_
        refine lv_iadd hx hb d_G_rankOfTerms_28 ?_
        obtain ⟨g7, h⟩ := h
        refine va_iald hx hb hK hP 4 2 rfl rfl g7 d_G_rankOfTerms_29 ?_
        refine lv_aload_n hx hb d_G_rankOfTerms_30 rfl (lv_at hl 3 rfl) ?_
        refine lv_iload_n hx hb d_G_rankOfTerms_31 rfl (lv_at hl 4 rfl) ?_
        refine lv_iload hx hb d_G_rankOfTerms_32 (lv_at hl 0 rfl) ?_
        refine lv_iadd hx hb d_G_rankOfTerms_34 ?_
        obtain ⟨g8, h⟩ := h
        refine va_iald hx hb hK hP 5 3 rfl rfl g8 d_G_rankOfTerms_35 ?_
        refine lv_icmp_le (tgt := 43) hx hb d_G_rankOfTerms_36 (by decide) (fun hc9 => ?_) (fun hc9 => ?_)
        · replace h := h.1 hc9
          refine lv_iconst (v := (-1)) hx hb d_G_rankOfTerms_43 (by decide) ?_
          exact W.iret (v := (-1)) hx hb hr (fun t ht hW => ⟨⟨(-1), (), rfl, h, by rw [ht]; exact hP, va_K.moved hW.alike hK, hD⟩, hS.F ht⟩) hS.2.2 d_G_rankOfTerms_44
        · replace h := h.2 hc9
          refine lv_iconst (v := 1) hx hb d_G_rankOfTerms_39 (by decide) ?_
          refine lv_goto (tgt := 44) hx hb d_G_rankOfTerms_40 (by decide) ?_
          exact W.iret (v := 1) hx hb hr (fun t ht hW => ⟨⟨1, (), rfl, h, by rw [ht]; exact hP, va_K.moved hW.alike hK, hD⟩, hS.F ht⟩) hS.2.2 d_G_rankOfTerms_44
set_option maxHeartbeats 4000000 in
set_option maxRecDepth 100000 in
theorem c_G_rankOfTerms_kk (l : Launch) (D : va_G) (a0 a1 a2 a3 a4 a5 : Nat) (c1 c2 c4 c5 : ClassId) (sz : Nat) (made : Int32) (size : Int32) (tooG : Int32) (kept : (Nat → Int32)) (sizes : (Nat → Int32)) (rows : (Nat → Int32)) (taken : (Nat → Int32)) (p1 : Int32) (p3 : Int32) (post : Int32 → Prop) : Met l y_G_rankOfTerms (Cond.code y_G_rankOfTerms b_G_rankOfTerms 5 (some .int) :: BIG) ({ frames := 0, cells := 0, slots := 0, locals := 0 }) (va_Pc [.ref a1, .int p1, .ref a1, .int p3] (pcX D vwCl (wG a0 a1 a2 a3 a4 a5 c1 c2 c4 c5 made size tooG kept sizes rows taken) [(c1, .int), (c2, .int), (c4, .int), (c5, .int)] sz (wp_G_rankOfTerms_kk kept p1 p3 post))) (va_Qi (fun (r : Int32) (_ : Unit) => post r) (fun _ => atG D vwCl [(c1, .int), (c2, .int), (c4, .int), (c5, .int)] (va_A (wG a0 a1 a2 a3 a4 a5 c1 c2 c4 c5 made size tooG kept sizes rows taken) sz) (wG a0 a1 a2 a3 a4 a5 c1 c2 c4 c5 made size tooG kept sizes rows taken)) (va_A (wG a0 a1 a2 a3 a4 a5 c1 c2 c4 c5 made size tooG kept sizes rows taken) sz)) 0 0 (va_A (wG a0 a1 a2 a3 a4 a5 c1 c2 c4 c5 made size tooG kept sizes rows taken) sz) := by
  refine Met.ofW (cc := b_G_rankOfTerms) (maxL := 5) (ret := (some .int)) (by decide) rfl ?_
  intro p e s m args below meth c s₁ B hml hv
  obtain ⟨rfl, hsz, hP, hK, hD0, hX, h⟩ := hv
  have hx := B.exec
  have hb := B.bytes
  have hr := B.returns
  have hB : ∀ w ∈ BIG, w.before _ s = true := fun w h => atoms_spec (ws := (Cond.code y_G_rankOfTerms b_G_rankOfTerms 5 (some .int) :: BIG)) B.pre w (List.mem_cons_of_mem _ h)
  have hown : s.vm.findClass R_G = some m.cls := findClass_of_methodNamed B.named
  have hlocks := B.notSynchronized
  subst hsz
  have hD := hD0.self (sz := s.heap.size)
  generalize hAe : va_A (wG a0 a1 a2 a3 a4 a5 c1 c2 c4 c5 made size tooG kept sizes rows taken) s.heap.size = A at hD hX ⊢
  have hA : ∀ q : Nat, s.heap.size ≤ q → A q := fun q h => by rw [← hAe]; exact Or.inr h
  have hl := lv_entry ([.ref a1, .int p1, .ref a1, .int p3]) (n := 5) (Nat.le_of_ble_eq_true rfl)
  rw [lg_entry_eq]
  generalize (lg_sl ([.ref a1, .int p1, .ref a1, .int p3]) ++ List.replicate (5 - (lg_sl ([.ref a1, .int p1, .ref a1, .int p3])).length) Slot.unset).toArray = ls at hl ⊢
  have hl : lv_has ls 5 [(0, .ref a1), (1, .int p1), (2, .ref a1), (3, .int p3)] := hl
  refine W.cap (fun G Gi Ge => ?_)
  suffices hL : ∀ (H : Heap) (locs : List Loc), va_P D vwCl (wG a0 a1 a2 a3 a4 a5 c1 c2 c4 c5 made size tooG kept sizes rows taken) H → va_S A s.heap H locs → G H locs (F0 m 0 ls []) from hL _ _ hP va_S.rf
  clear hP
  intro H locs hP hS
  refine Gi _ _ _ ?_
  unfold wp_G_rankOfTerms_kk at h
  refine lv_iconst (v := 0) hx hb d_G_rankOfTerms_0 (by decide) ?_
  refine lv_istore (lv' := [(4, .int 0), (0, .ref a1), (1, .int p1), (2, .ref a1), (3, .int p3)]) hx hb d_G_rankOfTerms_1 hl (by decide) rfl (fun ls hl => ?_)
  obtain ⟨n3, h⟩ := h
  refine W.cap (fun G3 Gi3 Ge3 => ?_)
  suffices hL3 : ∀ (n3 : Nat) (v4_1 : Int32) (H : Heap) (locs : List Loc) (ls : Array Slot), va_P D vwCl (wG a0 a1 a2 a3 a4 a5 c1 c2 c4 c5 made size tooG kept sizes rows taken) H → va_D A (wG a0 a1 a2 a3 a4 a5 c1 c2 c4 c5 made size tooG kept sizes rows taken) → va_S A s.heap H locs → lv_has ls 5 [(4, .int v4_1), (0, .ref a1), (1, .int p1), (2, .ref a1), (3, .int p3)] → lpW1 (wb_G_rankOfTerms_kk_3 post p1 p3 kept) n3 v4_1 → G3 H locs (F0 m 3 ls []) from hL3 n3 (0 : Int32) _ _ _ hP hD hS hl h
  clear h hP hD hS hl
  intro n3
  induction n3 with
  | zero => intro v4_1 H locs ls hP hD hS hl h; exact (show False from h).elim
  | succ n3 ihL3 =>
    intro v4_1 H locs ls hP hD hS hl h
    replace h : (wb_G_rankOfTerms_kk_3 post p1 p3 kept) (lpW1 (wb_G_rankOfTerms_kk_3 post p1 p3 kept) n3) v4_1 := h
    refine Gi3 _ _ _ ?_
    refine lv_iload hx hb d_G_rankOfTerms_3 (lv_at hl 0 rfl) ?_
    refine lv_iconst (v := 5) hx hb d_G_rankOfTerms_5 (by decide) ?_
    refine lv_icmp_ge (tgt := 51) hx hb d_G_rankOfTerms_6 (by decide) (fun hc2 => ?_) (fun hc2 => ?_)
    · replace h := h.1 hc2
      refine lv_iconst (v := 0) hx hb d_G_rankOfTerms_51 (by decide) ?_
      exact W.iret (v := 0) hx hb hr (fun t ht hW => ⟨⟨0, (), rfl, h, by rw [ht]; exact hP, va_K.moved hW.alike hK, hD⟩, hS.F ht⟩) hS.2.2 d_G_rankOfTerms_52
    · replace h := h.2 hc2
      refine lv_aload_n hx hb d_G_rankOfTerms_9 rfl (lv_at hl 1 rfl) ?_
      refine lv_iload_n hx hb d_G_rankOfTerms_10 rfl (lv_at hl 2 rfl) ?_
      refine lv_iload hx hb d_G_rankOfTerms_11 (lv_at hl 0 rfl) ?_
      refine lv_iadd hx hb d_G_rankOfTerms_13 ?_
      obtain ⟨g3, h⟩ := h
      refine va_iald hx hb hK hP 1 0 rfl rfl g3 d_G_rankOfTerms_14 ?_
      refine lv_aload_n hx hb d_G_rankOfTerms_15 rfl (lv_at hl 3 rfl) ?_
      refine lv_iload_n hx hb d_G_rankOfTerms_16 rfl (lv_at hl 4 rfl) ?_
      refine lv_iload hx hb d_G_rankOfTerms_17 (lv_at hl 0 rfl) ?_
      refine lv_iadd hx hb d_G_rankOfTerms_19 ?_
      obtain ⟨g4, h⟩ := h
      refine va_iald hx hb hK hP 1 0 rfl rfl g4 d_G_rankOfTerms_20 ?_
      refine lv_icmp_eq (tgt := 45) hx hb d_G_rankOfTerms_21 (by decide) (fun hc5 => ?_) (fun hc5 => ?_)
      · replace h := h.1 hc5
        obtain ⟨x6, ex6⟩ : ∃ z : Int32, z = v4_1 + 1 := ⟨_, rfl⟩
        replace h := h x6 ex6
        refine lv_iinc (v := x6) (lv' := [(4, .int x6), (0, .ref a1), (1, .int p1), (2, .ref a1), (3, .int p3)]) hx hb d_G_rankOfTerms_45 hl (k := 0) rfl (by rw [ex6]; rfl) (by decide) rfl (fun ls hl => ?_)
        refine lv_goto (tgt := 3) hx hb d_G_rankOfTerms_48 (by decide) ?_
        exact Ge3 _ _ _ (ihL3 x6 _ _ _ hP hD hS (lv_sub hl [0, 1, 2, 3, 4] rfl) h)
      · replace h := h.2 hc5
        refine lv_aload_n hx hb d_G_rankOfTerms_24 rfl (lv_at hl 1 rfl) ?_
        refine lv_iload_n hx hb d_G_rankOfTerms_25 rfl (lv_at hl 2 rfl) ?_
        refine lv_iload hx hb d_G_rankOfTerms_26 (lv_at hl 0 rfl) ?_
        refine lv_iadd hx hb d_G_rankOfTerms_28 ?_
        obtain ⟨g7, h⟩ := h
        refine va_iald hx hb hK hP 1 0 rfl rfl g7 d_G_rankOfTerms_29 ?_
        refine lv_aload_n hx hb d_G_rankOfTerms_30 rfl (lv_at hl 3 rfl) ?_
        refine lv_iload_n hx hb d_G_rankOfTerms_31 rfl (lv_at hl 4 rfl) ?_
        refine lv_iload hx hb d_G_rankOfTerms_32 (lv_at hl 0 rfl) ?_
        refine lv_iadd hx hb d_G_rankOfTerms_34 ?_
        obtain ⟨g8, h⟩ := h
        refine va_iald hx hb hK hP 1 0 rfl rfl g8 d_G_rankOfTerms_35 ?_
        refine lv_icmp_le (tgt := 43) hx hb d_G_rankOfTerms_36 (by decide) (fun hc9 => ?_) (fun hc9 => ?_)
        · replace h := h.1 hc9
          refine lv_iconst (v := (-1)) hx hb d_G_rankOfTerms_43 (by decide) ?_
          exact W.iret (v := (-1)) hx hb hr (fun t ht hW => ⟨⟨(-1), (), rfl, h, by rw [ht]; exact hP, va_K.moved hW.alike hK, hD⟩, hS.F ht⟩) hS.2.2 d_G_rankOfTerms_44
        · replace h := h.2 hc9
          refine lv_iconst (v := 1) hx hb d_G_rankOfTerms_39 (by decide) ?_
          refine lv_goto (tgt := 44) hx hb d_G_rankOfTerms_40 (by decide) ?_
          exact W.iret (v := 1) hx hb hr (fun t ht hW => ⟨⟨1, (), rfl, h, by rw [ht]; exact hP, va_K.moved hW.alike hK, hD⟩, hS.F ht⟩) hS.2.2 d_G_rankOfTerms_44
set_option maxHeartbeats 4000000 in
set_option maxRecDepth 100000 in
theorem c_G_rowOf (l : Launch) (D : va_G) (a0 a1 a2 a3 a4 a5 : Nat) (c1 c2 c4 c5 : ClassId) (sz : Nat) (made : Int32) (size : Int32) (tooG : Int32) (kept : (Nat → Int32)) (sizes : (Nat → Int32)) (rows : (Nat → Int32)) (taken : (Nat → Int32)) (p0 : Int32) (p1 : Int32) (post : Int32 → Prop) : Met l y_G_rowOf (Cond.code y_G_rowOf b_G_rowOf 2 (some .int) :: BIG) ({ frames := 0, cells := 0, slots := 0, locals := 0 }) (va_Pc [.int p0, .int p1] (pcX D vwCl (wG a0 a1 a2 a3 a4 a5 c1 c2 c4 c5 made size tooG kept sizes rows taken) [(c1, .int), (c2, .int), (c4, .int), (c5, .int)] sz (wp_G_rowOf p0 p1 post))) (va_Qi (fun (r : Int32) (_ : Unit) => post r) (fun _ => atG D vwCl [(c1, .int), (c2, .int), (c4, .int), (c5, .int)] (va_A (wG a0 a1 a2 a3 a4 a5 c1 c2 c4 c5 made size tooG kept sizes rows taken) sz) (wG a0 a1 a2 a3 a4 a5 c1 c2 c4 c5 made size tooG kept sizes rows taken)) (va_A (wG a0 a1 a2 a3 a4 a5 c1 c2 c4 c5 made size tooG kept sizes rows taken) sz)) 0 0 (va_A (wG a0 a1 a2 a3 a4 a5 c1 c2 c4 c5 made size tooG kept sizes rows taken) sz) := by
  refine Met.ofW (cc := b_G_rowOf) (maxL := 2) (ret := (some .int)) (by decide) rfl ?_
  intro p e s m args below meth c s₁ B hml hv
  obtain ⟨rfl, hsz, hP, hK, hD0, hX, h⟩ := hv
  have hx := B.exec
  have hb := B.bytes
  have hr := B.returns
  have hB : ∀ w ∈ BIG, w.before _ s = true := fun w h => atoms_spec (ws := (Cond.code y_G_rowOf b_G_rowOf 2 (some .int) :: BIG)) B.pre w (List.mem_cons_of_mem _ h)
  have hown : s.vm.findClass R_G = some m.cls := findClass_of_methodNamed B.named
  have hlocks := B.notSynchronized
  subst hsz
  have hD := hD0.self (sz := s.heap.size)
  generalize hAe : va_A (wG a0 a1 a2 a3 a4 a5 c1 c2 c4 c5 made size tooG kept sizes rows taken) s.heap.size = A at hD hX ⊢
  have hA : ∀ q : Nat, s.heap.size ≤ q → A q := fun q h => by rw [← hAe]; exact Or.inr h
  have hl := lv_entry ([.int p0, .int p1]) (n := 2) (Nat.le_of_ble_eq_true rfl)
  rw [lg_entry_eq]
  generalize (lg_sl ([.int p0, .int p1]) ++ List.replicate (2 - (lg_sl ([.int p0, .int p1])).length) Slot.unset).toArray = ls at hl ⊢
  have hl : lv_has ls 2 [(0, .int p0), (1, .int p1)] := hl
  refine W.cap (fun G Gi Ge => ?_)
  suffices hL : ∀ (H : Heap) (locs : List Loc), va_P D vwCl (wG a0 a1 a2 a3 a4 a5 c1 c2 c4 c5 made size tooG kept sizes rows taken) H → va_S A s.heap H locs → G H locs (F0 m 0 ls []) from hL _ _ hP va_S.rf
  clear hP
  intro H locs hP hS
  refine Gi _ _ _ ?_
  unfold wp_G_rowOf at h
  refine lv_iload_n hx hb d_G_rowOf_0 rfl (lv_at hl 0 rfl) ?_
  refine lv_bipush (v := 10) hx hb d_G_rowOf_1 (by decide) ?_
  refine lv_imul hx hb d_G_rowOf_3 ?_
  refine lv_iload_n hx hb d_G_rowOf_4 rfl (lv_at hl 1 rfl) ?_
  refine lv_iadd hx hb d_G_rowOf_5 ?_
  refine lv_bipush (v := 7) hx hb d_G_rowOf_6 (by decide) ?_
  refine lv_imul hx hb d_G_rowOf_8 ?_
  exact W.iret (v := ((p0 * 10) + p1) * 7) hx hb hr (fun t ht hW => ⟨⟨((p0 * 10) + p1) * 7, (), rfl, h, by rw [ht]; exact hP, va_K.moved hW.alike hK, hD⟩, hS.F ht⟩) hS.2.2 d_G_rowOf_9
set_option maxHeartbeats 4000000 in
set_option maxRecDepth 100000 in
theorem c_W_setNumber_t (l : Launch) (D : va_G) (a0 a1 a2 a3 a4 a5 : Nat) (c1 c2 c4 c5 : ClassId) (sz : Nat) (made : Int32) (size : Int32) (tooG : Int32) (kept : (Nat → Int32)) (sizes : (Nat → Int32)) (rows : (Nat → Int32)) (taken : (Nat → Int32)) (p1 : Int32) (p2 : Int64) (p3 : Int64) (post : Int32 → (Nat → Int32) → Prop) : Met l y_W_setNumber (Cond.code y_W_setNumber b_W_setNumber 13 none :: BIG) ({ frames := 2, cells := 0, slots := 0, locals := 51 }) (va_Pc [.ref a3, .ref a5, .int p1, .long p2, .long p3] (pcX D vwCl (wG a0 a1 a2 a3 a4 a5 c1 c2 c4 c5 made size tooG kept sizes rows taken) [(c1, .int), (c2, .int), (c4, .int), (c5, .int)] sz (wp_W_setNumber_t tooG taken p1 p2 p3 post))) (va_Qv (fun (u : Int32 × (Nat → Int32)) => post (u.1) (u.2)) (fun u => atG D vwCl [(c1, .int), (c2, .int), (c4, .int), (c5, .int)] (va_A (wG a0 a1 a2 a3 a4 a5 c1 c2 c4 c5 made size tooG kept sizes rows taken) sz) (wG a0 a1 a2 a3 a4 a5 c1 c2 c4 c5 made size (u.1) kept sizes rows (u.2))) (va_A (wG a0 a1 a2 a3 a4 a5 c1 c2 c4 c5 made size tooG kept sizes rows taken) sz)) 0 0 (va_A (wG a0 a1 a2 a3 a4 a5 c1 c2 c4 c5 made size tooG kept sizes rows taken) sz) := by
  refine Met.ofW (cc := b_W_setNumber) (maxL := 13) (ret := none) (by decide) rfl ?_
  intro p e s m args below meth c s₁ B hml hv
  obtain ⟨rfl, hsz, hP, hK, hD0, hX, h⟩ := hv
  have hx := B.exec
  have hb := B.bytes
  have hr := B.returns
  have hB : ∀ w ∈ BIG, w.before _ s = true := fun w h => atoms_spec (ws := (Cond.code y_W_setNumber b_W_setNumber 13 none :: BIG)) B.pre w (List.mem_cons_of_mem _ h)
  have hown : s.vm.findClass R_W = some m.cls := findClass_of_methodNamed B.named
  have hlocks := B.notSynchronized
  subst hsz
  have hD := hD0.self (sz := s.heap.size)
  generalize hAe : va_A (wG a0 a1 a2 a3 a4 a5 c1 c2 c4 c5 made size tooG kept sizes rows taken) s.heap.size = A at hD hX ⊢
  have hA : ∀ q : Nat, s.heap.size ≤ q → A q := fun q h => by rw [← hAe]; exact Or.inr h
  have hl := lv_entry ([.ref a3, .ref a5, .int p1, .long p2, .long p3]) (n := 13) (Nat.le_of_ble_eq_true rfl)
  rw [lg_entry_eq]
  generalize (lg_sl ([.ref a3, .ref a5, .int p1, .long p2, .long p3]) ++ List.replicate (13 - (lg_sl ([.ref a3, .ref a5, .int p1, .long p2, .long p3])).length) Slot.unset).toArray = ls at hl ⊢
  have hl : lv_has ls 13 [(0, .ref a3), (1, .ref a5), (2, .int p1), (3, .long p2), (5, .long p3)] := hl
  refine W.cap (fun G Gi Ge => ?_)
  suffices hL : ∀ (H : Heap) (locs : List Loc), va_P D vwCl (wG a0 a1 a2 a3 a4 a5 c1 c2 c4 c5 made size tooG kept sizes rows taken) H → va_S A s.heap H locs → G H locs (F0 m 0 ls []) from hL _ _ hP va_S.rf
  clear hP
  intro H locs hP hS
  refine Gi _ _ _ ?_
  unfold wp_W_setNumber_t at h
  refine lv_lload_n hx hb d_W_setNumber_0 rfl (lv_at hl 3 rfl) ?_
  refine lv_lload hx hb d_W_setNumber_1 (lv_at hl 4 rfl) ?_
  have hF1 := va_free (wc := (wG a0 a1 a2 a3 a4 a5 c1 c2 c4 c5 made size tooG kept sizes rows taken)) hD hS hA [0, 1, 2, 3, 4, 5] rfl
  refine va_calll (va_runSN (As := [.long p2, .long p3]) (rest := []) ⟨hx, hb, hml, hown, hB⟩ (c_G_divisorOf l D a0 a1 a2 a3 a4 a5 c1 c2 c4 c5 H.size made size tooG kept sizes rows taken p2 p3 _) ⟨va_cnB 2 hB (goodB wd_114) rfl rfl rfl (hX.1 (.methodLinkNest "GrowthLimits$Work" 62 y_G_divisorOf "GrowthLimits") (by decide +kernel)) (hB _ wd_1) (by decide +kernel) ⟨Nat.le_of_ble_eq_true rfl, Nat.le_of_ble_eq_true rfl⟩, hB _ wd_113, trivial⟩ ⟨pcX_blind, pcX_pre hP hK hD hS hX hF1 h⟩ rfl rfl hl.1 rfl (lv_room (Nat.le_of_ble_eq_true rfl)) d_W_setNumber_3 ⟨Nat.le_of_ble_eq_true rfl, Nat.le_of_ble_eq_true rfl⟩) hS (fun q _ h => hF1 q h) hF1 (fun r2 u t H locs ht hvm h hB hz1 hk1 hS => ?_)
  obtain ⟨hP1, hK1, hD1⟩ := hB
  rw [ht] at hP1
  have hP : va_P D vwCl (wG a0 a1 a2 a3 a4 a5 c1 c2 c4 c5 made size tooG kept sizes rows taken) H := hP1
  have hD : va_D A (wG a0 a1 a2 a3 a4 a5 c1 c2 c4 c5 made size tooG kept sizes rows taken) := hD1.weaken (fun _ _ _ hq => hF1 _ hq)
  refine lv_lstore (lv' := [(7, .long r2), (0, .ref a3), (1, .ref a5), (2, .int p1), (3, .long p2), (5, .long p3)]) hx hb d_W_setNumber_6 hl (by decide) rfl (fun ls hl => ?_)
  refine lv_lload_n hx hb d_W_setNumber_8 rfl (lv_at hl 4 rfl) ?_
  refine lv_lload hx hb d_W_setNumber_9 (lv_at hl 0 rfl) ?_
  obtain ⟨g3, h⟩ := h
  refine lv_ldiv hx hb d_W_setNumber_11 g3 ?_
  refine lv_topl (fun x4 ex4 => ?_)
  replace h := h x4 ex4
  refine lv_lstore (lv' := [(9, .long x4), (7, .long r2), (0, .ref a3), (1, .ref a5), (2, .int p1), (3, .long p2), (5, .long p3)]) hx hb d_W_setNumber_12 hl (by decide) rfl (fun ls hl => ?_)
  refine lv_lload hx hb d_W_setNumber_14 (lv_at hl 6 rfl) ?_
  refine lv_lload hx hb d_W_setNumber_16 (lv_at hl 1 rfl) ?_
  obtain ⟨g5, h⟩ := h
  refine lv_ldiv hx hb d_W_setNumber_18 g5 ?_
  refine lv_topl (fun x6 ex6 => ?_)
  replace h := h x6 ex6
  refine lv_lstore (lv' := [(11, .long x6), (9, .long x4), (7, .long r2), (0, .ref a3), (1, .ref a5), (2, .int p1), (3, .long p2), (5, .long p3)]) hx hb d_W_setNumber_19 hl (by decide) rfl (fun ls hl => ?_)
  refine lv_lload hx hb d_W_setNumber_21 (lv_at hl 1 rfl) ?_
  refine va_mabs_long hx hb (hml.trans hl.1.symm) hown (hB _ wd_118) (hB _ wd_116) (hB _ wd_9) (hB _ wd_117) (Nat.le_of_ble_eq_true rfl) (Nat.le_of_ble_eq_true rfl) (Nat.le_of_ble_eq_true rfl) (Nat.le_of_ble_eq_true rfl) d_W_setNumber_23 ?_
  refine lv_ldc2 (v := 1000000) hx hb hown (hB _ wd_119) d_W_setNumber_26 ?_
  refine W.lcmp hx hb d_W_setNumber_29 ?_
  refine lv_if_gt (tgt := 42) hx hb d_W_setNumber_30 (by decide) (fun hc7 => ?_) (fun hc7 => ?_)
  · replace h := h.1 hc7
    refine lv_aload_n hx hb d_W_setNumber_42 rfl (lv_at hl 3 rfl) ?_
    refine lv_iconst (v := 1) hx hb d_W_setNumber_43 (by decide) ?_
    refine va_put (D := D) (ci := 0) (v := .int 1) (ty := .boolean) (C := R_W) (T := F_W) (N := 4) hx hb hB inF_W t_W t_W_ok n_W hown hK hP hD hS 3 rfl rfl 3 (by decide) (hB _ wd_32) (fun _ h9 => h9) rfl (by decide +kernel) rfl rfl (Nat.le_of_ble_eq_true rfl) d_W_setNumber_44 (fun H locs hP hD hS => ?_)
    have hP : va_P D vwCl (wG a0 a1 a2 a3 a4 a5 c1 c2 c4 c5 made size 1 kept sizes rows taken) H := hP
    have hD : va_D A (wG a0 a1 a2 a3 a4 a5 c1 c2 c4 c5 made size 1 kept sizes rows taken) := hD
    refine lv_goto (tgt := 67) hx hb d_W_setNumber_47 (by decide) ?_
    exact W.vret hx hb hr (fun t ht hW => ⟨⟨(1, taken), rfl, h, by rw [ht]; exact hP, va_K.moved hW.alike hK, hD⟩, hS.F ht⟩) hS.2.2 d_W_setNumber_67
  · replace h := h.2 hc7
    refine lv_lload hx hb d_W_setNumber_33 (lv_at hl 0 rfl) ?_
    refine lv_ldc2 (v := 1000000) hx hb hown (hB _ wd_119) d_W_setNumber_35 ?_
    refine W.lcmp hx hb d_W_setNumber_38 ?_
    refine lv_if_le (tgt := 50) hx hb d_W_setNumber_39 (by decide) (fun hc8 => ?_) (fun hc8 => ?_)
    · replace h := h.1 hc8
      refine lv_aload_n hx hb d_W_setNumber_50 rfl (lv_at hl 4 rfl) ?_
      refine lv_iload_n hx hb d_W_setNumber_51 rfl (lv_at hl 5 rfl) ?_
      refine lv_iconst (v := 5) hx hb d_W_setNumber_52 (by decide) ?_
      refine lv_iadd hx hb d_W_setNumber_53 ?_
      refine lv_lload hx hb d_W_setNumber_54 (lv_at hl 1 rfl) ?_
      refine lv_l2i hx hb d_W_setNumber_56 rfl ?_
      obtain ⟨g9, h⟩ := h
      obtain ⟨taken_10, etaken_10⟩ : ∃ z : (Nat → Int32), z = upd taken (p1 + 5).toNatClampNeg (x4.toInt32) := ⟨_, rfl⟩
      replace h := h taken_10 etaken_10
      refine va_iast hx hb hK hP hD hS 5 3 rfl rfl g9 d_W_setNumber_57 (fun H locs hP hD hS => ?_)
      have hP : va_P D vwCl (wG a0 a1 a2 a3 a4 a5 c1 c2 c4 c5 made size tooG kept sizes rows taken_10) H := by rw [etaken_10]; exact hP
      have hD : va_D A (wG a0 a1 a2 a3 a4 a5 c1 c2 c4 c5 made size tooG kept sizes rows taken_10) := by rw [etaken_10]; exact hD
      refine lv_aload_n hx hb d_W_setNumber_58 rfl (lv_at hl 4 rfl) ?_
      refine lv_iload_n hx hb d_W_setNumber_59 rfl (lv_at hl 5 rfl) ?_
      refine lv_bipush (v := 6) hx hb d_W_setNumber_60 (by decide) ?_
      refine lv_iadd hx hb d_W_setNumber_62 ?_
      refine lv_lload hx hb d_W_setNumber_63 (lv_at hl 0 rfl) ?_
      refine lv_l2i hx hb d_W_setNumber_65 rfl ?_
      obtain ⟨g11, h⟩ := h
      obtain ⟨taken_12, etaken_12⟩ : ∃ z : (Nat → Int32), z = upd taken_10 (p1 + 6).toNatClampNeg (x6.toInt32) := ⟨_, rfl⟩
      replace h := h taken_12 etaken_12
      refine va_iast hx hb hK hP hD hS 5 3 rfl rfl g11 d_W_setNumber_66 (fun H locs hP hD hS => ?_)
      have hP : va_P D vwCl (wG a0 a1 a2 a3 a4 a5 c1 c2 c4 c5 made size tooG kept sizes rows taken_12) H := by rw [etaken_12]; exact hP
      have hD : va_D A (wG a0 a1 a2 a3 a4 a5 c1 c2 c4 c5 made size tooG kept sizes rows taken_12) := by rw [etaken_12]; exact hD
      exact W.vret hx hb hr (fun t ht hW => ⟨⟨(tooG, taken_12), rfl, h, by rw [ht]; exact hP, va_K.moved hW.alike hK, hD⟩, hS.F ht⟩) hS.2.2 d_W_setNumber_67
    · replace h := h.2 hc8
      refine lv_aload_n hx hb d_W_setNumber_42 rfl (lv_at hl 3 rfl) ?_
      refine lv_iconst (v := 1) hx hb d_W_setNumber_43 (by decide) ?_
      refine va_put (D := D) (ci := 0) (v := .int 1) (ty := .boolean) (C := R_W) (T := F_W) (N := 4) hx hb hB inF_W t_W t_W_ok n_W hown hK hP hD hS 3 rfl rfl 3 (by decide) (hB _ wd_32) (fun _ h9 => h9) rfl (by decide +kernel) rfl rfl (Nat.le_of_ble_eq_true rfl) d_W_setNumber_44 (fun H locs hP hD hS => ?_)
      have hP : va_P D vwCl (wG a0 a1 a2 a3 a4 a5 c1 c2 c4 c5 made size 1 kept sizes rows taken) H := hP
      have hD : va_D A (wG a0 a1 a2 a3 a4 a5 c1 c2 c4 c5 made size 1 kept sizes rows taken) := hD
      refine lv_goto (tgt := 67) hx hb d_W_setNumber_47 (by decide) ?_
      exact W.vret hx hb hr (fun t ht hW => ⟨⟨(1, taken), rfl, h, by rw [ht]; exact hP, va_K.moved hW.alike hK, hD⟩, hS.F ht⟩) hS.2.2 d_W_setNumber_67
set_option maxHeartbeats 4000000 in
set_option maxRecDepth 100000 in
theorem c_W_setNumber_r (l : Launch) (D : va_G) (a0 a1 a2 a3 a4 a5 : Nat) (c1 c2 c4 c5 : ClassId) (sz : Nat) (made : Int32) (size : Int32) (tooG : Int32) (kept : (Nat → Int32)) (sizes : (Nat → Int32)) (rows : (Nat → Int32)) (taken : (Nat → Int32)) (p1 : Int32) (p2 : Int64) (p3 : Int64) (post : Int32 → (Nat → Int32) → Prop) : Met l y_W_setNumber (Cond.code y_W_setNumber b_W_setNumber 13 none :: BIG) ({ frames := 2, cells := 0, slots := 0, locals := 51 }) (va_Pc [.ref a3, .ref a4, .int p1, .long p2, .long p3] (pcX D vwCl (wG a0 a1 a2 a3 a4 a5 c1 c2 c4 c5 made size tooG kept sizes rows taken) [(c1, .int), (c2, .int), (c4, .int), (c5, .int)] sz (wp_W_setNumber_r tooG rows p1 p2 p3 post))) (va_Qv (fun (u : Int32 × (Nat → Int32)) => post (u.1) (u.2)) (fun u => atG D vwCl [(c1, .int), (c2, .int), (c4, .int), (c5, .int)] (va_A (wG a0 a1 a2 a3 a4 a5 c1 c2 c4 c5 made size tooG kept sizes rows taken) sz) (wG a0 a1 a2 a3 a4 a5 c1 c2 c4 c5 made size (u.1) kept sizes (u.2) taken)) (va_A (wG a0 a1 a2 a3 a4 a5 c1 c2 c4 c5 made size tooG kept sizes rows taken) sz)) 0 0 (va_A (wG a0 a1 a2 a3 a4 a5 c1 c2 c4 c5 made size tooG kept sizes rows taken) sz) := by
  refine Met.ofW (cc := b_W_setNumber) (maxL := 13) (ret := none) (by decide) rfl ?_
  intro p e s m args below meth c s₁ B hml hv
  obtain ⟨rfl, hsz, hP, hK, hD0, hX, h⟩ := hv
  have hx := B.exec
  have hb := B.bytes
  have hr := B.returns
  have hB : ∀ w ∈ BIG, w.before _ s = true := fun w h => atoms_spec (ws := (Cond.code y_W_setNumber b_W_setNumber 13 none :: BIG)) B.pre w (List.mem_cons_of_mem _ h)
  have hown : s.vm.findClass R_W = some m.cls := findClass_of_methodNamed B.named
  have hlocks := B.notSynchronized
  subst hsz
  have hD := hD0.self (sz := s.heap.size)
  generalize hAe : va_A (wG a0 a1 a2 a3 a4 a5 c1 c2 c4 c5 made size tooG kept sizes rows taken) s.heap.size = A at hD hX ⊢
  have hA : ∀ q : Nat, s.heap.size ≤ q → A q := fun q h => by rw [← hAe]; exact Or.inr h
  have hl := lv_entry ([.ref a3, .ref a4, .int p1, .long p2, .long p3]) (n := 13) (Nat.le_of_ble_eq_true rfl)
  rw [lg_entry_eq]
  generalize (lg_sl ([.ref a3, .ref a4, .int p1, .long p2, .long p3]) ++ List.replicate (13 - (lg_sl ([.ref a3, .ref a4, .int p1, .long p2, .long p3])).length) Slot.unset).toArray = ls at hl ⊢
  have hl : lv_has ls 13 [(0, .ref a3), (1, .ref a4), (2, .int p1), (3, .long p2), (5, .long p3)] := hl
  refine W.cap (fun G Gi Ge => ?_)
  suffices hL : ∀ (H : Heap) (locs : List Loc), va_P D vwCl (wG a0 a1 a2 a3 a4 a5 c1 c2 c4 c5 made size tooG kept sizes rows taken) H → va_S A s.heap H locs → G H locs (F0 m 0 ls []) from hL _ _ hP va_S.rf
  clear hP
  intro H locs hP hS
  refine Gi _ _ _ ?_
  unfold wp_W_setNumber_r at h
  refine lv_lload_n hx hb d_W_setNumber_0 rfl (lv_at hl 3 rfl) ?_
  refine lv_lload hx hb d_W_setNumber_1 (lv_at hl 4 rfl) ?_
  have hF1 := va_free (wc := (wG a0 a1 a2 a3 a4 a5 c1 c2 c4 c5 made size tooG kept sizes rows taken)) hD hS hA [0, 1, 2, 3, 4, 5] rfl
  refine va_calll (va_runSN (As := [.long p2, .long p3]) (rest := []) ⟨hx, hb, hml, hown, hB⟩ (c_G_divisorOf l D a0 a1 a2 a3 a4 a5 c1 c2 c4 c5 H.size made size tooG kept sizes rows taken p2 p3 _) ⟨va_cnB 2 hB (goodB wd_114) rfl rfl rfl (hX.1 (.methodLinkNest "GrowthLimits$Work" 62 y_G_divisorOf "GrowthLimits") (by decide +kernel)) (hB _ wd_1) (by decide +kernel) ⟨Nat.le_of_ble_eq_true rfl, Nat.le_of_ble_eq_true rfl⟩, hB _ wd_113, trivial⟩ ⟨pcX_blind, pcX_pre hP hK hD hS hX hF1 h⟩ rfl rfl hl.1 rfl (lv_room (Nat.le_of_ble_eq_true rfl)) d_W_setNumber_3 ⟨Nat.le_of_ble_eq_true rfl, Nat.le_of_ble_eq_true rfl⟩) hS (fun q _ h => hF1 q h) hF1 (fun r2 u t H locs ht hvm h hB hz1 hk1 hS => ?_)
  obtain ⟨hP1, hK1, hD1⟩ := hB
  rw [ht] at hP1
  have hP : va_P D vwCl (wG a0 a1 a2 a3 a4 a5 c1 c2 c4 c5 made size tooG kept sizes rows taken) H := hP1
  have hD : va_D A (wG a0 a1 a2 a3 a4 a5 c1 c2 c4 c5 made size tooG kept sizes rows taken) := hD1.weaken (fun _ _ _ hq => hF1 _ hq)
  refine lv_lstore (lv' := [(7, .long r2), (0, .ref a3), (1, .ref a4), (2, .int p1), (3, .long p2), (5, .long p3)]) hx hb d_W_setNumber_6 hl (by decide) rfl (fun ls hl => ?_)
  refine lv_lload_n hx hb d_W_setNumber_8 rfl (lv_at hl 4 rfl) ?_
  refine lv_lload hx hb d_W_setNumber_9 (lv_at hl 0 rfl) ?_
  obtain ⟨g3, h⟩ := h
  refine lv_ldiv hx hb d_W_setNumber_11 g3 ?_
  refine lv_topl (fun x4 ex4 => ?_)
  replace h := h x4 ex4
  refine lv_lstore (lv' := [(9, .long x4), (7, .long r2), (0, .ref a3), (1, .ref a4), (2, .int p1), (3, .long p2), (5, .long p3)]) hx hb d_W_setNumber_12 hl (by decide) rfl (fun ls hl => ?_)
  refine lv_lload hx hb d_W_setNumber_14 (lv_at hl 6 rfl) ?_
  refine lv_lload hx hb d_W_setNumber_16 (lv_at hl 1 rfl) ?_
  obtain ⟨g5, h⟩ := h
  refine lv_ldiv hx hb d_W_setNumber_18 g5 ?_
  refine lv_topl (fun x6 ex6 => ?_)
  replace h := h x6 ex6
  refine lv_lstore (lv' := [(11, .long x6), (9, .long x4), (7, .long r2), (0, .ref a3), (1, .ref a4), (2, .int p1), (3, .long p2), (5, .long p3)]) hx hb d_W_setNumber_19 hl (by decide) rfl (fun ls hl => ?_)
  refine lv_lload hx hb d_W_setNumber_21 (lv_at hl 1 rfl) ?_
  refine va_mabs_long hx hb (hml.trans hl.1.symm) hown (hB _ wd_118) (hB _ wd_116) (hB _ wd_9) (hB _ wd_117) (Nat.le_of_ble_eq_true rfl) (Nat.le_of_ble_eq_true rfl) (Nat.le_of_ble_eq_true rfl) (Nat.le_of_ble_eq_true rfl) d_W_setNumber_23 ?_
  refine lv_ldc2 (v := 1000000) hx hb hown (hB _ wd_119) d_W_setNumber_26 ?_
  refine W.lcmp hx hb d_W_setNumber_29 ?_
  refine lv_if_gt (tgt := 42) hx hb d_W_setNumber_30 (by decide) (fun hc7 => ?_) (fun hc7 => ?_)
  · replace h := h.1 hc7
    refine lv_aload_n hx hb d_W_setNumber_42 rfl (lv_at hl 3 rfl) ?_
    refine lv_iconst (v := 1) hx hb d_W_setNumber_43 (by decide) ?_
    refine va_put (D := D) (ci := 0) (v := .int 1) (ty := .boolean) (C := R_W) (T := F_W) (N := 4) hx hb hB inF_W t_W t_W_ok n_W hown hK hP hD hS 3 rfl rfl 3 (by decide) (hB _ wd_32) (fun _ h9 => h9) rfl (by decide +kernel) rfl rfl (Nat.le_of_ble_eq_true rfl) d_W_setNumber_44 (fun H locs hP hD hS => ?_)
    have hP : va_P D vwCl (wG a0 a1 a2 a3 a4 a5 c1 c2 c4 c5 made size 1 kept sizes rows taken) H := hP
    have hD : va_D A (wG a0 a1 a2 a3 a4 a5 c1 c2 c4 c5 made size 1 kept sizes rows taken) := hD
    refine lv_goto (tgt := 67) hx hb d_W_setNumber_47 (by decide) ?_
    exact W.vret hx hb hr (fun t ht hW => ⟨⟨(1, rows), rfl, h, by rw [ht]; exact hP, va_K.moved hW.alike hK, hD⟩, hS.F ht⟩) hS.2.2 d_W_setNumber_67
  · replace h := h.2 hc7
    refine lv_lload hx hb d_W_setNumber_33 (lv_at hl 0 rfl) ?_
    refine lv_ldc2 (v := 1000000) hx hb hown (hB _ wd_119) d_W_setNumber_35 ?_
    refine W.lcmp hx hb d_W_setNumber_38 ?_
    refine lv_if_le (tgt := 50) hx hb d_W_setNumber_39 (by decide) (fun hc8 => ?_) (fun hc8 => ?_)
    · replace h := h.1 hc8
      refine lv_aload_n hx hb d_W_setNumber_50 rfl (lv_at hl 4 rfl) ?_
      refine lv_iload_n hx hb d_W_setNumber_51 rfl (lv_at hl 5 rfl) ?_
      refine lv_iconst (v := 5) hx hb d_W_setNumber_52 (by decide) ?_
      refine lv_iadd hx hb d_W_setNumber_53 ?_
      refine lv_lload hx hb d_W_setNumber_54 (lv_at hl 1 rfl) ?_
      refine lv_l2i hx hb d_W_setNumber_56 rfl ?_
      obtain ⟨g9, h⟩ := h
      obtain ⟨rows_10, erows_10⟩ : ∃ z : (Nat → Int32), z = upd rows (p1 + 5).toNatClampNeg (x4.toInt32) := ⟨_, rfl⟩
      replace h := h rows_10 erows_10
      refine va_iast hx hb hK hP hD hS 4 2 rfl rfl g9 d_W_setNumber_57 (fun H locs hP hD hS => ?_)
      have hP : va_P D vwCl (wG a0 a1 a2 a3 a4 a5 c1 c2 c4 c5 made size tooG kept sizes rows_10 taken) H := by rw [erows_10]; exact hP
      have hD : va_D A (wG a0 a1 a2 a3 a4 a5 c1 c2 c4 c5 made size tooG kept sizes rows_10 taken) := by rw [erows_10]; exact hD
      refine lv_aload_n hx hb d_W_setNumber_58 rfl (lv_at hl 4 rfl) ?_
      refine lv_iload_n hx hb d_W_setNumber_59 rfl (lv_at hl 5 rfl) ?_
      refine lv_bipush (v := 6) hx hb d_W_setNumber_60 (by decide) ?_
      refine lv_iadd hx hb d_W_setNumber_62 ?_
      refine lv_lload hx hb d_W_setNumber_63 (lv_at hl 0 rfl) ?_
      refine lv_l2i hx hb d_W_setNumber_65 rfl ?_
      obtain ⟨g11, h⟩ := h
      obtain ⟨rows_12, erows_12⟩ : ∃ z : (Nat → Int32), z = upd rows_10 (p1 + 6).toNatClampNeg (x6.toInt32) := ⟨_, rfl⟩
      replace h := h rows_12 erows_12
      refine va_iast hx hb hK hP hD hS 4 2 rfl rfl g11 d_W_setNumber_66 (fun H locs hP hD hS => ?_)
      have hP : va_P D vwCl (wG a0 a1 a2 a3 a4 a5 c1 c2 c4 c5 made size tooG kept sizes rows_12 taken) H := by rw [erows_12]; exact hP
      have hD : va_D A (wG a0 a1 a2 a3 a4 a5 c1 c2 c4 c5 made size tooG kept sizes rows_12 taken) := by rw [erows_12]; exact hD
      exact W.vret hx hb hr (fun t ht hW => ⟨⟨(tooG, rows_12), rfl, h, by rw [ht]; exact hP, va_K.moved hW.alike hK, hD⟩, hS.F ht⟩) hS.2.2 d_W_setNumber_67
    · replace h := h.2 hc8
      refine lv_aload_n hx hb d_W_setNumber_42 rfl (lv_at hl 3 rfl) ?_
      refine lv_iconst (v := 1) hx hb d_W_setNumber_43 (by decide) ?_
      refine va_put (D := D) (ci := 0) (v := .int 1) (ty := .boolean) (C := R_W) (T := F_W) (N := 4) hx hb hB inF_W t_W t_W_ok n_W hown hK hP hD hS 3 rfl rfl 3 (by decide) (hB _ wd_32) (fun _ h9 => h9) rfl (by decide +kernel) rfl rfl (Nat.le_of_ble_eq_true rfl) d_W_setNumber_44 (fun H locs hP hD hS => ?_)
      have hP : va_P D vwCl (wG a0 a1 a2 a3 a4 a5 c1 c2 c4 c5 made size 1 kept sizes rows taken) H := hP
      have hD : va_D A (wG a0 a1 a2 a3 a4 a5 c1 c2 c4 c5 made size 1 kept sizes rows taken) := hD
      refine lv_goto (tgt := 67) hx hb d_W_setNumber_47 (by decide) ?_
      exact W.vret hx hb hr (fun t ht hW => ⟨⟨(1, rows), rfl, h, by rw [ht]; exact hP, va_K.moved hW.alike hK, hD⟩, hS.F ht⟩) hS.2.2 d_W_setNumber_67
set_option maxHeartbeats 4000000 in
set_option maxRecDepth 100000 in
theorem c_W_multiply (l : Launch) (D : va_G) (a0 a1 a2 a3 a4 a5 : Nat) (c1 c2 c4 c5 : ClassId) (sz : Nat) (made : Int32) (size : Int32) (tooG : Int32) (kept : (Nat → Int32)) (sizes : (Nat → Int32)) (rows : (Nat → Int32)) (taken : (Nat → Int32)) (p0 : Int64) (p1 : Int64) (post : Int32 → (Nat → Int32) → Prop) : Met l y_W_multiply (Cond.code y_W_multiply b_W_multiply 5 none :: BIG) ({ frames := 3, cells := 0, slots := 0, locals := 83 }) (va_Pc [.ref a3, .long p0, .long p1] (pcX D vwCl (wG a0 a1 a2 a3 a4 a5 c1 c2 c4 c5 made size tooG kept sizes rows taken) [(c1, .int), (c2, .int), (c4, .int), (c5, .int)] sz (wp_W_multiply tooG taken p0 p1 post))) (va_Qv (fun (u : Int32 × (Nat → Int32)) => post (u.1) (u.2)) (fun u => atG D vwCl [(c1, .int), (c2, .int), (c4, .int), (c5, .int)] (va_A (wG a0 a1 a2 a3 a4 a5 c1 c2 c4 c5 made size tooG kept sizes rows taken) sz) (wG a0 a1 a2 a3 a4 a5 c1 c2 c4 c5 made size (u.1) kept sizes rows (u.2))) (va_A (wG a0 a1 a2 a3 a4 a5 c1 c2 c4 c5 made size tooG kept sizes rows taken) sz)) 0 0 (va_A (wG a0 a1 a2 a3 a4 a5 c1 c2 c4 c5 made size tooG kept sizes rows taken) sz) := by
  refine Met.ofW (cc := b_W_multiply) (maxL := 5) (ret := none) (by decide) rfl ?_
  intro p e s m args below meth c s₁ B hml hv
  obtain ⟨rfl, hsz, hP, hK, hD0, hX, h⟩ := hv
  have hx := B.exec
  have hb := B.bytes
  have hr := B.returns
  have hB : ∀ w ∈ BIG, w.before _ s = true := fun w h => atoms_spec (ws := (Cond.code y_W_multiply b_W_multiply 5 none :: BIG)) B.pre w (List.mem_cons_of_mem _ h)
  have hown : s.vm.findClass R_W = some m.cls := findClass_of_methodNamed B.named
  have hlocks := B.notSynchronized
  subst hsz
  have hD := hD0.self (sz := s.heap.size)
  generalize hAe : va_A (wG a0 a1 a2 a3 a4 a5 c1 c2 c4 c5 made size tooG kept sizes rows taken) s.heap.size = A at hD hX ⊢
  have hA : ∀ q : Nat, s.heap.size ≤ q → A q := fun q h => by rw [← hAe]; exact Or.inr h
  have hl := lv_entry ([.ref a3, .long p0, .long p1]) (n := 5) (Nat.le_of_ble_eq_true rfl)
  rw [lg_entry_eq]
  generalize (lg_sl ([.ref a3, .long p0, .long p1]) ++ List.replicate (5 - (lg_sl ([.ref a3, .long p0, .long p1])).length) Slot.unset).toArray = ls at hl ⊢
  have hl : lv_has ls 5 [(0, .ref a3), (1, .long p0), (3, .long p1)] := hl
  refine W.cap (fun G Gi Ge => ?_)
  suffices hL : ∀ (H : Heap) (locs : List Loc), va_P D vwCl (wG a0 a1 a2 a3 a4 a5 c1 c2 c4 c5 made size tooG kept sizes rows taken) H → va_S A s.heap H locs → G H locs (F0 m 0 ls []) from hL _ _ hP va_S.rf
  clear hP
  intro H locs hP hS
  refine Gi _ _ _ ?_
  unfold wp_W_multiply at h
  refine lv_aload_n hx hb d_W_multiply_0 rfl (lv_at hl 0 rfl) ?_
  refine lv_aload_n hx hb d_W_multiply_1 rfl (lv_at hl 0 rfl) ?_
  refine va_get (D := D) (ci := 0) (v := .ref a5) (C := R_W) (T := F_W) (N := 4) hx hb hB inF_W hown hK hP 3 rfl rfl 1 (by decide) (hB _ wd_29) (fun _ h9 => h9) rfl d_W_multiply_2 ?_
  refine lv_iconst (v := 0) hx hb d_W_multiply_5 (by decide) ?_
  refine lv_aload_n hx hb d_W_multiply_6 rfl (lv_at hl 0 rfl) ?_
  refine va_get (D := D) (ci := 0) (v := .ref a5) (C := R_W) (T := F_W) (N := 4) hx hb hB inF_W hown hK hP 3 rfl rfl 1 (by decide) (hB _ wd_29) (fun _ h9 => h9) rfl d_W_multiply_7 ?_
  refine lv_iconst (v := 5) hx hb d_W_multiply_10 (by decide) ?_
  obtain ⟨g1, h⟩ := h
  refine va_iald hx hb hK hP 5 3 rfl rfl g1 d_W_multiply_11 ?_
  refine lv_i2l hx hb d_W_multiply_12 rfl ?_
  refine lv_lload_n hx hb d_W_multiply_13 rfl (lv_at hl 1 rfl) ?_
  refine lv_lmul hx hb d_W_multiply_14 ?_
  refine lv_aload_n hx hb d_W_multiply_15 rfl (lv_at hl 0 rfl) ?_
  refine va_get (D := D) (ci := 0) (v := .ref a5) (C := R_W) (T := F_W) (N := 4) hx hb hB inF_W hown hK hP 3 rfl rfl 1 (by decide) (hB _ wd_29) (fun _ h9 => h9) rfl d_W_multiply_16 ?_
  refine lv_bipush (v := 6) hx hb d_W_multiply_19 (by decide) ?_
  obtain ⟨g2, h⟩ := h
  refine va_iald hx hb hK hP 5 3 rfl rfl g2 d_W_multiply_21 ?_
  refine lv_i2l hx hb d_W_multiply_22 rfl ?_
  refine lv_lload_n hx hb d_W_multiply_23 rfl (lv_at hl 2 rfl) ?_
  refine lv_lmul hx hb d_W_multiply_24 ?_
  have hF3 := va_free (wc := (wG a0 a1 a2 a3 a4 a5 c1 c2 c4 c5 made size tooG kept sizes rows taken)) hD hS hA [0, 1, 2, 3, 4, 5] rfl
  refine va_callv (va_runV (As := [.ref a5, .int 0, .long (((taken (5 : Int32).toNatClampNeg).toInt64) * p0), .long (((taken (6 : Int32).toNatClampNeg).toInt64) * p1)]) (rest := []) ⟨hx, hb, hml, hown, hB⟩ (c_W_setNumber_t l D a0 a1 a2 a3 a4 a5 c1 c2 c4 c5 H.size made size tooG kept sizes rows taken 0 (((taken (5 : Int32).toNatClampNeg).toInt64) * p0) (((taken (6 : Int32).toNatClampNeg).toInt64) * p1) _) (cwV 4 hB (goodV wd_110 wd_111 wd_490 wd_2 wd_112) rfl rfl rfl (by decide +kernel) ⟨Nat.le_of_ble_eq_true rfl, Nat.le_of_ble_eq_true rfl⟩) ⟨pcX_blind, va_recv hK hP (ci := 0) (q0 := 3) rfl rfl, pcX_pre hP hK hD hS hX hF3 h⟩ rfl rfl hl.1 rfl (lv_room (Nat.le_of_ble_eq_true rfl)) d_W_multiply_25 ⟨Nat.le_of_ble_eq_true rfl, Nat.le_of_ble_eq_true rfl⟩) hS (fun q _ h => hF3 q h) hF3 (fun u t H locs ht hvm h hB hz1 hk1 hS => ?_)
  obtain ⟨tooG_4, taken_5⟩ := u
  obtain ⟨hP1, hK1, hD1⟩ := hB
  rw [ht] at hP1
  have hP : va_P D vwCl (wG a0 a1 a2 a3 a4 a5 c1 c2 c4 c5 made size tooG_4 kept sizes rows taken_5) H := hP1
  have hD : va_D A (wG a0 a1 a2 a3 a4 a5 c1 c2 c4 c5 made size tooG_4 kept sizes rows taken_5) := hD1.weaken (fun _ _ _ hq => hF3 _ hq)
  exact W.vret hx hb hr (fun t ht hW => ⟨⟨(tooG_4, taken_5), rfl, h, by rw [ht]; exact hP, va_K.moved hW.alike hK, hD⟩, hS.F ht⟩) hS.2.2 d_W_multiply_28
set_option maxHeartbeats 4000000 in
set_option maxRecDepth 100000 in
theorem c_W_multiplyByTerm (l : Launch) (D : va_G) (a0 a1 a2 a3 a4 a5 : Nat) (c1 c2 c4 c5 : ClassId) (sz : Nat) (made : Int32) (size : Int32) (tooG : Int32) (kept : (Nat → Int32)) (sizes : (Nat → Int32)) (rows : (Nat → Int32)) (taken : (Nat → Int32)) (p1 : Int32) (post : Int32 → (Nat → Int32) → Prop) : Met l y_W_multiplyByTerm (Cond.code y_W_multiplyByTerm b_W_multiplyByTerm 4 none :: BIG) ({ frames := 4, cells := 0, slots := 0, locals := 107 }) (va_Pc [.ref a3, .ref a1, .int p1] (pcX D vwCl (wG a0 a1 a2 a3 a4 a5 c1 c2 c4 c5 made size tooG kept sizes rows taken) [(c1, .int), (c2, .int), (c4, .int), (c5, .int)] sz (wp_W_multiplyByTerm tooG kept taken p1 post))) (va_Qv (fun (u : Int32 × (Nat → Int32)) => post (u.1) (u.2)) (fun u => atG D vwCl [(c1, .int), (c2, .int), (c4, .int), (c5, .int)] (va_A (wG a0 a1 a2 a3 a4 a5 c1 c2 c4 c5 made size tooG kept sizes rows taken) sz) (wG a0 a1 a2 a3 a4 a5 c1 c2 c4 c5 made size (u.1) kept sizes rows (u.2))) (va_A (wG a0 a1 a2 a3 a4 a5 c1 c2 c4 c5 made size tooG kept sizes rows taken) sz)) 0 0 (va_A (wG a0 a1 a2 a3 a4 a5 c1 c2 c4 c5 made size tooG kept sizes rows taken) sz) := by
  refine Met.ofW (cc := b_W_multiplyByTerm) (maxL := 4) (ret := none) (by decide) rfl ?_
  intro p e s m args below meth c s₁ B hml hv
  obtain ⟨rfl, hsz, hP, hK, hD0, hX, h⟩ := hv
  have hx := B.exec
  have hb := B.bytes
  have hr := B.returns
  have hB : ∀ w ∈ BIG, w.before _ s = true := fun w h => atoms_spec (ws := (Cond.code y_W_multiplyByTerm b_W_multiplyByTerm 4 none :: BIG)) B.pre w (List.mem_cons_of_mem _ h)
  have hown : s.vm.findClass R_W = some m.cls := findClass_of_methodNamed B.named
  have hlocks := B.notSynchronized
  subst hsz
  have hD := hD0.self (sz := s.heap.size)
  generalize hAe : va_A (wG a0 a1 a2 a3 a4 a5 c1 c2 c4 c5 made size tooG kept sizes rows taken) s.heap.size = A at hD hX ⊢
  have hA : ∀ q : Nat, s.heap.size ≤ q → A q := fun q h => by rw [← hAe]; exact Or.inr h
  have hl := lv_entry ([.ref a3, .ref a1, .int p1]) (n := 4) (Nat.le_of_ble_eq_true rfl)
  rw [lg_entry_eq]
  generalize (lg_sl ([.ref a3, .ref a1, .int p1]) ++ List.replicate (4 - (lg_sl ([.ref a3, .ref a1, .int p1])).length) Slot.unset).toArray = ls at hl ⊢
  have hl : lv_has ls 4 [(0, .ref a3), (1, .ref a1), (2, .int p1)] := hl
  refine W.cap (fun G Gi Ge => ?_)
  suffices hL : ∀ (H : Heap) (locs : List Loc), va_P D vwCl (wG a0 a1 a2 a3 a4 a5 c1 c2 c4 c5 made size tooG kept sizes rows taken) H → va_S A s.heap H locs → G H locs (F0 m 0 ls []) from hL _ _ hP va_S.rf
  clear hP
  intro H locs hP hS
  refine Gi _ _ _ ?_
  unfold wp_W_multiplyByTerm at h
  refine lv_aload_n hx hb d_W_multiplyByTerm_0 rfl (lv_at hl 0 rfl) ?_
  refine lv_aload_n hx hb d_W_multiplyByTerm_1 rfl (lv_at hl 1 rfl) ?_
  refine lv_iload_n hx hb d_W_multiplyByTerm_2 rfl (lv_at hl 2 rfl) ?_
  refine lv_iconst (v := 5) hx hb d_W_multiplyByTerm_3 (by decide) ?_
  refine lv_iadd hx hb d_W_multiplyByTerm_4 ?_
  obtain ⟨g1, h⟩ := h
  refine va_iald hx hb hK hP 1 0 rfl rfl g1 d_W_multiplyByTerm_5 ?_
  refine lv_i2l hx hb d_W_multiplyByTerm_6 rfl ?_
  refine lv_aload_n hx hb d_W_multiplyByTerm_7 rfl (lv_at hl 1 rfl) ?_
  refine lv_iload_n hx hb d_W_multiplyByTerm_8 rfl (lv_at hl 2 rfl) ?_
  refine lv_bipush (v := 6) hx hb d_W_multiplyByTerm_9 (by decide) ?_
  refine lv_iadd hx hb d_W_multiplyByTerm_11 ?_
  obtain ⟨g2, h⟩ := h
  refine va_iald hx hb hK hP 1 0 rfl rfl g2 d_W_multiplyByTerm_12 ?_
  refine lv_i2l hx hb d_W_multiplyByTerm_13 rfl ?_
  have hF3 := va_free (wc := (wG a0 a1 a2 a3 a4 a5 c1 c2 c4 c5 made size tooG kept sizes rows taken)) hD hS hA [0, 1, 2, 3, 4, 5] rfl
  refine va_callv (va_runV (As := [.long ((kept (p1 + 5).toNatClampNeg).toInt64), .long ((kept (p1 + 6).toNatClampNeg).toInt64)]) (rest := []) ⟨hx, hb, hml, hown, hB⟩ (c_W_multiply l D a0 a1 a2 a3 a4 a5 c1 c2 c4 c5 H.size made size tooG kept sizes rows taken ((kept (p1 + 5).toNatClampNeg).toInt64) ((kept (p1 + 6).toNatClampNeg).toInt64) _) (cwV 2 hB (goodV wd_206 wd_107 wd_108 wd_2 wd_109) rfl rfl rfl (by decide +kernel) ⟨Nat.le_of_ble_eq_true rfl, Nat.le_of_ble_eq_true rfl⟩) ⟨pcX_blind, va_recv hK hP (ci := 0) (q0 := 3) rfl rfl, pcX_pre hP hK hD hS hX hF3 h⟩ rfl rfl hl.1 rfl (lv_room (Nat.le_of_ble_eq_true rfl)) d_W_multiplyByTerm_14 ⟨Nat.le_of_ble_eq_true rfl, Nat.le_of_ble_eq_true rfl⟩) hS (fun q _ h => hF3 q h) hF3 (fun u t H locs ht hvm h hB hz1 hk1 hS => ?_)
  obtain ⟨tooG_4, taken_5⟩ := u
  obtain ⟨hP1, hK1, hD1⟩ := hB
  rw [ht] at hP1
  have hP : va_P D vwCl (wG a0 a1 a2 a3 a4 a5 c1 c2 c4 c5 made size tooG_4 kept sizes rows taken_5) H := hP1
  have hD : va_D A (wG a0 a1 a2 a3 a4 a5 c1 c2 c4 c5 made size tooG_4 kept sizes rows taken_5) := hD1.weaken (fun _ _ _ hq => hF3 _ hq)
  refine lv_iconst (v := 0) hx hb d_W_multiplyByTerm_17 (by decide) ?_
  refine lv_istore_n (lv' := [(3, .int 0), (0, .ref a3), (1, .ref a1), (2, .int p1)]) hx hb d_W_multiplyByTerm_18 rfl hl (by decide) rfl (fun ls hl => ?_)
  obtain ⟨n19, h⟩ := h
  refine W.cap (fun G19 Gi19 Ge19 => ?_)
  suffices hL19 : ∀ (n19 : Nat) (v3_6 : Int32) (tooG_7 : Int32) (taken_8 : (Nat → Int32)) (H : Heap) (locs : List Loc) (ls : Array Slot), va_P D vwCl (wG a0 a1 a2 a3 a4 a5 c1 c2 c4 c5 made size tooG_7 kept sizes rows taken_8) H → va_D A (wG a0 a1 a2 a3 a4 a5 c1 c2 c4 c5 made size tooG_7 kept sizes rows taken_8) → va_S A s.heap H locs → lv_has ls 4 [(3, .int v3_6), (0, .ref a3), (1, .ref a1), (2, .int p1)] → lpW3 (wb_W_multiplyByTerm_19 post p1 kept) n19 v3_6 tooG_7 taken_8 → G19 H locs (F0 m 19 ls []) from hL19 n19 (0 : Int32) tooG_4 taken_5 _ _ _ hP hD hS hl h
  clear h hP hD hS hl
  intro n19
  induction n19 with
  | zero => intro v3_6 tooG_7 taken_8 H locs ls hP hD hS hl h; exact (show False from h).elim
  | succ n19 ihL19 =>
    intro v3_6 tooG_7 taken_8 H locs ls hP hD hS hl h
    replace h : (wb_W_multiplyByTerm_19 post p1 kept) (lpW3 (wb_W_multiplyByTerm_19 post p1 kept) n19) v3_6 tooG_7 taken_8 := h
    refine Gi19 _ _ _ ?_
    refine lv_iload_n hx hb d_W_multiplyByTerm_19 rfl (lv_at hl 0 rfl) ?_
    refine lv_iconst (v := 5) hx hb d_W_multiplyByTerm_20 (by decide) ?_
    refine lv_icmp_ge (tgt := 40) hx hb d_W_multiplyByTerm_21 (by decide) (fun hc9 => ?_) (fun hc9 => ?_)
    · replace h := h.1 hc9
      exact W.vret hx hb hr (fun t ht hW => ⟨⟨(tooG_7, taken_8), rfl, h, by rw [ht]; exact hP, va_K.moved hW.alike hK, hD⟩, hS.F ht⟩) hS.2.2 d_W_multiplyByTerm_40
    · replace h := h.2 hc9
      refine lv_aload_n hx hb d_W_multiplyByTerm_24 rfl (lv_at hl 1 rfl) ?_
      refine lv_iload_n hx hb d_W_multiplyByTerm_25 rfl (lv_at hl 0 rfl) ?_
      refine lv_aload_n hx hb d_W_multiplyByTerm_26 rfl (lv_at hl 2 rfl) ?_
      refine lv_iload_n hx hb d_W_multiplyByTerm_27 rfl (lv_at hl 3 rfl) ?_
      refine lv_iload_n hx hb d_W_multiplyByTerm_28 rfl (lv_at hl 0 rfl) ?_
      refine lv_iadd hx hb d_W_multiplyByTerm_29 ?_
      obtain ⟨g10, h⟩ := h
      refine va_iald hx hb hK hP 1 0 rfl rfl g10 d_W_multiplyByTerm_30 ?_
      have hF11 := va_free (wc := (wG a0 a1 a2 a3 a4 a5 c1 c2 c4 c5 made size tooG_7 kept sizes rows taken_8)) hD hS hA [0, 1, 2, 3, 4, 5] rfl
      refine va_callv (va_runV (As := [.int v3_6, .int (kept (p1 + v3_6).toNatClampNeg)]) (rest := []) ⟨hx, hb, hml, hown, hB⟩ (c_W_raise l D a0 a1 a2 a3 a4 a5 c1 c2 c4 c5 H.size made size tooG_7 kept sizes rows taken_8 v3_6 (kept (p1 + v3_6).toNatClampNeg) _) (cwV 2 hB (goodV wd_207 wd_167 wd_168 wd_2 wd_169) rfl rfl rfl (by decide +kernel) ⟨Nat.le_of_ble_eq_true rfl, Nat.le_of_ble_eq_true rfl⟩) ⟨pcX_blind, va_recv hK hP (ci := 0) (q0 := 3) rfl rfl, pcX_pre hP hK hD hS hX hF11 h⟩ rfl rfl hl.1 rfl (lv_room (Nat.le_of_ble_eq_true rfl)) d_W_multiplyByTerm_31 ⟨Nat.le_of_ble_eq_true rfl, Nat.le_of_ble_eq_true rfl⟩) hS (fun q _ h => hF11 q h) hF11 (fun u t H locs ht hvm h hB hz1 hk1 hS => ?_)
      obtain ⟨tooG_12, taken_13⟩ := u
      obtain ⟨hP1, hK1, hD1⟩ := hB
      rw [ht] at hP1
      have hP : va_P D vwCl (wG a0 a1 a2 a3 a4 a5 c1 c2 c4 c5 made size tooG_12 kept sizes rows taken_13) H := hP1
      have hD : va_D A (wG a0 a1 a2 a3 a4 a5 c1 c2 c4 c5 made size tooG_12 kept sizes rows taken_13) := hD1.weaken (fun _ _ _ hq => hF11 _ hq)
      obtain ⟨x14, ex14⟩ : ∃ z : Int32, z = v3_6 + 1 := ⟨_, rfl⟩
      replace h := h x14 ex14
      refine lv_iinc (v := x14) (lv' := [(3, .int x14), (0, .ref a3), (1, .ref a1), (2, .int p1)]) hx hb d_W_multiplyByTerm_34 hl (k := 0) rfl (by rw [ex14]; rfl) (by decide) rfl (fun ls hl => ?_)
      refine lv_goto (tgt := 19) hx hb d_W_multiplyByTerm_37 (by decide) ?_
      exact Ge19 _ _ _ (ihL19 x14 tooG_12 taken_13 _ _ _ hP hD hS (lv_sub hl [0, 1, 2, 3] rfl) h)
set_option maxHeartbeats 4000000 in
set_option maxRecDepth 100000 in
theorem c_W_divideByTerm (l : Launch) (D : va_G) (a0 a1 a2 a3 a4 a5 : Nat) (c1 c2 c4 c5 : ClassId) (sz : Nat) (made : Int32) (size : Int32) (tooG : Int32) (kept : (Nat → Int32)) (sizes : (Nat → Int32)) (rows : (Nat → Int32)) (taken : (Nat → Int32)) (p1 : Int32) (post : Int32 → (Nat → Int32) → Prop) : Met l y_W_divideByTerm (Cond.code y_W_divideByTerm b_W_divideByTerm 4 none :: BIG) ({ frames := 4, cells := 0, slots := 0, locals := 107 }) (va_Pc [.ref a3, .ref a1, .int p1] (pcX D vwCl (wG a0 a1 a2 a3 a4 a5 c1 c2 c4 c5 made size tooG kept sizes rows taken) [(c1, .int), (c2, .int), (c4, .int), (c5, .int)] sz (wp_W_divideByTerm tooG kept taken p1 post))) (va_Qv (fun (u : Int32 × (Nat → Int32)) => post (u.1) (u.2)) (fun u => atG D vwCl [(c1, .int), (c2, .int), (c4, .int), (c5, .int)] (va_A (wG a0 a1 a2 a3 a4 a5 c1 c2 c4 c5 made size tooG kept sizes rows taken) sz) (wG a0 a1 a2 a3 a4 a5 c1 c2 c4 c5 made size (u.1) kept sizes rows (u.2))) (va_A (wG a0 a1 a2 a3 a4 a5 c1 c2 c4 c5 made size tooG kept sizes rows taken) sz)) 0 0 (va_A (wG a0 a1 a2 a3 a4 a5 c1 c2 c4 c5 made size tooG kept sizes rows taken) sz) := by
  refine Met.ofW (cc := b_W_divideByTerm) (maxL := 4) (ret := none) (by decide) rfl ?_
  intro p e s m args below meth c s₁ B hml hv
  obtain ⟨rfl, hsz, hP, hK, hD0, hX, h⟩ := hv
  have hx := B.exec
  have hb := B.bytes
  have hr := B.returns
  have hB : ∀ w ∈ BIG, w.before _ s = true := fun w h => atoms_spec (ws := (Cond.code y_W_divideByTerm b_W_divideByTerm 4 none :: BIG)) B.pre w (List.mem_cons_of_mem _ h)
  have hown : s.vm.findClass R_W = some m.cls := findClass_of_methodNamed B.named
  have hlocks := B.notSynchronized
  subst hsz
  have hD := hD0.self (sz := s.heap.size)
  generalize hAe : va_A (wG a0 a1 a2 a3 a4 a5 c1 c2 c4 c5 made size tooG kept sizes rows taken) s.heap.size = A at hD hX ⊢
  have hA : ∀ q : Nat, s.heap.size ≤ q → A q := fun q h => by rw [← hAe]; exact Or.inr h
  have hl := lv_entry ([.ref a3, .ref a1, .int p1]) (n := 4) (Nat.le_of_ble_eq_true rfl)
  rw [lg_entry_eq]
  generalize (lg_sl ([.ref a3, .ref a1, .int p1]) ++ List.replicate (4 - (lg_sl ([.ref a3, .ref a1, .int p1])).length) Slot.unset).toArray = ls at hl ⊢
  have hl : lv_has ls 4 [(0, .ref a3), (1, .ref a1), (2, .int p1)] := hl
  refine W.cap (fun G Gi Ge => ?_)
  suffices hL : ∀ (H : Heap) (locs : List Loc), va_P D vwCl (wG a0 a1 a2 a3 a4 a5 c1 c2 c4 c5 made size tooG kept sizes rows taken) H → va_S A s.heap H locs → G H locs (F0 m 0 ls []) from hL _ _ hP va_S.rf
  clear hP
  intro H locs hP hS
  refine Gi _ _ _ ?_
  unfold wp_W_divideByTerm at h
  refine lv_aload_n hx hb d_W_divideByTerm_0 rfl (lv_at hl 0 rfl) ?_
  refine lv_aload_n hx hb d_W_divideByTerm_1 rfl (lv_at hl 1 rfl) ?_
  refine lv_iload_n hx hb d_W_divideByTerm_2 rfl (lv_at hl 2 rfl) ?_
  refine lv_bipush (v := 6) hx hb d_W_divideByTerm_3 (by decide) ?_
  refine lv_iadd hx hb d_W_divideByTerm_5 ?_
  obtain ⟨g1, h⟩ := h
  refine va_iald hx hb hK hP 1 0 rfl rfl g1 d_W_divideByTerm_6 ?_
  refine lv_i2l hx hb d_W_divideByTerm_7 rfl ?_
  refine lv_aload_n hx hb d_W_divideByTerm_8 rfl (lv_at hl 1 rfl) ?_
  refine lv_iload_n hx hb d_W_divideByTerm_9 rfl (lv_at hl 2 rfl) ?_
  refine lv_iconst (v := 5) hx hb d_W_divideByTerm_10 (by decide) ?_
  refine lv_iadd hx hb d_W_divideByTerm_11 ?_
  obtain ⟨g2, h⟩ := h
  refine va_iald hx hb hK hP 1 0 rfl rfl g2 d_W_divideByTerm_12 ?_
  refine lv_i2l hx hb d_W_divideByTerm_13 rfl ?_
  have hF3 := va_free (wc := (wG a0 a1 a2 a3 a4 a5 c1 c2 c4 c5 made size tooG kept sizes rows taken)) hD hS hA [0, 1, 2, 3, 4, 5] rfl
  refine va_callv (va_runV (As := [.long ((kept (p1 + 6).toNatClampNeg).toInt64), .long ((kept (p1 + 5).toNatClampNeg).toInt64)]) (rest := []) ⟨hx, hb, hml, hown, hB⟩ (c_W_multiply l D a0 a1 a2 a3 a4 a5 c1 c2 c4 c5 H.size made size tooG kept sizes rows taken ((kept (p1 + 6).toNatClampNeg).toInt64) ((kept (p1 + 5).toNatClampNeg).toInt64) _) (cwV 2 hB (goodV wd_206 wd_107 wd_108 wd_2 wd_109) rfl rfl rfl (by decide +kernel) ⟨Nat.le_of_ble_eq_true rfl, Nat.le_of_ble_eq_true rfl⟩) ⟨pcX_blind, va_recv hK hP (ci := 0) (q0 := 3) rfl rfl, pcX_pre hP hK hD hS hX hF3 h⟩ rfl rfl hl.1 rfl (lv_room (Nat.le_of_ble_eq_true rfl)) d_W_divideByTerm_14 ⟨Nat.le_of_ble_eq_true rfl, Nat.le_of_ble_eq_true rfl⟩) hS (fun q _ h => hF3 q h) hF3 (fun u t H locs ht hvm h hB hz1 hk1 hS => ?_)
  obtain ⟨tooG_4, taken_5⟩ := u
  obtain ⟨hP1, hK1, hD1⟩ := hB
  rw [ht] at hP1
  have hP : va_P D vwCl (wG a0 a1 a2 a3 a4 a5 c1 c2 c4 c5 made size tooG_4 kept sizes rows taken_5) H := hP1
  have hD : va_D A (wG a0 a1 a2 a3 a4 a5 c1 c2 c4 c5 made size tooG_4 kept sizes rows taken_5) := hD1.weaken (fun _ _ _ hq => hF3 _ hq)
  refine lv_iconst (v := 0) hx hb d_W_divideByTerm_17 (by decide) ?_
  refine lv_istore_n (lv' := [(3, .int 0), (0, .ref a3), (1, .ref a1), (2, .int p1)]) hx hb d_W_divideByTerm_18 rfl hl (by decide) rfl (fun ls hl => ?_)
  obtain ⟨n19, h⟩ := h
  refine W.cap (fun G19 Gi19 Ge19 => ?_)
  suffices hL19 : ∀ (n19 : Nat) (v3_6 : Int32) (tooG_7 : Int32) (taken_8 : (Nat → Int32)) (H : Heap) (locs : List Loc) (ls : Array Slot), va_P D vwCl (wG a0 a1 a2 a3 a4 a5 c1 c2 c4 c5 made size tooG_7 kept sizes rows taken_8) H → va_D A (wG a0 a1 a2 a3 a4 a5 c1 c2 c4 c5 made size tooG_7 kept sizes rows taken_8) → va_S A s.heap H locs → lv_has ls 4 [(3, .int v3_6), (0, .ref a3), (1, .ref a1), (2, .int p1)] → lpW3 (wb_W_divideByTerm_19 post p1 kept) n19 v3_6 tooG_7 taken_8 → G19 H locs (F0 m 19 ls []) from hL19 n19 (0 : Int32) tooG_4 taken_5 _ _ _ hP hD hS hl h
  clear h hP hD hS hl
  intro n19
  induction n19 with
  | zero => intro v3_6 tooG_7 taken_8 H locs ls hP hD hS hl h; exact (show False from h).elim
  | succ n19 ihL19 =>
    intro v3_6 tooG_7 taken_8 H locs ls hP hD hS hl h
    replace h : (wb_W_divideByTerm_19 post p1 kept) (lpW3 (wb_W_divideByTerm_19 post p1 kept) n19) v3_6 tooG_7 taken_8 := h
    refine Gi19 _ _ _ ?_
    refine lv_iload_n hx hb d_W_divideByTerm_19 rfl (lv_at hl 0 rfl) ?_
    refine lv_iconst (v := 5) hx hb d_W_divideByTerm_20 (by decide) ?_
    refine lv_icmp_ge (tgt := 41) hx hb d_W_divideByTerm_21 (by decide) (fun hc9 => ?_) (fun hc9 => ?_)
    · replace h := h.1 hc9
      exact W.vret hx hb hr (fun t ht hW => ⟨⟨(tooG_7, taken_8), rfl, h, by rw [ht]; exact hP, va_K.moved hW.alike hK, hD⟩, hS.F ht⟩) hS.2.2 d_W_divideByTerm_41
    · replace h := h.2 hc9
      refine lv_aload_n hx hb d_W_divideByTerm_24 rfl (lv_at hl 1 rfl) ?_
      refine lv_iload_n hx hb d_W_divideByTerm_25 rfl (lv_at hl 0 rfl) ?_
      refine lv_aload_n hx hb d_W_divideByTerm_26 rfl (lv_at hl 2 rfl) ?_
      refine lv_iload_n hx hb d_W_divideByTerm_27 rfl (lv_at hl 3 rfl) ?_
      refine lv_iload_n hx hb d_W_divideByTerm_28 rfl (lv_at hl 0 rfl) ?_
      refine lv_iadd hx hb d_W_divideByTerm_29 ?_
      obtain ⟨g10, h⟩ := h
      refine va_iald hx hb hK hP 1 0 rfl rfl g10 d_W_divideByTerm_30 ?_
      refine lv_ineg hx hb d_W_divideByTerm_31 ?_
      have hF11 := va_free (wc := (wG a0 a1 a2 a3 a4 a5 c1 c2 c4 c5 made size tooG_7 kept sizes rows taken_8)) hD hS hA [0, 1, 2, 3, 4, 5] rfl
      refine va_callv (va_runV (As := [.int v3_6, .int (-(kept (p1 + v3_6).toNatClampNeg))]) (rest := []) ⟨hx, hb, hml, hown, hB⟩ (c_W_raise l D a0 a1 a2 a3 a4 a5 c1 c2 c4 c5 H.size made size tooG_7 kept sizes rows taken_8 v3_6 (-(kept (p1 + v3_6).toNatClampNeg)) _) (cwV 2 hB (goodV wd_207 wd_167 wd_168 wd_2 wd_169) rfl rfl rfl (by decide +kernel) ⟨Nat.le_of_ble_eq_true rfl, Nat.le_of_ble_eq_true rfl⟩) ⟨pcX_blind, va_recv hK hP (ci := 0) (q0 := 3) rfl rfl, pcX_pre hP hK hD hS hX hF11 h⟩ rfl rfl hl.1 rfl (lv_room (Nat.le_of_ble_eq_true rfl)) d_W_divideByTerm_32 ⟨Nat.le_of_ble_eq_true rfl, Nat.le_of_ble_eq_true rfl⟩) hS (fun q _ h => hF11 q h) hF11 (fun u t H locs ht hvm h hB hz1 hk1 hS => ?_)
      obtain ⟨tooG_12, taken_13⟩ := u
      obtain ⟨hP1, hK1, hD1⟩ := hB
      rw [ht] at hP1
      have hP : va_P D vwCl (wG a0 a1 a2 a3 a4 a5 c1 c2 c4 c5 made size tooG_12 kept sizes rows taken_13) H := hP1
      have hD : va_D A (wG a0 a1 a2 a3 a4 a5 c1 c2 c4 c5 made size tooG_12 kept sizes rows taken_13) := hD1.weaken (fun _ _ _ hq => hF11 _ hq)
      obtain ⟨x14, ex14⟩ : ∃ z : Int32, z = v3_6 + 1 := ⟨_, rfl⟩
      replace h := h x14 ex14
      refine lv_iinc (v := x14) (lv' := [(3, .int x14), (0, .ref a3), (1, .ref a1), (2, .int p1)]) hx hb d_W_divideByTerm_35 hl (k := 0) rfl (by rw [ex14]; rfl) (by decide) rfl (fun ls hl => ?_)
      refine lv_goto (tgt := 19) hx hb d_W_divideByTerm_38 (by decide) ?_
      exact Ge19 _ _ _ (ihL19 x14 tooG_12 taken_13 _ _ _ hP hD hS (lv_sub hl [0, 1, 2, 3] rfl) h)
set_option maxHeartbeats 4000000 in
set_option maxRecDepth 100000 in
theorem c_W_placeOfTaken (l : Launch) (D : va_G) (a0 a1 a2 a3 a4 a5 : Nat) (c1 c2 c4 c5 : ClassId) (sz : Nat) (made : Int32) (size : Int32) (tooG : Int32) (kept : (Nat → Int32)) (sizes : (Nat → Int32)) (rows : (Nat → Int32)) (taken : (Nat → Int32)) (post : Int32 → Prop) : Met l y_W_placeOfTaken (Cond.code y_W_placeOfTaken b_W_placeOfTaken 5 (some .int) :: BIG) ({ frames := 1, cells := 0, slots := 0, locals := 24 }) (va_Pc [.ref a3] (pcX D vwCl (wG a0 a1 a2 a3 a4 a5 c1 c2 c4 c5 made size tooG kept sizes rows taken) [(c1, .int), (c2, .int), (c4, .int), (c5, .int)] sz (wp_W_placeOfTaken size rows taken post))) (va_Qi (fun (r : Int32) (_ : Unit) => post r) (fun _ => atG D vwCl [(c1, .int), (c2, .int), (c4, .int), (c5, .int)] (va_A (wG a0 a1 a2 a3 a4 a5 c1 c2 c4 c5 made size tooG kept sizes rows taken) sz) (wG a0 a1 a2 a3 a4 a5 c1 c2 c4 c5 made size tooG kept sizes rows taken)) (va_A (wG a0 a1 a2 a3 a4 a5 c1 c2 c4 c5 made size tooG kept sizes rows taken) sz)) 0 0 (va_A (wG a0 a1 a2 a3 a4 a5 c1 c2 c4 c5 made size tooG kept sizes rows taken) sz) := by
  refine Met.ofW (cc := b_W_placeOfTaken) (maxL := 5) (ret := (some .int)) (by decide) rfl ?_
  intro p e s m args below meth c s₁ B hml hv
  obtain ⟨rfl, hsz, hP, hK, hD0, hX, h⟩ := hv
  have hx := B.exec
  have hb := B.bytes
  have hr := B.returns
  have hB : ∀ w ∈ BIG, w.before _ s = true := fun w h => atoms_spec (ws := (Cond.code y_W_placeOfTaken b_W_placeOfTaken 5 (some .int) :: BIG)) B.pre w (List.mem_cons_of_mem _ h)
  have hown : s.vm.findClass R_W = some m.cls := findClass_of_methodNamed B.named
  have hlocks := B.notSynchronized
  subst hsz
  have hD := hD0.self (sz := s.heap.size)
  generalize hAe : va_A (wG a0 a1 a2 a3 a4 a5 c1 c2 c4 c5 made size tooG kept sizes rows taken) s.heap.size = A at hD hX ⊢
  have hA : ∀ q : Nat, s.heap.size ≤ q → A q := fun q h => by rw [← hAe]; exact Or.inr h
  have hl := lv_entry ([.ref a3]) (n := 5) (Nat.le_of_ble_eq_true rfl)
  rw [lg_entry_eq]
  generalize (lg_sl ([.ref a3]) ++ List.replicate (5 - (lg_sl ([.ref a3])).length) Slot.unset).toArray = ls at hl ⊢
  have hl : lv_has ls 5 [(0, .ref a3)] := hl
  refine W.cap (fun G Gi Ge => ?_)
  suffices hL : ∀ (H : Heap) (locs : List Loc), va_P D vwCl (wG a0 a1 a2 a3 a4 a5 c1 c2 c4 c5 made size tooG kept sizes rows taken) H → va_S A s.heap H locs → G H locs (F0 m 0 ls []) from hL _ _ hP va_S.rf
  clear hP
  intro H locs hP hS
  refine Gi _ _ _ ?_
  unfold wp_W_placeOfTaken at h
  refine lv_iconst (v := 0) hx hb d_W_placeOfTaken_0 (by decide) ?_
  refine lv_istore_n (lv' := [(1, .int 0), (0, .ref a3)]) hx hb d_W_placeOfTaken_1 rfl hl (by decide) rfl (fun ls hl => ?_)
  refine lv_aload_n hx hb d_W_placeOfTaken_2 rfl (lv_at hl 1 rfl) ?_
  refine va_get (D := D) (ci := 0) (v := .int size) (C := R_W) (T := F_W) (N := 4) hx hb hB inF_W hown hK hP 3 rfl rfl 2 (by decide) (hB _ wd_30) (fun _ h9 => h9) rfl d_W_placeOfTaken_3 ?_
  refine lv_istore_n (lv' := [(2, .int size), (1, .int 0), (0, .ref a3)]) hx hb d_W_placeOfTaken_6 rfl hl (by decide) rfl (fun ls hl => ?_)
  refine lv_iconst (v := 0) hx hb d_W_placeOfTaken_7 (by decide) ?_
  refine lv_istore_n (lv' := [(3, .int 0), (2, .int size), (1, .int 0), (0, .ref a3)]) hx hb d_W_placeOfTaken_8 rfl hl (by decide) rfl (fun ls hl => ?_)
  obtain ⟨n9, h⟩ := h
  refine W.cap (fun G9 Gi9 Ge9 => ?_)
  suffices hL9 : ∀ (n9 : Nat) (v1_1 : Int32) (v2_2 : Int32) (v3_3 : Int32) (H : Heap) (locs : List Loc) (ls : Array Slot), va_P D vwCl (wG a0 a1 a2 a3 a4 a5 c1 c2 c4 c5 made size tooG kept sizes rows taken) H → va_D A (wG a0 a1 a2 a3 a4 a5 c1 c2 c4 c5 made size tooG kept sizes rows taken) → va_S A s.heap H locs → lv_has ls 5 [(3, .int v3_3), (2, .int v2_2), (1, .int v1_1), (0, .ref a3)] → lpW3 (wb_W_placeOfTaken_9 post rows taken) n9 v1_1 v2_2 v3_3 → G9 H locs (F0 m 9 ls []) from hL9 n9 (0 : Int32) size (0 : Int32) _ _ _ hP hD hS hl h
  clear h hP hD hS hl
  intro n9
  induction n9 with
  | zero => intro v1_1 v2_2 v3_3 H locs ls hP hD hS hl h; exact (show False from h).elim
  | succ n9 ihL9 =>
    intro v1_1 v2_2 v3_3 H locs ls hP hD hS hl h
    replace h : (wb_W_placeOfTaken_9 post rows taken) (lpW3 (wb_W_placeOfTaken_9 post rows taken) n9) v1_1 v2_2 v3_3 := h
    refine Gi9 _ _ _ ?_
    refine lv_iload_n hx hb d_W_placeOfTaken_9 rfl (lv_at hl 0 rfl) ?_
    refine lv_bipush (v := 100) hx hb d_W_placeOfTaken_10 (by decide) ?_
    refine lv_icmp_ge (tgt := 64) hx hb d_W_placeOfTaken_12 (by decide) (fun hc4 => ?_) (fun hc4 => ?_)
    · replace h := h.1 hc4
      refine lv_iload_n hx hb d_W_placeOfTaken_64 rfl (lv_at hl 2 rfl) ?_
      exact W.iret (v := v1_1) hx hb hr (fun t ht hW => ⟨⟨v1_1, (), rfl, h, by rw [ht]; exact hP, va_K.moved hW.alike hK, hD⟩, hS.F ht⟩) hS.2.2 d_W_placeOfTaken_65
    · replace h := h.2 hc4
      refine lv_iload_n hx hb d_W_placeOfTaken_15 rfl (lv_at hl 2 rfl) ?_
      refine lv_iload_n hx hb d_W_placeOfTaken_16 rfl (lv_at hl 1 rfl) ?_
      refine lv_icmp_ge (tgt := 64) hx hb d_W_placeOfTaken_17 (by decide) (fun hc5 => ?_) (fun hc5 => ?_)
      · replace h := h.1 hc5
        refine lv_iload_n hx hb d_W_placeOfTaken_64 rfl (lv_at hl 2 rfl) ?_
        exact W.iret (v := v1_1) hx hb hr (fun t ht hW => ⟨⟨v1_1, (), rfl, h, by rw [ht]; exact hP, va_K.moved hW.alike hK, hD⟩, hS.F ht⟩) hS.2.2 d_W_placeOfTaken_65
      · replace h := h.2 hc5
        refine lv_iload_n hx hb d_W_placeOfTaken_20 rfl (lv_at hl 2 rfl) ?_
        refine lv_iload_n hx hb d_W_placeOfTaken_21 rfl (lv_at hl 1 rfl) ?_
        refine lv_iadd hx hb d_W_placeOfTaken_22 ?_
        refine lv_iconst (v := 1) hx hb d_W_placeOfTaken_23 (by decide) ?_
        refine lv_iushr hx hb d_W_placeOfTaken_24 rfl ?_
        refine lv_topi (fun x6 ex6 => ?_)
        replace h := h x6 ex6
        refine lv_istore (lv' := [(4, .int x6), (3, .int v3_3), (2, .int v2_2), (1, .int v1_1), (0, .ref a3)]) hx hb d_W_placeOfTaken_25 hl (by decide) rfl (fun ls hl => ?_)
        refine lv_aload_n hx hb d_W_placeOfTaken_27 rfl (lv_at hl 4 rfl) ?_
        refine va_get (D := D) (ci := 0) (v := .ref a4) (C := R_W) (T := F_W) (N := 4) hx hb hB inF_W hown hK hP 3 rfl rfl 0 (by decide) (hB _ wd_27) (fun _ h9 => h9) rfl d_W_placeOfTaken_28 ?_
        refine lv_iload hx hb d_W_placeOfTaken_31 (lv_at hl 0 rfl) ?_
        refine lv_bipush (v := 7) hx hb d_W_placeOfTaken_33 (by decide) ?_
        refine lv_imul hx hb d_W_placeOfTaken_35 ?_
        refine lv_aload_n hx hb d_W_placeOfTaken_36 rfl (lv_at hl 4 rfl) ?_
        refine va_get (D := D) (ci := 0) (v := .ref a5) (C := R_W) (T := F_W) (N := 4) hx hb hB inF_W hown hK hP 3 rfl rfl 1 (by decide) (hB _ wd_29) (fun _ h9 => h9) rfl d_W_placeOfTaken_37 ?_
        refine lv_iconst (v := 0) hx hb d_W_placeOfTaken_40 (by decide) ?_
        have hF7 := va_free (wc := (wG a0 a1 a2 a3 a4 a5 c1 c2 c4 c5 made size tooG kept sizes rows taken)) hD hS hA [0, 1, 2, 3, 4, 5] rfl
        refine va_calli (va_runSN (As := [.ref a4, .int (x6 * 7), .ref a5, .int 0]) (rest := []) ⟨hx, hb, hml, hown, hB⟩ (c_G_rankOfTerms_rt l D a0 a1 a2 a3 a4 a5 c1 c2 c4 c5 H.size made size tooG kept sizes rows taken (x6 * 7) 0 _) ⟨va_cnB 4 hB (goodB wd_128) rfl rfl rfl (hX.1 (.methodLinkNest "GrowthLimits$Work" 48 y_G_rankOfTerms "GrowthLimits") (by decide +kernel)) (hB _ wd_1) (by decide +kernel) ⟨Nat.le_of_ble_eq_true rfl, Nat.le_of_ble_eq_true rfl⟩, hB _ wd_127, trivial⟩ ⟨pcX_blind, pcX_pre hP hK hD hS hX hF7 h⟩ rfl rfl hl.1 rfl (lv_room (Nat.le_of_ble_eq_true rfl)) d_W_placeOfTaken_41 ⟨Nat.le_of_ble_eq_true rfl, Nat.le_of_ble_eq_true rfl⟩) hS (fun q _ h => hF7 q h) hF7 (fun r8 u t H locs ht hvm h hB hz1 hk1 hS => ?_)
        obtain ⟨hP1, hK1, hD1⟩ := hB
        rw [ht] at hP1
        have hP : va_P D vwCl (wG a0 a1 a2 a3 a4 a5 c1 c2 c4 c5 made size tooG kept sizes rows taken) H := hP1
        have hD : va_D A (wG a0 a1 a2 a3 a4 a5 c1 c2 c4 c5 made size tooG kept sizes rows taken) := hD1.weaken (fun _ _ _ hq => hF7 _ hq)
        refine lv_if_le (tgt := 55) hx hb d_W_placeOfTaken_44 (by decide) (fun hc9 => ?_) (fun hc9 => ?_)
        · replace h := h.1 hc9
          refine lv_iload hx hb d_W_placeOfTaken_55 (lv_at hl 0 rfl) ?_
          refine lv_istore_n (lv' := [(2, .int x6), (4, .int x6), (3, .int v3_3), (1, .int v1_1), (0, .ref a3)]) hx hb d_W_placeOfTaken_57 rfl hl (by decide) rfl (fun ls hl => ?_)
          obtain ⟨x10, ex10⟩ : ∃ z : Int32, z = v3_3 + 1 := ⟨_, rfl⟩
          replace h := h x10 ex10
          refine lv_iinc (v := x10) (lv' := [(3, .int x10), (2, .int x6), (4, .int x6), (1, .int v1_1), (0, .ref a3)]) hx hb d_W_placeOfTaken_58 hl (k := 2) rfl (by rw [ex10]; rfl) (by decide) rfl (fun ls hl => ?_)
          refine lv_goto (tgt := 9) hx hb d_W_placeOfTaken_61 (by decide) ?_
          exact Ge9 _ _ _ (ihL9 v1_1 x6 x10 _ _ _ hP hD hS (lv_sub hl [0, 1, 3, 4] rfl) h)
        · replace h := h.2 hc9
          refine lv_iload hx hb d_W_placeOfTaken_47 (lv_at hl 0 rfl) ?_
          refine lv_iconst (v := 1) hx hb d_W_placeOfTaken_49 (by decide) ?_
          refine lv_iadd hx hb d_W_placeOfTaken_50 ?_
          refine lv_topi (fun x11 ex11 => ?_)
          replace h := h x11 ex11
          refine lv_istore_n (lv' := [(1, .int x11), (4, .int x6), (3, .int v3_3), (2, .int v2_2), (0, .ref a3)]) hx hb d_W_placeOfTaken_51 rfl hl (by decide) rfl (fun ls hl => ?_)
          refine lv_goto (tgt := 58) hx hb d_W_placeOfTaken_52 (by decide) ?_
          obtain ⟨x12, ex12⟩ : ∃ z : Int32, z = v3_3 + 1 := ⟨_, rfl⟩
          replace h := h x12 ex12
          refine lv_iinc (v := x12) (lv' := [(3, .int x12), (1, .int x11), (4, .int x6), (2, .int v2_2), (0, .ref a3)]) hx hb d_W_placeOfTaken_58 hl (k := 2) rfl (by rw [ex12]; rfl) (by decide) rfl (fun ls hl => ?_)
          refine lv_goto (tgt := 9) hx hb d_W_placeOfTaken_61 (by decide) ?_
          exact Ge9 _ _ _ (ihL9 x11 v2_2 x12 _ _ _ hP hD hS (lv_sub hl [0, 3, 1, 4] rfl) h)
set_option maxHeartbeats 4000000 in
set_option maxRecDepth 100000 in
theorem c_W_removeRow (l : Launch) (D : va_G) (a0 a1 a2 a3 a4 a5 : Nat) (c1 c2 c4 c5 : ClassId) (sz : Nat) (made : Int32) (size : Int32) (tooG : Int32) (kept : (Nat → Int32)) (sizes : (Nat → Int32)) (rows : (Nat → Int32)) (taken : (Nat → Int32)) (p0 : Int32) (post : Int32 → (Nat → Int32) → Prop) : Met l y_W_removeRow (Cond.code y_W_removeRow b_W_removeRow 3 none :: BIG) ({ frames := 1, cells := 0, slots := 0, locals := 60 }) (va_Pc [.ref a3, .int p0] (pcX D vwCl (wG a0 a1 a2 a3 a4 a5 c1 c2 c4 c5 made size tooG kept sizes rows taken) [(c1, .int), (c2, .int), (c4, .int), (c5, .int)] sz (wp_W_removeRow size rows p0 post))) (va_Qv (fun (u : Int32 × (Nat → Int32)) => post (u.1) (u.2)) (fun u => atG D vwCl [(c1, .int), (c2, .int), (c4, .int), (c5, .int)] (va_A (wG a0 a1 a2 a3 a4 a5 c1 c2 c4 c5 made size tooG kept sizes rows taken) sz) (wG a0 a1 a2 a3 a4 a5 c1 c2 c4 c5 made (u.1) tooG kept sizes (u.2) taken)) (va_A (wG a0 a1 a2 a3 a4 a5 c1 c2 c4 c5 made size tooG kept sizes rows taken) sz)) 0 0 (va_A (wG a0 a1 a2 a3 a4 a5 c1 c2 c4 c5 made size tooG kept sizes rows taken) sz) := by
  refine Met.ofW (cc := b_W_removeRow) (maxL := 3) (ret := none) (by decide) rfl ?_
  intro p e s m args below meth c s₁ B hml hv
  obtain ⟨rfl, hsz, hP, hK, hD0, hX, h⟩ := hv
  have hx := B.exec
  have hb := B.bytes
  have hr := B.returns
  have hB : ∀ w ∈ BIG, w.before _ s = true := fun w h => atoms_spec (ws := (Cond.code y_W_removeRow b_W_removeRow 3 none :: BIG)) B.pre w (List.mem_cons_of_mem _ h)
  have hown : s.vm.findClass R_W = some m.cls := findClass_of_methodNamed B.named
  have hlocks := B.notSynchronized
  subst hsz
  have hD := hD0.self (sz := s.heap.size)
  generalize hAe : va_A (wG a0 a1 a2 a3 a4 a5 c1 c2 c4 c5 made size tooG kept sizes rows taken) s.heap.size = A at hD hX ⊢
  have hA : ∀ q : Nat, s.heap.size ≤ q → A q := fun q h => by rw [← hAe]; exact Or.inr h
  have hl := lv_entry ([.ref a3, .int p0]) (n := 3) (Nat.le_of_ble_eq_true rfl)
  rw [lg_entry_eq]
  generalize (lg_sl ([.ref a3, .int p0]) ++ List.replicate (3 - (lg_sl ([.ref a3, .int p0])).length) Slot.unset).toArray = ls at hl ⊢
  have hl : lv_has ls 3 [(0, .ref a3), (1, .int p0)] := hl
  refine W.cap (fun G Gi Ge => ?_)
  suffices hL : ∀ (H : Heap) (locs : List Loc), va_P D vwCl (wG a0 a1 a2 a3 a4 a5 c1 c2 c4 c5 made size tooG kept sizes rows taken) H → va_S A s.heap H locs → G H locs (F0 m 0 ls []) from hL _ _ hP va_S.rf
  clear hP
  intro H locs hP hS
  refine Gi _ _ _ ?_
  unfold wp_W_removeRow at h
  refine lv_iload_n hx hb d_W_removeRow_0 rfl (lv_at hl 1 rfl) ?_
  refine lv_bipush (v := 7) hx hb d_W_removeRow_1 (by decide) ?_
  refine lv_imul hx hb d_W_removeRow_3 ?_
  refine lv_topi (fun x1 ex1 => ?_)
  replace h := h x1 ex1
  refine lv_istore_n (lv' := [(2, .int x1), (0, .ref a3), (1, .int p0)]) hx hb d_W_removeRow_4 rfl hl (by decide) rfl (fun ls hl => ?_)
  refine lv_aload_n hx hb d_W_removeRow_5 rfl (lv_at hl 1 rfl) ?_
  refine va_get (D := D) (ci := 0) (v := .ref a4) (C := R_W) (T := F_W) (N := 4) hx hb hB inF_W hown hK hP 3 rfl rfl 0 (by decide) (hB _ wd_27) (fun _ h9 => h9) rfl d_W_removeRow_6 ?_
  refine lv_iload_n hx hb d_W_removeRow_9 rfl (lv_at hl 0 rfl) ?_
  refine lv_bipush (v := 7) hx hb d_W_removeRow_10 (by decide) ?_
  refine lv_iadd hx hb d_W_removeRow_12 ?_
  refine lv_aload_n hx hb d_W_removeRow_13 rfl (lv_at hl 1 rfl) ?_
  refine va_get (D := D) (ci := 0) (v := .ref a4) (C := R_W) (T := F_W) (N := 4) hx hb hB inF_W hown hK hP 3 rfl rfl 0 (by decide) (hB _ wd_27) (fun _ h9 => h9) rfl d_W_removeRow_14 ?_
  refine lv_iload_n hx hb d_W_removeRow_17 rfl (lv_at hl 0 rfl) ?_
  refine lv_aload_n hx hb d_W_removeRow_18 rfl (lv_at hl 1 rfl) ?_
  refine va_get (D := D) (ci := 0) (v := .int size) (C := R_W) (T := F_W) (N := 4) hx hb hB inF_W hown hK hP 3 rfl rfl 2 (by decide) (hB _ wd_30) (fun _ h9 => h9) rfl d_W_removeRow_19 ?_
  refine lv_iload_n hx hb d_W_removeRow_22 rfl (lv_at hl 2 rfl) ?_
  refine lv_isub hx hb d_W_removeRow_23 ?_
  refine lv_iconst (v := 1) hx hb d_W_removeRow_24 (by decide) ?_
  refine lv_isub hx hb d_W_removeRow_25 ?_
  refine lv_bipush (v := 7) hx hb d_W_removeRow_26 (by decide) ?_
  refine lv_imul hx hb d_W_removeRow_28 ?_
  obtain ⟨g2, h⟩ := h
  obtain ⟨rows_3, erows_3⟩ : ∃ z : (Nat → Int32), z = va_cpy rows rows (x1 + 7).toNatClampNeg x1.toNatClampNeg (((size - p0) - 1) * 7).toNatClampNeg := ⟨_, rfl⟩
  replace h := h rows_3 erows_3
  refine va_copyi hx hb (hml.trans hl.1.symm) hown (hB _ wd_135) (hB _ wd_137) (hB _ wd_136) (hB _ wd_10) hK hP hD hS 4 4 2 2 (ty := .int) rfl rfl rfl rfl rfl g2.1 g2.2.1 g2.2.2.1 g2.2.2.2.1 g2.2.2.2.2 (fun _ _ => rfl) (Nat.le_of_ble_eq_true rfl) (Nat.le_of_ble_eq_true rfl) d_W_removeRow_29 (fun H locs hP hD hS => ?_)
  have hP : va_P D vwCl (wG a0 a1 a2 a3 a4 a5 c1 c2 c4 c5 made size tooG kept sizes rows_3 taken) H := by rw [erows_3]; exact hP
  have hD : va_D A (wG a0 a1 a2 a3 a4 a5 c1 c2 c4 c5 made size tooG kept sizes rows_3 taken) := by rw [erows_3]; exact hD
  refine lv_aload_n hx hb d_W_removeRow_32 rfl (lv_at hl 1 rfl) ?_
  refine lv_dup hx hb d_W_removeRow_33 rfl ?_
  refine va_get (D := D) (ci := 0) (v := .int size) (C := R_W) (T := F_W) (N := 4) hx hb hB inF_W hown hK hP 3 rfl rfl 2 (by decide) (hB _ wd_30) (fun _ h9 => h9) rfl d_W_removeRow_34 ?_
  refine lv_iconst (v := 1) hx hb d_W_removeRow_37 (by decide) ?_
  refine lv_isub hx hb d_W_removeRow_38 ?_
  refine lv_topi (fun x4 ex4 => ?_)
  replace h := h x4 ex4
  refine va_put (D := D) (ci := 0) (v := .int x4) (ty := .int) (C := R_W) (T := F_W) (N := 4) hx hb hB inF_W t_W t_W_ok n_W hown hK hP hD hS 3 rfl rfl 2 (by decide) (hB _ wd_30) (fun _ h9 => h9) rfl (by decide +kernel) rfl rfl (Nat.le_of_ble_eq_true rfl) d_W_removeRow_39 (fun H locs hP hD hS => ?_)
  have hP : va_P D vwCl (wG a0 a1 a2 a3 a4 a5 c1 c2 c4 c5 made x4 tooG kept sizes rows_3 taken) H := hP
  have hD : va_D A (wG a0 a1 a2 a3 a4 a5 c1 c2 c4 c5 made x4 tooG kept sizes rows_3 taken) := hD
  exact W.vret hx hb hr (fun t ht hW => ⟨⟨(x4, rows_3), rfl, h, by rw [ht]; exact hP, va_K.moved hW.alike hK, hD⟩, hS.F ht⟩) hS.2.2 d_W_removeRow_42
set_option maxHeartbeats 4000000 in
set_option maxRecDepth 100000 in
theorem c_W_insertTaken (l : Launch) (D : va_G) (a0 a1 a2 a3 a4 a5 : Nat) (c1 c2 c4 c5 : ClassId) (sz : Nat) (made : Int32) (size : Int32) (tooG : Int32) (kept : (Nat → Int32)) (sizes : (Nat → Int32)) (rows : (Nat → Int32)) (taken : (Nat → Int32)) (p0 : Int32) (post : Int32 → Int32 → (Nat → Int32) → Prop) : Met l y_W_insertTaken (Cond.code y_W_insertTaken b_W_insertTaken 3 none :: BIG) ({ frames := 1, cells := 0, slots := 0, locals := 60 }) (va_Pc [.ref a3, .int p0] (pcX D vwCl (wG a0 a1 a2 a3 a4 a5 c1 c2 c4 c5 made size tooG kept sizes rows taken) [(c1, .int), (c2, .int), (c4, .int), (c5, .int)] sz (wp_W_insertTaken size tooG rows taken p0 post))) (va_Qv (fun (u : Int32 × Int32 × (Nat → Int32)) => post (u.1) (u.2.1) (u.2.2)) (fun u => atG D vwCl [(c1, .int), (c2, .int), (c4, .int), (c5, .int)] (va_A (wG a0 a1 a2 a3 a4 a5 c1 c2 c4 c5 made size tooG kept sizes rows taken) sz) (wG a0 a1 a2 a3 a4 a5 c1 c2 c4 c5 made (u.1) (u.2.1) kept sizes (u.2.2) taken)) (va_A (wG a0 a1 a2 a3 a4 a5 c1 c2 c4 c5 made size tooG kept sizes rows taken) sz)) 0 0 (va_A (wG a0 a1 a2 a3 a4 a5 c1 c2 c4 c5 made size tooG kept sizes rows taken) sz) := by
  refine Met.ofW (cc := b_W_insertTaken) (maxL := 3) (ret := none) (by decide) rfl ?_
  intro p e s m args below meth c s₁ B hml hv
  obtain ⟨rfl, hsz, hP, hK, hD0, hX, h⟩ := hv
  have hx := B.exec
  have hb := B.bytes
  have hr := B.returns
  have hB : ∀ w ∈ BIG, w.before _ s = true := fun w h => atoms_spec (ws := (Cond.code y_W_insertTaken b_W_insertTaken 3 none :: BIG)) B.pre w (List.mem_cons_of_mem _ h)
  have hown : s.vm.findClass R_W = some m.cls := findClass_of_methodNamed B.named
  have hlocks := B.notSynchronized
  subst hsz
  have hD := hD0.self (sz := s.heap.size)
  generalize hAe : va_A (wG a0 a1 a2 a3 a4 a5 c1 c2 c4 c5 made size tooG kept sizes rows taken) s.heap.size = A at hD hX ⊢
  have hA : ∀ q : Nat, s.heap.size ≤ q → A q := fun q h => by rw [← hAe]; exact Or.inr h
  have hl := lv_entry ([.ref a3, .int p0]) (n := 3) (Nat.le_of_ble_eq_true rfl)
  rw [lg_entry_eq]
  generalize (lg_sl ([.ref a3, .int p0]) ++ List.replicate (3 - (lg_sl ([.ref a3, .int p0])).length) Slot.unset).toArray = ls at hl ⊢
  have hl : lv_has ls 3 [(0, .ref a3), (1, .int p0)] := hl
  refine W.cap (fun G Gi Ge => ?_)
  suffices hL : ∀ (H : Heap) (locs : List Loc), va_P D vwCl (wG a0 a1 a2 a3 a4 a5 c1 c2 c4 c5 made size tooG kept sizes rows taken) H → va_S A s.heap H locs → G H locs (F0 m 0 ls []) from hL _ _ hP va_S.rf
  clear hP
  intro H locs hP hS
  refine Gi _ _ _ ?_
  unfold wp_W_insertTaken at h
  refine lv_aload_n hx hb d_W_insertTaken_0 rfl (lv_at hl 0 rfl) ?_
  refine va_get (D := D) (ci := 0) (v := .int size) (C := R_W) (T := F_W) (N := 4) hx hb hB inF_W hown hK hP 3 rfl rfl 2 (by decide) (hB _ wd_30) (fun _ h9 => h9) rfl d_W_insertTaken_1 ?_
  refine lv_bipush (v := 100) hx hb d_W_insertTaken_4 (by decide) ?_
  refine lv_icmp_lt (tgt := 15) hx hb d_W_insertTaken_6 (by decide) (fun hc1 => ?_) (fun hc1 => ?_)
  · replace h := h.1 hc1
    refine lv_iload_n hx hb d_W_insertTaken_15 rfl (lv_at hl 1 rfl) ?_
    refine lv_bipush (v := 7) hx hb d_W_insertTaken_16 (by decide) ?_
    refine lv_imul hx hb d_W_insertTaken_18 ?_
    refine lv_topi (fun x2 ex2 => ?_)
    replace h := h x2 ex2
    refine lv_istore_n (lv' := [(2, .int x2), (0, .ref a3), (1, .int p0)]) hx hb d_W_insertTaken_19 rfl hl (by decide) rfl (fun ls hl => ?_)
    refine lv_aload_n hx hb d_W_insertTaken_20 rfl (lv_at hl 1 rfl) ?_
    refine va_get (D := D) (ci := 0) (v := .ref a4) (C := R_W) (T := F_W) (N := 4) hx hb hB inF_W hown hK hP 3 rfl rfl 0 (by decide) (hB _ wd_27) (fun _ h9 => h9) rfl d_W_insertTaken_21 ?_
    refine lv_iload_n hx hb d_W_insertTaken_24 rfl (lv_at hl 0 rfl) ?_
    refine lv_aload_n hx hb d_W_insertTaken_25 rfl (lv_at hl 1 rfl) ?_
    refine va_get (D := D) (ci := 0) (v := .ref a4) (C := R_W) (T := F_W) (N := 4) hx hb hB inF_W hown hK hP 3 rfl rfl 0 (by decide) (hB _ wd_27) (fun _ h9 => h9) rfl d_W_insertTaken_26 ?_
    refine lv_iload_n hx hb d_W_insertTaken_29 rfl (lv_at hl 0 rfl) ?_
    refine lv_bipush (v := 7) hx hb d_W_insertTaken_30 (by decide) ?_
    refine lv_iadd hx hb d_W_insertTaken_32 ?_
    refine lv_aload_n hx hb d_W_insertTaken_33 rfl (lv_at hl 1 rfl) ?_
    refine va_get (D := D) (ci := 0) (v := .int size) (C := R_W) (T := F_W) (N := 4) hx hb hB inF_W hown hK hP 3 rfl rfl 2 (by decide) (hB _ wd_30) (fun _ h9 => h9) rfl d_W_insertTaken_34 ?_
    refine lv_iload_n hx hb d_W_insertTaken_37 rfl (lv_at hl 2 rfl) ?_
    refine lv_isub hx hb d_W_insertTaken_38 ?_
    refine lv_bipush (v := 7) hx hb d_W_insertTaken_39 (by decide) ?_
    refine lv_imul hx hb d_W_insertTaken_41 ?_
    obtain ⟨g3, h⟩ := h
    obtain ⟨rows_4, erows_4⟩ : ∃ z : (Nat → Int32), z = va_cpy rows rows x2.toNatClampNeg (x2 + 7).toNatClampNeg ((size - p0) * 7).toNatClampNeg := ⟨_, rfl⟩
    replace h := h rows_4 erows_4
    refine va_copyi hx hb (hml.trans hl.1.symm) hown (hB _ wd_135) (hB _ wd_137) (hB _ wd_136) (hB _ wd_10) hK hP hD hS 4 4 2 2 (ty := .int) rfl rfl rfl rfl rfl g3.1 g3.2.1 g3.2.2.1 g3.2.2.2.1 g3.2.2.2.2 (fun _ _ => rfl) (Nat.le_of_ble_eq_true rfl) (Nat.le_of_ble_eq_true rfl) d_W_insertTaken_42 (fun H locs hP hD hS => ?_)
    have hP : va_P D vwCl (wG a0 a1 a2 a3 a4 a5 c1 c2 c4 c5 made size tooG kept sizes rows_4 taken) H := by rw [erows_4]; exact hP
    have hD : va_D A (wG a0 a1 a2 a3 a4 a5 c1 c2 c4 c5 made size tooG kept sizes rows_4 taken) := by rw [erows_4]; exact hD
    refine lv_aload_n hx hb d_W_insertTaken_45 rfl (lv_at hl 1 rfl) ?_
    refine va_get (D := D) (ci := 0) (v := .ref a5) (C := R_W) (T := F_W) (N := 4) hx hb hB inF_W hown hK hP 3 rfl rfl 1 (by decide) (hB _ wd_29) (fun _ h9 => h9) rfl d_W_insertTaken_46 ?_
    refine lv_iconst (v := 0) hx hb d_W_insertTaken_49 (by decide) ?_
    refine lv_aload_n hx hb d_W_insertTaken_50 rfl (lv_at hl 1 rfl) ?_
    refine va_get (D := D) (ci := 0) (v := .ref a4) (C := R_W) (T := F_W) (N := 4) hx hb hB inF_W hown hK hP 3 rfl rfl 0 (by decide) (hB _ wd_27) (fun _ h9 => h9) rfl d_W_insertTaken_51 ?_
    refine lv_iload_n hx hb d_W_insertTaken_54 rfl (lv_at hl 0 rfl) ?_
    refine lv_bipush (v := 7) hx hb d_W_insertTaken_55 (by decide) ?_
    obtain ⟨g5, h⟩ := h
    obtain ⟨rows_6, erows_6⟩ : ∃ z : (Nat → Int32), z = va_cpy taken rows_4 (0 : Int32).toNatClampNeg x2.toNatClampNeg (7 : Int32).toNatClampNeg := ⟨_, rfl⟩
    replace h := h rows_6 erows_6
    refine va_copyi hx hb (hml.trans hl.1.symm) hown (hB _ wd_135) (hB _ wd_137) (hB _ wd_136) (hB _ wd_10) hK hP hD hS 5 4 3 2 (ty := .int) rfl rfl rfl rfl rfl g5.1 g5.2.1 g5.2.2.1 g5.2.2.2.1 g5.2.2.2.2 (fun _ _ => rfl) (Nat.le_of_ble_eq_true rfl) (Nat.le_of_ble_eq_true rfl) d_W_insertTaken_57 (fun H locs hP hD hS => ?_)
    have hP : va_P D vwCl (wG a0 a1 a2 a3 a4 a5 c1 c2 c4 c5 made size tooG kept sizes rows_6 taken) H := by rw [erows_6]; exact hP
    have hD : va_D A (wG a0 a1 a2 a3 a4 a5 c1 c2 c4 c5 made size tooG kept sizes rows_6 taken) := by rw [erows_6]; exact hD
    refine lv_aload_n hx hb d_W_insertTaken_60 rfl (lv_at hl 1 rfl) ?_
    refine lv_dup hx hb d_W_insertTaken_61 rfl ?_
    refine va_get (D := D) (ci := 0) (v := .int size) (C := R_W) (T := F_W) (N := 4) hx hb hB inF_W hown hK hP 3 rfl rfl 2 (by decide) (hB _ wd_30) (fun _ h9 => h9) rfl d_W_insertTaken_62 ?_
    refine lv_iconst (v := 1) hx hb d_W_insertTaken_65 (by decide) ?_
    refine lv_iadd hx hb d_W_insertTaken_66 ?_
    refine lv_topi (fun x7 ex7 => ?_)
    replace h := h x7 ex7
    refine va_put (D := D) (ci := 0) (v := .int x7) (ty := .int) (C := R_W) (T := F_W) (N := 4) hx hb hB inF_W t_W t_W_ok n_W hown hK hP hD hS 3 rfl rfl 2 (by decide) (hB _ wd_30) (fun _ h9 => h9) rfl (by decide +kernel) rfl rfl (Nat.le_of_ble_eq_true rfl) d_W_insertTaken_67 (fun H locs hP hD hS => ?_)
    have hP : va_P D vwCl (wG a0 a1 a2 a3 a4 a5 c1 c2 c4 c5 made x7 tooG kept sizes rows_6 taken) H := hP
    have hD : va_D A (wG a0 a1 a2 a3 a4 a5 c1 c2 c4 c5 made x7 tooG kept sizes rows_6 taken) := hD
    exact W.vret hx hb hr (fun t ht hW => ⟨⟨(x7, tooG, rows_6), rfl, h, by rw [ht]; exact hP, va_K.moved hW.alike hK, hD⟩, hS.F ht⟩) hS.2.2 d_W_insertTaken_70
  · replace h := h.2 hc1
    refine lv_aload_n hx hb d_W_insertTaken_9 rfl (lv_at hl 0 rfl) ?_
    refine lv_iconst (v := 1) hx hb d_W_insertTaken_10 (by decide) ?_
    refine va_put (D := D) (ci := 0) (v := .int 1) (ty := .boolean) (C := R_W) (T := F_W) (N := 4) hx hb hB inF_W t_W t_W_ok n_W hown hK hP hD hS 3 rfl rfl 3 (by decide) (hB _ wd_32) (fun _ h9 => h9) rfl (by decide +kernel) rfl rfl (Nat.le_of_ble_eq_true rfl) d_W_insertTaken_11 (fun H locs hP hD hS => ?_)
    have hP : va_P D vwCl (wG a0 a1 a2 a3 a4 a5 c1 c2 c4 c5 made size 1 kept sizes rows taken) H := hP
    have hD : va_D A (wG a0 a1 a2 a3 a4 a5 c1 c2 c4 c5 made size 1 kept sizes rows taken) := hD
    exact W.vret hx hb hr (fun t ht hW => ⟨⟨(size, 1, rows), rfl, h, by rw [ht]; exact hP, va_K.moved hW.alike hK, hD⟩, hS.F ht⟩) hS.2.2 d_W_insertTaken_14
set_option maxHeartbeats 4000000 in
set_option maxRecDepth 100000 in
theorem c_W_addTaken (l : Launch) (D : va_G) (a0 a1 a2 a3 a4 a5 : Nat) (c1 c2 c4 c5 : ClassId) (sz : Nat) (made : Int32) (size : Int32) (tooG : Int32) (kept : (Nat → Int32)) (sizes : (Nat → Int32)) (rows : (Nat → Int32)) (taken : (Nat → Int32)) (p0 : Int32) (post : Int32 → Int32 → (Nat → Int32) → Prop) : Met l y_W_addTaken (Cond.code y_W_addTaken b_W_addTaken 5 none :: BIG) ({ frames := 3, cells := 0, slots := 0, locals := 83 }) (va_Pc [.ref a3, .int p0] (pcX D vwCl (wG a0 a1 a2 a3 a4 a5 c1 c2 c4 c5 made size tooG kept sizes rows taken) [(c1, .int), (c2, .int), (c4, .int), (c5, .int)] sz (wp_W_addTaken size tooG rows taken p0 post))) (va_Qv (fun (u : Int32 × Int32 × (Nat → Int32)) => post (u.1) (u.2.1) (u.2.2)) (fun u => atG D vwCl [(c1, .int), (c2, .int), (c4, .int), (c5, .int)] (va_A (wG a0 a1 a2 a3 a4 a5 c1 c2 c4 c5 made size tooG kept sizes rows taken) sz) (wG a0 a1 a2 a3 a4 a5 c1 c2 c4 c5 made (u.1) (u.2.1) kept sizes (u.2.2) taken)) (va_A (wG a0 a1 a2 a3 a4 a5 c1 c2 c4 c5 made size tooG kept sizes rows taken) sz)) 0 0 (va_A (wG a0 a1 a2 a3 a4 a5 c1 c2 c4 c5 made size tooG kept sizes rows taken) sz) := by
  refine Met.ofW (cc := b_W_addTaken) (maxL := 5) (ret := none) (by decide) rfl ?_
  intro p e s m args below meth c s₁ B hml hv
  obtain ⟨rfl, hsz, hP, hK, hD0, hX, h⟩ := hv
  have hx := B.exec
  have hb := B.bytes
  have hr := B.returns
  have hB : ∀ w ∈ BIG, w.before _ s = true := fun w h => atoms_spec (ws := (Cond.code y_W_addTaken b_W_addTaken 5 none :: BIG)) B.pre w (List.mem_cons_of_mem _ h)
  have hown : s.vm.findClass R_W = some m.cls := findClass_of_methodNamed B.named
  have hlocks := B.notSynchronized
  subst hsz
  have hD := hD0.self (sz := s.heap.size)
  generalize hAe : va_A (wG a0 a1 a2 a3 a4 a5 c1 c2 c4 c5 made size tooG kept sizes rows taken) s.heap.size = A at hD hX ⊢
  have hA : ∀ q : Nat, s.heap.size ≤ q → A q := fun q h => by rw [← hAe]; exact Or.inr h
  have hl := lv_entry ([.ref a3, .int p0]) (n := 5) (Nat.le_of_ble_eq_true rfl)
  rw [lg_entry_eq]
  generalize (lg_sl ([.ref a3, .int p0]) ++ List.replicate (5 - (lg_sl ([.ref a3, .int p0])).length) Slot.unset).toArray = ls at hl ⊢
  have hl : lv_has ls 5 [(0, .ref a3), (1, .int p0)] := hl
  refine W.cap (fun G Gi Ge => ?_)
  suffices hL : ∀ (H : Heap) (locs : List Loc), va_P D vwCl (wG a0 a1 a2 a3 a4 a5 c1 c2 c4 c5 made size tooG kept sizes rows taken) H → va_S A s.heap H locs → G H locs (F0 m 0 ls []) from hL _ _ hP va_S.rf
  clear hP
  intro H locs hP hS
  refine Gi _ _ _ ?_
  unfold wp_W_addTaken at h
  refine lv_iload_n hx hb d_W_addTaken_0 rfl (lv_at hl 1 rfl) ?_
  refine lv_bipush (v := 7) hx hb d_W_addTaken_1 (by decide) ?_
  refine lv_imul hx hb d_W_addTaken_3 ?_
  refine lv_topi (fun x1 ex1 => ?_)
  replace h := h x1 ex1
  refine lv_istore_n (lv' := [(2, .int x1), (0, .ref a3), (1, .int p0)]) hx hb d_W_addTaken_4 rfl hl (by decide) rfl (fun ls hl => ?_)
  refine lv_aload_n hx hb d_W_addTaken_5 rfl (lv_at hl 1 rfl) ?_
  refine va_get (D := D) (ci := 0) (v := .ref a4) (C := R_W) (T := F_W) (N := 4) hx hb hB inF_W hown hK hP 3 rfl rfl 0 (by decide) (hB _ wd_27) (fun _ h9 => h9) rfl d_W_addTaken_6 ?_
  refine lv_iload_n hx hb d_W_addTaken_9 rfl (lv_at hl 0 rfl) ?_
  refine lv_iconst (v := 5) hx hb d_W_addTaken_10 (by decide) ?_
  refine lv_iadd hx hb d_W_addTaken_11 ?_
  obtain ⟨g2, h⟩ := h
  refine va_iald hx hb hK hP 4 2 rfl rfl g2 d_W_addTaken_12 ?_
  refine lv_i2l hx hb d_W_addTaken_13 rfl ?_
  refine lv_aload_n hx hb d_W_addTaken_14 rfl (lv_at hl 1 rfl) ?_
  refine va_get (D := D) (ci := 0) (v := .ref a5) (C := R_W) (T := F_W) (N := 4) hx hb hB inF_W hown hK hP 3 rfl rfl 1 (by decide) (hB _ wd_29) (fun _ h9 => h9) rfl d_W_addTaken_15 ?_
  refine lv_bipush (v := 6) hx hb d_W_addTaken_18 (by decide) ?_
  obtain ⟨g3, h⟩ := h
  refine va_iald hx hb hK hP 5 3 rfl rfl g3 d_W_addTaken_20 ?_
  refine lv_i2l hx hb d_W_addTaken_21 rfl ?_
  refine lv_lmul hx hb d_W_addTaken_22 ?_
  refine lv_aload_n hx hb d_W_addTaken_23 rfl (lv_at hl 1 rfl) ?_
  refine va_get (D := D) (ci := 0) (v := .ref a5) (C := R_W) (T := F_W) (N := 4) hx hb hB inF_W hown hK hP 3 rfl rfl 1 (by decide) (hB _ wd_29) (fun _ h9 => h9) rfl d_W_addTaken_24 ?_
  refine lv_iconst (v := 5) hx hb d_W_addTaken_27 (by decide) ?_
  obtain ⟨g4, h⟩ := h
  refine va_iald hx hb hK hP 5 3 rfl rfl g4 d_W_addTaken_28 ?_
  refine lv_i2l hx hb d_W_addTaken_29 rfl ?_
  refine lv_aload_n hx hb d_W_addTaken_30 rfl (lv_at hl 1 rfl) ?_
  refine va_get (D := D) (ci := 0) (v := .ref a4) (C := R_W) (T := F_W) (N := 4) hx hb hB inF_W hown hK hP 3 rfl rfl 0 (by decide) (hB _ wd_27) (fun _ h9 => h9) rfl d_W_addTaken_31 ?_
  refine lv_iload_n hx hb d_W_addTaken_34 rfl (lv_at hl 0 rfl) ?_
  refine lv_bipush (v := 6) hx hb d_W_addTaken_35 (by decide) ?_
  refine lv_iadd hx hb d_W_addTaken_37 ?_
  obtain ⟨g5, h⟩ := h
  refine va_iald hx hb hK hP 4 2 rfl rfl g5 d_W_addTaken_38 ?_
  refine lv_i2l hx hb d_W_addTaken_39 rfl ?_
  refine lv_lmul hx hb d_W_addTaken_40 ?_
  refine lv_ladd hx hb d_W_addTaken_41 ?_
  refine lv_topl (fun x6 ex6 => ?_)
  replace h := h x6 ex6
  refine lv_lstore_n (lv' := [(3, .long x6), (2, .int x1), (0, .ref a3), (1, .int p0)]) hx hb d_W_addTaken_42 rfl hl (by decide) rfl (fun ls hl => ?_)
  refine lv_lload_n hx hb d_W_addTaken_43 rfl (lv_at hl 0 rfl) ?_
  refine lv_lconst (v := 0) hx hb d_W_addTaken_44 (by decide) ?_
  refine W.lcmp hx hb d_W_addTaken_45 ?_
  refine lv_if_ne (tgt := 57) hx hb d_W_addTaken_46 (by decide) (fun hc7 => ?_) (fun hc7 => ?_)
  · replace h := h.1 hc7
    refine lv_aload_n hx hb d_W_addTaken_57 rfl (lv_at hl 2 rfl) ?_
    refine lv_aload_n hx hb d_W_addTaken_58 rfl (lv_at hl 2 rfl) ?_
    refine va_get (D := D) (ci := 0) (v := .ref a4) (C := R_W) (T := F_W) (N := 4) hx hb hB inF_W hown hK hP 3 rfl rfl 0 (by decide) (hB _ wd_27) (fun _ h9 => h9) rfl d_W_addTaken_59 ?_
    refine lv_iload_n hx hb d_W_addTaken_62 rfl (lv_at hl 1 rfl) ?_
    refine lv_lload_n hx hb d_W_addTaken_63 rfl (lv_at hl 0 rfl) ?_
    refine lv_aload_n hx hb d_W_addTaken_64 rfl (lv_at hl 2 rfl) ?_
    refine va_get (D := D) (ci := 0) (v := .ref a4) (C := R_W) (T := F_W) (N := 4) hx hb hB inF_W hown hK hP 3 rfl rfl 0 (by decide) (hB _ wd_27) (fun _ h9 => h9) rfl d_W_addTaken_65 ?_
    refine lv_iload_n hx hb d_W_addTaken_68 rfl (lv_at hl 1 rfl) ?_
    refine lv_bipush (v := 6) hx hb d_W_addTaken_69 (by decide) ?_
    refine lv_iadd hx hb d_W_addTaken_71 ?_
    obtain ⟨g8, h⟩ := h
    refine va_iald hx hb hK hP 4 2 rfl rfl g8 d_W_addTaken_72 ?_
    refine lv_i2l hx hb d_W_addTaken_73 rfl ?_
    refine lv_aload_n hx hb d_W_addTaken_74 rfl (lv_at hl 2 rfl) ?_
    refine va_get (D := D) (ci := 0) (v := .ref a5) (C := R_W) (T := F_W) (N := 4) hx hb hB inF_W hown hK hP 3 rfl rfl 1 (by decide) (hB _ wd_29) (fun _ h9 => h9) rfl d_W_addTaken_75 ?_
    refine lv_bipush (v := 6) hx hb d_W_addTaken_78 (by decide) ?_
    obtain ⟨g9, h⟩ := h
    refine va_iald hx hb hK hP 5 3 rfl rfl g9 d_W_addTaken_80 ?_
    refine lv_i2l hx hb d_W_addTaken_81 rfl ?_
    refine lv_lmul hx hb d_W_addTaken_82 ?_
    have hF10 := va_free (wc := (wG a0 a1 a2 a3 a4 a5 c1 c2 c4 c5 made size tooG kept sizes rows taken)) hD hS hA [0, 1, 2, 3, 4, 5] rfl
    refine va_callv (va_runV (As := [.ref a4, .int x1, .long x6, .long (((rows (x1 + 6).toNatClampNeg).toInt64) * ((taken (6 : Int32).toNatClampNeg).toInt64))]) (rest := []) ⟨hx, hb, hml, hown, hB⟩ (c_W_setNumber_r l D a0 a1 a2 a3 a4 a5 c1 c2 c4 c5 H.size made size tooG kept sizes rows taken x1 x6 (((rows (x1 + 6).toNatClampNeg).toInt64) * ((taken (6 : Int32).toNatClampNeg).toInt64)) _) (cwV 4 hB (goodV wd_110 wd_111 wd_490 wd_2 wd_112) rfl rfl rfl (by decide +kernel) ⟨Nat.le_of_ble_eq_true rfl, Nat.le_of_ble_eq_true rfl⟩) ⟨pcX_blind, va_recv hK hP (ci := 0) (q0 := 3) rfl rfl, pcX_pre hP hK hD hS hX hF10 h⟩ rfl rfl hl.1 rfl (lv_room (Nat.le_of_ble_eq_true rfl)) d_W_addTaken_83 ⟨Nat.le_of_ble_eq_true rfl, Nat.le_of_ble_eq_true rfl⟩) hS (fun q _ h => hF10 q h) hF10 (fun u t H locs ht hvm h hB hz1 hk1 hS => ?_)
    obtain ⟨tooG_11, rows_12⟩ := u
    obtain ⟨hP1, hK1, hD1⟩ := hB
    rw [ht] at hP1
    have hP : va_P D vwCl (wG a0 a1 a2 a3 a4 a5 c1 c2 c4 c5 made size tooG_11 kept sizes rows_12 taken) H := hP1
    have hD : va_D A (wG a0 a1 a2 a3 a4 a5 c1 c2 c4 c5 made size tooG_11 kept sizes rows_12 taken) := hD1.weaken (fun _ _ _ hq => hF10 _ hq)
    exact W.vret hx hb hr (fun t ht hW => ⟨⟨(size, tooG_11, rows_12), rfl, h, by rw [ht]; exact hP, va_K.moved hW.alike hK, hD⟩, hS.F ht⟩) hS.2.2 d_W_addTaken_86
  · replace h := h.2 hc7
    refine lv_aload_n hx hb d_W_addTaken_49 rfl (lv_at hl 2 rfl) ?_
    refine lv_iload_n hx hb d_W_addTaken_50 rfl (lv_at hl 3 rfl) ?_
    have hF13 := va_free (wc := (wG a0 a1 a2 a3 a4 a5 c1 c2 c4 c5 made size tooG kept sizes rows taken)) hD hS hA [0, 1, 2, 3, 4, 5] rfl
    refine va_callv (va_runV (As := [.int p0]) (rest := []) ⟨hx, hb, hml, hown, hB⟩ (c_W_removeRow l D a0 a1 a2 a3 a4 a5 c1 c2 c4 c5 H.size made size tooG kept sizes rows taken p0 _) (cwV 1 hB (goodV wd_132 wd_133 wd_493 wd_2 wd_134) rfl rfl rfl (by decide +kernel) ⟨Nat.le_of_ble_eq_true rfl, Nat.le_of_ble_eq_true rfl⟩) ⟨pcX_blind, va_recv hK hP (ci := 0) (q0 := 3) rfl rfl, pcX_pre hP hK hD hS hX hF13 h⟩ rfl rfl hl.1 rfl (lv_room (Nat.le_of_ble_eq_true rfl)) d_W_addTaken_51 ⟨Nat.le_of_ble_eq_true rfl, Nat.le_of_ble_eq_true rfl⟩) hS (fun q _ h => hF13 q h) hF13 (fun u t H locs ht hvm h hB hz1 hk1 hS => ?_)
    obtain ⟨size_14, rows_15⟩ := u
    obtain ⟨hP1, hK1, hD1⟩ := hB
    rw [ht] at hP1
    have hP : va_P D vwCl (wG a0 a1 a2 a3 a4 a5 c1 c2 c4 c5 made size_14 tooG kept sizes rows_15 taken) H := hP1
    have hD : va_D A (wG a0 a1 a2 a3 a4 a5 c1 c2 c4 c5 made size_14 tooG kept sizes rows_15 taken) := hD1.weaken (fun _ _ _ hq => hF13 _ hq)
    refine lv_goto (tgt := 86) hx hb d_W_addTaken_54 (by decide) ?_
    exact W.vret hx hb hr (fun t ht hW => ⟨⟨(size_14, tooG, rows_15), rfl, h, by rw [ht]; exact hP, va_K.moved hW.alike hK, hD⟩, hS.F ht⟩) hS.2.2 d_W_addTaken_86
set_option maxHeartbeats 4000000 in
set_option maxRecDepth 100000 in
theorem c_W_putTaken (l : Launch) (D : va_G) (a0 a1 a2 a3 a4 a5 : Nat) (c1 c2 c4 c5 : ClassId) (sz : Nat) (made : Int32) (size : Int32) (tooG : Int32) (kept : (Nat → Int32)) (sizes : (Nat → Int32)) (rows : (Nat → Int32)) (taken : (Nat → Int32)) (post : Int32 → Int32 → (Nat → Int32) → Prop) : Met l y_W_putTaken (Cond.code y_W_putTaken b_W_putTaken 2 none :: BIG) ({ frames := 4, cells := 0, slots := 0, locals := 107 }) (va_Pc [.ref a3] (pcX D vwCl (wG a0 a1 a2 a3 a4 a5 c1 c2 c4 c5 made size tooG kept sizes rows taken) [(c1, .int), (c2, .int), (c4, .int), (c5, .int)] sz (wp_W_putTaken size tooG rows taken post))) (va_Qv (fun (u : Int32 × Int32 × (Nat → Int32)) => post (u.1) (u.2.1) (u.2.2)) (fun u => atG D vwCl [(c1, .int), (c2, .int), (c4, .int), (c5, .int)] (va_A (wG a0 a1 a2 a3 a4 a5 c1 c2 c4 c5 made size tooG kept sizes rows taken) sz) (wG a0 a1 a2 a3 a4 a5 c1 c2 c4 c5 made (u.1) (u.2.1) kept sizes (u.2.2) taken)) (va_A (wG a0 a1 a2 a3 a4 a5 c1 c2 c4 c5 made size tooG kept sizes rows taken) sz)) 0 0 (va_A (wG a0 a1 a2 a3 a4 a5 c1 c2 c4 c5 made size tooG kept sizes rows taken) sz) := by
  refine Met.ofW (cc := b_W_putTaken) (maxL := 2) (ret := none) (by decide) rfl ?_
  intro p e s m args below meth c s₁ B hml hv
  obtain ⟨rfl, hsz, hP, hK, hD0, hX, h⟩ := hv
  have hx := B.exec
  have hb := B.bytes
  have hr := B.returns
  have hB : ∀ w ∈ BIG, w.before _ s = true := fun w h => atoms_spec (ws := (Cond.code y_W_putTaken b_W_putTaken 2 none :: BIG)) B.pre w (List.mem_cons_of_mem _ h)
  have hown : s.vm.findClass R_W = some m.cls := findClass_of_methodNamed B.named
  have hlocks := B.notSynchronized
  subst hsz
  have hD := hD0.self (sz := s.heap.size)
  generalize hAe : va_A (wG a0 a1 a2 a3 a4 a5 c1 c2 c4 c5 made size tooG kept sizes rows taken) s.heap.size = A at hD hX ⊢
  have hA : ∀ q : Nat, s.heap.size ≤ q → A q := fun q h => by rw [← hAe]; exact Or.inr h
  have hl := lv_entry ([.ref a3]) (n := 2) (Nat.le_of_ble_eq_true rfl)
  rw [lg_entry_eq]
  generalize (lg_sl ([.ref a3]) ++ List.replicate (2 - (lg_sl ([.ref a3])).length) Slot.unset).toArray = ls at hl ⊢
  have hl : lv_has ls 2 [(0, .ref a3)] := hl
  refine W.cap (fun G Gi Ge => ?_)
  suffices hL : ∀ (H : Heap) (locs : List Loc), va_P D vwCl (wG a0 a1 a2 a3 a4 a5 c1 c2 c4 c5 made size tooG kept sizes rows taken) H → va_S A s.heap H locs → G H locs (F0 m 0 ls []) from hL _ _ hP va_S.rf
  clear hP
  intro H locs hP hS
  refine Gi _ _ _ ?_
  unfold wp_W_putTaken at h
  refine lv_aload_n hx hb d_W_putTaken_0 rfl (lv_at hl 0 rfl) ?_
  have hF1 := va_free (wc := (wG a0 a1 a2 a3 a4 a5 c1 c2 c4 c5 made size tooG kept sizes rows taken)) hD hS hA [0, 1, 2, 3, 4, 5] rfl
  refine va_calli (va_runV (As := []) (rest := []) ⟨hx, hb, hml, hown, hB⟩ (c_W_placeOfTaken l D a0 a1 a2 a3 a4 a5 c1 c2 c4 c5 H.size made size tooG kept sizes rows taken _) (cwV 0 hB (goodV wd_124 wd_125 wd_491 wd_2 wd_126) rfl rfl rfl (by decide +kernel) ⟨Nat.le_of_ble_eq_true rfl, Nat.le_of_ble_eq_true rfl⟩) ⟨pcX_blind, va_recv hK hP (ci := 0) (q0 := 3) rfl rfl, pcX_pre hP hK hD hS hX hF1 h⟩ rfl rfl hl.1 rfl (lv_room (Nat.le_of_ble_eq_true rfl)) d_W_putTaken_1 ⟨Nat.le_of_ble_eq_true rfl, Nat.le_of_ble_eq_true rfl⟩) hS (fun q _ h => hF1 q h) hF1 (fun r2 u t H locs ht hvm h hB hz1 hk1 hS => ?_)
  obtain ⟨hP1, hK1, hD1⟩ := hB
  rw [ht] at hP1
  have hP : va_P D vwCl (wG a0 a1 a2 a3 a4 a5 c1 c2 c4 c5 made size tooG kept sizes rows taken) H := hP1
  have hD : va_D A (wG a0 a1 a2 a3 a4 a5 c1 c2 c4 c5 made size tooG kept sizes rows taken) := hD1.weaken (fun _ _ _ hq => hF1 _ hq)
  refine lv_istore_n (lv' := [(1, .int r2), (0, .ref a3)]) hx hb d_W_putTaken_4 rfl hl (by decide) rfl (fun ls hl => ?_)
  refine lv_iload_n hx hb d_W_putTaken_5 rfl (lv_at hl 0 rfl) ?_
  refine lv_aload_n hx hb d_W_putTaken_6 rfl (lv_at hl 1 rfl) ?_
  refine va_get (D := D) (ci := 0) (v := .int size) (C := R_W) (T := F_W) (N := 4) hx hb hB inF_W hown hK hP 3 rfl rfl 2 (by decide) (hB _ wd_30) (fun _ h9 => h9) rfl d_W_putTaken_7 ?_
  refine lv_icmp_ge (tgt := 40) hx hb d_W_putTaken_10 (by decide) (fun hc3 => ?_) (fun hc3 => ?_)
  · replace h := h.1 hc3
    refine lv_aload_n hx hb d_W_putTaken_40 rfl (lv_at hl 1 rfl) ?_
    refine lv_iload_n hx hb d_W_putTaken_41 rfl (lv_at hl 0 rfl) ?_
    have hF4 := va_free (wc := (wG a0 a1 a2 a3 a4 a5 c1 c2 c4 c5 made size tooG kept sizes rows taken)) hD hS hA [0, 1, 2, 3, 4, 5] rfl
    refine va_callv (va_runV (As := [.int r2]) (rest := []) ⟨hx, hb, hml, hown, hB⟩ (c_W_insertTaken l D a0 a1 a2 a3 a4 a5 c1 c2 c4 c5 H.size made size tooG kept sizes rows taken r2 _) (cwV 1 hB (goodV wd_138 wd_139 wd_494 wd_2 wd_140) rfl rfl rfl (by decide +kernel) ⟨Nat.le_of_ble_eq_true rfl, Nat.le_of_ble_eq_true rfl⟩) ⟨pcX_blind, va_recv hK hP (ci := 0) (q0 := 3) rfl rfl, pcX_pre hP hK hD hS hX hF4 h⟩ rfl rfl hl.1 rfl (lv_room (Nat.le_of_ble_eq_true rfl)) d_W_putTaken_42 ⟨Nat.le_of_ble_eq_true rfl, Nat.le_of_ble_eq_true rfl⟩) hS (fun q _ h => hF4 q h) hF4 (fun u t H locs ht hvm h hB hz1 hk1 hS => ?_)
    obtain ⟨size_5, tooG_6, rows_7⟩ := u
    obtain ⟨hP1, hK1, hD1⟩ := hB
    rw [ht] at hP1
    have hP : va_P D vwCl (wG a0 a1 a2 a3 a4 a5 c1 c2 c4 c5 made size_5 tooG_6 kept sizes rows_7 taken) H := hP1
    have hD : va_D A (wG a0 a1 a2 a3 a4 a5 c1 c2 c4 c5 made size_5 tooG_6 kept sizes rows_7 taken) := hD1.weaken (fun _ _ _ hq => hF4 _ hq)
    exact W.vret hx hb hr (fun t ht hW => ⟨⟨(size_5, tooG_6, rows_7), rfl, h, by rw [ht]; exact hP, va_K.moved hW.alike hK, hD⟩, hS.F ht⟩) hS.2.2 d_W_putTaken_45
  · replace h := h.2 hc3
    refine lv_aload_n hx hb d_W_putTaken_13 rfl (lv_at hl 1 rfl) ?_
    refine va_get (D := D) (ci := 0) (v := .ref a4) (C := R_W) (T := F_W) (N := 4) hx hb hB inF_W hown hK hP 3 rfl rfl 0 (by decide) (hB _ wd_27) (fun _ h9 => h9) rfl d_W_putTaken_14 ?_
    refine lv_iload_n hx hb d_W_putTaken_17 rfl (lv_at hl 0 rfl) ?_
    refine lv_bipush (v := 7) hx hb d_W_putTaken_18 (by decide) ?_
    refine lv_imul hx hb d_W_putTaken_20 ?_
    refine lv_aload_n hx hb d_W_putTaken_21 rfl (lv_at hl 1 rfl) ?_
    refine va_get (D := D) (ci := 0) (v := .ref a5) (C := R_W) (T := F_W) (N := 4) hx hb hB inF_W hown hK hP 3 rfl rfl 1 (by decide) (hB _ wd_29) (fun _ h9 => h9) rfl d_W_putTaken_22 ?_
    refine lv_iconst (v := 0) hx hb d_W_putTaken_25 (by decide) ?_
    have hF8 := va_free (wc := (wG a0 a1 a2 a3 a4 a5 c1 c2 c4 c5 made size tooG kept sizes rows taken)) hD hS hA [0, 1, 2, 3, 4, 5] rfl
    refine va_calli (va_runSN (As := [.ref a4, .int (r2 * 7), .ref a5, .int 0]) (rest := []) ⟨hx, hb, hml, hown, hB⟩ (c_G_rankOfTerms_rt l D a0 a1 a2 a3 a4 a5 c1 c2 c4 c5 H.size made size tooG kept sizes rows taken (r2 * 7) 0 _) ⟨va_cnB 4 hB (goodB wd_128) rfl rfl rfl (hX.1 (.methodLinkNest "GrowthLimits$Work" 48 y_G_rankOfTerms "GrowthLimits") (by decide +kernel)) (hB _ wd_1) (by decide +kernel) ⟨Nat.le_of_ble_eq_true rfl, Nat.le_of_ble_eq_true rfl⟩, hB _ wd_127, trivial⟩ ⟨pcX_blind, pcX_pre hP hK hD hS hX hF8 h⟩ rfl rfl hl.1 rfl (lv_room (Nat.le_of_ble_eq_true rfl)) d_W_putTaken_26 ⟨Nat.le_of_ble_eq_true rfl, Nat.le_of_ble_eq_true rfl⟩) hS (fun q _ h => hF8 q h) hF8 (fun r9 u t H locs ht hvm h hB hz1 hk1 hS => ?_)
    obtain ⟨hP1, hK1, hD1⟩ := hB
    rw [ht] at hP1
    have hP : va_P D vwCl (wG a0 a1 a2 a3 a4 a5 c1 c2 c4 c5 made size tooG kept sizes rows taken) H := hP1
    have hD : va_D A (wG a0 a1 a2 a3 a4 a5 c1 c2 c4 c5 made size tooG kept sizes rows taken) := hD1.weaken (fun _ _ _ hq => hF8 _ hq)
    refine lv_if_ne (tgt := 40) hx hb d_W_putTaken_29 (by decide) (fun hc10 => ?_) (fun hc10 => ?_)
    · replace h := h.1 hc10
      refine lv_aload_n hx hb d_W_putTaken_40 rfl (lv_at hl 1 rfl) ?_
      refine lv_iload_n hx hb d_W_putTaken_41 rfl (lv_at hl 0 rfl) ?_
      have hF11 := va_free (wc := (wG a0 a1 a2 a3 a4 a5 c1 c2 c4 c5 made size tooG kept sizes rows taken)) hD hS hA [0, 1, 2, 3, 4, 5] rfl
      refine va_callv (va_runV (As := [.int r2]) (rest := []) ⟨hx, hb, hml, hown, hB⟩ (c_W_insertTaken l D a0 a1 a2 a3 a4 a5 c1 c2 c4 c5 H.size made size tooG kept sizes rows taken r2 _) (cwV 1 hB (goodV wd_138 wd_139 wd_494 wd_2 wd_140) rfl rfl rfl (by decide +kernel) ⟨Nat.le_of_ble_eq_true rfl, Nat.le_of_ble_eq_true rfl⟩) ⟨pcX_blind, va_recv hK hP (ci := 0) (q0 := 3) rfl rfl, pcX_pre hP hK hD hS hX hF11 h⟩ rfl rfl hl.1 rfl (lv_room (Nat.le_of_ble_eq_true rfl)) d_W_putTaken_42 ⟨Nat.le_of_ble_eq_true rfl, Nat.le_of_ble_eq_true rfl⟩) hS (fun q _ h => hF11 q h) hF11 (fun u t H locs ht hvm h hB hz1 hk1 hS => ?_)
      obtain ⟨size_12, tooG_13, rows_14⟩ := u
      obtain ⟨hP1, hK1, hD1⟩ := hB
      rw [ht] at hP1
      have hP : va_P D vwCl (wG a0 a1 a2 a3 a4 a5 c1 c2 c4 c5 made size_12 tooG_13 kept sizes rows_14 taken) H := hP1
      have hD : va_D A (wG a0 a1 a2 a3 a4 a5 c1 c2 c4 c5 made size_12 tooG_13 kept sizes rows_14 taken) := hD1.weaken (fun _ _ _ hq => hF11 _ hq)
      exact W.vret hx hb hr (fun t ht hW => ⟨⟨(size_12, tooG_13, rows_14), rfl, h, by rw [ht]; exact hP, va_K.moved hW.alike hK, hD⟩, hS.F ht⟩) hS.2.2 d_W_putTaken_45
    · replace h := h.2 hc10
      refine lv_aload_n hx hb d_W_putTaken_32 rfl (lv_at hl 1 rfl) ?_
      refine lv_iload_n hx hb d_W_putTaken_33 rfl (lv_at hl 0 rfl) ?_
      have hF15 := va_free (wc := (wG a0 a1 a2 a3 a4 a5 c1 c2 c4 c5 made size tooG kept sizes rows taken)) hD hS hA [0, 1, 2, 3, 4, 5] rfl
      refine va_callv (va_runV (As := [.int r2]) (rest := []) ⟨hx, hb, hml, hown, hB⟩ (c_W_addTaken l D a0 a1 a2 a3 a4 a5 c1 c2 c4 c5 H.size made size tooG kept sizes rows taken r2 _) (cwV 1 hB (goodV wd_129 wd_130 wd_492 wd_2 wd_131) rfl rfl rfl (by decide +kernel) ⟨Nat.le_of_ble_eq_true rfl, Nat.le_of_ble_eq_true rfl⟩) ⟨pcX_blind, va_recv hK hP (ci := 0) (q0 := 3) rfl rfl, pcX_pre hP hK hD hS hX hF15 h⟩ rfl rfl hl.1 rfl (lv_room (Nat.le_of_ble_eq_true rfl)) d_W_putTaken_34 ⟨Nat.le_of_ble_eq_true rfl, Nat.le_of_ble_eq_true rfl⟩) hS (fun q _ h => hF15 q h) hF15 (fun u t H locs ht hvm h hB hz1 hk1 hS => ?_)
      obtain ⟨size_16, tooG_17, rows_18⟩ := u
      obtain ⟨hP1, hK1, hD1⟩ := hB
      rw [ht] at hP1
      have hP : va_P D vwCl (wG a0 a1 a2 a3 a4 a5 c1 c2 c4 c5 made size_16 tooG_17 kept sizes rows_18 taken) H := hP1
      have hD : va_D A (wG a0 a1 a2 a3 a4 a5 c1 c2 c4 c5 made size_16 tooG_17 kept sizes rows_18 taken) := hD1.weaken (fun _ _ _ hq => hF15 _ hq)
      refine lv_goto (tgt := 45) hx hb d_W_putTaken_37 (by decide) ?_
      exact W.vret hx hb hr (fun t ht hW => ⟨⟨(size_16, tooG_17, rows_18), rfl, h, by rw [ht]; exact hP, va_K.moved hW.alike hK, hD⟩, hS.F ht⟩) hS.2.2 d_W_putTaken_45
