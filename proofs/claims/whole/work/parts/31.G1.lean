def wp_G_requireFunction (made : Int32) (p0 : Int32) (post : Prop) (postx : String → Prop) : Prop :=
  (p0 < 0 → (postx "java/lang/IndexOutOfBoundsException")) ∧ (¬ p0 < 0 → ((p0 < made → (post)) ∧ (¬ p0 < made → (postx "java/lang/IndexOutOfBoundsException"))))
def wp_G_requireRoom (made : Int32) (post : Prop) (postx : String → Prop) : Prop :=
  (made < 80 → (post)) ∧ (¬ made < 80 → (postx "java/lang/IllegalStateException"))
def wp_G_requirePart  (p0 : Int32) (post : Prop) (postx : String → Prop) : Prop :=
  (p0 = 0 → (post)) ∧ (¬ p0 = 0 → ((p0 = 1 → (post)) ∧ (¬ p0 = 1 → (postx "java/lang/IllegalArgumentException"))))
def wp_G_keep (made : Int32) (size : Int32) (tooG : Int32) (kept : (Nat → Int32)) (sizes : (Nat → Int32)) (rows : (Nat → Int32)) (post : Int32 → Int32 → (Nat → Int32) → (Nat → Int32) → Prop) (postx : String → Int32 → (Nat → Int32) → (Nat → Int32) → Prop) : Prop :=
  (¬ tooG = 0 → (postx "java/lang/IllegalStateException" made kept sizes)) ∧ (tooG = 0 → ((size ≤ 10 → (wp_G_rowOf made 0 (fun r4 => (¬ (0 : Int32) < 0 ∧ ¬ r4 < 0 ∧ ¬ (size * 7) < 0 ∧ (0 : Int32).toNatClampNeg + (size * 7).toNatClampNeg ≤ 700 ∧ r4.toNatClampNeg + (size * 7).toNatClampNeg ≤ 5600) ∧ (∀ kept_6 : (Nat → Int32), kept_6 = va_cpy rows kept (0 : Int32).toNatClampNeg r4.toNatClampNeg (size * 7).toNatClampNeg → (vp_in made 80 ∧ (∀ sizes_8 : (Nat → Int32), sizes_8 = upd sizes made.toNatClampNeg size → (∀ x9 : Int32, x9 = made + 1 → (post (x9 - 1) x9 kept_6 sizes_8)))))))) ∧ (¬ size ≤ 10 → (postx "java/lang/IllegalStateException" made kept sizes))))
def wb_G_putAll_2 (p0 : Int32) (sizes : (Nat → Int32)) (post : Int32 → Int32 → (Nat → Int32) → (Nat → Int32) → Prop) (kept : (Nat → Int32)) : (Int32 → Int32 → Int32 → (Nat → Int32) → (Nat → Int32) → Prop) → Int32 → Int32 → Int32 → (Nat → Int32) → (Nat → Int32) → Prop :=
  fun ih_2 v2_1 size_2 tooG_3 rows_4 taken_5 =>
  vp_in p0 80 ∧ (((sizes p0.toNatClampNeg) ≤ v2_1 → (post size_2 tooG_3 rows_4 taken_5)) ∧ (¬ (sizes p0.toNatClampNeg) ≤ v2_1 → (wp_G_rowOf p0 v2_1 (fun r9 => wp_W_take kept taken_5 r9 (fun taken_11 => wp_W_putTaken size_2 tooG_3 rows_4 taken_11 (fun size_13 tooG_14 rows_15 => ∀ x16 : Int32, x16 = v2_1 + 1 → (ih_2 x16 size_13 tooG_14 rows_15 taken_11)))))))
def wp_G_putAll (size : Int32) (tooG : Int32) (kept : (Nat → Int32)) (sizes : (Nat → Int32)) (rows : (Nat → Int32)) (taken : (Nat → Int32)) (p0 : Int32) (post : Int32 → Int32 → (Nat → Int32) → (Nat → Int32) → Prop) : Prop :=
  ∃ n : Nat, lpW5 (wb_G_putAll_2 p0 sizes post kept) n (0 : Int32) size tooG rows taken
def wp_G_putMultiple (size : Int32) (tooG : Int32) (rows : (Nat → Int32)) (taken : (Nat → Int32)) (p0 : Int32) (p1 : Int32) (p2 : Int32) (post : Int32 → Int32 → (Nat → Int32) → (Nat → Int32) → Prop) : Prop :=
  (p0 = 0 → (post size tooG rows taken)) ∧ (¬ p0 = 0 → (wp_W_takeOne taken (fun taken_3 => wp_W_multiply tooG taken_3 (p0.toInt64) 1 (fun tooG_5 taken_6 => wp_W_raise tooG_5 taken_6 p1 p2 (fun tooG_8 taken_9 => wp_W_putTaken size tooG_8 rows taken_9 (fun size_11 tooG_12 rows_13 => post size_11 tooG_12 rows_13 taken_9))))))
def wp_G_putSlopePart (size : Int32) (tooG : Int32) (kept : (Nat → Int32)) (rows : (Nat → Int32)) (taken : (Nat → Int32)) (p0 : Int32) (p1 : Int32) (p2 : Int32) (p3 : Int32) (p4 : Int32) (post : Int32 → Int32 → (Nat → Int32) → (Nat → Int32) → Prop) : Prop :=
  (p1 = 0 → (post size tooG rows taken)) ∧ (¬ p1 = 0 → (wp_W_take kept taken p0 (fun taken_3 => wp_W_multiply tooG taken_3 (p1.toInt64) 1 (fun tooG_5 taken_6 => wp_W_raise tooG_5 taken_6 2 p2 (fun tooG_8 taken_9 => wp_W_raise tooG_8 taken_9 3 p3 (fun tooG_11 taken_12 => wp_W_raise tooG_11 taken_12 4 p4 (fun tooG_14 taken_15 => wp_W_putTaken size tooG_14 rows taken_15 (fun size_17 tooG_18 rows_19 => post size_17 tooG_18 rows_19 taken_15))))))))
def wp_G_hasLogarithm (kept : (Nat → Int32)) (sizes : (Nat → Int32)) (p0 : Int32) (post : Int32 → Prop) : Prop :=
  wp_G_rowOf p0 0 (fun r2 => vp_in p0 80 ∧ ((¬ (sizes p0.toNatClampNeg) = 1 → (post 0)) ∧ ((sizes p0.toNatClampNeg) = 1 → (vp_in (r2 + 5) 5600 ∧ ((¬ (kept (r2 + 5).toNatClampNeg) = 1 → (post 0)) ∧ ((kept (r2 + 5).toNatClampNeg) = 1 → (vp_in (r2 + 6) 5600 ∧ ((¬ (kept (r2 + 6).toNatClampNeg) = 1 → (post 0)) ∧ ((kept (r2 + 6).toNatClampNeg) = 1 → (vp_in (r2 + 4) 5600 ∧ ((¬ (kept (r2 + 4).toNatClampNeg) = 0 → (post 0)) ∧ ((kept (r2 + 4).toNatClampNeg) = 0 → (post 1)))))))))))))
def wp_G_holds (kept : (Nat → Int32)) (p0 : Int32) (p1 : Int32) (p2 : Int32) (p3 : Int32) (post : Int32 → Prop) : Prop :=
  vp_in (p0 + 0) 5600 ∧ ((¬ (kept (p0 + 0).toNatClampNeg) = 0 → (post 0)) ∧ ((kept (p0 + 0).toNatClampNeg) = 0 → (vp_in (p0 + 1) 5600 ∧ ((¬ (kept (p0 + 1).toNatClampNeg) = 0 → (post 0)) ∧ ((kept (p0 + 1).toNatClampNeg) = 0 → (vp_in (p0 + 2) 5600 ∧ ((¬ (kept (p0 + 2).toNatClampNeg) = p1 → (post 0)) ∧ ((kept (p0 + 2).toNatClampNeg) = p1 → (vp_in (p0 + 3) 5600 ∧ ((¬ (kept (p0 + 3).toNatClampNeg) = p2 → (post 0)) ∧ ((kept (p0 + 3).toNatClampNeg) = p2 → (vp_in (p0 + 4) 5600 ∧ ((¬ (kept (p0 + 4).toNatClampNeg) = p3 → (post 0)) ∧ ((kept (p0 + 4).toNatClampNeg) = p3 → (post 1)))))))))))))))
def wp_G_cellOfExponential (kept : (Nat → Int32)) (p0 : Int32) (post : Int32 → Prop) : Prop :=
  vp_in (p0 + 5) 5600 ∧ (∀ x2 : Int32, x2 = kept (p0 + 5).toNatClampNeg → (vp_in (p0 + 6) 5600 ∧ ((¬ (kept (p0 + 6).toNatClampNeg) = 1 → (post (-1))) ∧ ((kept (p0 + 6).toNatClampNeg) = 1 → ((x2 < (-99) → (post (-1))) ∧ (¬ x2 < (-99) → ((x2 ≤ 99 → (wp_G_holds kept p0 2 0 0 (fun r8 => (r8 = 0 → (wp_G_holds kept p0 1 0 0 (fun r11 => (r11 = 0 → (wp_G_holds kept p0 0 1 0 (fun r14 => (r14 = 0 → (wp_G_holds kept p0 0 0 1 (fun r17 => (r17 = 0 → (post (-1))) ∧ (¬ r17 = 0 → (post 3))))) ∧ (¬ r14 = 0 → (post 2))))) ∧ (¬ r11 = 0 → (post 1))))) ∧ (¬ r8 = 0 → (post 0))))) ∧ (¬ x2 ≤ 99 → (post (-1))))))))))
def wb_G_trendOf_2 (post : Int32 → Prop) (p0 : Int32) (kept : (Nat → Int32)) : (Int32 → Prop) → Int32 → Prop :=
  fun ih_2 v2_1 =>
  (5 ≤ v2_1 → (post 0)) ∧ (¬ 5 ≤ v2_1 → (vp_in (p0 + v2_1) 5600 ∧ (((kept (p0 + v2_1).toNatClampNeg) = 0 → (∀ x5 : Int32, x5 = v2_1 + 1 → (ih_2 x5))) ∧ (¬ (kept (p0 + v2_1).toNatClampNeg) = 0 → (vp_in (p0 + v2_1) 5600 ∧ (((kept (p0 + v2_1).toNatClampNeg) ≤ 0 → (post (-1))) ∧ (¬ (kept (p0 + v2_1).toNatClampNeg) ≤ 0 → (post 1))))))))
def wp_G_trendOf (kept : (Nat → Int32)) (p0 : Int32) (post : Int32 → Prop) : Prop :=
  ∃ n : Nat, lpW1 (wb_G_trendOf_2 post p0 kept) n (0 : Int32)
def wp_G_signOf (kept : (Nat → Int32)) (p0 : Int32) (post : Int32 → Prop) : Prop :=
  vp_in (p0 + 5) 5600 ∧ (((kept (p0 + 5).toNatClampNeg) ≤ 0 → (post (-1))) ∧ (¬ (kept (p0 + 5).toNatClampNeg) ≤ 0 → (post 1)))
def wp_G_endOf (kept : (Nat → Int32)) (sizes : (Nat → Int32)) (p0 : Int32) (post : Int32 → Prop) : Prop :=
  wp_G_rowOf p0 0 (fun r2 => vp_in p0 80 ∧ (((sizes p0.toNatClampNeg) ≤ 0 → (post 0)) ∧ (¬ (sizes p0.toNatClampNeg) ≤ 0 → (wp_G_trendOf kept r2 (fun r6 => (r6 ≤ 0 → (post 0)) ∧ (¬ r6 ≤ 0 → (wp_G_signOf kept r2 (fun r9 => post r9))))))))
def wp_G_rankOf (kept : (Nat → Int32)) (sizes : (Nat → Int32)) (p0 : Int32) (p1 : Int32) (post : Int32 → Prop) : Prop :=
  vp_in p0 80 ∧ ((¬ (sizes p0.toNatClampNeg) = 0 → (vp_in p1 80 ∧ ((¬ (sizes p1.toNatClampNeg) = 0 → (wp_G_rowOf p0 0 (fun r6 => wp_G_rowOf p1 0 (fun r8 => wp_G_rankOfTerms_kk kept r6 r8 (fun r10 => post r10))))) ∧ ((sizes p1.toNatClampNeg) = 0 → (post 1))))) ∧ ((sizes p0.toNatClampNeg) = 0 → (vp_in p1 80 ∧ ((¬ (sizes p1.toNatClampNeg) = 0 → (post (-1))) ∧ ((sizes p1.toNatClampNeg) = 0 → (post 0))))))
set_option maxHeartbeats 4000000 in
set_option maxRecDepth 100000 in
theorem c_G_requireFunction (l : Launch) (D : va_G) (a0 a1 a2 a3 a4 a5 : Nat) (c1 c2 c4 c5 : ClassId) (sz : Nat) (made : Int32) (size : Int32) (tooG : Int32) (kept : (Nat → Int32)) (sizes : (Nat → Int32)) (rows : (Nat → Int32)) (taken : (Nat → Int32)) (p0 : Int32) (post : Prop) (postx : String → Prop) (hst : l.stackTraces = false) : vx_Met l y_G_requireFunction (Cond.code y_G_requireFunction b_G_requireFunction 2 none :: BIG) ({ frames := 6, cells := 1, slots := 6, locals := 90 }) (va_Pc [.ref a0, .int p0] (pcX D vwCl (wG a0 a1 a2 a3 a4 a5 c1 c2 c4 c5 made size tooG kept sizes rows taken) [(c1, .int), (c2, .int), (c4, .int), (c5, .int)] sz (wp_G_requireFunction made p0 post postx))) (va_Qv (fun (_ : Unit) => post) (fun _ => atG D vwCl [(c1, .int), (c2, .int), (c4, .int), (c5, .int)] (va_A (wG a0 a1 a2 a3 a4 a5 c1 c2 c4 c5 made size tooG kept sizes rows taken) sz) (wG a0 a1 a2 a3 a4 a5 c1 c2 c4 c5 made size tooG kept sizes rows taken)) (va_A (wG a0 a1 a2 a3 a4 a5 c1 c2 c4 c5 made size tooG kept sizes rows taken) sz)) (vx_X (fun _ : Unit => True) (fun E u => atX D vwCl [(c1, .int), (c2, .int), (c4, .int), (c5, .int)] (va_A (wG a0 a1 a2 a3 a4 a5 c1 c2 c4 c5 made size tooG kept sizes rows taken) sz) (wG a0 a1 a2 a3 a4 a5 c1 c2 c4 c5 made size tooG kept sizes rows taken) (postx E)) (va_A (wG a0 a1 a2 a3 a4 a5 c1 c2 c4 c5 made size tooG kept sizes rows taken) sz)) 1 6 (va_A (wG a0 a1 a2 a3 a4 a5 c1 c2 c4 c5 made size tooG kept sizes rows taken) sz) := by
  refine vx_ofW (cc := b_G_requireFunction) (maxL := 2) (ret := none) (by decide) rfl ?_
  intro p e s m args below meth c s₁ B hml hno hv
  obtain ⟨rfl, hsz, hP, hK, hD0, hX, h⟩ := hv
  have hx := B.exec
  have hb := B.bytes
  have hr := B.returns
  have hB : ∀ w ∈ BIG, w.before _ s = true := fun w h => atoms_spec (ws := (Cond.code y_G_requireFunction b_G_requireFunction 2 none :: BIG)) B.pre w (List.mem_cons_of_mem _ h)
  have hown : s.vm.findClass R_G = some m.cls := findClass_of_methodNamed B.named
  have hlocks := B.notSynchronized
  subst hsz
  have hD := hD0.self (sz := s.heap.size)
  generalize hAe : va_A (wG a0 a1 a2 a3 a4 a5 c1 c2 c4 c5 made size tooG kept sizes rows taken) s.heap.size = A at hD hX ⊢
  have hA : ∀ q : Nat, s.heap.size ≤ q → A q := fun q h => by rw [← hAe]; exact Or.inr h
  have hl := lv_entry ([.ref a0, .int p0]) (n := 2) (Nat.le_of_ble_eq_true rfl)
  rw [lg_entry_eq]
  generalize (lg_sl ([.ref a0, .int p0]) ++ List.replicate (2 - (lg_sl ([.ref a0, .int p0])).length) Slot.unset).toArray = ls at hl ⊢
  have hl : lv_has ls 2 [(0, .ref a0), (1, .int p0)] := hl
  refine W.cap (fun G Gi Ge => ?_)
  suffices hL : ∀ (H : Heap) (locs : List Loc), va_P D vwCl (wG a0 a1 a2 a3 a4 a5 c1 c2 c4 c5 made size tooG kept sizes rows taken) H → va_S A s.heap H locs → G H locs (F0 m 0 ls []) from hL _ _ hP va_S.rf
  clear hP
  intro H locs hP hS
  refine Gi _ _ _ ?_
  unfold wp_G_requireFunction at h
  refine lv_iload_n hx hb d_G_requireFunction_0 rfl (lv_at hl 1 rfl) ?_
  refine lv_if_lt (tgt := 12) hx hb d_G_requireFunction_1 (by decide) (fun hc1 => ?_) (fun hc1 => ?_)
  · replace h := h.1 hc1
    obtain ⟨sa, hstr⟩ := hX.2.2.2 (134, "no such function") (by decide +kernel); exact vx_throwS (names := ["java/lang/RuntimeException", "java/lang/Exception"]) hx hb hst hown (by decide) (by decide) (hB _ wd_181) (hB _ wd_12) hstr (vx_hat (fun w hw => hB w (atE_3 w hw)) ngE_3 (nwG_use hX.1)) (otE_3 _) hX.2.1 hX.2.2.1 hS (hl.1.trans hml.symm) d_G_requireFunction_12 d_G_requireFunction_15 d_G_requireFunction_16 d_G_requireFunction_18 d_G_requireFunction_21 (fun x hx => (hno x hx).elim) (Nat.le_of_ble_eq_true rfl) (Nat.le_of_ble_eq_true rfl) (Nat.le_of_ble_eq_true rfl) (Nat.le_of_ble_eq_true rfl) hlocks (fun t hvm hz hk => ⟨(), trivial, ⟨h, va_P_grown hP hk, va_K.moved hvm hK, hD⟩, va_F_grown hS hz hk⟩) hS.2.2 (Nat.le_of_ble_eq_true rfl) (Nat.le_of_ble_eq_true rfl)
  · replace h := h.2 hc1
    refine lv_iload_n hx hb d_G_requireFunction_4 rfl (lv_at hl 1 rfl) ?_
    refine lv_aload_n hx hb d_G_requireFunction_5 rfl (lv_at hl 0 rfl) ?_
    refine va_get (D := D) (ci := 1) (v := .int made) (C := R_G) (T := F_G) (N := 4) hx hb hB inF_G hown hK hP 0 rfl rfl 3 (by decide) (hB _ wd_38) (fun _ h9 => h9) rfl d_G_requireFunction_6 ?_
    refine lv_icmp_lt (tgt := 22) hx hb d_G_requireFunction_9 (by decide) (fun hc2 => ?_) (fun hc2 => ?_)
    · replace h := h.1 hc2
      refine W.widen (k := 1) (n := 6) (by omega) (by omega) ?_
      exact vx_ret (W.vret hx hb hr (fun t ht hW => ⟨⟨(), rfl, h, by rw [ht]; exact hP, va_K.moved hW.alike hK, hD⟩, hS.F ht⟩) hS.2.2 d_G_requireFunction_22)
    · replace h := h.2 hc2
      obtain ⟨sa, hstr⟩ := hX.2.2.2 (134, "no such function") (by decide +kernel); exact vx_throwS (names := ["java/lang/RuntimeException", "java/lang/Exception"]) hx hb hst hown (by decide) (by decide) (hB _ wd_181) (hB _ wd_12) hstr (vx_hat (fun w hw => hB w (atE_3 w hw)) ngE_3 (nwG_use hX.1)) (otE_3 _) hX.2.1 hX.2.2.1 hS (hl.1.trans hml.symm) d_G_requireFunction_12 d_G_requireFunction_15 d_G_requireFunction_16 d_G_requireFunction_18 d_G_requireFunction_21 (fun x hx => (hno x hx).elim) (Nat.le_of_ble_eq_true rfl) (Nat.le_of_ble_eq_true rfl) (Nat.le_of_ble_eq_true rfl) (Nat.le_of_ble_eq_true rfl) hlocks (fun t hvm hz hk => ⟨(), trivial, ⟨h, va_P_grown hP hk, va_K.moved hvm hK, hD⟩, va_F_grown hS hz hk⟩) hS.2.2 (Nat.le_of_ble_eq_true rfl) (Nat.le_of_ble_eq_true rfl)
set_option maxHeartbeats 4000000 in
set_option maxRecDepth 100000 in
theorem c_G_requireRoom (l : Launch) (D : va_G) (a0 a1 a2 a3 a4 a5 : Nat) (c1 c2 c4 c5 : ClassId) (sz : Nat) (made : Int32) (size : Int32) (tooG : Int32) (kept : (Nat → Int32)) (sizes : (Nat → Int32)) (rows : (Nat → Int32)) (taken : (Nat → Int32)) (post : Prop) (postx : String → Prop) (hst : l.stackTraces = false) : vx_Met l y_G_requireRoom (Cond.code y_G_requireRoom b_G_requireRoom 1 none :: BIG) ({ frames := 6, cells := 1, slots := 6, locals := 90 }) (va_Pc [.ref a0] (pcX D vwCl (wG a0 a1 a2 a3 a4 a5 c1 c2 c4 c5 made size tooG kept sizes rows taken) [(c1, .int), (c2, .int), (c4, .int), (c5, .int)] sz (wp_G_requireRoom made post postx))) (va_Qv (fun (_ : Unit) => post) (fun _ => atG D vwCl [(c1, .int), (c2, .int), (c4, .int), (c5, .int)] (va_A (wG a0 a1 a2 a3 a4 a5 c1 c2 c4 c5 made size tooG kept sizes rows taken) sz) (wG a0 a1 a2 a3 a4 a5 c1 c2 c4 c5 made size tooG kept sizes rows taken)) (va_A (wG a0 a1 a2 a3 a4 a5 c1 c2 c4 c5 made size tooG kept sizes rows taken) sz)) (vx_X (fun _ : Unit => True) (fun E u => atX D vwCl [(c1, .int), (c2, .int), (c4, .int), (c5, .int)] (va_A (wG a0 a1 a2 a3 a4 a5 c1 c2 c4 c5 made size tooG kept sizes rows taken) sz) (wG a0 a1 a2 a3 a4 a5 c1 c2 c4 c5 made size tooG kept sizes rows taken) (postx E)) (va_A (wG a0 a1 a2 a3 a4 a5 c1 c2 c4 c5 made size tooG kept sizes rows taken) sz)) 1 6 (va_A (wG a0 a1 a2 a3 a4 a5 c1 c2 c4 c5 made size tooG kept sizes rows taken) sz) := by
  refine vx_ofW (cc := b_G_requireRoom) (maxL := 1) (ret := none) (by decide) rfl ?_
  intro p e s m args below meth c s₁ B hml hno hv
  obtain ⟨rfl, hsz, hP, hK, hD0, hX, h⟩ := hv
  have hx := B.exec
  have hb := B.bytes
  have hr := B.returns
  have hB : ∀ w ∈ BIG, w.before _ s = true := fun w h => atoms_spec (ws := (Cond.code y_G_requireRoom b_G_requireRoom 1 none :: BIG)) B.pre w (List.mem_cons_of_mem _ h)
  have hown : s.vm.findClass R_G = some m.cls := findClass_of_methodNamed B.named
  have hlocks := B.notSynchronized
  subst hsz
  have hD := hD0.self (sz := s.heap.size)
  generalize hAe : va_A (wG a0 a1 a2 a3 a4 a5 c1 c2 c4 c5 made size tooG kept sizes rows taken) s.heap.size = A at hD hX ⊢
  have hA : ∀ q : Nat, s.heap.size ≤ q → A q := fun q h => by rw [← hAe]; exact Or.inr h
  have hl := lv_entry ([.ref a0]) (n := 1) (Nat.le_of_ble_eq_true rfl)
  rw [lg_entry_eq]
  generalize (lg_sl ([.ref a0]) ++ List.replicate (1 - (lg_sl ([.ref a0])).length) Slot.unset).toArray = ls at hl ⊢
  have hl : lv_has ls 1 [(0, .ref a0)] := hl
  refine W.cap (fun G Gi Ge => ?_)
  suffices hL : ∀ (H : Heap) (locs : List Loc), va_P D vwCl (wG a0 a1 a2 a3 a4 a5 c1 c2 c4 c5 made size tooG kept sizes rows taken) H → va_S A s.heap H locs → G H locs (F0 m 0 ls []) from hL _ _ hP va_S.rf
  clear hP
  intro H locs hP hS
  refine Gi _ _ _ ?_
  unfold wp_G_requireRoom at h
  refine lv_aload_n hx hb d_G_requireRoom_0 rfl (lv_at hl 0 rfl) ?_
  refine va_get (D := D) (ci := 1) (v := .int made) (C := R_G) (T := F_G) (N := 4) hx hb hB inF_G hown hK hP 0 rfl rfl 3 (by decide) (hB _ wd_38) (fun _ h9 => h9) rfl d_G_requireRoom_1 ?_
  refine lv_bipush (v := 80) hx hb d_G_requireRoom_4 (by decide) ?_
  refine lv_icmp_lt (tgt := 19) hx hb d_G_requireRoom_6 (by decide) (fun hc1 => ?_) (fun hc1 => ?_)
  · replace h := h.1 hc1
    refine W.widen (k := 1) (n := 6) (by omega) (by omega) ?_
    exact vx_ret (W.vret hx hb hr (fun t ht hW => ⟨⟨(), rfl, h, by rw [ht]; exact hP, va_K.moved hW.alike hK, hD⟩, hS.F ht⟩) hS.2.2 d_G_requireRoom_19)
  · replace h := h.2 hc1
    obtain ⟨sa, hstr⟩ := hX.2.2.2 (137, "no room for one more function") (by decide +kernel); exact vx_throwS (names := ["java/lang/RuntimeException", "java/lang/Exception"]) hx hb hst hown (by decide) (by decide) (hB _ wd_91) (hB _ wd_8) hstr (vx_hat (fun w hw => hB w (atE_2 w hw)) ngE_2 (nwG_use hX.1)) (otE_2 _) hX.2.1 hX.2.2.1 hS (hl.1.trans hml.symm) d_G_requireRoom_9 d_G_requireRoom_12 d_G_requireRoom_13 d_G_requireRoom_15 d_G_requireRoom_18 (fun x hx => (hno x hx).elim) (Nat.le_of_ble_eq_true rfl) (Nat.le_of_ble_eq_true rfl) (Nat.le_of_ble_eq_true rfl) (Nat.le_of_ble_eq_true rfl) hlocks (fun t hvm hz hk => ⟨(), trivial, ⟨h, va_P_grown hP hk, va_K.moved hvm hK, hD⟩, va_F_grown hS hz hk⟩) hS.2.2 (Nat.le_of_ble_eq_true rfl) (Nat.le_of_ble_eq_true rfl)
set_option maxHeartbeats 4000000 in
set_option maxRecDepth 100000 in
theorem c_G_requirePart (l : Launch) (D : va_G) (a0 a1 a2 a3 a4 a5 : Nat) (c1 c2 c4 c5 : ClassId) (sz : Nat) (made : Int32) (size : Int32) (tooG : Int32) (kept : (Nat → Int32)) (sizes : (Nat → Int32)) (rows : (Nat → Int32)) (taken : (Nat → Int32)) (p0 : Int32) (post : Prop) (postx : String → Prop) (hst : l.stackTraces = false) : vx_Met l y_G_requirePart (Cond.code y_G_requirePart b_G_requirePart 1 none :: BIG) ({ frames := 6, cells := 1, slots := 6, locals := 90 }) (va_Pc [.int p0] (pcX D vwCl (wG a0 a1 a2 a3 a4 a5 c1 c2 c4 c5 made size tooG kept sizes rows taken) [(c1, .int), (c2, .int), (c4, .int), (c5, .int)] sz (wp_G_requirePart p0 post postx))) (va_Qv (fun (_ : Unit) => post) (fun _ => atG D vwCl [(c1, .int), (c2, .int), (c4, .int), (c5, .int)] (va_A (wG a0 a1 a2 a3 a4 a5 c1 c2 c4 c5 made size tooG kept sizes rows taken) sz) (wG a0 a1 a2 a3 a4 a5 c1 c2 c4 c5 made size tooG kept sizes rows taken)) (va_A (wG a0 a1 a2 a3 a4 a5 c1 c2 c4 c5 made size tooG kept sizes rows taken) sz)) (vx_X (fun _ : Unit => True) (fun E u => atX D vwCl [(c1, .int), (c2, .int), (c4, .int), (c5, .int)] (va_A (wG a0 a1 a2 a3 a4 a5 c1 c2 c4 c5 made size tooG kept sizes rows taken) sz) (wG a0 a1 a2 a3 a4 a5 c1 c2 c4 c5 made size tooG kept sizes rows taken) (postx E)) (va_A (wG a0 a1 a2 a3 a4 a5 c1 c2 c4 c5 made size tooG kept sizes rows taken) sz)) 1 6 (va_A (wG a0 a1 a2 a3 a4 a5 c1 c2 c4 c5 made size tooG kept sizes rows taken) sz) := by
  refine vx_ofW (cc := b_G_requirePart) (maxL := 1) (ret := none) (by decide) rfl ?_
  intro p e s m args below meth c s₁ B hml hno hv
  obtain ⟨rfl, hsz, hP, hK, hD0, hX, h⟩ := hv
  have hx := B.exec
  have hb := B.bytes
  have hr := B.returns
  have hB : ∀ w ∈ BIG, w.before _ s = true := fun w h => atoms_spec (ws := (Cond.code y_G_requirePart b_G_requirePart 1 none :: BIG)) B.pre w (List.mem_cons_of_mem _ h)
  have hown : s.vm.findClass R_G = some m.cls := findClass_of_methodNamed B.named
  have hlocks := B.notSynchronized
  subst hsz
  have hD := hD0.self (sz := s.heap.size)
  generalize hAe : va_A (wG a0 a1 a2 a3 a4 a5 c1 c2 c4 c5 made size tooG kept sizes rows taken) s.heap.size = A at hD hX ⊢
  have hA : ∀ q : Nat, s.heap.size ≤ q → A q := fun q h => by rw [← hAe]; exact Or.inr h
  have hl := lv_entry ([.int p0]) (n := 1) (Nat.le_of_ble_eq_true rfl)
  rw [lg_entry_eq]
  generalize (lg_sl ([.int p0]) ++ List.replicate (1 - (lg_sl ([.int p0])).length) Slot.unset).toArray = ls at hl ⊢
  have hl : lv_has ls 1 [(0, .int p0)] := hl
  refine W.cap (fun G Gi Ge => ?_)
  suffices hL : ∀ (H : Heap) (locs : List Loc), va_P D vwCl (wG a0 a1 a2 a3 a4 a5 c1 c2 c4 c5 made size tooG kept sizes rows taken) H → va_S A s.heap H locs → G H locs (F0 m 0 ls []) from hL _ _ hP va_S.rf
  clear hP
  intro H locs hP hS
  refine Gi _ _ _ ?_
  unfold wp_G_requirePart at h
  refine lv_iload_n hx hb d_G_requirePart_0 rfl (lv_at hl 0 rfl) ?_
  refine lv_if_eq (tgt := 19) hx hb d_G_requirePart_1 (by decide) (fun hc1 => ?_) (fun hc1 => ?_)
  · replace h := h.1 hc1
    refine W.widen (k := 1) (n := 6) (by omega) (by omega) ?_
    exact vx_ret (W.vret hx hb hr (fun t ht hW => ⟨⟨(), rfl, h, by rw [ht]; exact hP, va_K.moved hW.alike hK, hD⟩, hS.F ht⟩) hS.2.2 d_G_requirePart_19)
  · replace h := h.2 hc1
    refine lv_iload_n hx hb d_G_requirePart_4 rfl (lv_at hl 0 rfl) ?_
    refine lv_iconst (v := 1) hx hb d_G_requirePart_5 (by decide) ?_
    refine lv_icmp_eq (tgt := 19) hx hb d_G_requirePart_6 (by decide) (fun hc2 => ?_) (fun hc2 => ?_)
    · replace h := h.1 hc2
      refine W.widen (k := 1) (n := 6) (by omega) (by omega) ?_
      exact vx_ret (W.vret hx hb hr (fun t ht hW => ⟨⟨(), rfl, h, by rw [ht]; exact hP, va_K.moved hW.alike hK, hD⟩, hS.F ht⟩) hS.2.2 d_G_requirePart_19)
    · replace h := h.2 hc2
      obtain ⟨sa, hstr⟩ := hX.2.2.2 (139, "no such part of a number") (by decide +kernel); exact vx_throwS (names := ["java/lang/RuntimeException", "java/lang/Exception"]) hx hb hst hown (by decide) (by decide) (hB _ wd_156) (hB _ wd_11) hstr (vx_hat (fun w hw => hB w (atE_1 w hw)) ngE_1 (nwG_use hX.1)) (otE_1 _) hX.2.1 hX.2.2.1 hS (hl.1.trans hml.symm) d_G_requirePart_9 d_G_requirePart_12 d_G_requirePart_13 d_G_requirePart_15 d_G_requirePart_18 (fun x hx => (hno x hx).elim) (Nat.le_of_ble_eq_true rfl) (Nat.le_of_ble_eq_true rfl) (Nat.le_of_ble_eq_true rfl) (Nat.le_of_ble_eq_true rfl) hlocks (fun t hvm hz hk => ⟨(), trivial, ⟨h, va_P_grown hP hk, va_K.moved hvm hK, hD⟩, va_F_grown hS hz hk⟩) hS.2.2 (Nat.le_of_ble_eq_true rfl) (Nat.le_of_ble_eq_true rfl)
set_option maxHeartbeats 4000000 in
set_option maxRecDepth 100000 in
theorem c_G_keep (l : Launch) (D : va_G) (a0 a1 a2 a3 a4 a5 : Nat) (c1 c2 c4 c5 : ClassId) (sz : Nat) (made : Int32) (size : Int32) (tooG : Int32) (kept : (Nat → Int32)) (sizes : (Nat → Int32)) (rows : (Nat → Int32)) (taken : (Nat → Int32)) (post : Int32 → Int32 → (Nat → Int32) → (Nat → Int32) → Prop) (postx : String → Int32 → (Nat → Int32) → (Nat → Int32) → Prop) (hst : l.stackTraces = false) : vx_Met l y_G_keep (Cond.code y_G_keep b_G_keep 1 (some .int) :: BIG) ({ frames := 6, cells := 1, slots := 6, locals := 90 }) (va_Pc [.ref a0] (pcX D vwCl (wG a0 a1 a2 a3 a4 a5 c1 c2 c4 c5 made size tooG kept sizes rows taken) [(c1, .int), (c2, .int), (c4, .int), (c5, .int)] sz (wp_G_keep made size tooG kept sizes rows post postx))) (va_Qi (fun (r : Int32) (u : Int32 × (Nat → Int32) × (Nat → Int32)) => post r (u.1) (u.2.1) (u.2.2)) (fun u => atG D vwCl [(c1, .int), (c2, .int), (c4, .int), (c5, .int)] (va_A (wG a0 a1 a2 a3 a4 a5 c1 c2 c4 c5 made size tooG kept sizes rows taken) sz) (wG a0 a1 a2 a3 a4 a5 c1 c2 c4 c5 (u.1) size tooG (u.2.1) (u.2.2) rows taken)) (va_A (wG a0 a1 a2 a3 a4 a5 c1 c2 c4 c5 made size tooG kept sizes rows taken) sz)) (vx_X (fun _ : Int32 × (Nat → Int32) × (Nat → Int32) => True) (fun E u => atX D vwCl [(c1, .int), (c2, .int), (c4, .int), (c5, .int)] (va_A (wG a0 a1 a2 a3 a4 a5 c1 c2 c4 c5 made size tooG kept sizes rows taken) sz) (wG a0 a1 a2 a3 a4 a5 c1 c2 c4 c5 (u.1) size tooG (u.2.1) (u.2.2) rows taken) (postx E (u.1) (u.2.1) (u.2.2))) (va_A (wG a0 a1 a2 a3 a4 a5 c1 c2 c4 c5 made size tooG kept sizes rows taken) sz)) 1 6 (va_A (wG a0 a1 a2 a3 a4 a5 c1 c2 c4 c5 made size tooG kept sizes rows taken) sz) := by
  refine vx_ofW (cc := b_G_keep) (maxL := 1) (ret := (some .int)) (by decide) rfl ?_
  intro p e s m args below meth c s₁ B hml hno hv
  obtain ⟨rfl, hsz, hP, hK, hD0, hX, h⟩ := hv
  have hx := B.exec
  have hb := B.bytes
  have hr := B.returns
  have hB : ∀ w ∈ BIG, w.before _ s = true := fun w h => atoms_spec (ws := (Cond.code y_G_keep b_G_keep 1 (some .int) :: BIG)) B.pre w (List.mem_cons_of_mem _ h)
  have hown : s.vm.findClass R_G = some m.cls := findClass_of_methodNamed B.named
  have hlocks := B.notSynchronized
  subst hsz
  have hD := hD0.self (sz := s.heap.size)
  generalize hAe : va_A (wG a0 a1 a2 a3 a4 a5 c1 c2 c4 c5 made size tooG kept sizes rows taken) s.heap.size = A at hD hX ⊢
  have hA : ∀ q : Nat, s.heap.size ≤ q → A q := fun q h => by rw [← hAe]; exact Or.inr h
  have hl := lv_entry ([.ref a0]) (n := 1) (Nat.le_of_ble_eq_true rfl)
  rw [lg_entry_eq]
  generalize (lg_sl ([.ref a0]) ++ List.replicate (1 - (lg_sl ([.ref a0])).length) Slot.unset).toArray = ls at hl ⊢
  have hl : lv_has ls 1 [(0, .ref a0)] := hl
  refine W.cap (fun G Gi Ge => ?_)
  suffices hL : ∀ (H : Heap) (locs : List Loc), va_P D vwCl (wG a0 a1 a2 a3 a4 a5 c1 c2 c4 c5 made size tooG kept sizes rows taken) H → va_S A s.heap H locs → G H locs (F0 m 0 ls []) from hL _ _ hP va_S.rf
  clear hP
  intro H locs hP hS
  refine Gi _ _ _ ?_
  unfold wp_G_keep at h
  refine lv_aload_n hx hb d_G_keep_0 rfl (lv_at hl 0 rfl) ?_
  refine va_get (D := D) (ci := 1) (v := .ref a3) (C := R_G) (T := F_G) (N := 4) hx hb hB inF_G hown hK hP 0 rfl rfl 2 (by decide) (hB _ wd_37) (fun _ h9 => h9) rfl d_G_keep_1 ?_
  refine va_get (D := D) (ci := 0) (v := .int tooG) (C := R_W) (T := F_W) (N := 4) hx hb hB inF_W hown hK hP 3 rfl rfl 3 (by decide) (hB _ wd_33) (fun _ h9 => h9) rfl d_G_keep_4 ?_
  refine lv_if_ne (tgt := 22) hx hb d_G_keep_7 (by decide) (fun hc1 => ?_) (fun hc1 => ?_)
  · replace h := h.1 hc1
    obtain ⟨sa, hstr⟩ := hX.2.2.2 (148, "the new function is too great") (by decide +kernel); exact vx_throwS (names := ["java/lang/RuntimeException", "java/lang/Exception"]) hx hb hst hown (by decide) (by decide) (hB _ wd_91) (hB _ wd_8) hstr (vx_hat (fun w hw => hB w (atE_2 w hw)) ngE_2 (nwG_use hX.1)) (otE_2 _) hX.2.1 hX.2.2.1 hS (hl.1.trans hml.symm) d_G_keep_22 d_G_keep_25 d_G_keep_26 d_G_keep_28 d_G_keep_31 (fun x hx => (hno x hx).elim) (Nat.le_of_ble_eq_true rfl) (Nat.le_of_ble_eq_true rfl) (Nat.le_of_ble_eq_true rfl) (Nat.le_of_ble_eq_true rfl) hlocks (fun t hvm hz hk => ⟨(made, kept, sizes), trivial, ⟨h, va_P_grown hP hk, va_K.moved hvm hK, hD⟩, va_F_grown hS hz hk⟩) hS.2.2 (Nat.le_of_ble_eq_true rfl) (Nat.le_of_ble_eq_true rfl)
  · replace h := h.2 hc1
    refine lv_aload_n hx hb d_G_keep_10 rfl (lv_at hl 0 rfl) ?_
    refine va_get (D := D) (ci := 1) (v := .ref a3) (C := R_G) (T := F_G) (N := 4) hx hb hB inF_G hown hK hP 0 rfl rfl 2 (by decide) (hB _ wd_37) (fun _ h9 => h9) rfl d_G_keep_11 ?_
    refine va_get (D := D) (ci := 0) (v := .int size) (C := R_W) (T := F_W) (N := 4) hx hb hB inF_W hown hK hP 3 rfl rfl 2 (by decide) (hB _ wd_31) (fun _ h9 => h9) rfl d_G_keep_14 ?_
    refine lv_bipush (v := 10) hx hb d_G_keep_17 (by decide) ?_
    refine lv_icmp_le (tgt := 32) hx hb d_G_keep_19 (by decide) (fun hc2 => ?_) (fun hc2 => ?_)
    · replace h := h.1 hc2
      refine lv_aload_n hx hb d_G_keep_32 rfl (lv_at hl 0 rfl) ?_
      refine va_get (D := D) (ci := 1) (v := .ref a3) (C := R_G) (T := F_G) (N := 4) hx hb hB inF_G hown hK hP 0 rfl rfl 2 (by decide) (hB _ wd_37) (fun _ h9 => h9) rfl d_G_keep_33 ?_
      refine va_get (D := D) (ci := 0) (v := .ref a4) (C := R_W) (T := F_W) (N := 4) hx hb hB inF_W hown hK hP 3 rfl rfl 0 (by decide) (hB _ wd_28) (fun _ h9 => h9) rfl d_G_keep_36 ?_
      refine lv_iconst (v := 0) hx hb d_G_keep_39 (by decide) ?_
      refine lv_aload_n hx hb d_G_keep_40 rfl (lv_at hl 0 rfl) ?_
      refine va_get (D := D) (ci := 1) (v := .ref a1) (C := R_G) (T := F_G) (N := 4) hx hb hB inF_G hown hK hP 0 rfl rfl 0 (by decide) (hB _ wd_35) (fun _ h9 => h9) rfl d_G_keep_41 ?_
      refine lv_aload_n hx hb d_G_keep_44 rfl (lv_at hl 0 rfl) ?_
      refine va_get (D := D) (ci := 1) (v := .int made) (C := R_G) (T := F_G) (N := 4) hx hb hB inF_G hown hK hP 0 rfl rfl 3 (by decide) (hB _ wd_38) (fun _ h9 => h9) rfl d_G_keep_45 ?_
      refine lv_iconst (v := 0) hx hb d_G_keep_48 (by decide) ?_
      have hF3 := va_free (wc := (wG a0 a1 a2 a3 a4 a5 c1 c2 c4 c5 made size tooG kept sizes rows taken)) hD hS hA [0, 1, 2, 3, 4, 5] rfl
      refine va_calli (va_runS (As := [.int made, .int 0]) (rest := [.ref a1, .int 0, .ref a4]) ⟨hx, hb, hml, hown, hB⟩ (c_G_rowOf l D a0 a1 a2 a3 a4 a5 c1 c2 c4 c5 H.size made size tooG kept sizes rows taken made 0 _) (cwS 2 hB (goodS wd_144 wd_145 wd_1 wd_146) rfl rfl rfl (by decide +kernel) ⟨Nat.le_of_ble_eq_true rfl, Nat.le_of_ble_eq_true rfl⟩) ⟨pcX_blind, pcX_pre hP hK hD hS hX hF3 h⟩ rfl rfl hl.1 rfl (lv_room (Nat.le_of_ble_eq_true rfl)) d_G_keep_49 ⟨Nat.le_of_ble_eq_true rfl, Nat.le_of_ble_eq_true rfl⟩) hS (fun q _ h => hF3 q h) hF3 (fun r4 u t H locs ht hvm h hB hz1 hk1 hS => ?_)
      obtain ⟨hP1, hK1, hD1⟩ := hB
      rw [ht] at hP1
      have hP : va_P D vwCl (wG a0 a1 a2 a3 a4 a5 c1 c2 c4 c5 made size tooG kept sizes rows taken) H := hP1
      have hD : va_D A (wG a0 a1 a2 a3 a4 a5 c1 c2 c4 c5 made size tooG kept sizes rows taken) := hD1.weaken (fun _ _ _ hq => hF3 _ hq)
      refine lv_aload_n hx hb d_G_keep_52 rfl (lv_at hl 0 rfl) ?_
      refine va_get (D := D) (ci := 1) (v := .ref a3) (C := R_G) (T := F_G) (N := 4) hx hb hB inF_G hown hK hP 0 rfl rfl 2 (by decide) (hB _ wd_37) (fun _ h9 => h9) rfl d_G_keep_53 ?_
      refine va_get (D := D) (ci := 0) (v := .int size) (C := R_W) (T := F_W) (N := 4) hx hb hB inF_W hown hK hP 3 rfl rfl 2 (by decide) (hB _ wd_31) (fun _ h9 => h9) rfl d_G_keep_56 ?_
      refine lv_bipush (v := 7) hx hb d_G_keep_59 (by decide) ?_
      refine lv_imul hx hb d_G_keep_61 ?_
      obtain ⟨g5, h⟩ := h
      obtain ⟨kept_6, ekept_6⟩ : ∃ z : (Nat → Int32), z = va_cpy rows kept (0 : Int32).toNatClampNeg r4.toNatClampNeg (size * 7).toNatClampNeg := ⟨_, rfl⟩
      replace h := h kept_6 ekept_6
      refine va_copyi hx hb (hml.trans hl.1.symm) hown (hB _ wd_147) (hB _ wd_137) (hB _ wd_136) (hB _ wd_10) hK hP hD hS 4 1 2 0 (ty := .int) rfl rfl rfl rfl rfl g5.1 g5.2.1 g5.2.2.1 g5.2.2.2.1 g5.2.2.2.2 (fun _ _ => rfl) (Nat.le_of_ble_eq_true rfl) (Nat.le_of_ble_eq_true rfl) d_G_keep_62 (fun H locs hP hD hS => ?_)
      have hP : va_P D vwCl (wG a0 a1 a2 a3 a4 a5 c1 c2 c4 c5 made size tooG kept_6 sizes rows taken) H := by rw [ekept_6]; exact hP
      have hD : va_D A (wG a0 a1 a2 a3 a4 a5 c1 c2 c4 c5 made size tooG kept_6 sizes rows taken) := by rw [ekept_6]; exact hD
      refine lv_aload_n hx hb d_G_keep_65 rfl (lv_at hl 0 rfl) ?_
      refine va_get (D := D) (ci := 1) (v := .ref a2) (C := R_G) (T := F_G) (N := 4) hx hb hB inF_G hown hK hP 0 rfl rfl 1 (by decide) (hB _ wd_36) (fun _ h9 => h9) rfl d_G_keep_66 ?_
      refine lv_aload_n hx hb d_G_keep_69 rfl (lv_at hl 0 rfl) ?_
      refine va_get (D := D) (ci := 1) (v := .int made) (C := R_G) (T := F_G) (N := 4) hx hb hB inF_G hown hK hP 0 rfl rfl 3 (by decide) (hB _ wd_38) (fun _ h9 => h9) rfl d_G_keep_70 ?_
      refine lv_aload_n hx hb d_G_keep_73 rfl (lv_at hl 0 rfl) ?_
      refine va_get (D := D) (ci := 1) (v := .ref a3) (C := R_G) (T := F_G) (N := 4) hx hb hB inF_G hown hK hP 0 rfl rfl 2 (by decide) (hB _ wd_37) (fun _ h9 => h9) rfl d_G_keep_74 ?_
      refine va_get (D := D) (ci := 0) (v := .int size) (C := R_W) (T := F_W) (N := 4) hx hb hB inF_W hown hK hP 3 rfl rfl 2 (by decide) (hB _ wd_31) (fun _ h9 => h9) rfl d_G_keep_77 ?_
      obtain ⟨g7, h⟩ := h
      obtain ⟨sizes_8, esizes_8⟩ : ∃ z : (Nat → Int32), z = upd sizes made.toNatClampNeg size := ⟨_, rfl⟩
      replace h := h sizes_8 esizes_8
      refine va_iast hx hb hK hP hD hS 2 1 rfl rfl g7 d_G_keep_80 (fun H locs hP hD hS => ?_)
      have hP : va_P D vwCl (wG a0 a1 a2 a3 a4 a5 c1 c2 c4 c5 made size tooG kept_6 sizes_8 rows taken) H := by rw [esizes_8]; exact hP
      have hD : va_D A (wG a0 a1 a2 a3 a4 a5 c1 c2 c4 c5 made size tooG kept_6 sizes_8 rows taken) := by rw [esizes_8]; exact hD
      refine lv_aload_n hx hb d_G_keep_81 rfl (lv_at hl 0 rfl) ?_
      refine lv_dup hx hb d_G_keep_82 rfl ?_
      refine va_get (D := D) (ci := 1) (v := .int made) (C := R_G) (T := F_G) (N := 4) hx hb hB inF_G hown hK hP 0 rfl rfl 3 (by decide) (hB _ wd_38) (fun _ h9 => h9) rfl d_G_keep_83 ?_
      refine lv_iconst (v := 1) hx hb d_G_keep_86 (by decide) ?_
      refine lv_iadd hx hb d_G_keep_87 ?_
      refine lv_topi (fun x9 ex9 => ?_)
      replace h := h x9 ex9
      refine va_put (D := D) (ci := 1) (v := .int x9) (ty := .int) (C := R_G) (T := F_G) (N := 4) hx hb hB inF_G t_G t_G_ok n_G hown hK hP hD hS 0 rfl rfl 3 (by decide) (hB _ wd_38) (fun _ h9 => h9) rfl (by decide +kernel) rfl rfl (Nat.le_of_ble_eq_true rfl) d_G_keep_88 (fun H locs hP hD hS => ?_)
      have hP : va_P D vwCl (wG a0 a1 a2 a3 a4 a5 c1 c2 c4 c5 x9 size tooG kept_6 sizes_8 rows taken) H := hP
      have hD : va_D A (wG a0 a1 a2 a3 a4 a5 c1 c2 c4 c5 x9 size tooG kept_6 sizes_8 rows taken) := hD
      refine lv_aload_n hx hb d_G_keep_91 rfl (lv_at hl 0 rfl) ?_
      refine va_get (D := D) (ci := 1) (v := .int x9) (C := R_G) (T := F_G) (N := 4) hx hb hB inF_G hown hK hP 0 rfl rfl 3 (by decide) (hB _ wd_38) (fun _ h9 => h9) rfl d_G_keep_92 ?_
      refine lv_iconst (v := 1) hx hb d_G_keep_95 (by decide) ?_
      refine lv_isub hx hb d_G_keep_96 ?_
      refine W.widen (k := 1) (n := 6) (by omega) (by omega) ?_
      exact vx_ret (W.iret (v := x9 - 1) hx hb hr (fun t ht hW => ⟨⟨x9 - 1, (x9, kept_6, sizes_8), rfl, h, by rw [ht]; exact hP, va_K.moved hW.alike hK, hD⟩, hS.F ht⟩) hS.2.2 d_G_keep_97)
    · replace h := h.2 hc2
      obtain ⟨sa, hstr⟩ := hX.2.2.2 (148, "the new function is too great") (by decide +kernel); exact vx_throwS (names := ["java/lang/RuntimeException", "java/lang/Exception"]) hx hb hst hown (by decide) (by decide) (hB _ wd_91) (hB _ wd_8) hstr (vx_hat (fun w hw => hB w (atE_2 w hw)) ngE_2 (nwG_use hX.1)) (otE_2 _) hX.2.1 hX.2.2.1 hS (hl.1.trans hml.symm) d_G_keep_22 d_G_keep_25 d_G_keep_26 d_G_keep_28 d_G_keep_31 (fun x hx => (hno x hx).elim) (Nat.le_of_ble_eq_true rfl) (Nat.le_of_ble_eq_true rfl) (Nat.le_of_ble_eq_true rfl) (Nat.le_of_ble_eq_true rfl) hlocks (fun t hvm hz hk => ⟨(made, kept, sizes), trivial, ⟨h, va_P_grown hP hk, va_K.moved hvm hK, hD⟩, va_F_grown hS hz hk⟩) hS.2.2 (Nat.le_of_ble_eq_true rfl) (Nat.le_of_ble_eq_true rfl)
set_option maxHeartbeats 4000000 in
set_option maxRecDepth 100000 in
theorem c_G_putAll (l : Launch) (D : va_G) (a0 a1 a2 a3 a4 a5 : Nat) (c1 c2 c4 c5 : ClassId) (sz : Nat) (made : Int32) (size : Int32) (tooG : Int32) (kept : (Nat → Int32)) (sizes : (Nat → Int32)) (rows : (Nat → Int32)) (taken : (Nat → Int32)) (p0 : Int32) (post : Int32 → Int32 → (Nat → Int32) → (Nat → Int32) → Prop) : Met l y_G_putAll (Cond.code y_G_putAll b_G_putAll 3 none :: BIG) ({ frames := 5, cells := 0, slots := 0, locals := 128 }) (va_Pc [.ref a0, .int p0] (pcX D vwCl (wG a0 a1 a2 a3 a4 a5 c1 c2 c4 c5 made size tooG kept sizes rows taken) [(c1, .int), (c2, .int), (c4, .int), (c5, .int)] sz (wp_G_putAll size tooG kept sizes rows taken p0 post))) (va_Qv (fun (u : Int32 × Int32 × (Nat → Int32) × (Nat → Int32)) => post (u.1) (u.2.1) (u.2.2.1) (u.2.2.2)) (fun u => atG D vwCl [(c1, .int), (c2, .int), (c4, .int), (c5, .int)] (va_A (wG a0 a1 a2 a3 a4 a5 c1 c2 c4 c5 made size tooG kept sizes rows taken) sz) (wG a0 a1 a2 a3 a4 a5 c1 c2 c4 c5 made (u.1) (u.2.1) kept sizes (u.2.2.1) (u.2.2.2))) (va_A (wG a0 a1 a2 a3 a4 a5 c1 c2 c4 c5 made size tooG kept sizes rows taken) sz)) 0 0 (va_A (wG a0 a1 a2 a3 a4 a5 c1 c2 c4 c5 made size tooG kept sizes rows taken) sz) := by
  refine Met.ofW (cc := b_G_putAll) (maxL := 3) (ret := none) (by decide) rfl ?_
  intro p e s m args below meth c s₁ B hml hv
  obtain ⟨rfl, hsz, hP, hK, hD0, hX, h⟩ := hv
  have hx := B.exec
  have hb := B.bytes
  have hr := B.returns
  have hB : ∀ w ∈ BIG, w.before _ s = true := fun w h => atoms_spec (ws := (Cond.code y_G_putAll b_G_putAll 3 none :: BIG)) B.pre w (List.mem_cons_of_mem _ h)
  have hown : s.vm.findClass R_G = some m.cls := findClass_of_methodNamed B.named
  have hlocks := B.notSynchronized
  subst hsz
  have hD := hD0.self (sz := s.heap.size)
  generalize hAe : va_A (wG a0 a1 a2 a3 a4 a5 c1 c2 c4 c5 made size tooG kept sizes rows taken) s.heap.size = A at hD hX ⊢
  have hA : ∀ q : Nat, s.heap.size ≤ q → A q := fun q h => by rw [← hAe]; exact Or.inr h
  have hl := lv_entry ([.ref a0, .int p0]) (n := 3) (Nat.le_of_ble_eq_true rfl)
  rw [lg_entry_eq]
  generalize (lg_sl ([.ref a0, .int p0]) ++ List.replicate (3 - (lg_sl ([.ref a0, .int p0])).length) Slot.unset).toArray = ls at hl ⊢
  have hl : lv_has ls 3 [(0, .ref a0), (1, .int p0)] := hl
  refine W.cap (fun G Gi Ge => ?_)
  suffices hL : ∀ (H : Heap) (locs : List Loc), va_P D vwCl (wG a0 a1 a2 a3 a4 a5 c1 c2 c4 c5 made size tooG kept sizes rows taken) H → va_S A s.heap H locs → G H locs (F0 m 0 ls []) from hL _ _ hP va_S.rf
  clear hP
  intro H locs hP hS
  refine Gi _ _ _ ?_
  unfold wp_G_putAll at h
  refine lv_iconst (v := 0) hx hb d_G_putAll_0 (by decide) ?_
  refine lv_istore_n (lv' := [(2, .int 0), (0, .ref a0), (1, .int p0)]) hx hb d_G_putAll_1 rfl hl (by decide) rfl (fun ls hl => ?_)
  obtain ⟨n2, h⟩ := h
  refine W.cap (fun G2 Gi2 Ge2 => ?_)
  suffices hL2 : ∀ (n2 : Nat) (v2_1 : Int32) (size_2 : Int32) (tooG_3 : Int32) (rows_4 : (Nat → Int32)) (taken_5 : (Nat → Int32)) (H : Heap) (locs : List Loc) (ls : Array Slot), va_P D vwCl (wG a0 a1 a2 a3 a4 a5 c1 c2 c4 c5 made size_2 tooG_3 kept sizes rows_4 taken_5) H → va_D A (wG a0 a1 a2 a3 a4 a5 c1 c2 c4 c5 made size_2 tooG_3 kept sizes rows_4 taken_5) → va_S A s.heap H locs → lv_has ls 3 [(2, .int v2_1), (0, .ref a0), (1, .int p0)] → lpW5 (wb_G_putAll_2 p0 sizes post kept) n2 v2_1 size_2 tooG_3 rows_4 taken_5 → G2 H locs (F0 m 2 ls []) from hL2 n2 (0 : Int32) size tooG rows taken _ _ _ hP hD hS hl h
  clear h hP hD hS hl
  intro n2
  induction n2 with
  | zero => intro v2_1 size_2 tooG_3 rows_4 taken_5 H locs ls hP hD hS hl h; exact (show False from h).elim
  | succ n2 ihL2 =>
    intro v2_1 size_2 tooG_3 rows_4 taken_5 H locs ls hP hD hS hl h
    replace h : (wb_G_putAll_2 p0 sizes post kept) (lpW5 (wb_G_putAll_2 p0 sizes post kept) n2) v2_1 size_2 tooG_3 rows_4 taken_5 := h
    refine Gi2 _ _ _ ?_
    refine lv_iload_n hx hb d_G_putAll_2 rfl (lv_at hl 0 rfl) ?_
    refine lv_aload_n hx hb d_G_putAll_3 rfl (lv_at hl 1 rfl) ?_
    refine va_get (D := D) (ci := 1) (v := .ref a2) (C := R_G) (T := F_G) (N := 4) hx hb hB inF_G hown hK hP 0 rfl rfl 1 (by decide) (hB _ wd_36) (fun _ h9 => h9) rfl d_G_putAll_4 ?_
    refine lv_iload_n hx hb d_G_putAll_7 rfl (lv_at hl 2 rfl) ?_
    obtain ⟨g6, h⟩ := h
    refine va_iald hx hb hK hP 2 1 rfl rfl g6 d_G_putAll_8 ?_
    refine lv_icmp_ge (tgt := 41) hx hb d_G_putAll_9 (by decide) (fun hc7 => ?_) (fun hc7 => ?_)
    · replace h := h.1 hc7
      exact W.vret hx hb hr (fun t ht hW => ⟨⟨(size_2, tooG_3, rows_4, taken_5), rfl, h, by rw [ht]; exact hP, va_K.moved hW.alike hK, hD⟩, hS.F ht⟩) hS.2.2 d_G_putAll_41
    · replace h := h.2 hc7
      refine lv_aload_n hx hb d_G_putAll_12 rfl (lv_at hl 1 rfl) ?_
      refine va_get (D := D) (ci := 1) (v := .ref a3) (C := R_G) (T := F_G) (N := 4) hx hb hB inF_G hown hK hP 0 rfl rfl 2 (by decide) (hB _ wd_37) (fun _ h9 => h9) rfl d_G_putAll_13 ?_
      refine lv_aload_n hx hb d_G_putAll_16 rfl (lv_at hl 1 rfl) ?_
      refine va_get (D := D) (ci := 1) (v := .ref a1) (C := R_G) (T := F_G) (N := 4) hx hb hB inF_G hown hK hP 0 rfl rfl 0 (by decide) (hB _ wd_35) (fun _ h9 => h9) rfl d_G_putAll_17 ?_
      refine lv_iload_n hx hb d_G_putAll_20 rfl (lv_at hl 2 rfl) ?_
      refine lv_iload_n hx hb d_G_putAll_21 rfl (lv_at hl 0 rfl) ?_
      have hF8 := va_free (wc := (wG a0 a1 a2 a3 a4 a5 c1 c2 c4 c5 made size_2 tooG_3 kept sizes rows_4 taken_5)) hD hS hA [0, 1, 2, 3, 4, 5] rfl
      refine va_calli (va_runS (As := [.int p0, .int v2_1]) (rest := [.ref a1, .ref a3]) ⟨hx, hb, hml, hown, hB⟩ (c_G_rowOf l D a0 a1 a2 a3 a4 a5 c1 c2 c4 c5 H.size made size_2 tooG_3 kept sizes rows_4 taken_5 p0 v2_1 _) (cwS 2 hB (goodS wd_144 wd_145 wd_1 wd_146) rfl rfl rfl (by decide +kernel) ⟨Nat.le_of_ble_eq_true rfl, Nat.le_of_ble_eq_true rfl⟩) ⟨pcX_blind, pcX_pre hP hK hD hS hX hF8 h⟩ rfl rfl hl.1 rfl (lv_room (Nat.le_of_ble_eq_true rfl)) d_G_putAll_22 ⟨Nat.le_of_ble_eq_true rfl, Nat.le_of_ble_eq_true rfl⟩) hS (fun q _ h => hF8 q h) hF8 (fun r9 u t H locs ht hvm h hB hz1 hk1 hS => ?_)
      obtain ⟨hP1, hK1, hD1⟩ := hB
      rw [ht] at hP1
      have hP : va_P D vwCl (wG a0 a1 a2 a3 a4 a5 c1 c2 c4 c5 made size_2 tooG_3 kept sizes rows_4 taken_5) H := hP1
      have hD : va_D A (wG a0 a1 a2 a3 a4 a5 c1 c2 c4 c5 made size_2 tooG_3 kept sizes rows_4 taken_5) := hD1.weaken (fun _ _ _ hq => hF8 _ hq)
      have hF10 := va_free (wc := (wG a0 a1 a2 a3 a4 a5 c1 c2 c4 c5 made size_2 tooG_3 kept sizes rows_4 taken_5)) hD hS hA [0, 1, 2, 3, 4, 5] rfl
      refine va_callv (va_runV (As := [.ref a1, .int r9]) (rest := []) ⟨hx, hb, hml, hown, hB⟩ (c_W_take l D a0 a1 a2 a3 a4 a5 c1 c2 c4 c5 H.size made size_2 tooG_3 kept sizes rows_4 taken_5 r9 _) (cwV 2 hB (goodV wd_191 wd_192 wd_193 wd_2 wd_194) rfl rfl rfl (by decide +kernel) ⟨Nat.le_of_ble_eq_true rfl, Nat.le_of_ble_eq_true rfl⟩) ⟨pcX_blind, va_recv hK hP (ci := 0) (q0 := 3) rfl rfl, pcX_pre hP hK hD hS hX hF10 h⟩ rfl rfl hl.1 rfl (lv_room (Nat.le_of_ble_eq_true rfl)) d_G_putAll_25 ⟨Nat.le_of_ble_eq_true rfl, Nat.le_of_ble_eq_true rfl⟩) hS (fun q _ h => hF10 q h) hF10 (fun taken_11 t H locs ht hvm h hB hz1 hk1 hS => ?_)
      obtain ⟨hP1, hK1, hD1⟩ := hB
      rw [ht] at hP1
      have hP : va_P D vwCl (wG a0 a1 a2 a3 a4 a5 c1 c2 c4 c5 made size_2 tooG_3 kept sizes rows_4 taken_11) H := hP1
      have hD : va_D A (wG a0 a1 a2 a3 a4 a5 c1 c2 c4 c5 made size_2 tooG_3 kept sizes rows_4 taken_11) := hD1.weaken (fun _ _ _ hq => hF10 _ hq)
      refine lv_aload_n hx hb d_G_putAll_28 rfl (lv_at hl 1 rfl) ?_
      refine va_get (D := D) (ci := 1) (v := .ref a3) (C := R_G) (T := F_G) (N := 4) hx hb hB inF_G hown hK hP 0 rfl rfl 2 (by decide) (hB _ wd_37) (fun _ h9 => h9) rfl d_G_putAll_29 ?_
      have hF12 := va_free (wc := (wG a0 a1 a2 a3 a4 a5 c1 c2 c4 c5 made size_2 tooG_3 kept sizes rows_4 taken_11)) hD hS hA [0, 1, 2, 3, 4, 5] rfl
      refine va_callv (va_runV (As := []) (rest := []) ⟨hx, hb, hml, hown, hB⟩ (c_W_putTaken l D a0 a1 a2 a3 a4 a5 c1 c2 c4 c5 H.size made size_2 tooG_3 kept sizes rows_4 taken_11 _) (cwV 0 hB (goodV wd_120 wd_121 wd_122 wd_2 wd_123) rfl rfl rfl (by decide +kernel) ⟨Nat.le_of_ble_eq_true rfl, Nat.le_of_ble_eq_true rfl⟩) ⟨pcX_blind, va_recv hK hP (ci := 0) (q0 := 3) rfl rfl, pcX_pre hP hK hD hS hX hF12 h⟩ rfl rfl hl.1 rfl (lv_room (Nat.le_of_ble_eq_true rfl)) d_G_putAll_32 ⟨Nat.le_of_ble_eq_true rfl, Nat.le_of_ble_eq_true rfl⟩) hS (fun q _ h => hF12 q h) hF12 (fun u t H locs ht hvm h hB hz1 hk1 hS => ?_)
      obtain ⟨size_13, tooG_14, rows_15⟩ := u
      obtain ⟨hP1, hK1, hD1⟩ := hB
      rw [ht] at hP1
      have hP : va_P D vwCl (wG a0 a1 a2 a3 a4 a5 c1 c2 c4 c5 made size_13 tooG_14 kept sizes rows_15 taken_11) H := hP1
      have hD : va_D A (wG a0 a1 a2 a3 a4 a5 c1 c2 c4 c5 made size_13 tooG_14 kept sizes rows_15 taken_11) := hD1.weaken (fun _ _ _ hq => hF12 _ hq)
      obtain ⟨x16, ex16⟩ : ∃ z : Int32, z = v2_1 + 1 := ⟨_, rfl⟩
      replace h := h x16 ex16
      refine lv_iinc (v := x16) (lv' := [(2, .int x16), (0, .ref a0), (1, .int p0)]) hx hb d_G_putAll_35 hl (k := 0) rfl (by rw [ex16]; rfl) (by decide) rfl (fun ls hl => ?_)
      refine lv_goto (tgt := 2) hx hb d_G_putAll_38 (by decide) ?_
      exact Ge2 _ _ _ (ihL2 x16 size_13 tooG_14 rows_15 taken_11 _ _ _ hP hD hS (lv_sub hl [0, 1, 2] rfl) h)
set_option maxHeartbeats 4000000 in
set_option maxRecDepth 100000 in
theorem c_G_putMultiple (l : Launch) (D : va_G) (a0 a1 a2 a3 a4 a5 : Nat) (c1 c2 c4 c5 : ClassId) (sz : Nat) (made : Int32) (size : Int32) (tooG : Int32) (kept : (Nat → Int32)) (sizes : (Nat → Int32)) (rows : (Nat → Int32)) (taken : (Nat → Int32)) (p0 : Int32) (p1 : Int32) (p2 : Int32) (post : Int32 → Int32 → (Nat → Int32) → (Nat → Int32) → Prop) : Met l y_G_putMultiple (Cond.code y_G_putMultiple b_G_putMultiple 4 none :: BIG) ({ frames := 5, cells := 0, slots := 0, locals := 128 }) (va_Pc [.ref a0, .int p0, .int p1, .int p2] (pcX D vwCl (wG a0 a1 a2 a3 a4 a5 c1 c2 c4 c5 made size tooG kept sizes rows taken) [(c1, .int), (c2, .int), (c4, .int), (c5, .int)] sz (wp_G_putMultiple size tooG rows taken p0 p1 p2 post))) (va_Qv (fun (u : Int32 × Int32 × (Nat → Int32) × (Nat → Int32)) => post (u.1) (u.2.1) (u.2.2.1) (u.2.2.2)) (fun u => atG D vwCl [(c1, .int), (c2, .int), (c4, .int), (c5, .int)] (va_A (wG a0 a1 a2 a3 a4 a5 c1 c2 c4 c5 made size tooG kept sizes rows taken) sz) (wG a0 a1 a2 a3 a4 a5 c1 c2 c4 c5 made (u.1) (u.2.1) kept sizes (u.2.2.1) (u.2.2.2))) (va_A (wG a0 a1 a2 a3 a4 a5 c1 c2 c4 c5 made size tooG kept sizes rows taken) sz)) 0 0 (va_A (wG a0 a1 a2 a3 a4 a5 c1 c2 c4 c5 made size tooG kept sizes rows taken) sz) := by
  refine Met.ofW (cc := b_G_putMultiple) (maxL := 4) (ret := none) (by decide) rfl ?_
  intro p e s m args below meth c s₁ B hml hv
  obtain ⟨rfl, hsz, hP, hK, hD0, hX, h⟩ := hv
  have hx := B.exec
  have hb := B.bytes
  have hr := B.returns
  have hB : ∀ w ∈ BIG, w.before _ s = true := fun w h => atoms_spec (ws := (Cond.code y_G_putMultiple b_G_putMultiple 4 none :: BIG)) B.pre w (List.mem_cons_of_mem _ h)
  have hown : s.vm.findClass R_G = some m.cls := findClass_of_methodNamed B.named
  have hlocks := B.notSynchronized
  subst hsz
  have hD := hD0.self (sz := s.heap.size)
  generalize hAe : va_A (wG a0 a1 a2 a3 a4 a5 c1 c2 c4 c5 made size tooG kept sizes rows taken) s.heap.size = A at hD hX ⊢
  have hA : ∀ q : Nat, s.heap.size ≤ q → A q := fun q h => by rw [← hAe]; exact Or.inr h
  have hl := lv_entry ([.ref a0, .int p0, .int p1, .int p2]) (n := 4) (Nat.le_of_ble_eq_true rfl)
  rw [lg_entry_eq]
  generalize (lg_sl ([.ref a0, .int p0, .int p1, .int p2]) ++ List.replicate (4 - (lg_sl ([.ref a0, .int p0, .int p1, .int p2])).length) Slot.unset).toArray = ls at hl ⊢
  have hl : lv_has ls 4 [(0, .ref a0), (1, .int p0), (2, .int p1), (3, .int p2)] := hl
  refine W.cap (fun G Gi Ge => ?_)
  suffices hL : ∀ (H : Heap) (locs : List Loc), va_P D vwCl (wG a0 a1 a2 a3 a4 a5 c1 c2 c4 c5 made size tooG kept sizes rows taken) H → va_S A s.heap H locs → G H locs (F0 m 0 ls []) from hL _ _ hP va_S.rf
  clear hP
  intro H locs hP hS
  refine Gi _ _ _ ?_
  unfold wp_G_putMultiple at h
  refine lv_iload_n hx hb d_G_putMultiple_0 rfl (lv_at hl 1 rfl) ?_
  refine lv_if_eq (tgt := 37) hx hb d_G_putMultiple_1 (by decide) (fun hc1 => ?_) (fun hc1 => ?_)
  · replace h := h.1 hc1
    exact W.vret hx hb hr (fun t ht hW => ⟨⟨(size, tooG, rows, taken), rfl, h, by rw [ht]; exact hP, va_K.moved hW.alike hK, hD⟩, hS.F ht⟩) hS.2.2 d_G_putMultiple_37
  · replace h := h.2 hc1
    refine lv_aload_n hx hb d_G_putMultiple_4 rfl (lv_at hl 0 rfl) ?_
    refine va_get (D := D) (ci := 1) (v := .ref a3) (C := R_G) (T := F_G) (N := 4) hx hb hB inF_G hown hK hP 0 rfl rfl 2 (by decide) (hB _ wd_37) (fun _ h9 => h9) rfl d_G_putMultiple_5 ?_
    have hF2 := va_free (wc := (wG a0 a1 a2 a3 a4 a5 c1 c2 c4 c5 made size tooG kept sizes rows taken)) hD hS hA [0, 1, 2, 3, 4, 5] rfl
    refine va_callv (va_runV (As := []) (rest := []) ⟨hx, hb, hml, hown, hB⟩ (c_W_takeOne l D a0 a1 a2 a3 a4 a5 c1 c2 c4 c5 H.size made size tooG kept sizes rows taken _) (cwV 0 hB (goodV wd_102 wd_103 wd_104 wd_2 wd_105) rfl rfl rfl (by decide +kernel) ⟨Nat.le_of_ble_eq_true rfl, Nat.le_of_ble_eq_true rfl⟩) ⟨pcX_blind, va_recv hK hP (ci := 0) (q0 := 3) rfl rfl, pcX_pre hP hK hD hS hX hF2 h⟩ rfl rfl hl.1 rfl (lv_room (Nat.le_of_ble_eq_true rfl)) d_G_putMultiple_8 ⟨Nat.le_of_ble_eq_true rfl, Nat.le_of_ble_eq_true rfl⟩) hS (fun q _ h => hF2 q h) hF2 (fun taken_3 t H locs ht hvm h hB hz1 hk1 hS => ?_)
    obtain ⟨hP1, hK1, hD1⟩ := hB
    rw [ht] at hP1
    have hP : va_P D vwCl (wG a0 a1 a2 a3 a4 a5 c1 c2 c4 c5 made size tooG kept sizes rows taken_3) H := hP1
    have hD : va_D A (wG a0 a1 a2 a3 a4 a5 c1 c2 c4 c5 made size tooG kept sizes rows taken_3) := hD1.weaken (fun _ _ _ hq => hF2 _ hq)
    refine lv_aload_n hx hb d_G_putMultiple_11 rfl (lv_at hl 0 rfl) ?_
    refine va_get (D := D) (ci := 1) (v := .ref a3) (C := R_G) (T := F_G) (N := 4) hx hb hB inF_G hown hK hP 0 rfl rfl 2 (by decide) (hB _ wd_37) (fun _ h9 => h9) rfl d_G_putMultiple_12 ?_
    refine lv_iload_n hx hb d_G_putMultiple_15 rfl (lv_at hl 1 rfl) ?_
    refine lv_i2l hx hb d_G_putMultiple_16 rfl ?_
    refine lv_lconst (v := 1) hx hb d_G_putMultiple_17 (by decide) ?_
    have hF4 := va_free (wc := (wG a0 a1 a2 a3 a4 a5 c1 c2 c4 c5 made size tooG kept sizes rows taken_3)) hD hS hA [0, 1, 2, 3, 4, 5] rfl
    refine va_callv (va_runV (As := [.long (p0.toInt64), .long 1]) (rest := []) ⟨hx, hb, hml, hown, hB⟩ (c_W_multiply l D a0 a1 a2 a3 a4 a5 c1 c2 c4 c5 H.size made size tooG kept sizes rows taken_3 (p0.toInt64) 1 _) (cwV 2 hB (goodV wd_106 wd_107 wd_108 wd_2 wd_109) rfl rfl rfl (by decide +kernel) ⟨Nat.le_of_ble_eq_true rfl, Nat.le_of_ble_eq_true rfl⟩) ⟨pcX_blind, va_recv hK hP (ci := 0) (q0 := 3) rfl rfl, pcX_pre hP hK hD hS hX hF4 h⟩ rfl rfl hl.1 rfl (lv_room (Nat.le_of_ble_eq_true rfl)) d_G_putMultiple_18 ⟨Nat.le_of_ble_eq_true rfl, Nat.le_of_ble_eq_true rfl⟩) hS (fun q _ h => hF4 q h) hF4 (fun u t H locs ht hvm h hB hz1 hk1 hS => ?_)
    obtain ⟨tooG_5, taken_6⟩ := u
    obtain ⟨hP1, hK1, hD1⟩ := hB
    rw [ht] at hP1
    have hP : va_P D vwCl (wG a0 a1 a2 a3 a4 a5 c1 c2 c4 c5 made size tooG_5 kept sizes rows taken_6) H := hP1
    have hD : va_D A (wG a0 a1 a2 a3 a4 a5 c1 c2 c4 c5 made size tooG_5 kept sizes rows taken_6) := hD1.weaken (fun _ _ _ hq => hF4 _ hq)
    refine lv_aload_n hx hb d_G_putMultiple_21 rfl (lv_at hl 0 rfl) ?_
    refine va_get (D := D) (ci := 1) (v := .ref a3) (C := R_G) (T := F_G) (N := 4) hx hb hB inF_G hown hK hP 0 rfl rfl 2 (by decide) (hB _ wd_37) (fun _ h9 => h9) rfl d_G_putMultiple_22 ?_
    refine lv_iload_n hx hb d_G_putMultiple_25 rfl (lv_at hl 2 rfl) ?_
    refine lv_iload_n hx hb d_G_putMultiple_26 rfl (lv_at hl 3 rfl) ?_
    have hF7 := va_free (wc := (wG a0 a1 a2 a3 a4 a5 c1 c2 c4 c5 made size tooG_5 kept sizes rows taken_6)) hD hS hA [0, 1, 2, 3, 4, 5] rfl
    refine va_callv (va_runV (As := [.int p1, .int p2]) (rest := []) ⟨hx, hb, hml, hown, hB⟩ (c_W_raise l D a0 a1 a2 a3 a4 a5 c1 c2 c4 c5 H.size made size tooG_5 kept sizes rows taken_6 p1 p2 _) (cwV 2 hB (goodV wd_166 wd_167 wd_168 wd_2 wd_169) rfl rfl rfl (by decide +kernel) ⟨Nat.le_of_ble_eq_true rfl, Nat.le_of_ble_eq_true rfl⟩) ⟨pcX_blind, va_recv hK hP (ci := 0) (q0 := 3) rfl rfl, pcX_pre hP hK hD hS hX hF7 h⟩ rfl rfl hl.1 rfl (lv_room (Nat.le_of_ble_eq_true rfl)) d_G_putMultiple_27 ⟨Nat.le_of_ble_eq_true rfl, Nat.le_of_ble_eq_true rfl⟩) hS (fun q _ h => hF7 q h) hF7 (fun u t H locs ht hvm h hB hz1 hk1 hS => ?_)
    obtain ⟨tooG_8, taken_9⟩ := u
    obtain ⟨hP1, hK1, hD1⟩ := hB
    rw [ht] at hP1
    have hP : va_P D vwCl (wG a0 a1 a2 a3 a4 a5 c1 c2 c4 c5 made size tooG_8 kept sizes rows taken_9) H := hP1
    have hD : va_D A (wG a0 a1 a2 a3 a4 a5 c1 c2 c4 c5 made size tooG_8 kept sizes rows taken_9) := hD1.weaken (fun _ _ _ hq => hF7 _ hq)
    refine lv_aload_n hx hb d_G_putMultiple_30 rfl (lv_at hl 0 rfl) ?_
    refine va_get (D := D) (ci := 1) (v := .ref a3) (C := R_G) (T := F_G) (N := 4) hx hb hB inF_G hown hK hP 0 rfl rfl 2 (by decide) (hB _ wd_37) (fun _ h9 => h9) rfl d_G_putMultiple_31 ?_
    have hF10 := va_free (wc := (wG a0 a1 a2 a3 a4 a5 c1 c2 c4 c5 made size tooG_8 kept sizes rows taken_9)) hD hS hA [0, 1, 2, 3, 4, 5] rfl
    refine va_callv (va_runV (As := []) (rest := []) ⟨hx, hb, hml, hown, hB⟩ (c_W_putTaken l D a0 a1 a2 a3 a4 a5 c1 c2 c4 c5 H.size made size tooG_8 kept sizes rows taken_9 _) (cwV 0 hB (goodV wd_120 wd_121 wd_122 wd_2 wd_123) rfl rfl rfl (by decide +kernel) ⟨Nat.le_of_ble_eq_true rfl, Nat.le_of_ble_eq_true rfl⟩) ⟨pcX_blind, va_recv hK hP (ci := 0) (q0 := 3) rfl rfl, pcX_pre hP hK hD hS hX hF10 h⟩ rfl rfl hl.1 rfl (lv_room (Nat.le_of_ble_eq_true rfl)) d_G_putMultiple_34 ⟨Nat.le_of_ble_eq_true rfl, Nat.le_of_ble_eq_true rfl⟩) hS (fun q _ h => hF10 q h) hF10 (fun u t H locs ht hvm h hB hz1 hk1 hS => ?_)
    obtain ⟨size_11, tooG_12, rows_13⟩ := u
    obtain ⟨hP1, hK1, hD1⟩ := hB
    rw [ht] at hP1
    have hP : va_P D vwCl (wG a0 a1 a2 a3 a4 a5 c1 c2 c4 c5 made size_11 tooG_12 kept sizes rows_13 taken_9) H := hP1
    have hD : va_D A (wG a0 a1 a2 a3 a4 a5 c1 c2 c4 c5 made size_11 tooG_12 kept sizes rows_13 taken_9) := hD1.weaken (fun _ _ _ hq => hF10 _ hq)
    exact W.vret hx hb hr (fun t ht hW => ⟨⟨(size_11, tooG_12, rows_13, taken_9), rfl, h, by rw [ht]; exact hP, va_K.moved hW.alike hK, hD⟩, hS.F ht⟩) hS.2.2 d_G_putMultiple_37
set_option maxHeartbeats 4000000 in
set_option maxRecDepth 100000 in
theorem c_G_putSlopePart (l : Launch) (D : va_G) (a0 a1 a2 a3 a4 a5 : Nat) (c1 c2 c4 c5 : ClassId) (sz : Nat) (made : Int32) (size : Int32) (tooG : Int32) (kept : (Nat → Int32)) (sizes : (Nat → Int32)) (rows : (Nat → Int32)) (taken : (Nat → Int32)) (p0 : Int32) (p1 : Int32) (p2 : Int32) (p3 : Int32) (p4 : Int32) (post : Int32 → Int32 → (Nat → Int32) → (Nat → Int32) → Prop) : Met l y_G_putSlopePart (Cond.code y_G_putSlopePart b_G_putSlopePart 6 none :: BIG) ({ frames := 5, cells := 0, slots := 0, locals := 128 }) (va_Pc [.ref a0, .int p0, .int p1, .int p2, .int p3, .int p4] (pcX D vwCl (wG a0 a1 a2 a3 a4 a5 c1 c2 c4 c5 made size tooG kept sizes rows taken) [(c1, .int), (c2, .int), (c4, .int), (c5, .int)] sz (wp_G_putSlopePart size tooG kept rows taken p0 p1 p2 p3 p4 post))) (va_Qv (fun (u : Int32 × Int32 × (Nat → Int32) × (Nat → Int32)) => post (u.1) (u.2.1) (u.2.2.1) (u.2.2.2)) (fun u => atG D vwCl [(c1, .int), (c2, .int), (c4, .int), (c5, .int)] (va_A (wG a0 a1 a2 a3 a4 a5 c1 c2 c4 c5 made size tooG kept sizes rows taken) sz) (wG a0 a1 a2 a3 a4 a5 c1 c2 c4 c5 made (u.1) (u.2.1) kept sizes (u.2.2.1) (u.2.2.2))) (va_A (wG a0 a1 a2 a3 a4 a5 c1 c2 c4 c5 made size tooG kept sizes rows taken) sz)) 0 0 (va_A (wG a0 a1 a2 a3 a4 a5 c1 c2 c4 c5 made size tooG kept sizes rows taken) sz) := by
  refine Met.ofW (cc := b_G_putSlopePart) (maxL := 6) (ret := none) (by decide) rfl ?_
  intro p e s m args below meth c s₁ B hml hv
  obtain ⟨rfl, hsz, hP, hK, hD0, hX, h⟩ := hv
  have hx := B.exec
  have hb := B.bytes
  have hr := B.returns
  have hB : ∀ w ∈ BIG, w.before _ s = true := fun w h => atoms_spec (ws := (Cond.code y_G_putSlopePart b_G_putSlopePart 6 none :: BIG)) B.pre w (List.mem_cons_of_mem _ h)
  have hown : s.vm.findClass R_G = some m.cls := findClass_of_methodNamed B.named
  have hlocks := B.notSynchronized
  subst hsz
  have hD := hD0.self (sz := s.heap.size)
  generalize hAe : va_A (wG a0 a1 a2 a3 a4 a5 c1 c2 c4 c5 made size tooG kept sizes rows taken) s.heap.size = A at hD hX ⊢
  have hA : ∀ q : Nat, s.heap.size ≤ q → A q := fun q h => by rw [← hAe]; exact Or.inr h
  have hl := lv_entry ([.ref a0, .int p0, .int p1, .int p2, .int p3, .int p4]) (n := 6) (Nat.le_of_ble_eq_true rfl)
  rw [lg_entry_eq]
  generalize (lg_sl ([.ref a0, .int p0, .int p1, .int p2, .int p3, .int p4]) ++ List.replicate (6 - (lg_sl ([.ref a0, .int p0, .int p1, .int p2, .int p3, .int p4])).length) Slot.unset).toArray = ls at hl ⊢
  have hl : lv_has ls 6 [(0, .ref a0), (1, .int p0), (2, .int p1), (3, .int p2), (4, .int p3), (5, .int p4)] := hl
  refine W.cap (fun G Gi Ge => ?_)
  suffices hL : ∀ (H : Heap) (locs : List Loc), va_P D vwCl (wG a0 a1 a2 a3 a4 a5 c1 c2 c4 c5 made size tooG kept sizes rows taken) H → va_S A s.heap H locs → G H locs (F0 m 0 ls []) from hL _ _ hP va_S.rf
  clear hP
  intro H locs hP hS
  refine Gi _ _ _ ?_
  unfold wp_G_putSlopePart at h
  refine lv_iload_n hx hb d_G_putSlopePart_0 rfl (lv_at hl 2 rfl) ?_
  refine lv_if_eq (tgt := 62) hx hb d_G_putSlopePart_1 (by decide) (fun hc1 => ?_) (fun hc1 => ?_)
  · replace h := h.1 hc1
    exact W.vret hx hb hr (fun t ht hW => ⟨⟨(size, tooG, rows, taken), rfl, h, by rw [ht]; exact hP, va_K.moved hW.alike hK, hD⟩, hS.F ht⟩) hS.2.2 d_G_putSlopePart_62
  · replace h := h.2 hc1
    refine lv_aload_n hx hb d_G_putSlopePart_4 rfl (lv_at hl 0 rfl) ?_
    refine va_get (D := D) (ci := 1) (v := .ref a3) (C := R_G) (T := F_G) (N := 4) hx hb hB inF_G hown hK hP 0 rfl rfl 2 (by decide) (hB _ wd_37) (fun _ h9 => h9) rfl d_G_putSlopePart_5 ?_
    refine lv_aload_n hx hb d_G_putSlopePart_8 rfl (lv_at hl 0 rfl) ?_
    refine va_get (D := D) (ci := 1) (v := .ref a1) (C := R_G) (T := F_G) (N := 4) hx hb hB inF_G hown hK hP 0 rfl rfl 0 (by decide) (hB _ wd_35) (fun _ h9 => h9) rfl d_G_putSlopePart_9 ?_
    refine lv_iload_n hx hb d_G_putSlopePart_12 rfl (lv_at hl 1 rfl) ?_
    have hF2 := va_free (wc := (wG a0 a1 a2 a3 a4 a5 c1 c2 c4 c5 made size tooG kept sizes rows taken)) hD hS hA [0, 1, 2, 3, 4, 5] rfl
    refine va_callv (va_runV (As := [.ref a1, .int p0]) (rest := []) ⟨hx, hb, hml, hown, hB⟩ (c_W_take l D a0 a1 a2 a3 a4 a5 c1 c2 c4 c5 H.size made size tooG kept sizes rows taken p0 _) (cwV 2 hB (goodV wd_191 wd_192 wd_193 wd_2 wd_194) rfl rfl rfl (by decide +kernel) ⟨Nat.le_of_ble_eq_true rfl, Nat.le_of_ble_eq_true rfl⟩) ⟨pcX_blind, va_recv hK hP (ci := 0) (q0 := 3) rfl rfl, pcX_pre hP hK hD hS hX hF2 h⟩ rfl rfl hl.1 rfl (lv_room (Nat.le_of_ble_eq_true rfl)) d_G_putSlopePart_13 ⟨Nat.le_of_ble_eq_true rfl, Nat.le_of_ble_eq_true rfl⟩) hS (fun q _ h => hF2 q h) hF2 (fun taken_3 t H locs ht hvm h hB hz1 hk1 hS => ?_)
    obtain ⟨hP1, hK1, hD1⟩ := hB
    rw [ht] at hP1
    have hP : va_P D vwCl (wG a0 a1 a2 a3 a4 a5 c1 c2 c4 c5 made size tooG kept sizes rows taken_3) H := hP1
    have hD : va_D A (wG a0 a1 a2 a3 a4 a5 c1 c2 c4 c5 made size tooG kept sizes rows taken_3) := hD1.weaken (fun _ _ _ hq => hF2 _ hq)
    refine lv_aload_n hx hb d_G_putSlopePart_16 rfl (lv_at hl 0 rfl) ?_
    refine va_get (D := D) (ci := 1) (v := .ref a3) (C := R_G) (T := F_G) (N := 4) hx hb hB inF_G hown hK hP 0 rfl rfl 2 (by decide) (hB _ wd_37) (fun _ h9 => h9) rfl d_G_putSlopePart_17 ?_
    refine lv_iload_n hx hb d_G_putSlopePart_20 rfl (lv_at hl 2 rfl) ?_
    refine lv_i2l hx hb d_G_putSlopePart_21 rfl ?_
    refine lv_lconst (v := 1) hx hb d_G_putSlopePart_22 (by decide) ?_
    have hF4 := va_free (wc := (wG a0 a1 a2 a3 a4 a5 c1 c2 c4 c5 made size tooG kept sizes rows taken_3)) hD hS hA [0, 1, 2, 3, 4, 5] rfl
    refine va_callv (va_runV (As := [.long (p1.toInt64), .long 1]) (rest := []) ⟨hx, hb, hml, hown, hB⟩ (c_W_multiply l D a0 a1 a2 a3 a4 a5 c1 c2 c4 c5 H.size made size tooG kept sizes rows taken_3 (p1.toInt64) 1 _) (cwV 2 hB (goodV wd_106 wd_107 wd_108 wd_2 wd_109) rfl rfl rfl (by decide +kernel) ⟨Nat.le_of_ble_eq_true rfl, Nat.le_of_ble_eq_true rfl⟩) ⟨pcX_blind, va_recv hK hP (ci := 0) (q0 := 3) rfl rfl, pcX_pre hP hK hD hS hX hF4 h⟩ rfl rfl hl.1 rfl (lv_room (Nat.le_of_ble_eq_true rfl)) d_G_putSlopePart_23 ⟨Nat.le_of_ble_eq_true rfl, Nat.le_of_ble_eq_true rfl⟩) hS (fun q _ h => hF4 q h) hF4 (fun u t H locs ht hvm h hB hz1 hk1 hS => ?_)
    obtain ⟨tooG_5, taken_6⟩ := u
    obtain ⟨hP1, hK1, hD1⟩ := hB
    rw [ht] at hP1
    have hP : va_P D vwCl (wG a0 a1 a2 a3 a4 a5 c1 c2 c4 c5 made size tooG_5 kept sizes rows taken_6) H := hP1
    have hD : va_D A (wG a0 a1 a2 a3 a4 a5 c1 c2 c4 c5 made size tooG_5 kept sizes rows taken_6) := hD1.weaken (fun _ _ _ hq => hF4 _ hq)
    refine lv_aload_n hx hb d_G_putSlopePart_26 rfl (lv_at hl 0 rfl) ?_
    refine va_get (D := D) (ci := 1) (v := .ref a3) (C := R_G) (T := F_G) (N := 4) hx hb hB inF_G hown hK hP 0 rfl rfl 2 (by decide) (hB _ wd_37) (fun _ h9 => h9) rfl d_G_putSlopePart_27 ?_
    refine lv_iconst (v := 2) hx hb d_G_putSlopePart_30 (by decide) ?_
    refine lv_iload_n hx hb d_G_putSlopePart_31 rfl (lv_at hl 3 rfl) ?_
    have hF7 := va_free (wc := (wG a0 a1 a2 a3 a4 a5 c1 c2 c4 c5 made size tooG_5 kept sizes rows taken_6)) hD hS hA [0, 1, 2, 3, 4, 5] rfl
    refine va_callv (va_runV (As := [.int 2, .int p2]) (rest := []) ⟨hx, hb, hml, hown, hB⟩ (c_W_raise l D a0 a1 a2 a3 a4 a5 c1 c2 c4 c5 H.size made size tooG_5 kept sizes rows taken_6 2 p2 _) (cwV 2 hB (goodV wd_166 wd_167 wd_168 wd_2 wd_169) rfl rfl rfl (by decide +kernel) ⟨Nat.le_of_ble_eq_true rfl, Nat.le_of_ble_eq_true rfl⟩) ⟨pcX_blind, va_recv hK hP (ci := 0) (q0 := 3) rfl rfl, pcX_pre hP hK hD hS hX hF7 h⟩ rfl rfl hl.1 rfl (lv_room (Nat.le_of_ble_eq_true rfl)) d_G_putSlopePart_32 ⟨Nat.le_of_ble_eq_true rfl, Nat.le_of_ble_eq_true rfl⟩) hS (fun q _ h => hF7 q h) hF7 (fun u t H locs ht hvm h hB hz1 hk1 hS => ?_)
    obtain ⟨tooG_8, taken_9⟩ := u
    obtain ⟨hP1, hK1, hD1⟩ := hB
    rw [ht] at hP1
    have hP : va_P D vwCl (wG a0 a1 a2 a3 a4 a5 c1 c2 c4 c5 made size tooG_8 kept sizes rows taken_9) H := hP1
    have hD : va_D A (wG a0 a1 a2 a3 a4 a5 c1 c2 c4 c5 made size tooG_8 kept sizes rows taken_9) := hD1.weaken (fun _ _ _ hq => hF7 _ hq)
    refine lv_aload_n hx hb d_G_putSlopePart_35 rfl (lv_at hl 0 rfl) ?_
    refine va_get (D := D) (ci := 1) (v := .ref a3) (C := R_G) (T := F_G) (N := 4) hx hb hB inF_G hown hK hP 0 rfl rfl 2 (by decide) (hB _ wd_37) (fun _ h9 => h9) rfl d_G_putSlopePart_36 ?_
    refine lv_iconst (v := 3) hx hb d_G_putSlopePart_39 (by decide) ?_
    refine lv_iload hx hb d_G_putSlopePart_40 (lv_at hl 4 rfl) ?_
    have hF10 := va_free (wc := (wG a0 a1 a2 a3 a4 a5 c1 c2 c4 c5 made size tooG_8 kept sizes rows taken_9)) hD hS hA [0, 1, 2, 3, 4, 5] rfl
    refine va_callv (va_runV (As := [.int 3, .int p3]) (rest := []) ⟨hx, hb, hml, hown, hB⟩ (c_W_raise l D a0 a1 a2 a3 a4 a5 c1 c2 c4 c5 H.size made size tooG_8 kept sizes rows taken_9 3 p3 _) (cwV 2 hB (goodV wd_166 wd_167 wd_168 wd_2 wd_169) rfl rfl rfl (by decide +kernel) ⟨Nat.le_of_ble_eq_true rfl, Nat.le_of_ble_eq_true rfl⟩) ⟨pcX_blind, va_recv hK hP (ci := 0) (q0 := 3) rfl rfl, pcX_pre hP hK hD hS hX hF10 h⟩ rfl rfl hl.1 rfl (lv_room (Nat.le_of_ble_eq_true rfl)) d_G_putSlopePart_42 ⟨Nat.le_of_ble_eq_true rfl, Nat.le_of_ble_eq_true rfl⟩) hS (fun q _ h => hF10 q h) hF10 (fun u t H locs ht hvm h hB hz1 hk1 hS => ?_)
    obtain ⟨tooG_11, taken_12⟩ := u
    obtain ⟨hP1, hK1, hD1⟩ := hB
    rw [ht] at hP1
    have hP : va_P D vwCl (wG a0 a1 a2 a3 a4 a5 c1 c2 c4 c5 made size tooG_11 kept sizes rows taken_12) H := hP1
    have hD : va_D A (wG a0 a1 a2 a3 a4 a5 c1 c2 c4 c5 made size tooG_11 kept sizes rows taken_12) := hD1.weaken (fun _ _ _ hq => hF10 _ hq)
    refine lv_aload_n hx hb d_G_putSlopePart_45 rfl (lv_at hl 0 rfl) ?_
    refine va_get (D := D) (ci := 1) (v := .ref a3) (C := R_G) (T := F_G) (N := 4) hx hb hB inF_G hown hK hP 0 rfl rfl 2 (by decide) (hB _ wd_37) (fun _ h9 => h9) rfl d_G_putSlopePart_46 ?_
    refine lv_iconst (v := 4) hx hb d_G_putSlopePart_49 (by decide) ?_
    refine lv_iload hx hb d_G_putSlopePart_50 (lv_at hl 5 rfl) ?_
    have hF13 := va_free (wc := (wG a0 a1 a2 a3 a4 a5 c1 c2 c4 c5 made size tooG_11 kept sizes rows taken_12)) hD hS hA [0, 1, 2, 3, 4, 5] rfl
    refine va_callv (va_runV (As := [.int 4, .int p4]) (rest := []) ⟨hx, hb, hml, hown, hB⟩ (c_W_raise l D a0 a1 a2 a3 a4 a5 c1 c2 c4 c5 H.size made size tooG_11 kept sizes rows taken_12 4 p4 _) (cwV 2 hB (goodV wd_166 wd_167 wd_168 wd_2 wd_169) rfl rfl rfl (by decide +kernel) ⟨Nat.le_of_ble_eq_true rfl, Nat.le_of_ble_eq_true rfl⟩) ⟨pcX_blind, va_recv hK hP (ci := 0) (q0 := 3) rfl rfl, pcX_pre hP hK hD hS hX hF13 h⟩ rfl rfl hl.1 rfl (lv_room (Nat.le_of_ble_eq_true rfl)) d_G_putSlopePart_52 ⟨Nat.le_of_ble_eq_true rfl, Nat.le_of_ble_eq_true rfl⟩) hS (fun q _ h => hF13 q h) hF13 (fun u t H locs ht hvm h hB hz1 hk1 hS => ?_)
    obtain ⟨tooG_14, taken_15⟩ := u
    obtain ⟨hP1, hK1, hD1⟩ := hB
    rw [ht] at hP1
    have hP : va_P D vwCl (wG a0 a1 a2 a3 a4 a5 c1 c2 c4 c5 made size tooG_14 kept sizes rows taken_15) H := hP1
    have hD : va_D A (wG a0 a1 a2 a3 a4 a5 c1 c2 c4 c5 made size tooG_14 kept sizes rows taken_15) := hD1.weaken (fun _ _ _ hq => hF13 _ hq)
    refine lv_aload_n hx hb d_G_putSlopePart_55 rfl (lv_at hl 0 rfl) ?_
    refine va_get (D := D) (ci := 1) (v := .ref a3) (C := R_G) (T := F_G) (N := 4) hx hb hB inF_G hown hK hP 0 rfl rfl 2 (by decide) (hB _ wd_37) (fun _ h9 => h9) rfl d_G_putSlopePart_56 ?_
    have hF16 := va_free (wc := (wG a0 a1 a2 a3 a4 a5 c1 c2 c4 c5 made size tooG_14 kept sizes rows taken_15)) hD hS hA [0, 1, 2, 3, 4, 5] rfl
    refine va_callv (va_runV (As := []) (rest := []) ⟨hx, hb, hml, hown, hB⟩ (c_W_putTaken l D a0 a1 a2 a3 a4 a5 c1 c2 c4 c5 H.size made size tooG_14 kept sizes rows taken_15 _) (cwV 0 hB (goodV wd_120 wd_121 wd_122 wd_2 wd_123) rfl rfl rfl (by decide +kernel) ⟨Nat.le_of_ble_eq_true rfl, Nat.le_of_ble_eq_true rfl⟩) ⟨pcX_blind, va_recv hK hP (ci := 0) (q0 := 3) rfl rfl, pcX_pre hP hK hD hS hX hF16 h⟩ rfl rfl hl.1 rfl (lv_room (Nat.le_of_ble_eq_true rfl)) d_G_putSlopePart_59 ⟨Nat.le_of_ble_eq_true rfl, Nat.le_of_ble_eq_true rfl⟩) hS (fun q _ h => hF16 q h) hF16 (fun u t H locs ht hvm h hB hz1 hk1 hS => ?_)
    obtain ⟨size_17, tooG_18, rows_19⟩ := u
    obtain ⟨hP1, hK1, hD1⟩ := hB
    rw [ht] at hP1
    have hP : va_P D vwCl (wG a0 a1 a2 a3 a4 a5 c1 c2 c4 c5 made size_17 tooG_18 kept sizes rows_19 taken_15) H := hP1
    have hD : va_D A (wG a0 a1 a2 a3 a4 a5 c1 c2 c4 c5 made size_17 tooG_18 kept sizes rows_19 taken_15) := hD1.weaken (fun _ _ _ hq => hF16 _ hq)
    exact W.vret hx hb hr (fun t ht hW => ⟨⟨(size_17, tooG_18, rows_19, taken_15), rfl, h, by rw [ht]; exact hP, va_K.moved hW.alike hK, hD⟩, hS.F ht⟩) hS.2.2 d_G_putSlopePart_62
set_option maxHeartbeats 4000000 in
set_option maxRecDepth 100000 in
theorem c_G_hasLogarithm (l : Launch) (D : va_G) (a0 a1 a2 a3 a4 a5 : Nat) (c1 c2 c4 c5 : ClassId) (sz : Nat) (made : Int32) (size : Int32) (tooG : Int32) (kept : (Nat → Int32)) (sizes : (Nat → Int32)) (rows : (Nat → Int32)) (taken : (Nat → Int32)) (p0 : Int32) (post : Int32 → Prop) : Met l y_G_hasLogarithm (Cond.code y_G_hasLogarithm b_G_hasLogarithm 3 (some .boolean) :: BIG) ({ frames := 1, cells := 0, slots := 0, locals := 21 }) (va_Pc [.ref a0, .int p0] (pcX D vwCl (wG a0 a1 a2 a3 a4 a5 c1 c2 c4 c5 made size tooG kept sizes rows taken) [(c1, .int), (c2, .int), (c4, .int), (c5, .int)] sz (wp_G_hasLogarithm kept sizes p0 post))) (va_Qi (fun (r : Int32) (_ : Unit) => post r) (fun _ => atG D vwCl [(c1, .int), (c2, .int), (c4, .int), (c5, .int)] (va_A (wG a0 a1 a2 a3 a4 a5 c1 c2 c4 c5 made size tooG kept sizes rows taken) sz) (wG a0 a1 a2 a3 a4 a5 c1 c2 c4 c5 made size tooG kept sizes rows taken)) (va_A (wG a0 a1 a2 a3 a4 a5 c1 c2 c4 c5 made size tooG kept sizes rows taken) sz)) 0 0 (va_A (wG a0 a1 a2 a3 a4 a5 c1 c2 c4 c5 made size tooG kept sizes rows taken) sz) := by
  refine Met.ofW (cc := b_G_hasLogarithm) (maxL := 3) (ret := (some .boolean)) (by decide) rfl ?_
  intro p e s m args below meth c s₁ B hml hv
  obtain ⟨rfl, hsz, hP, hK, hD0, hX, h⟩ := hv
  have hx := B.exec
  have hb := B.bytes
  have hr := B.returns
  have hB : ∀ w ∈ BIG, w.before _ s = true := fun w h => atoms_spec (ws := (Cond.code y_G_hasLogarithm b_G_hasLogarithm 3 (some .boolean) :: BIG)) B.pre w (List.mem_cons_of_mem _ h)
  have hown : s.vm.findClass R_G = some m.cls := findClass_of_methodNamed B.named
  have hlocks := B.notSynchronized
  subst hsz
  have hD := hD0.self (sz := s.heap.size)
  generalize hAe : va_A (wG a0 a1 a2 a3 a4 a5 c1 c2 c4 c5 made size tooG kept sizes rows taken) s.heap.size = A at hD hX ⊢
  have hA : ∀ q : Nat, s.heap.size ≤ q → A q := fun q h => by rw [← hAe]; exact Or.inr h
  have hl := lv_entry ([.ref a0, .int p0]) (n := 3) (Nat.le_of_ble_eq_true rfl)
  rw [lg_entry_eq]
  generalize (lg_sl ([.ref a0, .int p0]) ++ List.replicate (3 - (lg_sl ([.ref a0, .int p0])).length) Slot.unset).toArray = ls at hl ⊢
  have hl : lv_has ls 3 [(0, .ref a0), (1, .int p0)] := hl
  refine W.cap (fun G Gi Ge => ?_)
  suffices hL : ∀ (H : Heap) (locs : List Loc), va_P D vwCl (wG a0 a1 a2 a3 a4 a5 c1 c2 c4 c5 made size tooG kept sizes rows taken) H → va_S A s.heap H locs → G H locs (F0 m 0 ls []) from hL _ _ hP va_S.rf
  clear hP
  intro H locs hP hS
  refine Gi _ _ _ ?_
  unfold wp_G_hasLogarithm at h
  refine lv_iload_n hx hb d_G_hasLogarithm_0 rfl (lv_at hl 1 rfl) ?_
  refine lv_iconst (v := 0) hx hb d_G_hasLogarithm_1 (by decide) ?_
  have hF1 := va_free (wc := (wG a0 a1 a2 a3 a4 a5 c1 c2 c4 c5 made size tooG kept sizes rows taken)) hD hS hA [0, 1, 2, 3, 4, 5] rfl
  refine va_calli (va_runS (As := [.int p0, .int 0]) (rest := []) ⟨hx, hb, hml, hown, hB⟩ (c_G_rowOf l D a0 a1 a2 a3 a4 a5 c1 c2 c4 c5 H.size made size tooG kept sizes rows taken p0 0 _) (cwS 2 hB (goodS wd_144 wd_145 wd_1 wd_146) rfl rfl rfl (by decide +kernel) ⟨Nat.le_of_ble_eq_true rfl, Nat.le_of_ble_eq_true rfl⟩) ⟨pcX_blind, pcX_pre hP hK hD hS hX hF1 h⟩ rfl rfl hl.1 rfl (lv_room (Nat.le_of_ble_eq_true rfl)) d_G_hasLogarithm_2 ⟨Nat.le_of_ble_eq_true rfl, Nat.le_of_ble_eq_true rfl⟩) hS (fun q _ h => hF1 q h) hF1 (fun r2 u t H locs ht hvm h hB hz1 hk1 hS => ?_)
  obtain ⟨hP1, hK1, hD1⟩ := hB
  rw [ht] at hP1
  have hP : va_P D vwCl (wG a0 a1 a2 a3 a4 a5 c1 c2 c4 c5 made size tooG kept sizes rows taken) H := hP1
  have hD : va_D A (wG a0 a1 a2 a3 a4 a5 c1 c2 c4 c5 made size tooG kept sizes rows taken) := hD1.weaken (fun _ _ _ hq => hF1 _ hq)
  refine lv_istore_n (lv' := [(2, .int r2), (0, .ref a0), (1, .int p0)]) hx hb d_G_hasLogarithm_5 rfl hl (by decide) rfl (fun ls hl => ?_)
  refine lv_aload_n hx hb d_G_hasLogarithm_6 rfl (lv_at hl 1 rfl) ?_
  refine va_get (D := D) (ci := 1) (v := .ref a2) (C := R_G) (T := F_G) (N := 4) hx hb hB inF_G hown hK hP 0 rfl rfl 1 (by decide) (hB _ wd_36) (fun _ h9 => h9) rfl d_G_hasLogarithm_7 ?_
  refine lv_iload_n hx hb d_G_hasLogarithm_10 rfl (lv_at hl 2 rfl) ?_
  obtain ⟨g3, h⟩ := h
  refine va_iald hx hb hK hP 2 1 rfl rfl g3 d_G_hasLogarithm_11 ?_
  refine lv_iconst (v := 1) hx hb d_G_hasLogarithm_12 (by decide) ?_
  refine lv_icmp_ne (tgt := 56) hx hb d_G_hasLogarithm_13 (by decide) (fun hc4 => ?_) (fun hc4 => ?_)
  · replace h := h.1 hc4
    refine lv_iconst (v := 0) hx hb d_G_hasLogarithm_56 (by decide) ?_
    exact W.zret (v := 0) hx hb hr (by first | rfl | decide) (fun t ht hW => ⟨⟨0, (), rfl, h, by rw [ht]; exact hP, va_K.moved hW.alike hK, hD⟩, hS.F ht⟩) hS.2.2 d_G_hasLogarithm_57
  · replace h := h.2 hc4
    refine lv_aload_n hx hb d_G_hasLogarithm_16 rfl (lv_at hl 1 rfl) ?_
    refine va_get (D := D) (ci := 1) (v := .ref a1) (C := R_G) (T := F_G) (N := 4) hx hb hB inF_G hown hK hP 0 rfl rfl 0 (by decide) (hB _ wd_35) (fun _ h9 => h9) rfl d_G_hasLogarithm_17 ?_
    refine lv_iload_n hx hb d_G_hasLogarithm_20 rfl (lv_at hl 0 rfl) ?_
    refine lv_iconst (v := 5) hx hb d_G_hasLogarithm_21 (by decide) ?_
    refine lv_iadd hx hb d_G_hasLogarithm_22 ?_
    obtain ⟨g5, h⟩ := h
    refine va_iald hx hb hK hP 1 0 rfl rfl g5 d_G_hasLogarithm_23 ?_
    refine lv_iconst (v := 1) hx hb d_G_hasLogarithm_24 (by decide) ?_
    refine lv_icmp_ne (tgt := 56) hx hb d_G_hasLogarithm_25 (by decide) (fun hc6 => ?_) (fun hc6 => ?_)
    · replace h := h.1 hc6
      refine lv_iconst (v := 0) hx hb d_G_hasLogarithm_56 (by decide) ?_
      exact W.zret (v := 0) hx hb hr (by first | rfl | decide) (fun t ht hW => ⟨⟨0, (), rfl, h, by rw [ht]; exact hP, va_K.moved hW.alike hK, hD⟩, hS.F ht⟩) hS.2.2 d_G_hasLogarithm_57
    · replace h := h.2 hc6
      refine lv_aload_n hx hb d_G_hasLogarithm_28 rfl (lv_at hl 1 rfl) ?_
      refine va_get (D := D) (ci := 1) (v := .ref a1) (C := R_G) (T := F_G) (N := 4) hx hb hB inF_G hown hK hP 0 rfl rfl 0 (by decide) (hB _ wd_35) (fun _ h9 => h9) rfl d_G_hasLogarithm_29 ?_
      refine lv_iload_n hx hb d_G_hasLogarithm_32 rfl (lv_at hl 0 rfl) ?_
      refine lv_bipush (v := 6) hx hb d_G_hasLogarithm_33 (by decide) ?_
      refine lv_iadd hx hb d_G_hasLogarithm_35 ?_
      obtain ⟨g7, h⟩ := h
      refine va_iald hx hb hK hP 1 0 rfl rfl g7 d_G_hasLogarithm_36 ?_
      refine lv_iconst (v := 1) hx hb d_G_hasLogarithm_37 (by decide) ?_
      refine lv_icmp_ne (tgt := 56) hx hb d_G_hasLogarithm_38 (by decide) (fun hc8 => ?_) (fun hc8 => ?_)
      · replace h := h.1 hc8
        refine lv_iconst (v := 0) hx hb d_G_hasLogarithm_56 (by decide) ?_
        exact W.zret (v := 0) hx hb hr (by first | rfl | decide) (fun t ht hW => ⟨⟨0, (), rfl, h, by rw [ht]; exact hP, va_K.moved hW.alike hK, hD⟩, hS.F ht⟩) hS.2.2 d_G_hasLogarithm_57
      · replace h := h.2 hc8
        refine lv_aload_n hx hb d_G_hasLogarithm_41 rfl (lv_at hl 1 rfl) ?_
        refine va_get (D := D) (ci := 1) (v := .ref a1) (C := R_G) (T := F_G) (N := 4) hx hb hB inF_G hown hK hP 0 rfl rfl 0 (by decide) (hB _ wd_35) (fun _ h9 => h9) rfl d_G_hasLogarithm_42 ?_
        refine lv_iload_n hx hb d_G_hasLogarithm_45 rfl (lv_at hl 0 rfl) ?_
        refine lv_iconst (v := 4) hx hb d_G_hasLogarithm_46 (by decide) ?_
        refine lv_iadd hx hb d_G_hasLogarithm_47 ?_
        obtain ⟨g9, h⟩ := h
        refine va_iald hx hb hK hP 1 0 rfl rfl g9 d_G_hasLogarithm_48 ?_
        refine lv_if_ne (tgt := 56) hx hb d_G_hasLogarithm_49 (by decide) (fun hc10 => ?_) (fun hc10 => ?_)
        · replace h := h.1 hc10
          refine lv_iconst (v := 0) hx hb d_G_hasLogarithm_56 (by decide) ?_
          exact W.zret (v := 0) hx hb hr (by first | rfl | decide) (fun t ht hW => ⟨⟨0, (), rfl, h, by rw [ht]; exact hP, va_K.moved hW.alike hK, hD⟩, hS.F ht⟩) hS.2.2 d_G_hasLogarithm_57
        · replace h := h.2 hc10
          refine lv_iconst (v := 1) hx hb d_G_hasLogarithm_52 (by decide) ?_
          refine lv_goto (tgt := 57) hx hb d_G_hasLogarithm_53 (by decide) ?_
          exact W.zret (v := 1) hx hb hr (by first | rfl | decide) (fun t ht hW => ⟨⟨1, (), rfl, h, by rw [ht]; exact hP, va_K.moved hW.alike hK, hD⟩, hS.F ht⟩) hS.2.2 d_G_hasLogarithm_57
set_option maxHeartbeats 4000000 in
set_option maxRecDepth 100000 in
theorem c_G_holds (l : Launch) (D : va_G) (a0 a1 a2 a3 a4 a5 : Nat) (c1 c2 c4 c5 : ClassId) (sz : Nat) (made : Int32) (size : Int32) (tooG : Int32) (kept : (Nat → Int32)) (sizes : (Nat → Int32)) (rows : (Nat → Int32)) (taken : (Nat → Int32)) (p0 : Int32) (p1 : Int32) (p2 : Int32) (p3 : Int32) (post : Int32 → Prop) : Met l y_G_holds (Cond.code y_G_holds b_G_holds 5 (some .boolean) :: BIG) ({ frames := 0, cells := 0, slots := 0, locals := 0 }) (va_Pc [.ref a0, .int p0, .int p1, .int p2, .int p3] (pcX D vwCl (wG a0 a1 a2 a3 a4 a5 c1 c2 c4 c5 made size tooG kept sizes rows taken) [(c1, .int), (c2, .int), (c4, .int), (c5, .int)] sz (wp_G_holds kept p0 p1 p2 p3 post))) (va_Qi (fun (r : Int32) (_ : Unit) => post r) (fun _ => atG D vwCl [(c1, .int), (c2, .int), (c4, .int), (c5, .int)] (va_A (wG a0 a1 a2 a3 a4 a5 c1 c2 c4 c5 made size tooG kept sizes rows taken) sz) (wG a0 a1 a2 a3 a4 a5 c1 c2 c4 c5 made size tooG kept sizes rows taken)) (va_A (wG a0 a1 a2 a3 a4 a5 c1 c2 c4 c5 made size tooG kept sizes rows taken) sz)) 0 0 (va_A (wG a0 a1 a2 a3 a4 a5 c1 c2 c4 c5 made size tooG kept sizes rows taken) sz) := by
  refine Met.ofW (cc := b_G_holds) (maxL := 5) (ret := (some .boolean)) (by decide) rfl ?_
  intro p e s m args below meth c s₁ B hml hv
  obtain ⟨rfl, hsz, hP, hK, hD0, hX, h⟩ := hv
  have hx := B.exec
  have hb := B.bytes
  have hr := B.returns
  have hB : ∀ w ∈ BIG, w.before _ s = true := fun w h => atoms_spec (ws := (Cond.code y_G_holds b_G_holds 5 (some .boolean) :: BIG)) B.pre w (List.mem_cons_of_mem _ h)
  have hown : s.vm.findClass R_G = some m.cls := findClass_of_methodNamed B.named
  have hlocks := B.notSynchronized
  subst hsz
  have hD := hD0.self (sz := s.heap.size)
  generalize hAe : va_A (wG a0 a1 a2 a3 a4 a5 c1 c2 c4 c5 made size tooG kept sizes rows taken) s.heap.size = A at hD hX ⊢
  have hA : ∀ q : Nat, s.heap.size ≤ q → A q := fun q h => by rw [← hAe]; exact Or.inr h
  have hl := lv_entry ([.ref a0, .int p0, .int p1, .int p2, .int p3]) (n := 5) (Nat.le_of_ble_eq_true rfl)
  rw [lg_entry_eq]
  generalize (lg_sl ([.ref a0, .int p0, .int p1, .int p2, .int p3]) ++ List.replicate (5 - (lg_sl ([.ref a0, .int p0, .int p1, .int p2, .int p3])).length) Slot.unset).toArray = ls at hl ⊢
  have hl : lv_has ls 5 [(0, .ref a0), (1, .int p0), (2, .int p1), (3, .int p2), (4, .int p3)] := hl
  refine W.cap (fun G Gi Ge => ?_)
  suffices hL : ∀ (H : Heap) (locs : List Loc), va_P D vwCl (wG a0 a1 a2 a3 a4 a5 c1 c2 c4 c5 made size tooG kept sizes rows taken) H → va_S A s.heap H locs → G H locs (F0 m 0 ls []) from hL _ _ hP va_S.rf
  clear hP
  intro H locs hP hS
  refine Gi _ _ _ ?_
  unfold wp_G_holds at h
  refine lv_aload_n hx hb d_G_holds_0 rfl (lv_at hl 0 rfl) ?_
  refine va_get (D := D) (ci := 1) (v := .ref a1) (C := R_G) (T := F_G) (N := 4) hx hb hB inF_G hown hK hP 0 rfl rfl 0 (by decide) (hB _ wd_35) (fun _ h9 => h9) rfl d_G_holds_1 ?_
  refine lv_iload_n hx hb d_G_holds_4 rfl (lv_at hl 1 rfl) ?_
  refine lv_iconst (v := 0) hx hb d_G_holds_5 (by decide) ?_
  refine lv_iadd hx hb d_G_holds_6 ?_
  obtain ⟨g1, h⟩ := h
  refine va_iald hx hb hK hP 1 0 rfl rfl g1 d_G_holds_7 ?_
  refine lv_if_ne (tgt := 63) hx hb d_G_holds_8 (by decide) (fun hc2 => ?_) (fun hc2 => ?_)
  · replace h := h.1 hc2
    refine lv_iconst (v := 0) hx hb d_G_holds_63 (by decide) ?_
    exact W.zret (v := 0) hx hb hr (by first | rfl | decide) (fun t ht hW => ⟨⟨0, (), rfl, h, by rw [ht]; exact hP, va_K.moved hW.alike hK, hD⟩, hS.F ht⟩) hS.2.2 d_G_holds_64
  · replace h := h.2 hc2
    refine lv_aload_n hx hb d_G_holds_11 rfl (lv_at hl 0 rfl) ?_
    refine va_get (D := D) (ci := 1) (v := .ref a1) (C := R_G) (T := F_G) (N := 4) hx hb hB inF_G hown hK hP 0 rfl rfl 0 (by decide) (hB _ wd_35) (fun _ h9 => h9) rfl d_G_holds_12 ?_
    refine lv_iload_n hx hb d_G_holds_15 rfl (lv_at hl 1 rfl) ?_
    refine lv_iconst (v := 1) hx hb d_G_holds_16 (by decide) ?_
    refine lv_iadd hx hb d_G_holds_17 ?_
    obtain ⟨g3, h⟩ := h
    refine va_iald hx hb hK hP 1 0 rfl rfl g3 d_G_holds_18 ?_
    refine lv_if_ne (tgt := 63) hx hb d_G_holds_19 (by decide) (fun hc4 => ?_) (fun hc4 => ?_)
    · replace h := h.1 hc4
      refine lv_iconst (v := 0) hx hb d_G_holds_63 (by decide) ?_
      exact W.zret (v := 0) hx hb hr (by first | rfl | decide) (fun t ht hW => ⟨⟨0, (), rfl, h, by rw [ht]; exact hP, va_K.moved hW.alike hK, hD⟩, hS.F ht⟩) hS.2.2 d_G_holds_64
    · replace h := h.2 hc4
      refine lv_aload_n hx hb d_G_holds_22 rfl (lv_at hl 0 rfl) ?_
      refine va_get (D := D) (ci := 1) (v := .ref a1) (C := R_G) (T := F_G) (N := 4) hx hb hB inF_G hown hK hP 0 rfl rfl 0 (by decide) (hB _ wd_35) (fun _ h9 => h9) rfl d_G_holds_23 ?_
      refine lv_iload_n hx hb d_G_holds_26 rfl (lv_at hl 1 rfl) ?_
      refine lv_iconst (v := 2) hx hb d_G_holds_27 (by decide) ?_
      refine lv_iadd hx hb d_G_holds_28 ?_
      obtain ⟨g5, h⟩ := h
      refine va_iald hx hb hK hP 1 0 rfl rfl g5 d_G_holds_29 ?_
      refine lv_iload_n hx hb d_G_holds_30 rfl (lv_at hl 2 rfl) ?_
      refine lv_icmp_ne (tgt := 63) hx hb d_G_holds_31 (by decide) (fun hc6 => ?_) (fun hc6 => ?_)
      · replace h := h.1 hc6
        refine lv_iconst (v := 0) hx hb d_G_holds_63 (by decide) ?_
        exact W.zret (v := 0) hx hb hr (by first | rfl | decide) (fun t ht hW => ⟨⟨0, (), rfl, h, by rw [ht]; exact hP, va_K.moved hW.alike hK, hD⟩, hS.F ht⟩) hS.2.2 d_G_holds_64
      · replace h := h.2 hc6
        refine lv_aload_n hx hb d_G_holds_34 rfl (lv_at hl 0 rfl) ?_
        refine va_get (D := D) (ci := 1) (v := .ref a1) (C := R_G) (T := F_G) (N := 4) hx hb hB inF_G hown hK hP 0 rfl rfl 0 (by decide) (hB _ wd_35) (fun _ h9 => h9) rfl d_G_holds_35 ?_
        refine lv_iload_n hx hb d_G_holds_38 rfl (lv_at hl 1 rfl) ?_
        refine lv_iconst (v := 3) hx hb d_G_holds_39 (by decide) ?_
        refine lv_iadd hx hb d_G_holds_40 ?_
        obtain ⟨g7, h⟩ := h
        refine va_iald hx hb hK hP 1 0 rfl rfl g7 d_G_holds_41 ?_
        refine lv_iload_n hx hb d_G_holds_42 rfl (lv_at hl 3 rfl) ?_
        refine lv_icmp_ne (tgt := 63) hx hb d_G_holds_43 (by decide) (fun hc8 => ?_) (fun hc8 => ?_)
        · replace h := h.1 hc8
          refine lv_iconst (v := 0) hx hb d_G_holds_63 (by decide) ?_
          exact W.zret (v := 0) hx hb hr (by first | rfl | decide) (fun t ht hW => ⟨⟨0, (), rfl, h, by rw [ht]; exact hP, va_K.moved hW.alike hK, hD⟩, hS.F ht⟩) hS.2.2 d_G_holds_64
        · replace h := h.2 hc8
          refine lv_aload_n hx hb d_G_holds_46 rfl (lv_at hl 0 rfl) ?_
          refine va_get (D := D) (ci := 1) (v := .ref a1) (C := R_G) (T := F_G) (N := 4) hx hb hB inF_G hown hK hP 0 rfl rfl 0 (by decide) (hB _ wd_35) (fun _ h9 => h9) rfl d_G_holds_47 ?_
          refine lv_iload_n hx hb d_G_holds_50 rfl (lv_at hl 1 rfl) ?_
          refine lv_iconst (v := 4) hx hb d_G_holds_51 (by decide) ?_
          refine lv_iadd hx hb d_G_holds_52 ?_
          obtain ⟨g9, h⟩ := h
          refine va_iald hx hb hK hP 1 0 rfl rfl g9 d_G_holds_53 ?_
          refine lv_iload hx hb d_G_holds_54 (lv_at hl 4 rfl) ?_
          refine lv_icmp_ne (tgt := 63) hx hb d_G_holds_56 (by decide) (fun hc10 => ?_) (fun hc10 => ?_)
          · replace h := h.1 hc10
            refine lv_iconst (v := 0) hx hb d_G_holds_63 (by decide) ?_
            exact W.zret (v := 0) hx hb hr (by first | rfl | decide) (fun t ht hW => ⟨⟨0, (), rfl, h, by rw [ht]; exact hP, va_K.moved hW.alike hK, hD⟩, hS.F ht⟩) hS.2.2 d_G_holds_64
          · replace h := h.2 hc10
            refine lv_iconst (v := 1) hx hb d_G_holds_59 (by decide) ?_
            refine lv_goto (tgt := 64) hx hb d_G_holds_60 (by decide) ?_
            exact W.zret (v := 1) hx hb hr (by first | rfl | decide) (fun t ht hW => ⟨⟨1, (), rfl, h, by rw [ht]; exact hP, va_K.moved hW.alike hK, hD⟩, hS.F ht⟩) hS.2.2 d_G_holds_64
set_option maxHeartbeats 4000000 in
set_option maxRecDepth 100000 in
theorem c_G_cellOfExponential (l : Launch) (D : va_G) (a0 a1 a2 a3 a4 a5 : Nat) (c1 c2 c4 c5 : ClassId) (sz : Nat) (made : Int32) (size : Int32) (tooG : Int32) (kept : (Nat → Int32)) (sizes : (Nat → Int32)) (rows : (Nat → Int32)) (taken : (Nat → Int32)) (p0 : Int32) (post : Int32 → Prop) : Met l y_G_cellOfExponential (Cond.code y_G_cellOfExponential b_G_cellOfExponential 3 (some .int) :: BIG) ({ frames := 1, cells := 0, slots := 0, locals := 24 }) (va_Pc [.ref a0, .int p0] (pcX D vwCl (wG a0 a1 a2 a3 a4 a5 c1 c2 c4 c5 made size tooG kept sizes rows taken) [(c1, .int), (c2, .int), (c4, .int), (c5, .int)] sz (wp_G_cellOfExponential kept p0 post))) (va_Qi (fun (r : Int32) (_ : Unit) => post r) (fun _ => atG D vwCl [(c1, .int), (c2, .int), (c4, .int), (c5, .int)] (va_A (wG a0 a1 a2 a3 a4 a5 c1 c2 c4 c5 made size tooG kept sizes rows taken) sz) (wG a0 a1 a2 a3 a4 a5 c1 c2 c4 c5 made size tooG kept sizes rows taken)) (va_A (wG a0 a1 a2 a3 a4 a5 c1 c2 c4 c5 made size tooG kept sizes rows taken) sz)) 0 0 (va_A (wG a0 a1 a2 a3 a4 a5 c1 c2 c4 c5 made size tooG kept sizes rows taken) sz) := by
  refine Met.ofW (cc := b_G_cellOfExponential) (maxL := 3) (ret := (some .int)) (by decide) rfl ?_
  intro p e s m args below meth c s₁ B hml hv
  obtain ⟨rfl, hsz, hP, hK, hD0, hX, h⟩ := hv
  have hx := B.exec
  have hb := B.bytes
  have hr := B.returns
  have hB : ∀ w ∈ BIG, w.before _ s = true := fun w h => atoms_spec (ws := (Cond.code y_G_cellOfExponential b_G_cellOfExponential 3 (some .int) :: BIG)) B.pre w (List.mem_cons_of_mem _ h)
  have hown : s.vm.findClass R_G = some m.cls := findClass_of_methodNamed B.named
  have hlocks := B.notSynchronized
  subst hsz
  have hD := hD0.self (sz := s.heap.size)
  generalize hAe : va_A (wG a0 a1 a2 a3 a4 a5 c1 c2 c4 c5 made size tooG kept sizes rows taken) s.heap.size = A at hD hX ⊢
  have hA : ∀ q : Nat, s.heap.size ≤ q → A q := fun q h => by rw [← hAe]; exact Or.inr h
  have hl := lv_entry ([.ref a0, .int p0]) (n := 3) (Nat.le_of_ble_eq_true rfl)
  rw [lg_entry_eq]
  generalize (lg_sl ([.ref a0, .int p0]) ++ List.replicate (3 - (lg_sl ([.ref a0, .int p0])).length) Slot.unset).toArray = ls at hl ⊢
  have hl : lv_has ls 3 [(0, .ref a0), (1, .int p0)] := hl
  refine W.cap (fun G Gi Ge => ?_)
  suffices hL : ∀ (H : Heap) (locs : List Loc), va_P D vwCl (wG a0 a1 a2 a3 a4 a5 c1 c2 c4 c5 made size tooG kept sizes rows taken) H → va_S A s.heap H locs → G H locs (F0 m 0 ls []) from hL _ _ hP va_S.rf
  clear hP
  intro H locs hP hS
  refine Gi _ _ _ ?_
  unfold wp_G_cellOfExponential at h
  refine lv_aload_n hx hb d_G_cellOfExponential_0 rfl (lv_at hl 0 rfl) ?_
  refine va_get (D := D) (ci := 1) (v := .ref a1) (C := R_G) (T := F_G) (N := 4) hx hb hB inF_G hown hK hP 0 rfl rfl 0 (by decide) (hB _ wd_35) (fun _ h9 => h9) rfl d_G_cellOfExponential_1 ?_
  refine lv_iload_n hx hb d_G_cellOfExponential_4 rfl (lv_at hl 1 rfl) ?_
  refine lv_iconst (v := 5) hx hb d_G_cellOfExponential_5 (by decide) ?_
  refine lv_iadd hx hb d_G_cellOfExponential_6 ?_
  obtain ⟨g1, h⟩ := h
  refine va_iald hx hb hK hP 1 0 rfl rfl g1 d_G_cellOfExponential_7 ?_
  refine lv_topi (fun x2 ex2 => ?_)
  replace h := h x2 ex2
  refine lv_istore_n (lv' := [(2, .int x2), (0, .ref a0), (1, .int p0)]) hx hb d_G_cellOfExponential_8 rfl hl (by decide) rfl (fun ls hl => ?_)
  refine lv_aload_n hx hb d_G_cellOfExponential_9 rfl (lv_at hl 1 rfl) ?_
  refine va_get (D := D) (ci := 1) (v := .ref a1) (C := R_G) (T := F_G) (N := 4) hx hb hB inF_G hown hK hP 0 rfl rfl 0 (by decide) (hB _ wd_35) (fun _ h9 => h9) rfl d_G_cellOfExponential_10 ?_
  refine lv_iload_n hx hb d_G_cellOfExponential_13 rfl (lv_at hl 2 rfl) ?_
  refine lv_bipush (v := 6) hx hb d_G_cellOfExponential_14 (by decide) ?_
  refine lv_iadd hx hb d_G_cellOfExponential_16 ?_
  obtain ⟨g3, h⟩ := h
  refine va_iald hx hb hK hP 1 0 rfl rfl g3 d_G_cellOfExponential_17 ?_
  refine lv_iconst (v := 1) hx hb d_G_cellOfExponential_18 (by decide) ?_
  refine lv_icmp_ne (tgt := 34) hx hb d_G_cellOfExponential_19 (by decide) (fun hc4 => ?_) (fun hc4 => ?_)
  · replace h := h.1 hc4
    refine lv_iconst (v := (-1)) hx hb d_G_cellOfExponential_34 (by decide) ?_
    exact W.iret (v := (-1)) hx hb hr (fun t ht hW => ⟨⟨(-1), (), rfl, h, by rw [ht]; exact hP, va_K.moved hW.alike hK, hD⟩, hS.F ht⟩) hS.2.2 d_G_cellOfExponential_35
  · replace h := h.2 hc4
    refine lv_iload_n hx hb d_G_cellOfExponential_22 rfl (lv_at hl 0 rfl) ?_
    refine lv_bipush (v := (-99)) hx hb d_G_cellOfExponential_23 (by decide) ?_
    refine lv_icmp_lt (tgt := 34) hx hb d_G_cellOfExponential_25 (by decide) (fun hc5 => ?_) (fun hc5 => ?_)
    · replace h := h.1 hc5
      refine lv_iconst (v := (-1)) hx hb d_G_cellOfExponential_34 (by decide) ?_
      exact W.iret (v := (-1)) hx hb hr (fun t ht hW => ⟨⟨(-1), (), rfl, h, by rw [ht]; exact hP, va_K.moved hW.alike hK, hD⟩, hS.F ht⟩) hS.2.2 d_G_cellOfExponential_35
    · replace h := h.2 hc5
      refine lv_iload_n hx hb d_G_cellOfExponential_28 rfl (lv_at hl 0 rfl) ?_
      refine lv_bipush (v := 99) hx hb d_G_cellOfExponential_29 (by decide) ?_
      refine lv_icmp_le (tgt := 36) hx hb d_G_cellOfExponential_31 (by decide) (fun hc6 => ?_) (fun hc6 => ?_)
      · replace h := h.1 hc6
        refine lv_aload_n hx hb d_G_cellOfExponential_36 rfl (lv_at hl 1 rfl) ?_
        refine lv_iload_n hx hb d_G_cellOfExponential_37 rfl (lv_at hl 2 rfl) ?_
        refine lv_iconst (v := 2) hx hb d_G_cellOfExponential_38 (by decide) ?_
        refine lv_iconst (v := 0) hx hb d_G_cellOfExponential_39 (by decide) ?_
        refine lv_iconst (v := 0) hx hb d_G_cellOfExponential_40 (by decide) ?_
        have hF7 := va_free (wc := (wG a0 a1 a2 a3 a4 a5 c1 c2 c4 c5 made size tooG kept sizes rows taken)) hD hS hA [0, 1, 2, 3, 4, 5] rfl
        refine va_calli (va_runV (As := [.int p0, .int 2, .int 0, .int 0]) (rest := []) ⟨hx, hb, hml, hown, hB⟩ (c_G_holds l D a0 a1 a2 a3 a4 a5 c1 c2 c4 c5 H.size made size tooG kept sizes rows taken p0 2 0 0 _) (cwV 4 hB (goodV wd_249 wd_250 wd_502 wd_1 wd_251) rfl rfl rfl (by decide +kernel) ⟨Nat.le_of_ble_eq_true rfl, Nat.le_of_ble_eq_true rfl⟩) ⟨pcX_blind, va_recv hK hP (ci := 1) (q0 := 0) rfl rfl, pcX_pre hP hK hD hS hX hF7 h⟩ rfl rfl hl.1 rfl (lv_room (Nat.le_of_ble_eq_true rfl)) d_G_cellOfExponential_41 ⟨Nat.le_of_ble_eq_true rfl, Nat.le_of_ble_eq_true rfl⟩) hS (fun q _ h => hF7 q h) hF7 (fun r8 u t H locs ht hvm h hB hz1 hk1 hS => ?_)
        obtain ⟨hP1, hK1, hD1⟩ := hB
        rw [ht] at hP1
        have hP : va_P D vwCl (wG a0 a1 a2 a3 a4 a5 c1 c2 c4 c5 made size tooG kept sizes rows taken) H := hP1
        have hD : va_D A (wG a0 a1 a2 a3 a4 a5 c1 c2 c4 c5 made size tooG kept sizes rows taken) := hD1.weaken (fun _ _ _ hq => hF7 _ hq)
        refine lv_if_eq (tgt := 49) hx hb d_G_cellOfExponential_44 (by decide) (fun hc9 => ?_) (fun hc9 => ?_)
        · replace h := h.1 hc9
          refine lv_aload_n hx hb d_G_cellOfExponential_49 rfl (lv_at hl 1 rfl) ?_
          refine lv_iload_n hx hb d_G_cellOfExponential_50 rfl (lv_at hl 2 rfl) ?_
          refine lv_iconst (v := 1) hx hb d_G_cellOfExponential_51 (by decide) ?_
          refine lv_iconst (v := 0) hx hb d_G_cellOfExponential_52 (by decide) ?_
          refine lv_iconst (v := 0) hx hb d_G_cellOfExponential_53 (by decide) ?_
          have hF10 := va_free (wc := (wG a0 a1 a2 a3 a4 a5 c1 c2 c4 c5 made size tooG kept sizes rows taken)) hD hS hA [0, 1, 2, 3, 4, 5] rfl
          refine va_calli (va_runV (As := [.int p0, .int 1, .int 0, .int 0]) (rest := []) ⟨hx, hb, hml, hown, hB⟩ (c_G_holds l D a0 a1 a2 a3 a4 a5 c1 c2 c4 c5 H.size made size tooG kept sizes rows taken p0 1 0 0 _) (cwV 4 hB (goodV wd_249 wd_250 wd_502 wd_1 wd_251) rfl rfl rfl (by decide +kernel) ⟨Nat.le_of_ble_eq_true rfl, Nat.le_of_ble_eq_true rfl⟩) ⟨pcX_blind, va_recv hK hP (ci := 1) (q0 := 0) rfl rfl, pcX_pre hP hK hD hS hX hF10 h⟩ rfl rfl hl.1 rfl (lv_room (Nat.le_of_ble_eq_true rfl)) d_G_cellOfExponential_54 ⟨Nat.le_of_ble_eq_true rfl, Nat.le_of_ble_eq_true rfl⟩) hS (fun q _ h => hF10 q h) hF10 (fun r11 u t H locs ht hvm h hB hz1 hk1 hS => ?_)
          obtain ⟨hP1, hK1, hD1⟩ := hB
          rw [ht] at hP1
          have hP : va_P D vwCl (wG a0 a1 a2 a3 a4 a5 c1 c2 c4 c5 made size tooG kept sizes rows taken) H := hP1
          have hD : va_D A (wG a0 a1 a2 a3 a4 a5 c1 c2 c4 c5 made size tooG kept sizes rows taken) := hD1.weaken (fun _ _ _ hq => hF10 _ hq)
          refine lv_if_eq (tgt := 62) hx hb d_G_cellOfExponential_57 (by decide) (fun hc12 => ?_) (fun hc12 => ?_)
          · replace h := h.1 hc12
            refine lv_aload_n hx hb d_G_cellOfExponential_62 rfl (lv_at hl 1 rfl) ?_
            refine lv_iload_n hx hb d_G_cellOfExponential_63 rfl (lv_at hl 2 rfl) ?_
            refine lv_iconst (v := 0) hx hb d_G_cellOfExponential_64 (by decide) ?_
            refine lv_iconst (v := 1) hx hb d_G_cellOfExponential_65 (by decide) ?_
            refine lv_iconst (v := 0) hx hb d_G_cellOfExponential_66 (by decide) ?_
            have hF13 := va_free (wc := (wG a0 a1 a2 a3 a4 a5 c1 c2 c4 c5 made size tooG kept sizes rows taken)) hD hS hA [0, 1, 2, 3, 4, 5] rfl
            refine va_calli (va_runV (As := [.int p0, .int 0, .int 1, .int 0]) (rest := []) ⟨hx, hb, hml, hown, hB⟩ (c_G_holds l D a0 a1 a2 a3 a4 a5 c1 c2 c4 c5 H.size made size tooG kept sizes rows taken p0 0 1 0 _) (cwV 4 hB (goodV wd_249 wd_250 wd_502 wd_1 wd_251) rfl rfl rfl (by decide +kernel) ⟨Nat.le_of_ble_eq_true rfl, Nat.le_of_ble_eq_true rfl⟩) ⟨pcX_blind, va_recv hK hP (ci := 1) (q0 := 0) rfl rfl, pcX_pre hP hK hD hS hX hF13 h⟩ rfl rfl hl.1 rfl (lv_room (Nat.le_of_ble_eq_true rfl)) d_G_cellOfExponential_67 ⟨Nat.le_of_ble_eq_true rfl, Nat.le_of_ble_eq_true rfl⟩) hS (fun q _ h => hF13 q h) hF13 (fun r14 u t H locs ht hvm h hB hz1 hk1 hS => ?_)
            obtain ⟨hP1, hK1, hD1⟩ := hB
            rw [ht] at hP1
            have hP : va_P D vwCl (wG a0 a1 a2 a3 a4 a5 c1 c2 c4 c5 made size tooG kept sizes rows taken) H := hP1
            have hD : va_D A (wG a0 a1 a2 a3 a4 a5 c1 c2 c4 c5 made size tooG kept sizes rows taken) := hD1.weaken (fun _ _ _ hq => hF13 _ hq)
            refine lv_if_eq (tgt := 75) hx hb d_G_cellOfExponential_70 (by decide) (fun hc15 => ?_) (fun hc15 => ?_)
            · replace h := h.1 hc15
              refine lv_aload_n hx hb d_G_cellOfExponential_75 rfl (lv_at hl 1 rfl) ?_
              refine lv_iload_n hx hb d_G_cellOfExponential_76 rfl (lv_at hl 2 rfl) ?_
              refine lv_iconst (v := 0) hx hb d_G_cellOfExponential_77 (by decide) ?_
              refine lv_iconst (v := 0) hx hb d_G_cellOfExponential_78 (by decide) ?_
              refine lv_iconst (v := 1) hx hb d_G_cellOfExponential_79 (by decide) ?_
              have hF16 := va_free (wc := (wG a0 a1 a2 a3 a4 a5 c1 c2 c4 c5 made size tooG kept sizes rows taken)) hD hS hA [0, 1, 2, 3, 4, 5] rfl
              refine va_calli (va_runV (As := [.int p0, .int 0, .int 0, .int 1]) (rest := []) ⟨hx, hb, hml, hown, hB⟩ (c_G_holds l D a0 a1 a2 a3 a4 a5 c1 c2 c4 c5 H.size made size tooG kept sizes rows taken p0 0 0 1 _) (cwV 4 hB (goodV wd_249 wd_250 wd_502 wd_1 wd_251) rfl rfl rfl (by decide +kernel) ⟨Nat.le_of_ble_eq_true rfl, Nat.le_of_ble_eq_true rfl⟩) ⟨pcX_blind, va_recv hK hP (ci := 1) (q0 := 0) rfl rfl, pcX_pre hP hK hD hS hX hF16 h⟩ rfl rfl hl.1 rfl (lv_room (Nat.le_of_ble_eq_true rfl)) d_G_cellOfExponential_80 ⟨Nat.le_of_ble_eq_true rfl, Nat.le_of_ble_eq_true rfl⟩) hS (fun q _ h => hF16 q h) hF16 (fun r17 u t H locs ht hvm h hB hz1 hk1 hS => ?_)
              obtain ⟨hP1, hK1, hD1⟩ := hB
              rw [ht] at hP1
              have hP : va_P D vwCl (wG a0 a1 a2 a3 a4 a5 c1 c2 c4 c5 made size tooG kept sizes rows taken) H := hP1
              have hD : va_D A (wG a0 a1 a2 a3 a4 a5 c1 c2 c4 c5 made size tooG kept sizes rows taken) := hD1.weaken (fun _ _ _ hq => hF16 _ hq)
              refine lv_if_eq (tgt := 90) hx hb d_G_cellOfExponential_83 (by decide) (fun hc18 => ?_) (fun hc18 => ?_)
              · replace h := h.1 hc18
                refine lv_iconst (v := (-1)) hx hb d_G_cellOfExponential_90 (by decide) ?_
                exact W.iret (v := (-1)) hx hb hr (fun t ht hW => ⟨⟨(-1), (), rfl, h, by rw [ht]; exact hP, va_K.moved hW.alike hK, hD⟩, hS.F ht⟩) hS.2.2 d_G_cellOfExponential_91
              · replace h := h.2 hc18
                refine lv_iconst (v := 3) hx hb d_G_cellOfExponential_86 (by decide) ?_
                refine lv_goto (tgt := 91) hx hb d_G_cellOfExponential_87 (by decide) ?_
                exact W.iret (v := 3) hx hb hr (fun t ht hW => ⟨⟨3, (), rfl, h, by rw [ht]; exact hP, va_K.moved hW.alike hK, hD⟩, hS.F ht⟩) hS.2.2 d_G_cellOfExponential_91
            · replace h := h.2 hc15
              refine lv_iconst (v := 2) hx hb d_G_cellOfExponential_73 (by decide) ?_
              exact W.iret (v := 2) hx hb hr (fun t ht hW => ⟨⟨2, (), rfl, h, by rw [ht]; exact hP, va_K.moved hW.alike hK, hD⟩, hS.F ht⟩) hS.2.2 d_G_cellOfExponential_74
          · replace h := h.2 hc12
            refine lv_iconst (v := 1) hx hb d_G_cellOfExponential_60 (by decide) ?_
            exact W.iret (v := 1) hx hb hr (fun t ht hW => ⟨⟨1, (), rfl, h, by rw [ht]; exact hP, va_K.moved hW.alike hK, hD⟩, hS.F ht⟩) hS.2.2 d_G_cellOfExponential_61
        · replace h := h.2 hc9
          refine lv_iconst (v := 0) hx hb d_G_cellOfExponential_47 (by decide) ?_
          exact W.iret (v := 0) hx hb hr (fun t ht hW => ⟨⟨0, (), rfl, h, by rw [ht]; exact hP, va_K.moved hW.alike hK, hD⟩, hS.F ht⟩) hS.2.2 d_G_cellOfExponential_48
      · replace h := h.2 hc6
        refine lv_iconst (v := (-1)) hx hb d_G_cellOfExponential_34 (by decide) ?_
        exact W.iret (v := (-1)) hx hb hr (fun t ht hW => ⟨⟨(-1), (), rfl, h, by rw [ht]; exact hP, va_K.moved hW.alike hK, hD⟩, hS.F ht⟩) hS.2.2 d_G_cellOfExponential_35
set_option maxHeartbeats 4000000 in
set_option maxRecDepth 100000 in
theorem c_G_trendOf (l : Launch) (D : va_G) (a0 a1 a2 a3 a4 a5 : Nat) (c1 c2 c4 c5 : ClassId) (sz : Nat) (made : Int32) (size : Int32) (tooG : Int32) (kept : (Nat → Int32)) (sizes : (Nat → Int32)) (rows : (Nat → Int32)) (taken : (Nat → Int32)) (p0 : Int32) (post : Int32 → Prop) : Met l y_G_trendOf (Cond.code y_G_trendOf b_G_trendOf 3 (some .int) :: BIG) ({ frames := 0, cells := 0, slots := 0, locals := 0 }) (va_Pc [.ref a0, .int p0] (pcX D vwCl (wG a0 a1 a2 a3 a4 a5 c1 c2 c4 c5 made size tooG kept sizes rows taken) [(c1, .int), (c2, .int), (c4, .int), (c5, .int)] sz (wp_G_trendOf kept p0 post))) (va_Qi (fun (r : Int32) (_ : Unit) => post r) (fun _ => atG D vwCl [(c1, .int), (c2, .int), (c4, .int), (c5, .int)] (va_A (wG a0 a1 a2 a3 a4 a5 c1 c2 c4 c5 made size tooG kept sizes rows taken) sz) (wG a0 a1 a2 a3 a4 a5 c1 c2 c4 c5 made size tooG kept sizes rows taken)) (va_A (wG a0 a1 a2 a3 a4 a5 c1 c2 c4 c5 made size tooG kept sizes rows taken) sz)) 0 0 (va_A (wG a0 a1 a2 a3 a4 a5 c1 c2 c4 c5 made size tooG kept sizes rows taken) sz) := by
  refine Met.ofW (cc := b_G_trendOf) (maxL := 3) (ret := (some .int)) (by decide) rfl ?_
  intro p e s m args below meth c s₁ B hml hv
  obtain ⟨rfl, hsz, hP, hK, hD0, hX, h⟩ := hv
  have hx := B.exec
  have hb := B.bytes
  have hr := B.returns
  have hB : ∀ w ∈ BIG, w.before _ s = true := fun w h => atoms_spec (ws := (Cond.code y_G_trendOf b_G_trendOf 3 (some .int) :: BIG)) B.pre w (List.mem_cons_of_mem _ h)
  have hown : s.vm.findClass R_G = some m.cls := findClass_of_methodNamed B.named
  have hlocks := B.notSynchronized
  subst hsz
  have hD := hD0.self (sz := s.heap.size)
  generalize hAe : va_A (wG a0 a1 a2 a3 a4 a5 c1 c2 c4 c5 made size tooG kept sizes rows taken) s.heap.size = A at hD hX ⊢
  have hA : ∀ q : Nat, s.heap.size ≤ q → A q := fun q h => by rw [← hAe]; exact Or.inr h
  have hl := lv_entry ([.ref a0, .int p0]) (n := 3) (Nat.le_of_ble_eq_true rfl)
  rw [lg_entry_eq]
  generalize (lg_sl ([.ref a0, .int p0]) ++ List.replicate (3 - (lg_sl ([.ref a0, .int p0])).length) Slot.unset).toArray = ls at hl ⊢
  have hl : lv_has ls 3 [(0, .ref a0), (1, .int p0)] := hl
  refine W.cap (fun G Gi Ge => ?_)
  suffices hL : ∀ (H : Heap) (locs : List Loc), va_P D vwCl (wG a0 a1 a2 a3 a4 a5 c1 c2 c4 c5 made size tooG kept sizes rows taken) H → va_S A s.heap H locs → G H locs (F0 m 0 ls []) from hL _ _ hP va_S.rf
  clear hP
  intro H locs hP hS
  refine Gi _ _ _ ?_
  unfold wp_G_trendOf at h
  refine lv_iconst (v := 0) hx hb d_G_trendOf_0 (by decide) ?_
  refine lv_istore_n (lv' := [(2, .int 0), (0, .ref a0), (1, .int p0)]) hx hb d_G_trendOf_1 rfl hl (by decide) rfl (fun ls hl => ?_)
  obtain ⟨n2, h⟩ := h
  refine W.cap (fun G2 Gi2 Ge2 => ?_)
  suffices hL2 : ∀ (n2 : Nat) (v2_1 : Int32) (H : Heap) (locs : List Loc) (ls : Array Slot), va_P D vwCl (wG a0 a1 a2 a3 a4 a5 c1 c2 c4 c5 made size tooG kept sizes rows taken) H → va_D A (wG a0 a1 a2 a3 a4 a5 c1 c2 c4 c5 made size tooG kept sizes rows taken) → va_S A s.heap H locs → lv_has ls 3 [(2, .int v2_1), (0, .ref a0), (1, .int p0)] → lpW1 (wb_G_trendOf_2 post p0 kept) n2 v2_1 → G2 H locs (F0 m 2 ls []) from hL2 n2 (0 : Int32) _ _ _ hP hD hS hl h
  clear h hP hD hS hl
  intro n2
  induction n2 with
  | zero => intro v2_1 H locs ls hP hD hS hl h; exact (show False from h).elim
  | succ n2 ihL2 =>
    intro v2_1 H locs ls hP hD hS hl h
    replace h : (wb_G_trendOf_2 post p0 kept) (lpW1 (wb_G_trendOf_2 post p0 kept) n2) v2_1 := h
    refine Gi2 _ _ _ ?_
    refine lv_iload_n hx hb d_G_trendOf_2 rfl (lv_at hl 0 rfl) ?_
    refine lv_iconst (v := 5) hx hb d_G_trendOf_3 (by decide) ?_
    refine lv_icmp_ge (tgt := 41) hx hb d_G_trendOf_4 (by decide) (fun hc2 => ?_) (fun hc2 => ?_)
    · replace h := h.1 hc2
      refine lv_iconst (v := 0) hx hb d_G_trendOf_41 (by decide) ?_
      exact W.iret (v := 0) hx hb hr (fun t ht hW => ⟨⟨0, (), rfl, h, by rw [ht]; exact hP, va_K.moved hW.alike hK, hD⟩, hS.F ht⟩) hS.2.2 d_G_trendOf_42
    · replace h := h.2 hc2
      refine lv_aload_n hx hb d_G_trendOf_7 rfl (lv_at hl 1 rfl) ?_
      refine va_get (D := D) (ci := 1) (v := .ref a1) (C := R_G) (T := F_G) (N := 4) hx hb hB inF_G hown hK hP 0 rfl rfl 0 (by decide) (hB _ wd_35) (fun _ h9 => h9) rfl d_G_trendOf_8 ?_
      refine lv_iload_n hx hb d_G_trendOf_11 rfl (lv_at hl 2 rfl) ?_
      refine lv_iload_n hx hb d_G_trendOf_12 rfl (lv_at hl 0 rfl) ?_
      refine lv_iadd hx hb d_G_trendOf_13 ?_
      obtain ⟨g3, h⟩ := h
      refine va_iald hx hb hK hP 1 0 rfl rfl g3 d_G_trendOf_14 ?_
      refine lv_if_eq (tgt := 35) hx hb d_G_trendOf_15 (by decide) (fun hc4 => ?_) (fun hc4 => ?_)
      · replace h := h.1 hc4
        obtain ⟨x5, ex5⟩ : ∃ z : Int32, z = v2_1 + 1 := ⟨_, rfl⟩
        replace h := h x5 ex5
        refine lv_iinc (v := x5) (lv' := [(2, .int x5), (0, .ref a0), (1, .int p0)]) hx hb d_G_trendOf_35 hl (k := 0) rfl (by rw [ex5]; rfl) (by decide) rfl (fun ls hl => ?_)
        refine lv_goto (tgt := 2) hx hb d_G_trendOf_38 (by decide) ?_
        exact Ge2 _ _ _ (ihL2 x5 _ _ _ hP hD hS (lv_sub hl [0, 1, 2] rfl) h)
      · replace h := h.2 hc4
        refine lv_aload_n hx hb d_G_trendOf_18 rfl (lv_at hl 1 rfl) ?_
        refine va_get (D := D) (ci := 1) (v := .ref a1) (C := R_G) (T := F_G) (N := 4) hx hb hB inF_G hown hK hP 0 rfl rfl 0 (by decide) (hB _ wd_35) (fun _ h9 => h9) rfl d_G_trendOf_19 ?_
        refine lv_iload_n hx hb d_G_trendOf_22 rfl (lv_at hl 2 rfl) ?_
        refine lv_iload_n hx hb d_G_trendOf_23 rfl (lv_at hl 0 rfl) ?_
        refine lv_iadd hx hb d_G_trendOf_24 ?_
        obtain ⟨g6, h⟩ := h
        refine va_iald hx hb hK hP 1 0 rfl rfl g6 d_G_trendOf_25 ?_
        refine lv_if_le (tgt := 33) hx hb d_G_trendOf_26 (by decide) (fun hc7 => ?_) (fun hc7 => ?_)
        · replace h := h.1 hc7
          refine lv_iconst (v := (-1)) hx hb d_G_trendOf_33 (by decide) ?_
          exact W.iret (v := (-1)) hx hb hr (fun t ht hW => ⟨⟨(-1), (), rfl, h, by rw [ht]; exact hP, va_K.moved hW.alike hK, hD⟩, hS.F ht⟩) hS.2.2 d_G_trendOf_34
        · replace h := h.2 hc7
          refine lv_iconst (v := 1) hx hb d_G_trendOf_29 (by decide) ?_
          refine lv_goto (tgt := 34) hx hb d_G_trendOf_30 (by decide) ?_
          exact W.iret (v := 1) hx hb hr (fun t ht hW => ⟨⟨1, (), rfl, h, by rw [ht]; exact hP, va_K.moved hW.alike hK, hD⟩, hS.F ht⟩) hS.2.2 d_G_trendOf_34
set_option maxHeartbeats 4000000 in
set_option maxRecDepth 100000 in
theorem c_G_signOf (l : Launch) (D : va_G) (a0 a1 a2 a3 a4 a5 : Nat) (c1 c2 c4 c5 : ClassId) (sz : Nat) (made : Int32) (size : Int32) (tooG : Int32) (kept : (Nat → Int32)) (sizes : (Nat → Int32)) (rows : (Nat → Int32)) (taken : (Nat → Int32)) (p0 : Int32) (post : Int32 → Prop) : Met l y_G_signOf (Cond.code y_G_signOf b_G_signOf 2 (some .int) :: BIG) ({ frames := 0, cells := 0, slots := 0, locals := 0 }) (va_Pc [.ref a0, .int p0] (pcX D vwCl (wG a0 a1 a2 a3 a4 a5 c1 c2 c4 c5 made size tooG kept sizes rows taken) [(c1, .int), (c2, .int), (c4, .int), (c5, .int)] sz (wp_G_signOf kept p0 post))) (va_Qi (fun (r : Int32) (_ : Unit) => post r) (fun _ => atG D vwCl [(c1, .int), (c2, .int), (c4, .int), (c5, .int)] (va_A (wG a0 a1 a2 a3 a4 a5 c1 c2 c4 c5 made size tooG kept sizes rows taken) sz) (wG a0 a1 a2 a3 a4 a5 c1 c2 c4 c5 made size tooG kept sizes rows taken)) (va_A (wG a0 a1 a2 a3 a4 a5 c1 c2 c4 c5 made size tooG kept sizes rows taken) sz)) 0 0 (va_A (wG a0 a1 a2 a3 a4 a5 c1 c2 c4 c5 made size tooG kept sizes rows taken) sz) := by
  refine Met.ofW (cc := b_G_signOf) (maxL := 2) (ret := (some .int)) (by decide) rfl ?_
  intro p e s m args below meth c s₁ B hml hv
  obtain ⟨rfl, hsz, hP, hK, hD0, hX, h⟩ := hv
  have hx := B.exec
  have hb := B.bytes
  have hr := B.returns
  have hB : ∀ w ∈ BIG, w.before _ s = true := fun w h => atoms_spec (ws := (Cond.code y_G_signOf b_G_signOf 2 (some .int) :: BIG)) B.pre w (List.mem_cons_of_mem _ h)
  have hown : s.vm.findClass R_G = some m.cls := findClass_of_methodNamed B.named
  have hlocks := B.notSynchronized
  subst hsz
  have hD := hD0.self (sz := s.heap.size)
  generalize hAe : va_A (wG a0 a1 a2 a3 a4 a5 c1 c2 c4 c5 made size tooG kept sizes rows taken) s.heap.size = A at hD hX ⊢
  have hA : ∀ q : Nat, s.heap.size ≤ q → A q := fun q h => by rw [← hAe]; exact Or.inr h
  have hl := lv_entry ([.ref a0, .int p0]) (n := 2) (Nat.le_of_ble_eq_true rfl)
  rw [lg_entry_eq]
  generalize (lg_sl ([.ref a0, .int p0]) ++ List.replicate (2 - (lg_sl ([.ref a0, .int p0])).length) Slot.unset).toArray = ls at hl ⊢
  have hl : lv_has ls 2 [(0, .ref a0), (1, .int p0)] := hl
  refine W.cap (fun G Gi Ge => ?_)
  suffices hL : ∀ (H : Heap) (locs : List Loc), va_P D vwCl (wG a0 a1 a2 a3 a4 a5 c1 c2 c4 c5 made size tooG kept sizes rows taken) H → va_S A s.heap H locs → G H locs (F0 m 0 ls []) from hL _ _ hP va_S.rf
  clear hP
  intro H locs hP hS
  refine Gi _ _ _ ?_
  unfold wp_G_signOf at h
  refine lv_aload_n hx hb d_G_signOf_0 rfl (lv_at hl 0 rfl) ?_
  refine va_get (D := D) (ci := 1) (v := .ref a1) (C := R_G) (T := F_G) (N := 4) hx hb hB inF_G hown hK hP 0 rfl rfl 0 (by decide) (hB _ wd_35) (fun _ h9 => h9) rfl d_G_signOf_1 ?_
  refine lv_iload_n hx hb d_G_signOf_4 rfl (lv_at hl 1 rfl) ?_
  refine lv_iconst (v := 5) hx hb d_G_signOf_5 (by decide) ?_
  refine lv_iadd hx hb d_G_signOf_6 ?_
  obtain ⟨g1, h⟩ := h
  refine va_iald hx hb hK hP 1 0 rfl rfl g1 d_G_signOf_7 ?_
  refine lv_if_le (tgt := 15) hx hb d_G_signOf_8 (by decide) (fun hc2 => ?_) (fun hc2 => ?_)
  · replace h := h.1 hc2
    refine lv_iconst (v := (-1)) hx hb d_G_signOf_15 (by decide) ?_
    exact W.iret (v := (-1)) hx hb hr (fun t ht hW => ⟨⟨(-1), (), rfl, h, by rw [ht]; exact hP, va_K.moved hW.alike hK, hD⟩, hS.F ht⟩) hS.2.2 d_G_signOf_16
  · replace h := h.2 hc2
    refine lv_iconst (v := 1) hx hb d_G_signOf_11 (by decide) ?_
    refine lv_goto (tgt := 16) hx hb d_G_signOf_12 (by decide) ?_
    exact W.iret (v := 1) hx hb hr (fun t ht hW => ⟨⟨1, (), rfl, h, by rw [ht]; exact hP, va_K.moved hW.alike hK, hD⟩, hS.F ht⟩) hS.2.2 d_G_signOf_16
set_option maxHeartbeats 4000000 in
set_option maxRecDepth 100000 in
theorem c_G_endOf (l : Launch) (D : va_G) (a0 a1 a2 a3 a4 a5 : Nat) (c1 c2 c4 c5 : ClassId) (sz : Nat) (made : Int32) (size : Int32) (tooG : Int32) (kept : (Nat → Int32)) (sizes : (Nat → Int32)) (rows : (Nat → Int32)) (taken : (Nat → Int32)) (p0 : Int32) (post : Int32 → Prop) : Met l y_G_endOf (Cond.code y_G_endOf b_G_endOf 3 (some .int) :: BIG) ({ frames := 1, cells := 0, slots := 0, locals := 22 }) (va_Pc [.ref a0, .int p0] (pcX D vwCl (wG a0 a1 a2 a3 a4 a5 c1 c2 c4 c5 made size tooG kept sizes rows taken) [(c1, .int), (c2, .int), (c4, .int), (c5, .int)] sz (wp_G_endOf kept sizes p0 post))) (va_Qi (fun (r : Int32) (_ : Unit) => post r) (fun _ => atG D vwCl [(c1, .int), (c2, .int), (c4, .int), (c5, .int)] (va_A (wG a0 a1 a2 a3 a4 a5 c1 c2 c4 c5 made size tooG kept sizes rows taken) sz) (wG a0 a1 a2 a3 a4 a5 c1 c2 c4 c5 made size tooG kept sizes rows taken)) (va_A (wG a0 a1 a2 a3 a4 a5 c1 c2 c4 c5 made size tooG kept sizes rows taken) sz)) 0 0 (va_A (wG a0 a1 a2 a3 a4 a5 c1 c2 c4 c5 made size tooG kept sizes rows taken) sz) := by
  refine Met.ofW (cc := b_G_endOf) (maxL := 3) (ret := (some .int)) (by decide) rfl ?_
  intro p e s m args below meth c s₁ B hml hv
  obtain ⟨rfl, hsz, hP, hK, hD0, hX, h⟩ := hv
  have hx := B.exec
  have hb := B.bytes
  have hr := B.returns
  have hB : ∀ w ∈ BIG, w.before _ s = true := fun w h => atoms_spec (ws := (Cond.code y_G_endOf b_G_endOf 3 (some .int) :: BIG)) B.pre w (List.mem_cons_of_mem _ h)
  have hown : s.vm.findClass R_G = some m.cls := findClass_of_methodNamed B.named
  have hlocks := B.notSynchronized
  subst hsz
  have hD := hD0.self (sz := s.heap.size)
  generalize hAe : va_A (wG a0 a1 a2 a3 a4 a5 c1 c2 c4 c5 made size tooG kept sizes rows taken) s.heap.size = A at hD hX ⊢
  have hA : ∀ q : Nat, s.heap.size ≤ q → A q := fun q h => by rw [← hAe]; exact Or.inr h
  have hl := lv_entry ([.ref a0, .int p0]) (n := 3) (Nat.le_of_ble_eq_true rfl)
  rw [lg_entry_eq]
  generalize (lg_sl ([.ref a0, .int p0]) ++ List.replicate (3 - (lg_sl ([.ref a0, .int p0])).length) Slot.unset).toArray = ls at hl ⊢
  have hl : lv_has ls 3 [(0, .ref a0), (1, .int p0)] := hl
  refine W.cap (fun G Gi Ge => ?_)
  suffices hL : ∀ (H : Heap) (locs : List Loc), va_P D vwCl (wG a0 a1 a2 a3 a4 a5 c1 c2 c4 c5 made size tooG kept sizes rows taken) H → va_S A s.heap H locs → G H locs (F0 m 0 ls []) from hL _ _ hP va_S.rf
  clear hP
  intro H locs hP hS
  refine Gi _ _ _ ?_
  unfold wp_G_endOf at h
  refine lv_iload_n hx hb d_G_endOf_0 rfl (lv_at hl 1 rfl) ?_
  refine lv_iconst (v := 0) hx hb d_G_endOf_1 (by decide) ?_
  have hF1 := va_free (wc := (wG a0 a1 a2 a3 a4 a5 c1 c2 c4 c5 made size tooG kept sizes rows taken)) hD hS hA [0, 1, 2, 3, 4, 5] rfl
  refine va_calli (va_runS (As := [.int p0, .int 0]) (rest := []) ⟨hx, hb, hml, hown, hB⟩ (c_G_rowOf l D a0 a1 a2 a3 a4 a5 c1 c2 c4 c5 H.size made size tooG kept sizes rows taken p0 0 _) (cwS 2 hB (goodS wd_144 wd_145 wd_1 wd_146) rfl rfl rfl (by decide +kernel) ⟨Nat.le_of_ble_eq_true rfl, Nat.le_of_ble_eq_true rfl⟩) ⟨pcX_blind, pcX_pre hP hK hD hS hX hF1 h⟩ rfl rfl hl.1 rfl (lv_room (Nat.le_of_ble_eq_true rfl)) d_G_endOf_2 ⟨Nat.le_of_ble_eq_true rfl, Nat.le_of_ble_eq_true rfl⟩) hS (fun q _ h => hF1 q h) hF1 (fun r2 u t H locs ht hvm h hB hz1 hk1 hS => ?_)
  obtain ⟨hP1, hK1, hD1⟩ := hB
  rw [ht] at hP1
  have hP : va_P D vwCl (wG a0 a1 a2 a3 a4 a5 c1 c2 c4 c5 made size tooG kept sizes rows taken) H := hP1
  have hD : va_D A (wG a0 a1 a2 a3 a4 a5 c1 c2 c4 c5 made size tooG kept sizes rows taken) := hD1.weaken (fun _ _ _ hq => hF1 _ hq)
  refine lv_istore_n (lv' := [(2, .int r2), (0, .ref a0), (1, .int p0)]) hx hb d_G_endOf_5 rfl hl (by decide) rfl (fun ls hl => ?_)
  refine lv_aload_n hx hb d_G_endOf_6 rfl (lv_at hl 1 rfl) ?_
  refine va_get (D := D) (ci := 1) (v := .ref a2) (C := R_G) (T := F_G) (N := 4) hx hb hB inF_G hown hK hP 0 rfl rfl 1 (by decide) (hB _ wd_36) (fun _ h9 => h9) rfl d_G_endOf_7 ?_
  refine lv_iload_n hx hb d_G_endOf_10 rfl (lv_at hl 2 rfl) ?_
  obtain ⟨g3, h⟩ := h
  refine va_iald hx hb hK hP 2 1 rfl rfl g3 d_G_endOf_11 ?_
  refine lv_if_le (tgt := 31) hx hb d_G_endOf_12 (by decide) (fun hc4 => ?_) (fun hc4 => ?_)
  · replace h := h.1 hc4
    refine lv_iconst (v := 0) hx hb d_G_endOf_31 (by decide) ?_
    exact W.iret (v := 0) hx hb hr (fun t ht hW => ⟨⟨0, (), rfl, h, by rw [ht]; exact hP, va_K.moved hW.alike hK, hD⟩, hS.F ht⟩) hS.2.2 d_G_endOf_32
  · replace h := h.2 hc4
    refine lv_aload_n hx hb d_G_endOf_15 rfl (lv_at hl 1 rfl) ?_
    refine lv_iload_n hx hb d_G_endOf_16 rfl (lv_at hl 0 rfl) ?_
    have hF5 := va_free (wc := (wG a0 a1 a2 a3 a4 a5 c1 c2 c4 c5 made size tooG kept sizes rows taken)) hD hS hA [0, 1, 2, 3, 4, 5] rfl
    refine va_calli (va_runV (As := [.int r2]) (rest := []) ⟨hx, hb, hml, hown, hB⟩ (c_G_trendOf l D a0 a1 a2 a3 a4 a5 c1 c2 c4 c5 H.size made size tooG kept sizes rows taken r2 _) (cwV 1 hB (goodV wd_276 wd_277 wd_504 wd_1 wd_278) rfl rfl rfl (by decide +kernel) ⟨Nat.le_of_ble_eq_true rfl, Nat.le_of_ble_eq_true rfl⟩) ⟨pcX_blind, va_recv hK hP (ci := 1) (q0 := 0) rfl rfl, pcX_pre hP hK hD hS hX hF5 h⟩ rfl rfl hl.1 rfl (lv_room (Nat.le_of_ble_eq_true rfl)) d_G_endOf_17 ⟨Nat.le_of_ble_eq_true rfl, Nat.le_of_ble_eq_true rfl⟩) hS (fun q _ h => hF5 q h) hF5 (fun r6 u t H locs ht hvm h hB hz1 hk1 hS => ?_)
    obtain ⟨hP1, hK1, hD1⟩ := hB
    rw [ht] at hP1
    have hP : va_P D vwCl (wG a0 a1 a2 a3 a4 a5 c1 c2 c4 c5 made size tooG kept sizes rows taken) H := hP1
    have hD : va_D A (wG a0 a1 a2 a3 a4 a5 c1 c2 c4 c5 made size tooG kept sizes rows taken) := hD1.weaken (fun _ _ _ hq => hF5 _ hq)
    refine lv_if_le (tgt := 31) hx hb d_G_endOf_20 (by decide) (fun hc7 => ?_) (fun hc7 => ?_)
    · replace h := h.1 hc7
      refine lv_iconst (v := 0) hx hb d_G_endOf_31 (by decide) ?_
      exact W.iret (v := 0) hx hb hr (fun t ht hW => ⟨⟨0, (), rfl, h, by rw [ht]; exact hP, va_K.moved hW.alike hK, hD⟩, hS.F ht⟩) hS.2.2 d_G_endOf_32
    · replace h := h.2 hc7
      refine lv_aload_n hx hb d_G_endOf_23 rfl (lv_at hl 1 rfl) ?_
      refine lv_iload_n hx hb d_G_endOf_24 rfl (lv_at hl 0 rfl) ?_
      have hF8 := va_free (wc := (wG a0 a1 a2 a3 a4 a5 c1 c2 c4 c5 made size tooG kept sizes rows taken)) hD hS hA [0, 1, 2, 3, 4, 5] rfl
      refine va_calli (va_runV (As := [.int r2]) (rest := []) ⟨hx, hb, hml, hown, hB⟩ (c_G_signOf l D a0 a1 a2 a3 a4 a5 c1 c2 c4 c5 H.size made size tooG kept sizes rows taken r2 _) (cwV 1 hB (goodV wd_279 wd_280 wd_505 wd_1 wd_281) rfl rfl rfl (by decide +kernel) ⟨Nat.le_of_ble_eq_true rfl, Nat.le_of_ble_eq_true rfl⟩) ⟨pcX_blind, va_recv hK hP (ci := 1) (q0 := 0) rfl rfl, pcX_pre hP hK hD hS hX hF8 h⟩ rfl rfl hl.1 rfl (lv_room (Nat.le_of_ble_eq_true rfl)) d_G_endOf_25 ⟨Nat.le_of_ble_eq_true rfl, Nat.le_of_ble_eq_true rfl⟩) hS (fun q _ h => hF8 q h) hF8 (fun r9 u t H locs ht hvm h hB hz1 hk1 hS => ?_)
      obtain ⟨hP1, hK1, hD1⟩ := hB
      rw [ht] at hP1
      have hP : va_P D vwCl (wG a0 a1 a2 a3 a4 a5 c1 c2 c4 c5 made size tooG kept sizes rows taken) H := hP1
      have hD : va_D A (wG a0 a1 a2 a3 a4 a5 c1 c2 c4 c5 made size tooG kept sizes rows taken) := hD1.weaken (fun _ _ _ hq => hF8 _ hq)
      refine lv_goto (tgt := 32) hx hb d_G_endOf_28 (by decide) ?_
      exact W.iret (v := r9) hx hb hr (fun t ht hW => ⟨⟨r9, (), rfl, h, by rw [ht]; exact hP, va_K.moved hW.alike hK, hD⟩, hS.F ht⟩) hS.2.2 d_G_endOf_32
set_option maxHeartbeats 4000000 in
set_option maxRecDepth 100000 in
theorem c_G_rankOf (l : Launch) (D : va_G) (a0 a1 a2 a3 a4 a5 : Nat) (c1 c2 c4 c5 : ClassId) (sz : Nat) (made : Int32) (size : Int32) (tooG : Int32) (kept : (Nat → Int32)) (sizes : (Nat → Int32)) (rows : (Nat → Int32)) (taken : (Nat → Int32)) (p0 : Int32) (p1 : Int32) (post : Int32 → Prop) : Met l y_G_rankOf (Cond.code y_G_rankOf b_G_rankOf 3 (some .int) :: BIG) ({ frames := 1, cells := 0, slots := 0, locals := 24 }) (va_Pc [.ref a0, .int p0, .int p1] (pcX D vwCl (wG a0 a1 a2 a3 a4 a5 c1 c2 c4 c5 made size tooG kept sizes rows taken) [(c1, .int), (c2, .int), (c4, .int), (c5, .int)] sz (wp_G_rankOf kept sizes p0 p1 post))) (va_Qi (fun (r : Int32) (_ : Unit) => post r) (fun _ => atG D vwCl [(c1, .int), (c2, .int), (c4, .int), (c5, .int)] (va_A (wG a0 a1 a2 a3 a4 a5 c1 c2 c4 c5 made size tooG kept sizes rows taken) sz) (wG a0 a1 a2 a3 a4 a5 c1 c2 c4 c5 made size tooG kept sizes rows taken)) (va_A (wG a0 a1 a2 a3 a4 a5 c1 c2 c4 c5 made size tooG kept sizes rows taken) sz)) 0 0 (va_A (wG a0 a1 a2 a3 a4 a5 c1 c2 c4 c5 made size tooG kept sizes rows taken) sz) := by
  refine Met.ofW (cc := b_G_rankOf) (maxL := 3) (ret := (some .int)) (by decide) rfl ?_
  intro p e s m args below meth c s₁ B hml hv
  obtain ⟨rfl, hsz, hP, hK, hD0, hX, h⟩ := hv
  have hx := B.exec
  have hb := B.bytes
  have hr := B.returns
  have hB : ∀ w ∈ BIG, w.before _ s = true := fun w h => atoms_spec (ws := (Cond.code y_G_rankOf b_G_rankOf 3 (some .int) :: BIG)) B.pre w (List.mem_cons_of_mem _ h)
  have hown : s.vm.findClass R_G = some m.cls := findClass_of_methodNamed B.named
  have hlocks := B.notSynchronized
  subst hsz
  have hD := hD0.self (sz := s.heap.size)
  generalize hAe : va_A (wG a0 a1 a2 a3 a4 a5 c1 c2 c4 c5 made size tooG kept sizes rows taken) s.heap.size = A at hD hX ⊢
  have hA : ∀ q : Nat, s.heap.size ≤ q → A q := fun q h => by rw [← hAe]; exact Or.inr h
  have hl := lv_entry ([.ref a0, .int p0, .int p1]) (n := 3) (Nat.le_of_ble_eq_true rfl)
  rw [lg_entry_eq]
  generalize (lg_sl ([.ref a0, .int p0, .int p1]) ++ List.replicate (3 - (lg_sl ([.ref a0, .int p0, .int p1])).length) Slot.unset).toArray = ls at hl ⊢
  have hl : lv_has ls 3 [(0, .ref a0), (1, .int p0), (2, .int p1)] := hl
  refine W.cap (fun G Gi Ge => ?_)
  suffices hL : ∀ (H : Heap) (locs : List Loc), va_P D vwCl (wG a0 a1 a2 a3 a4 a5 c1 c2 c4 c5 made size tooG kept sizes rows taken) H → va_S A s.heap H locs → G H locs (F0 m 0 ls []) from hL _ _ hP va_S.rf
  clear hP
  intro H locs hP hS
  refine Gi _ _ _ ?_
  unfold wp_G_rankOf at h
  refine lv_aload_n hx hb d_G_rankOf_0 rfl (lv_at hl 0 rfl) ?_
  refine va_get (D := D) (ci := 1) (v := .ref a2) (C := R_G) (T := F_G) (N := 4) hx hb hB inF_G hown hK hP 0 rfl rfl 1 (by decide) (hB _ wd_36) (fun _ h9 => h9) rfl d_G_rankOf_1 ?_
  refine lv_iload_n hx hb d_G_rankOf_4 rfl (lv_at hl 1 rfl) ?_
  obtain ⟨g1, h⟩ := h
  refine va_iald hx hb hK hP 2 1 rfl rfl g1 d_G_rankOf_5 ?_
  refine lv_if_ne (tgt := 24) hx hb d_G_rankOf_6 (by decide) (fun hc2 => ?_) (fun hc2 => ?_)
  · replace h := h.1 hc2
    refine lv_aload_n hx hb d_G_rankOf_24 rfl (lv_at hl 0 rfl) ?_
    refine va_get (D := D) (ci := 1) (v := .ref a2) (C := R_G) (T := F_G) (N := 4) hx hb hB inF_G hown hK hP 0 rfl rfl 1 (by decide) (hB _ wd_36) (fun _ h9 => h9) rfl d_G_rankOf_25 ?_
    refine lv_iload_n hx hb d_G_rankOf_28 rfl (lv_at hl 2 rfl) ?_
    obtain ⟨g3, h⟩ := h
    refine va_iald hx hb hK hP 2 1 rfl rfl g3 d_G_rankOf_29 ?_
    refine lv_if_ne (tgt := 37) hx hb d_G_rankOf_30 (by decide) (fun hc4 => ?_) (fun hc4 => ?_)
    · replace h := h.1 hc4
      refine lv_aload_n hx hb d_G_rankOf_37 rfl (lv_at hl 0 rfl) ?_
      refine va_get (D := D) (ci := 1) (v := .ref a1) (C := R_G) (T := F_G) (N := 4) hx hb hB inF_G hown hK hP 0 rfl rfl 0 (by decide) (hB _ wd_35) (fun _ h9 => h9) rfl d_G_rankOf_38 ?_
      refine lv_iload_n hx hb d_G_rankOf_41 rfl (lv_at hl 1 rfl) ?_
      refine lv_iconst (v := 0) hx hb d_G_rankOf_42 (by decide) ?_
      have hF5 := va_free (wc := (wG a0 a1 a2 a3 a4 a5 c1 c2 c4 c5 made size tooG kept sizes rows taken)) hD hS hA [0, 1, 2, 3, 4, 5] rfl
      refine va_calli (va_runS (As := [.int p0, .int 0]) (rest := [.ref a1]) ⟨hx, hb, hml, hown, hB⟩ (c_G_rowOf l D a0 a1 a2 a3 a4 a5 c1 c2 c4 c5 H.size made size tooG kept sizes rows taken p0 0 _) (cwS 2 hB (goodS wd_144 wd_145 wd_1 wd_146) rfl rfl rfl (by decide +kernel) ⟨Nat.le_of_ble_eq_true rfl, Nat.le_of_ble_eq_true rfl⟩) ⟨pcX_blind, pcX_pre hP hK hD hS hX hF5 h⟩ rfl rfl hl.1 rfl (lv_room (Nat.le_of_ble_eq_true rfl)) d_G_rankOf_43 ⟨Nat.le_of_ble_eq_true rfl, Nat.le_of_ble_eq_true rfl⟩) hS (fun q _ h => hF5 q h) hF5 (fun r6 u t H locs ht hvm h hB hz1 hk1 hS => ?_)
      obtain ⟨hP1, hK1, hD1⟩ := hB
      rw [ht] at hP1
      have hP : va_P D vwCl (wG a0 a1 a2 a3 a4 a5 c1 c2 c4 c5 made size tooG kept sizes rows taken) H := hP1
      have hD : va_D A (wG a0 a1 a2 a3 a4 a5 c1 c2 c4 c5 made size tooG kept sizes rows taken) := hD1.weaken (fun _ _ _ hq => hF5 _ hq)
      refine lv_aload_n hx hb d_G_rankOf_46 rfl (lv_at hl 0 rfl) ?_
      refine va_get (D := D) (ci := 1) (v := .ref a1) (C := R_G) (T := F_G) (N := 4) hx hb hB inF_G hown hK hP 0 rfl rfl 0 (by decide) (hB _ wd_35) (fun _ h9 => h9) rfl d_G_rankOf_47 ?_
      refine lv_iload_n hx hb d_G_rankOf_50 rfl (lv_at hl 2 rfl) ?_
      refine lv_iconst (v := 0) hx hb d_G_rankOf_51 (by decide) ?_
      have hF7 := va_free (wc := (wG a0 a1 a2 a3 a4 a5 c1 c2 c4 c5 made size tooG kept sizes rows taken)) hD hS hA [0, 1, 2, 3, 4, 5] rfl
      refine va_calli (va_runS (As := [.int p1, .int 0]) (rest := [.ref a1, .int r6, .ref a1]) ⟨hx, hb, hml, hown, hB⟩ (c_G_rowOf l D a0 a1 a2 a3 a4 a5 c1 c2 c4 c5 H.size made size tooG kept sizes rows taken p1 0 _) (cwS 2 hB (goodS wd_144 wd_145 wd_1 wd_146) rfl rfl rfl (by decide +kernel) ⟨Nat.le_of_ble_eq_true rfl, Nat.le_of_ble_eq_true rfl⟩) ⟨pcX_blind, pcX_pre hP hK hD hS hX hF7 h⟩ rfl rfl hl.1 rfl (lv_room (Nat.le_of_ble_eq_true rfl)) d_G_rankOf_52 ⟨Nat.le_of_ble_eq_true rfl, Nat.le_of_ble_eq_true rfl⟩) hS (fun q _ h => hF7 q h) hF7 (fun r8 u t H locs ht hvm h hB hz1 hk1 hS => ?_)
      obtain ⟨hP1, hK1, hD1⟩ := hB
      rw [ht] at hP1
      have hP : va_P D vwCl (wG a0 a1 a2 a3 a4 a5 c1 c2 c4 c5 made size tooG kept sizes rows taken) H := hP1
      have hD : va_D A (wG a0 a1 a2 a3 a4 a5 c1 c2 c4 c5 made size tooG kept sizes rows taken) := hD1.weaken (fun _ _ _ hq => hF7 _ hq)
      have hF9 := va_free (wc := (wG a0 a1 a2 a3 a4 a5 c1 c2 c4 c5 made size tooG kept sizes rows taken)) hD hS hA [0, 1, 2, 3, 4, 5] rfl
      refine va_calli (va_runS (As := [.ref a1, .int r6, .ref a1, .int r8]) (rest := []) ⟨hx, hb, hml, hown, hB⟩ (c_G_rankOfTerms_kk l D a0 a1 a2 a3 a4 a5 c1 c2 c4 c5 H.size made size tooG kept sizes rows taken r6 r8 _) (cwS 4 hB (goodS wd_302 wd_127 wd_1 wd_128) rfl rfl rfl (by decide +kernel) ⟨Nat.le_of_ble_eq_true rfl, Nat.le_of_ble_eq_true rfl⟩) ⟨pcX_blind, pcX_pre hP hK hD hS hX hF9 h⟩ rfl rfl hl.1 rfl (lv_room (Nat.le_of_ble_eq_true rfl)) d_G_rankOf_55 ⟨Nat.le_of_ble_eq_true rfl, Nat.le_of_ble_eq_true rfl⟩) hS (fun q _ h => hF9 q h) hF9 (fun r10 u t H locs ht hvm h hB hz1 hk1 hS => ?_)
      obtain ⟨hP1, hK1, hD1⟩ := hB
      rw [ht] at hP1
      have hP : va_P D vwCl (wG a0 a1 a2 a3 a4 a5 c1 c2 c4 c5 made size tooG kept sizes rows taken) H := hP1
      have hD : va_D A (wG a0 a1 a2 a3 a4 a5 c1 c2 c4 c5 made size tooG kept sizes rows taken) := hD1.weaken (fun _ _ _ hq => hF9 _ hq)
      exact W.iret (v := r10) hx hb hr (fun t ht hW => ⟨⟨r10, (), rfl, h, by rw [ht]; exact hP, va_K.moved hW.alike hK, hD⟩, hS.F ht⟩) hS.2.2 d_G_rankOf_58
    · replace h := h.2 hc4
      refine lv_iconst (v := 1) hx hb d_G_rankOf_33 (by decide) ?_
      refine lv_goto (tgt := 58) hx hb d_G_rankOf_34 (by decide) ?_
      exact W.iret (v := 1) hx hb hr (fun t ht hW => ⟨⟨1, (), rfl, h, by rw [ht]; exact hP, va_K.moved hW.alike hK, hD⟩, hS.F ht⟩) hS.2.2 d_G_rankOf_58
  · replace h := h.2 hc2
    refine lv_aload_n hx hb d_G_rankOf_9 rfl (lv_at hl 0 rfl) ?_
    refine va_get (D := D) (ci := 1) (v := .ref a2) (C := R_G) (T := F_G) (N := 4) hx hb hB inF_G hown hK hP 0 rfl rfl 1 (by decide) (hB _ wd_36) (fun _ h9 => h9) rfl d_G_rankOf_10 ?_
    refine lv_iload_n hx hb d_G_rankOf_13 rfl (lv_at hl 2 rfl) ?_
    obtain ⟨g11, h⟩ := h
    refine va_iald hx hb hK hP 2 1 rfl rfl g11 d_G_rankOf_14 ?_
    refine lv_if_ne (tgt := 22) hx hb d_G_rankOf_15 (by decide) (fun hc12 => ?_) (fun hc12 => ?_)
    · replace h := h.1 hc12
      refine lv_iconst (v := (-1)) hx hb d_G_rankOf_22 (by decide) ?_
      exact W.iret (v := (-1)) hx hb hr (fun t ht hW => ⟨⟨(-1), (), rfl, h, by rw [ht]; exact hP, va_K.moved hW.alike hK, hD⟩, hS.F ht⟩) hS.2.2 d_G_rankOf_23
    · replace h := h.2 hc12
      refine lv_iconst (v := 0) hx hb d_G_rankOf_18 (by decide) ?_
      refine lv_goto (tgt := 23) hx hb d_G_rankOf_19 (by decide) ?_
      exact W.iret (v := 0) hx hb hr (fun t ht hW => ⟨⟨0, (), rfl, h, by rw [ht]; exact hP, va_K.moved hW.alike hK, hD⟩, hS.F ht⟩) hS.2.2 d_G_rankOf_23
