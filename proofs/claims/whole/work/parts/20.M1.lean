def wp_M_thrown (code : Int32) (post : Int32 → Prop) : Prop :=
  post code
def wp_M_raise (code : Int32) (p0 : Int32) (post : Int32 → Int32 → Prop) : Prop :=
  post 0 p0
def wp_M_in  (p0 : Int64) (p1 : Int64) (p2 : Int64) (post : Int32 → Prop) : Prop :=
  ((lg_cmp p0 p1) < 0 → (post 0)) ∧ (¬ (lg_cmp p0 p1) < 0 → ((0 < (lg_cmp p0 p2) → (post 0)) ∧ (¬ 0 < (lg_cmp p0 p2) → (post 1))))
def wp_M_size  (p0 : Int64) (post : Int64 → Prop) : Prop :=
  (0 ≤ (lg_cmp p0 0) → (post p0)) ∧ (¬ 0 ≤ (lg_cmp p0 0) → (post (-p0)))
def wb_M_divisor_12 (post : Int64 → Prop) : (Int64 → Int64 → Prop) → Int64 → Int64 → Prop :=
  fun ih_12 v4_5 v6_6 =>
  ((lg_cmp v6_6 0) = 0 → (post v4_5)) ∧ (¬ (lg_cmp v6_6 0) = 0 → ((¬ v6_6 = 0) ∧ (∀ x9 : Int64, x9 = v4_5 - v4_5 / v6_6 * v6_6 → (ih_12 v6_6 x9))))
def wp_M_divisor  (p0 : Int64) (p1 : Int64) (post : Int64 → Prop) : Prop :=
  wp_M_size p0 (fun r2 => wp_M_size p1 (fun r4 => ∃ n : Nat, lpW2 (wb_M_divisor_12 post) n r2 r4))
def wj_M_lowest_26 (p0 : Int64) (r2 : Int64) (p1 : Int64) (post : Int64 → Int64 → Prop) : Prop :=
  ∀ x5 : Int64, x5 = p0 / r2 → (wp_M_size p1 (fun r7 => (¬ r2 = 0) ∧ (∀ x9 : Int64, x9 = r7 / r2 → (post x5 x9))))
def wj_M_lowest_26_2 (p0 : Int64) (r2 : Int64) (p1 : Int64) (post : Int64 → Int64 → Prop) : Prop :=
  ∀ x11 : Int64, x11 = (-p0) / r2 → (wp_M_size p1 (fun r13 => (¬ r2 = 0) ∧ (∀ x15 : Int64, x15 = r13 / r2 → (post x11 x15))))
def wp_M_lowest (up : Int64) (down : Int64) (p0 : Int64) (p1 : Int64) (post : Int64 → Int64 → Prop) : Prop :=
  wp_M_divisor p0 p1 (fun r2 => (0 ≤ (lg_cmp p1 0) → ((¬ r2 = 0) ∧ (wj_M_lowest_26 p0 r2 p1 post))) ∧ (¬ 0 ≤ (lg_cmp p1 0) → ((¬ r2 = 0) ∧ (wj_M_lowest_26_2 p0 r2 p1 post))))
def wp_M_bound (great : Int32) (up : Int64) (down : Int64) (post : Int32 → Prop) : Prop :=
  wp_M_size up (fun r2 => (0 < (lg_cmp r2 1000000) → (post 1)) ∧ (¬ 0 < (lg_cmp r2 1000000) → (((lg_cmp down 1000000) ≤ 0 → (post great)) ∧ (¬ (lg_cmp down 1000000) ≤ 0 → (post 1)))))
def wp_M_at (rows : (Nat → Int32)) (p0 : Int32) (p1 : Int32) (p2 : Int32) (post : Int32 → Prop) : Prop :=
  vp_in (((70 * p0) + (7 * p1)) + p2) 5600 ∧ (post (rows (((70 * p0) + (7 * p1)) + p2).toNatClampNeg))
def wp_M_isFunction (funs : Int32) (p0 : Int32) (post : Int32 → Prop) : Prop :=
  wp_M_in (p0.toInt64) 0 ((funs - 1).toInt64) (fun r2 => zb r2 ∧ (post r2))
def wp_M_start (made : Int32) (great : Int32) (post : Int32 → Int32 → Prop) : Prop :=
  post 0 0
def wb_M_order_2 (post : Int32 → Prop) (p0 : Int32) (work : (Nat → Int32)) (xx : (Nat → Int32)) : (Int32 → Prop) → Int32 → Prop :=
  fun ih_2 v2_1 =>
  (5 ≤ v2_1 → (post 0)) ∧ (¬ 5 ≤ v2_1 → (vp_in ((7 * p0) + v2_1) 840 ∧ (vp_in v2_1 7 ∧ (((work ((7 * p0) + v2_1).toNatClampNeg) = (xx v2_1.toNatClampNeg) → (∀ x6 : Int32, x6 = v2_1 + 1 → (ih_2 x6))) ∧ (¬ (work ((7 * p0) + v2_1).toNatClampNeg) = (xx v2_1.toNatClampNeg) → (vp_in ((7 * p0) + v2_1) 840 ∧ (vp_in v2_1 7 ∧ (((work ((7 * p0) + v2_1).toNatClampNeg) ≤ (xx v2_1.toNatClampNeg) → (post (-1))) ∧ (¬ (work ((7 * p0) + v2_1).toNatClampNeg) ≤ (xx v2_1.toNatClampNeg) → (post 1))))))))))
def wp_M_order (work : (Nat → Int32)) (xx : (Nat → Int32)) (p0 : Int32) (post : Int32 → Prop) : Prop :=
  ∃ n : Nat, lpW1 (wb_M_order_2 post p0 work xx) n (0 : Int32)
set_option maxHeartbeats 4000000 in
set_option maxRecDepth 100000 in
theorem c_M_thrown (l : Launch) (D : va_G) (m0 m1 m2 m3 m4 m5 : Nat) (k1 k2 k3 k4 k5 : ClassId) (sz : Nat) (code : Int32) (funs : Int32) (made : Int32) (great : Int32) (up : Int64) (down : Int64) (size : (Nat → Int32)) (rows : (Nat → Int32)) (work : (Nat → Int32)) (xx : (Nat → Int32)) (power : (Nat → Int32)) (post : Int32 → Prop) : Met l y_M_thrown (Cond.code y_M_thrown b_M_thrown 1 (some .int) :: BIG) ({ frames := 0, cells := 0, slots := 0, locals := 0 }) (va_Pc [.ref m0] (pcG D vwCl (wM m0 m1 m2 m3 m4 m5 k1 k2 k3 k4 k5 code funs made great up down size rows work xx power) [(k1, .int), (k2, .int), (k3, .int), (k4, .int), (k5, .int)] sz (wp_M_thrown code post))) (va_Qi (fun (r : Int32) (_ : Unit) => post r) (fun _ => atG D vwCl [(k1, .int), (k2, .int), (k3, .int), (k4, .int), (k5, .int)] (va_A (wM m0 m1 m2 m3 m4 m5 k1 k2 k3 k4 k5 code funs made great up down size rows work xx power) sz) (wM m0 m1 m2 m3 m4 m5 k1 k2 k3 k4 k5 code funs made great up down size rows work xx power)) (va_A (wM m0 m1 m2 m3 m4 m5 k1 k2 k3 k4 k5 code funs made great up down size rows work xx power) sz)) 0 0 (va_A (wM m0 m1 m2 m3 m4 m5 k1 k2 k3 k4 k5 code funs made great up down size rows work xx power) sz) := by
  refine Met.ofW (cc := b_M_thrown) (maxL := 1) (ret := (some .int)) (by decide) rfl ?_
  intro p e s m args below meth c s₁ B hml hv
  obtain ⟨rfl, hsz, hP, hK, hD0, h⟩ := hv
  have hx := B.exec
  have hb := B.bytes
  have hr := B.returns
  have hB : ∀ w ∈ BIG, w.before _ s = true := fun w h => atoms_spec (ws := (Cond.code y_M_thrown b_M_thrown 1 (some .int) :: BIG)) B.pre w (List.mem_cons_of_mem _ h)
  have hown : s.vm.findClass R_M = some m.cls := findClass_of_methodNamed B.named
  have hlocks := B.notSynchronized
  subst hsz
  have hD := hD0.self (sz := s.heap.size)
  generalize hAe : va_A (wM m0 m1 m2 m3 m4 m5 k1 k2 k3 k4 k5 code funs made great up down size rows work xx power) s.heap.size = A at hD ⊢
  have hA : ∀ q : Nat, s.heap.size ≤ q → A q := fun q h => by rw [← hAe]; exact Or.inr h
  have hl := lv_entry ([.ref m0]) (n := 1) (Nat.le_of_ble_eq_true rfl)
  rw [lg_entry_eq]
  generalize (lg_sl ([.ref m0]) ++ List.replicate (1 - (lg_sl ([.ref m0])).length) Slot.unset).toArray = ls at hl ⊢
  have hl : lv_has ls 1 [(0, .ref m0)] := hl
  refine W.cap (fun G Gi Ge => ?_)
  suffices hL : ∀ (H : Heap) (locs : List Loc), va_P D vwCl (wM m0 m1 m2 m3 m4 m5 k1 k2 k3 k4 k5 code funs made great up down size rows work xx power) H → va_S A s.heap H locs → G H locs (F0 m 0 ls []) from hL _ _ hP va_S.rf
  clear hP
  intro H locs hP hS
  refine Gi _ _ _ ?_
  unfold wp_M_thrown at h
  refine lv_aload_n hx hb d_M_thrown_0 rfl (lv_at hl 0 rfl) ?_
  refine va_get (D := D) (ci := 2) (v := .int code) (C := R_M) (T := F_M) (N := 11) hx hb hB inF_M hown hK hP 0 rfl rfl 0 (by decide) (hB _ wd_338) (fun _ h9 => h9) rfl d_M_thrown_1 ?_
  exact W.iret (v := code) hx hb hr (fun t ht hW => ⟨⟨code, (), rfl, h, by rw [ht]; exact hP, va_K.moved hW.alike hK, hD⟩, hS.F ht⟩) hS.2.2 d_M_thrown_4
set_option maxHeartbeats 4000000 in
set_option maxRecDepth 100000 in
theorem c_M_raise (l : Launch) (D : va_G) (m0 m1 m2 m3 m4 m5 : Nat) (k1 k2 k3 k4 k5 : ClassId) (sz : Nat) (code : Int32) (funs : Int32) (made : Int32) (great : Int32) (up : Int64) (down : Int64) (size : (Nat → Int32)) (rows : (Nat → Int32)) (work : (Nat → Int32)) (xx : (Nat → Int32)) (power : (Nat → Int32)) (p0 : Int32) (post : Int32 → Int32 → Prop) : Met l y_M_raise (Cond.code y_M_raise b_M_raise 2 (some .int) :: BIG) ({ frames := 0, cells := 0, slots := 0, locals := 0 }) (va_Pc [.ref m0, .int p0] (pcG D vwCl (wM m0 m1 m2 m3 m4 m5 k1 k2 k3 k4 k5 code funs made great up down size rows work xx power) [(k1, .int), (k2, .int), (k3, .int), (k4, .int), (k5, .int)] sz (wp_M_raise code p0 post))) (va_Qi (fun (r : Int32) (u : Int32) => post r u) (fun u => atG D vwCl [(k1, .int), (k2, .int), (k3, .int), (k4, .int), (k5, .int)] (va_A (wM m0 m1 m2 m3 m4 m5 k1 k2 k3 k4 k5 code funs made great up down size rows work xx power) sz) (wM m0 m1 m2 m3 m4 m5 k1 k2 k3 k4 k5 u funs made great up down size rows work xx power)) (va_A (wM m0 m1 m2 m3 m4 m5 k1 k2 k3 k4 k5 code funs made great up down size rows work xx power) sz)) 0 0 (va_A (wM m0 m1 m2 m3 m4 m5 k1 k2 k3 k4 k5 code funs made great up down size rows work xx power) sz) := by
  refine Met.ofW (cc := b_M_raise) (maxL := 2) (ret := (some .int)) (by decide) rfl ?_
  intro p e s m args below meth c s₁ B hml hv
  obtain ⟨rfl, hsz, hP, hK, hD0, h⟩ := hv
  have hx := B.exec
  have hb := B.bytes
  have hr := B.returns
  have hB : ∀ w ∈ BIG, w.before _ s = true := fun w h => atoms_spec (ws := (Cond.code y_M_raise b_M_raise 2 (some .int) :: BIG)) B.pre w (List.mem_cons_of_mem _ h)
  have hown : s.vm.findClass R_M = some m.cls := findClass_of_methodNamed B.named
  have hlocks := B.notSynchronized
  subst hsz
  have hD := hD0.self (sz := s.heap.size)
  generalize hAe : va_A (wM m0 m1 m2 m3 m4 m5 k1 k2 k3 k4 k5 code funs made great up down size rows work xx power) s.heap.size = A at hD ⊢
  have hA : ∀ q : Nat, s.heap.size ≤ q → A q := fun q h => by rw [← hAe]; exact Or.inr h
  have hl := lv_entry ([.ref m0, .int p0]) (n := 2) (Nat.le_of_ble_eq_true rfl)
  rw [lg_entry_eq]
  generalize (lg_sl ([.ref m0, .int p0]) ++ List.replicate (2 - (lg_sl ([.ref m0, .int p0])).length) Slot.unset).toArray = ls at hl ⊢
  have hl : lv_has ls 2 [(0, .ref m0), (1, .int p0)] := hl
  refine W.cap (fun G Gi Ge => ?_)
  suffices hL : ∀ (H : Heap) (locs : List Loc), va_P D vwCl (wM m0 m1 m2 m3 m4 m5 k1 k2 k3 k4 k5 code funs made great up down size rows work xx power) H → va_S A s.heap H locs → G H locs (F0 m 0 ls []) from hL _ _ hP va_S.rf
  clear hP
  intro H locs hP hS
  refine Gi _ _ _ ?_
  unfold wp_M_raise at h
  refine lv_aload_n hx hb d_M_raise_0 rfl (lv_at hl 0 rfl) ?_
  refine lv_iload_n hx hb d_M_raise_1 rfl (lv_at hl 1 rfl) ?_
  refine va_put (D := D) (ci := 2) (v := .int p0) (ty := .int) (C := R_M) (T := F_M) (N := 11) hx hb hB inF_M t_M t_M_ok n_M hown hK hP hD hS 0 rfl rfl 0 (by decide) (hB _ wd_338) (fun _ h9 => h9) rfl (by decide +kernel) rfl rfl (Nat.le_of_ble_eq_true rfl) d_M_raise_2 (fun H locs hP hD hS => ?_)
  have hP : va_P D vwCl (wM m0 m1 m2 m3 m4 m5 k1 k2 k3 k4 k5 p0 funs made great up down size rows work xx power) H := hP
  have hD : va_D A (wM m0 m1 m2 m3 m4 m5 k1 k2 k3 k4 k5 p0 funs made great up down size rows work xx power) := hD
  refine lv_iconst (v := 0) hx hb d_M_raise_5 (by decide) ?_
  exact W.iret (v := 0) hx hb hr (fun t ht hW => ⟨⟨0, p0, rfl, h, by rw [ht]; exact hP, va_K.moved hW.alike hK, hD⟩, hS.F ht⟩) hS.2.2 d_M_raise_6
set_option maxHeartbeats 4000000 in
set_option maxRecDepth 100000 in
theorem c_M_in (l : Launch) (D : va_G) (m0 m1 m2 m3 m4 m5 : Nat) (k1 k2 k3 k4 k5 : ClassId) (sz : Nat) (code : Int32) (funs : Int32) (made : Int32) (great : Int32) (up : Int64) (down : Int64) (size : (Nat → Int32)) (rows : (Nat → Int32)) (work : (Nat → Int32)) (xx : (Nat → Int32)) (power : (Nat → Int32)) (p0 : Int64) (p1 : Int64) (p2 : Int64) (post : Int32 → Prop) : Met l y_M_in (Cond.code y_M_in b_M_in 6 (some .boolean) :: BIG) ({ frames := 0, cells := 0, slots := 0, locals := 0 }) (va_Pc [.long p0, .long p1, .long p2] (pcG D vwCl (wM m0 m1 m2 m3 m4 m5 k1 k2 k3 k4 k5 code funs made great up down size rows work xx power) [(k1, .int), (k2, .int), (k3, .int), (k4, .int), (k5, .int)] sz (wp_M_in p0 p1 p2 post))) (va_Qi (fun (r : Int32) (_ : Unit) => post r) (fun _ => atG D vwCl [(k1, .int), (k2, .int), (k3, .int), (k4, .int), (k5, .int)] (va_A (wM m0 m1 m2 m3 m4 m5 k1 k2 k3 k4 k5 code funs made great up down size rows work xx power) sz) (wM m0 m1 m2 m3 m4 m5 k1 k2 k3 k4 k5 code funs made great up down size rows work xx power)) (va_A (wM m0 m1 m2 m3 m4 m5 k1 k2 k3 k4 k5 code funs made great up down size rows work xx power) sz)) 0 0 (va_A (wM m0 m1 m2 m3 m4 m5 k1 k2 k3 k4 k5 code funs made great up down size rows work xx power) sz) := by
  refine Met.ofW (cc := b_M_in) (maxL := 6) (ret := (some .boolean)) (by decide) rfl ?_
  intro p e s m args below meth c s₁ B hml hv
  obtain ⟨rfl, hsz, hP, hK, hD0, h⟩ := hv
  have hx := B.exec
  have hb := B.bytes
  have hr := B.returns
  have hB : ∀ w ∈ BIG, w.before _ s = true := fun w h => atoms_spec (ws := (Cond.code y_M_in b_M_in 6 (some .boolean) :: BIG)) B.pre w (List.mem_cons_of_mem _ h)
  have hown : s.vm.findClass R_M = some m.cls := findClass_of_methodNamed B.named
  have hlocks := B.notSynchronized
  subst hsz
  have hD := hD0.self (sz := s.heap.size)
  generalize hAe : va_A (wM m0 m1 m2 m3 m4 m5 k1 k2 k3 k4 k5 code funs made great up down size rows work xx power) s.heap.size = A at hD ⊢
  have hA : ∀ q : Nat, s.heap.size ≤ q → A q := fun q h => by rw [← hAe]; exact Or.inr h
  have hl := lv_entry ([.long p0, .long p1, .long p2]) (n := 6) (Nat.le_of_ble_eq_true rfl)
  rw [lg_entry_eq]
  generalize (lg_sl ([.long p0, .long p1, .long p2]) ++ List.replicate (6 - (lg_sl ([.long p0, .long p1, .long p2])).length) Slot.unset).toArray = ls at hl ⊢
  have hl : lv_has ls 6 [(0, .long p0), (2, .long p1), (4, .long p2)] := hl
  refine W.cap (fun G Gi Ge => ?_)
  suffices hL : ∀ (H : Heap) (locs : List Loc), va_P D vwCl (wM m0 m1 m2 m3 m4 m5 k1 k2 k3 k4 k5 code funs made great up down size rows work xx power) H → va_S A s.heap H locs → G H locs (F0 m 0 ls []) from hL _ _ hP va_S.rf
  clear hP
  intro H locs hP hS
  refine Gi _ _ _ ?_
  unfold wp_M_in at h
  refine lv_lload_n hx hb d_M_in_0 rfl (lv_at hl 0 rfl) ?_
  refine lv_lload_n hx hb d_M_in_1 rfl (lv_at hl 1 rfl) ?_
  refine W.lcmp hx hb d_M_in_2 ?_
  refine lv_if_lt (tgt := 17) hx hb d_M_in_3 (by decide) (fun hc1 => ?_) (fun hc1 => ?_)
  · replace h := h.1 hc1
    refine lv_iconst (v := 0) hx hb d_M_in_17 (by decide) ?_
    exact W.zret (v := 0) hx hb hr (by first | rfl | decide) (fun t ht hW => ⟨⟨0, (), rfl, h, by rw [ht]; exact hP, va_K.moved hW.alike hK, hD⟩, hS.F ht⟩) hS.2.2 d_M_in_18
  · replace h := h.2 hc1
    refine lv_lload_n hx hb d_M_in_6 rfl (lv_at hl 0 rfl) ?_
    refine lv_lload hx hb d_M_in_7 (lv_at hl 2 rfl) ?_
    refine W.lcmp hx hb d_M_in_9 ?_
    refine lv_if_gt (tgt := 17) hx hb d_M_in_10 (by decide) (fun hc2 => ?_) (fun hc2 => ?_)
    · replace h := h.1 hc2
      refine lv_iconst (v := 0) hx hb d_M_in_17 (by decide) ?_
      exact W.zret (v := 0) hx hb hr (by first | rfl | decide) (fun t ht hW => ⟨⟨0, (), rfl, h, by rw [ht]; exact hP, va_K.moved hW.alike hK, hD⟩, hS.F ht⟩) hS.2.2 d_M_in_18
    · replace h := h.2 hc2
      refine lv_iconst (v := 1) hx hb d_M_in_13 (by decide) ?_
      refine lv_goto (tgt := 18) hx hb d_M_in_14 (by decide) ?_
      exact W.zret (v := 1) hx hb hr (by first | rfl | decide) (fun t ht hW => ⟨⟨1, (), rfl, h, by rw [ht]; exact hP, va_K.moved hW.alike hK, hD⟩, hS.F ht⟩) hS.2.2 d_M_in_18
set_option maxHeartbeats 4000000 in
set_option maxRecDepth 100000 in
theorem c_M_size (l : Launch) (D : va_G) (m0 m1 m2 m3 m4 m5 : Nat) (k1 k2 k3 k4 k5 : ClassId) (sz : Nat) (code : Int32) (funs : Int32) (made : Int32) (great : Int32) (up : Int64) (down : Int64) (size : (Nat → Int32)) (rows : (Nat → Int32)) (work : (Nat → Int32)) (xx : (Nat → Int32)) (power : (Nat → Int32)) (p0 : Int64) (post : Int64 → Prop) : Met l y_M_size (Cond.code y_M_size b_M_size 2 (some .long) :: BIG) ({ frames := 0, cells := 0, slots := 0, locals := 0 }) (va_Pc [.long p0] (pcG D vwCl (wM m0 m1 m2 m3 m4 m5 k1 k2 k3 k4 k5 code funs made great up down size rows work xx power) [(k1, .int), (k2, .int), (k3, .int), (k4, .int), (k5, .int)] sz (wp_M_size p0 post))) (va_Ql (fun (r : Int64) (_ : Unit) => post r) (fun _ => atG D vwCl [(k1, .int), (k2, .int), (k3, .int), (k4, .int), (k5, .int)] (va_A (wM m0 m1 m2 m3 m4 m5 k1 k2 k3 k4 k5 code funs made great up down size rows work xx power) sz) (wM m0 m1 m2 m3 m4 m5 k1 k2 k3 k4 k5 code funs made great up down size rows work xx power)) (va_A (wM m0 m1 m2 m3 m4 m5 k1 k2 k3 k4 k5 code funs made great up down size rows work xx power) sz)) 0 0 (va_A (wM m0 m1 m2 m3 m4 m5 k1 k2 k3 k4 k5 code funs made great up down size rows work xx power) sz) := by
  refine Met.ofW (cc := b_M_size) (maxL := 2) (ret := (some .long)) (by decide) rfl ?_
  intro p e s m args below meth c s₁ B hml hv
  obtain ⟨rfl, hsz, hP, hK, hD0, h⟩ := hv
  have hx := B.exec
  have hb := B.bytes
  have hr := B.returns
  have hB : ∀ w ∈ BIG, w.before _ s = true := fun w h => atoms_spec (ws := (Cond.code y_M_size b_M_size 2 (some .long) :: BIG)) B.pre w (List.mem_cons_of_mem _ h)
  have hown : s.vm.findClass R_M = some m.cls := findClass_of_methodNamed B.named
  have hlocks := B.notSynchronized
  subst hsz
  have hD := hD0.self (sz := s.heap.size)
  generalize hAe : va_A (wM m0 m1 m2 m3 m4 m5 k1 k2 k3 k4 k5 code funs made great up down size rows work xx power) s.heap.size = A at hD ⊢
  have hA : ∀ q : Nat, s.heap.size ≤ q → A q := fun q h => by rw [← hAe]; exact Or.inr h
  have hl := lv_entry ([.long p0]) (n := 2) (Nat.le_of_ble_eq_true rfl)
  rw [lg_entry_eq]
  generalize (lg_sl ([.long p0]) ++ List.replicate (2 - (lg_sl ([.long p0])).length) Slot.unset).toArray = ls at hl ⊢
  have hl : lv_has ls 2 [(0, .long p0)] := hl
  refine W.cap (fun G Gi Ge => ?_)
  suffices hL : ∀ (H : Heap) (locs : List Loc), va_P D vwCl (wM m0 m1 m2 m3 m4 m5 k1 k2 k3 k4 k5 code funs made great up down size rows work xx power) H → va_S A s.heap H locs → G H locs (F0 m 0 ls []) from hL _ _ hP va_S.rf
  clear hP
  intro H locs hP hS
  refine Gi _ _ _ ?_
  unfold wp_M_size at h
  refine lv_lload_n hx hb d_M_size_0 rfl (lv_at hl 0 rfl) ?_
  refine lv_lconst (v := 0) hx hb d_M_size_1 (by decide) ?_
  refine W.lcmp hx hb d_M_size_2 ?_
  refine lv_if_ge (tgt := 11) hx hb d_M_size_3 (by decide) (fun hc1 => ?_) (fun hc1 => ?_)
  · replace h := h.1 hc1
    refine lv_lload_n hx hb d_M_size_11 rfl (lv_at hl 0 rfl) ?_
    exact W.lret (v := p0) hx hb hr (fun t ht hW => ⟨⟨p0, (), rfl, h, by rw [ht]; exact hP, va_K.moved hW.alike hK, hD⟩, hS.F ht⟩) hS.2.2 d_M_size_12
  · replace h := h.2 hc1
    refine lv_lload_n hx hb d_M_size_6 rfl (lv_at hl 0 rfl) ?_
    refine lv_lneg hx hb d_M_size_7 ?_
    refine lv_goto (tgt := 12) hx hb d_M_size_8 (by decide) ?_
    exact W.lret (v := -p0) hx hb hr (fun t ht hW => ⟨⟨-p0, (), rfl, h, by rw [ht]; exact hP, va_K.moved hW.alike hK, hD⟩, hS.F ht⟩) hS.2.2 d_M_size_12
set_option maxHeartbeats 4000000 in
set_option maxRecDepth 100000 in
theorem c_M_divisor (l : Launch) (D : va_G) (m0 m1 m2 m3 m4 m5 : Nat) (k1 k2 k3 k4 k5 : ClassId) (sz : Nat) (code : Int32) (funs : Int32) (made : Int32) (great : Int32) (up : Int64) (down : Int64) (size : (Nat → Int32)) (rows : (Nat → Int32)) (work : (Nat → Int32)) (xx : (Nat → Int32)) (power : (Nat → Int32)) (p0 : Int64) (p1 : Int64) (post : Int64 → Prop) : Met l y_M_divisor (Cond.code y_M_divisor b_M_divisor 10 (some .long) :: BIG) ({ frames := 1, cells := 0, slots := 0, locals := 21 }) (va_Pc [.long p0, .long p1] (pcG D vwCl (wM m0 m1 m2 m3 m4 m5 k1 k2 k3 k4 k5 code funs made great up down size rows work xx power) [(k1, .int), (k2, .int), (k3, .int), (k4, .int), (k5, .int)] sz (wp_M_divisor p0 p1 post))) (va_Ql (fun (r : Int64) (_ : Unit) => post r) (fun _ => atG D vwCl [(k1, .int), (k2, .int), (k3, .int), (k4, .int), (k5, .int)] (va_A (wM m0 m1 m2 m3 m4 m5 k1 k2 k3 k4 k5 code funs made great up down size rows work xx power) sz) (wM m0 m1 m2 m3 m4 m5 k1 k2 k3 k4 k5 code funs made great up down size rows work xx power)) (va_A (wM m0 m1 m2 m3 m4 m5 k1 k2 k3 k4 k5 code funs made great up down size rows work xx power) sz)) 0 0 (va_A (wM m0 m1 m2 m3 m4 m5 k1 k2 k3 k4 k5 code funs made great up down size rows work xx power) sz) := by
  refine Met.ofW (cc := b_M_divisor) (maxL := 10) (ret := (some .long)) (by decide) rfl ?_
  intro p e s m args below meth c s₁ B hml hv
  obtain ⟨rfl, hsz, hP, hK, hD0, h⟩ := hv
  have hx := B.exec
  have hb := B.bytes
  have hr := B.returns
  have hB : ∀ w ∈ BIG, w.before _ s = true := fun w h => atoms_spec (ws := (Cond.code y_M_divisor b_M_divisor 10 (some .long) :: BIG)) B.pre w (List.mem_cons_of_mem _ h)
  have hown : s.vm.findClass R_M = some m.cls := findClass_of_methodNamed B.named
  have hlocks := B.notSynchronized
  subst hsz
  have hD := hD0.self (sz := s.heap.size)
  generalize hAe : va_A (wM m0 m1 m2 m3 m4 m5 k1 k2 k3 k4 k5 code funs made great up down size rows work xx power) s.heap.size = A at hD ⊢
  have hA : ∀ q : Nat, s.heap.size ≤ q → A q := fun q h => by rw [← hAe]; exact Or.inr h
  have hl := lv_entry ([.long p0, .long p1]) (n := 10) (Nat.le_of_ble_eq_true rfl)
  rw [lg_entry_eq]
  generalize (lg_sl ([.long p0, .long p1]) ++ List.replicate (10 - (lg_sl ([.long p0, .long p1])).length) Slot.unset).toArray = ls at hl ⊢
  have hl : lv_has ls 10 [(0, .long p0), (2, .long p1)] := hl
  refine W.cap (fun G Gi Ge => ?_)
  suffices hL : ∀ (H : Heap) (locs : List Loc), va_P D vwCl (wM m0 m1 m2 m3 m4 m5 k1 k2 k3 k4 k5 code funs made great up down size rows work xx power) H → va_S A s.heap H locs → G H locs (F0 m 0 ls []) from hL _ _ hP va_S.rf
  clear hP
  intro H locs hP hS
  refine Gi _ _ _ ?_
  unfold wp_M_divisor at h
  refine lv_lload_n hx hb d_M_divisor_0 rfl (lv_at hl 0 rfl) ?_
  have hF1 := va_free (wc := (wM m0 m1 m2 m3 m4 m5 k1 k2 k3 k4 k5 code funs made great up down size rows work xx power)) hD hS hA [0, 1, 2, 3, 4, 5] rfl
  refine va_calll (va_runS (As := [.long p0]) (rest := []) ⟨hx, hb, hml, hown, hB⟩ (c_M_size l D m0 m1 m2 m3 m4 m5 k1 k2 k3 k4 k5 H.size code funs made great up down size rows work xx power p0 _) (cwS 1 hB (goodS wd_369 wd_370 wd_3 wd_371) rfl rfl rfl (by decide +kernel) ⟨Nat.le_of_ble_eq_true rfl, Nat.le_of_ble_eq_true rfl⟩) ⟨pcG_blind, pcG_pre hP hK hD h⟩ rfl rfl hl.1 rfl (lv_room (Nat.le_of_ble_eq_true rfl)) d_M_divisor_1 ⟨Nat.le_of_ble_eq_true rfl, Nat.le_of_ble_eq_true rfl⟩) hS (fun q _ h => hF1 q h) hF1 (fun r2 u t H locs ht hvm h hB hz1 hk1 hS => ?_)
  obtain ⟨hP1, hK1, hD1⟩ := hB
  rw [ht] at hP1
  have hP : va_P D vwCl (wM m0 m1 m2 m3 m4 m5 k1 k2 k3 k4 k5 code funs made great up down size rows work xx power) H := hP1
  have hD : va_D A (wM m0 m1 m2 m3 m4 m5 k1 k2 k3 k4 k5 code funs made great up down size rows work xx power) := hD1.weaken (fun _ _ _ hq => hF1 _ hq)
  refine lv_lstore (lv' := [(4, .long r2), (0, .long p0), (2, .long p1)]) hx hb d_M_divisor_4 hl (by decide) rfl (fun ls hl => ?_)
  refine lv_lload_n hx hb d_M_divisor_6 rfl (lv_at hl 2 rfl) ?_
  have hF3 := va_free (wc := (wM m0 m1 m2 m3 m4 m5 k1 k2 k3 k4 k5 code funs made great up down size rows work xx power)) hD hS hA [0, 1, 2, 3, 4, 5] rfl
  refine va_calll (va_runS (As := [.long p1]) (rest := []) ⟨hx, hb, hml, hown, hB⟩ (c_M_size l D m0 m1 m2 m3 m4 m5 k1 k2 k3 k4 k5 H.size code funs made great up down size rows work xx power p1 _) (cwS 1 hB (goodS wd_369 wd_370 wd_3 wd_371) rfl rfl rfl (by decide +kernel) ⟨Nat.le_of_ble_eq_true rfl, Nat.le_of_ble_eq_true rfl⟩) ⟨pcG_blind, pcG_pre hP hK hD h⟩ rfl rfl hl.1 rfl (lv_room (Nat.le_of_ble_eq_true rfl)) d_M_divisor_7 ⟨Nat.le_of_ble_eq_true rfl, Nat.le_of_ble_eq_true rfl⟩) hS (fun q _ h => hF3 q h) hF3 (fun r4 u t H locs ht hvm h hB hz1 hk1 hS => ?_)
  obtain ⟨hP1, hK1, hD1⟩ := hB
  rw [ht] at hP1
  have hP : va_P D vwCl (wM m0 m1 m2 m3 m4 m5 k1 k2 k3 k4 k5 code funs made great up down size rows work xx power) H := hP1
  have hD : va_D A (wM m0 m1 m2 m3 m4 m5 k1 k2 k3 k4 k5 code funs made great up down size rows work xx power) := hD1.weaken (fun _ _ _ hq => hF3 _ hq)
  refine lv_lstore (lv' := [(6, .long r4), (4, .long r2), (0, .long p0), (2, .long p1)]) hx hb d_M_divisor_10 hl (by decide) rfl (fun ls hl => ?_)
  obtain ⟨n12, h⟩ := h
  refine W.cap (fun G12 Gi12 Ge12 => ?_)
  suffices hL12 : ∀ (n12 : Nat) (v4_5 : Int64) (v6_6 : Int64) (H : Heap) (locs : List Loc) (ls : Array Slot), va_P D vwCl (wM m0 m1 m2 m3 m4 m5 k1 k2 k3 k4 k5 code funs made great up down size rows work xx power) H → va_D A (wM m0 m1 m2 m3 m4 m5 k1 k2 k3 k4 k5 code funs made great up down size rows work xx power) → va_S A s.heap H locs → lv_has ls 10 [(6, .long v6_6), (4, .long v4_5), (0, .long p0), (2, .long p1)] → lpW2 (wb_M_divisor_12 post) n12 v4_5 v6_6 → G12 H locs (F0 m 12 ls []) from hL12 n12 r2 r4 _ _ _ hP hD hS hl h
  clear h hP hD hS hl
  intro n12
  induction n12 with
  | zero => intro v4_5 v6_6 H locs ls hP hD hS hl h; exact (show False from h).elim
  | succ n12 ihL12 =>
    intro v4_5 v6_6 H locs ls hP hD hS hl h
    replace h : (wb_M_divisor_12 post) (lpW2 (wb_M_divisor_12 post) n12) v4_5 v6_6 := h
    refine Gi12 _ _ _ ?_
    refine lv_lload hx hb d_M_divisor_12 (lv_at hl 0 rfl) ?_
    refine lv_lconst (v := 0) hx hb d_M_divisor_14 (by decide) ?_
    refine W.lcmp hx hb d_M_divisor_15 ?_
    refine lv_if_eq (tgt := 37) hx hb d_M_divisor_16 (by decide) (fun hc7 => ?_) (fun hc7 => ?_)
    · replace h := h.1 hc7
      refine lv_lload hx hb d_M_divisor_37 (lv_at hl 1 rfl) ?_
      exact W.lret (v := v4_5) hx hb hr (fun t ht hW => ⟨⟨v4_5, (), rfl, h, by rw [ht]; exact hP, va_K.moved hW.alike hK, hD⟩, hS.F ht⟩) hS.2.2 d_M_divisor_39
    · replace h := h.2 hc7
      refine lv_lload hx hb d_M_divisor_19 (lv_at hl 1 rfl) ?_
      refine lv_lload hx hb d_M_divisor_21 (lv_at hl 0 rfl) ?_
      obtain ⟨g8, h⟩ := h
      refine lv_lrem hx hb d_M_divisor_23 g8 ?_
      refine lv_topl (fun x9 ex9 => ?_)
      replace h := h x9 ex9
      refine lv_lstore (lv' := [(8, .long x9), (6, .long v6_6), (4, .long v4_5), (0, .long p0), (2, .long p1)]) hx hb d_M_divisor_24 hl (by decide) rfl (fun ls hl => ?_)
      refine lv_lload hx hb d_M_divisor_26 (lv_at hl 1 rfl) ?_
      refine lv_lstore (lv' := [(4, .long v6_6), (8, .long x9), (6, .long v6_6), (0, .long p0), (2, .long p1)]) hx hb d_M_divisor_28 hl (by decide) rfl (fun ls hl => ?_)
      refine lv_lload hx hb d_M_divisor_30 (lv_at hl 1 rfl) ?_
      refine lv_lstore (lv' := [(6, .long x9), (4, .long v6_6), (8, .long x9), (0, .long p0), (2, .long p1)]) hx hb d_M_divisor_32 hl (by decide) rfl (fun ls hl => ?_)
      refine lv_goto (tgt := 12) hx hb d_M_divisor_34 (by decide) ?_
      exact Ge12 _ _ _ (ihL12 v6_6 x9 _ _ _ hP hD hS (lv_sub hl [0, 1, 3, 4] rfl) h)
set_option maxHeartbeats 4000000 in
set_option maxRecDepth 100000 in
theorem c_M_lowest (l : Launch) (D : va_G) (m0 m1 m2 m3 m4 m5 : Nat) (k1 k2 k3 k4 k5 : ClassId) (sz : Nat) (code : Int32) (funs : Int32) (made : Int32) (great : Int32) (up : Int64) (down : Int64) (size : (Nat → Int32)) (rows : (Nat → Int32)) (work : (Nat → Int32)) (xx : (Nat → Int32)) (power : (Nat → Int32)) (p0 : Int64) (p1 : Int64) (post : Int64 → Int64 → Prop) : Met l y_M_lowest (Cond.code y_M_lowest b_M_lowest 7 none :: BIG) ({ frames := 2, cells := 0, slots := 0, locals := 50 }) (va_Pc [.ref m0, .long p0, .long p1] (pcG D vwCl (wM m0 m1 m2 m3 m4 m5 k1 k2 k3 k4 k5 code funs made great up down size rows work xx power) [(k1, .int), (k2, .int), (k3, .int), (k4, .int), (k5, .int)] sz (wp_M_lowest up down p0 p1 post))) (va_Qv (fun (u : Int64 × Int64) => post (u.1) (u.2)) (fun u => atG D vwCl [(k1, .int), (k2, .int), (k3, .int), (k4, .int), (k5, .int)] (va_A (wM m0 m1 m2 m3 m4 m5 k1 k2 k3 k4 k5 code funs made great up down size rows work xx power) sz) (wM m0 m1 m2 m3 m4 m5 k1 k2 k3 k4 k5 code funs made great (u.1) (u.2) size rows work xx power)) (va_A (wM m0 m1 m2 m3 m4 m5 k1 k2 k3 k4 k5 code funs made great up down size rows work xx power) sz)) 0 0 (va_A (wM m0 m1 m2 m3 m4 m5 k1 k2 k3 k4 k5 code funs made great up down size rows work xx power) sz) := by
  refine Met.ofW (cc := b_M_lowest) (maxL := 7) (ret := none) (by decide) rfl ?_
  intro p e s m args below meth c s₁ B hml hv
  obtain ⟨rfl, hsz, hP, hK, hD0, h⟩ := hv
  have hx := B.exec
  have hb := B.bytes
  have hr := B.returns
  have hB : ∀ w ∈ BIG, w.before _ s = true := fun w h => atoms_spec (ws := (Cond.code y_M_lowest b_M_lowest 7 none :: BIG)) B.pre w (List.mem_cons_of_mem _ h)
  have hown : s.vm.findClass R_M = some m.cls := findClass_of_methodNamed B.named
  have hlocks := B.notSynchronized
  subst hsz
  have hD := hD0.self (sz := s.heap.size)
  generalize hAe : va_A (wM m0 m1 m2 m3 m4 m5 k1 k2 k3 k4 k5 code funs made great up down size rows work xx power) s.heap.size = A at hD ⊢
  have hA : ∀ q : Nat, s.heap.size ≤ q → A q := fun q h => by rw [← hAe]; exact Or.inr h
  have hl := lv_entry ([.ref m0, .long p0, .long p1]) (n := 7) (Nat.le_of_ble_eq_true rfl)
  rw [lg_entry_eq]
  generalize (lg_sl ([.ref m0, .long p0, .long p1]) ++ List.replicate (7 - (lg_sl ([.ref m0, .long p0, .long p1])).length) Slot.unset).toArray = ls at hl ⊢
  have hl : lv_has ls 7 [(0, .ref m0), (1, .long p0), (3, .long p1)] := hl
  refine W.cap (fun G Gi Ge => ?_)
  suffices hL : ∀ (H : Heap) (locs : List Loc), va_P D vwCl (wM m0 m1 m2 m3 m4 m5 k1 k2 k3 k4 k5 code funs made great up down size rows work xx power) H → va_S A s.heap H locs → G H locs (F0 m 0 ls []) from hL _ _ hP va_S.rf
  clear hP
  intro H locs hP hS
  refine Gi _ _ _ ?_
  unfold wp_M_lowest at h
  refine lv_lload_n hx hb d_M_lowest_0 rfl (lv_at hl 1 rfl) ?_
  refine lv_lload_n hx hb d_M_lowest_1 rfl (lv_at hl 2 rfl) ?_
  have hF1 := va_free (wc := (wM m0 m1 m2 m3 m4 m5 k1 k2 k3 k4 k5 code funs made great up down size rows work xx power)) hD hS hA [0, 1, 2, 3, 4, 5] rfl
  refine va_calll (va_runS (As := [.long p0, .long p1]) (rest := []) ⟨hx, hb, hml, hown, hB⟩ (c_M_divisor l D m0 m1 m2 m3 m4 m5 k1 k2 k3 k4 k5 H.size code funs made great up down size rows work xx power p0 p1 _) (cwS 2 hB (goodS wd_366 wd_367 wd_3 wd_368) rfl rfl rfl (by decide +kernel) ⟨Nat.le_of_ble_eq_true rfl, Nat.le_of_ble_eq_true rfl⟩) ⟨pcG_blind, pcG_pre hP hK hD h⟩ rfl rfl hl.1 rfl (lv_room (Nat.le_of_ble_eq_true rfl)) d_M_lowest_2 ⟨Nat.le_of_ble_eq_true rfl, Nat.le_of_ble_eq_true rfl⟩) hS (fun q _ h => hF1 q h) hF1 (fun r2 u t H locs ht hvm h hB hz1 hk1 hS => ?_)
  obtain ⟨hP1, hK1, hD1⟩ := hB
  rw [ht] at hP1
  have hP : va_P D vwCl (wM m0 m1 m2 m3 m4 m5 k1 k2 k3 k4 k5 code funs made great up down size rows work xx power) H := hP1
  have hD : va_D A (wM m0 m1 m2 m3 m4 m5 k1 k2 k3 k4 k5 code funs made great up down size rows work xx power) := hD1.weaken (fun _ _ _ hq => hF1 _ hq)
  refine lv_lstore (lv' := [(5, .long r2), (0, .ref m0), (1, .long p0), (3, .long p1)]) hx hb d_M_lowest_5 hl (by decide) rfl (fun ls hl => ?_)
  refine lv_aload_n hx hb d_M_lowest_7 rfl (lv_at hl 1 rfl) ?_
  refine lv_lload_n hx hb d_M_lowest_8 rfl (lv_at hl 3 rfl) ?_
  refine lv_lconst (v := 0) hx hb d_M_lowest_9 (by decide) ?_
  refine W.lcmp hx hb d_M_lowest_10 ?_
  refine lv_if_ge (tgt := 22) hx hb d_M_lowest_11 (by decide) (fun hc3 => ?_) (fun hc3 => ?_)
  · replace h := h.1 hc3
    refine lv_lload_n hx hb d_M_lowest_22 rfl (lv_at hl 2 rfl) ?_
    refine lv_lload hx hb d_M_lowest_23 (lv_at hl 0 rfl) ?_
    obtain ⟨g4, h⟩ := h
    refine lv_ldiv hx hb d_M_lowest_25 g4 ?_
    refine lv_topl (fun x5 ex5 => ?_)
    replace h := h x5 ex5
    refine va_put (D := D) (ci := 2) (v := .long x5) (ty := .long) (C := R_M) (T := F_M) (N := 11) hx hb hB inF_M t_M t_M_ok n_M hown hK hP hD hS 0 rfl rfl 9 (by decide) (hB _ wd_347) (fun _ h9 => h9) rfl (by decide +kernel) rfl rfl (Nat.le_of_ble_eq_true rfl) d_M_lowest_26 (fun H locs hP hD hS => ?_)
    have hP : va_P D vwCl (wM m0 m1 m2 m3 m4 m5 k1 k2 k3 k4 k5 code funs made great x5 down size rows work xx power) H := hP
    have hD : va_D A (wM m0 m1 m2 m3 m4 m5 k1 k2 k3 k4 k5 code funs made great x5 down size rows work xx power) := hD
    refine lv_aload_n hx hb d_M_lowest_29 rfl (lv_at hl 1 rfl) ?_
    refine lv_lload_n hx hb d_M_lowest_30 rfl (lv_at hl 3 rfl) ?_
    have hF6 := va_free (wc := (wM m0 m1 m2 m3 m4 m5 k1 k2 k3 k4 k5 code funs made great x5 down size rows work xx power)) hD hS hA [0, 1, 2, 3, 4, 5] rfl
    refine va_calll (va_runS (As := [.long p1]) (rest := [.ref m0]) ⟨hx, hb, hml, hown, hB⟩ (c_M_size l D m0 m1 m2 m3 m4 m5 k1 k2 k3 k4 k5 H.size code funs made great x5 down size rows work xx power p1 _) (cwS 1 hB (goodS wd_369 wd_370 wd_3 wd_371) rfl rfl rfl (by decide +kernel) ⟨Nat.le_of_ble_eq_true rfl, Nat.le_of_ble_eq_true rfl⟩) ⟨pcG_blind, pcG_pre hP hK hD h⟩ rfl rfl hl.1 rfl (lv_room (Nat.le_of_ble_eq_true rfl)) d_M_lowest_31 ⟨Nat.le_of_ble_eq_true rfl, Nat.le_of_ble_eq_true rfl⟩) hS (fun q _ h => hF6 q h) hF6 (fun r7 u t H locs ht hvm h hB hz1 hk1 hS => ?_)
    obtain ⟨hP1, hK1, hD1⟩ := hB
    rw [ht] at hP1
    have hP : va_P D vwCl (wM m0 m1 m2 m3 m4 m5 k1 k2 k3 k4 k5 code funs made great x5 down size rows work xx power) H := hP1
    have hD : va_D A (wM m0 m1 m2 m3 m4 m5 k1 k2 k3 k4 k5 code funs made great x5 down size rows work xx power) := hD1.weaken (fun _ _ _ hq => hF6 _ hq)
    refine lv_lload hx hb d_M_lowest_34 (lv_at hl 0 rfl) ?_
    obtain ⟨g8, h⟩ := h
    refine lv_ldiv hx hb d_M_lowest_36 g8 ?_
    refine lv_topl (fun x9 ex9 => ?_)
    replace h := h x9 ex9
    refine va_put (D := D) (ci := 2) (v := .long x9) (ty := .long) (C := R_M) (T := F_M) (N := 11) hx hb hB inF_M t_M t_M_ok n_M hown hK hP hD hS 0 rfl rfl 10 (by decide) (hB _ wd_348) (fun _ h9 => h9) rfl (by decide +kernel) rfl rfl (Nat.le_of_ble_eq_true rfl) d_M_lowest_37 (fun H locs hP hD hS => ?_)
    have hP : va_P D vwCl (wM m0 m1 m2 m3 m4 m5 k1 k2 k3 k4 k5 code funs made great x5 x9 size rows work xx power) H := hP
    have hD : va_D A (wM m0 m1 m2 m3 m4 m5 k1 k2 k3 k4 k5 code funs made great x5 x9 size rows work xx power) := hD
    exact W.vret hx hb hr (fun t ht hW => ⟨⟨(x5, x9), rfl, h, by rw [ht]; exact hP, va_K.moved hW.alike hK, hD⟩, hS.F ht⟩) hS.2.2 d_M_lowest_40
  · replace h := h.2 hc3
    refine lv_lload_n hx hb d_M_lowest_14 rfl (lv_at hl 2 rfl) ?_
    refine lv_lneg hx hb d_M_lowest_15 ?_
    refine lv_lload hx hb d_M_lowest_16 (lv_at hl 0 rfl) ?_
    obtain ⟨g10, h⟩ := h
    refine lv_ldiv hx hb d_M_lowest_18 g10 ?_
    refine lv_goto (tgt := 26) hx hb d_M_lowest_19 (by decide) ?_
    refine lv_topl (fun x11 ex11 => ?_)
    replace h := h x11 ex11
    refine va_put (D := D) (ci := 2) (v := .long x11) (ty := .long) (C := R_M) (T := F_M) (N := 11) hx hb hB inF_M t_M t_M_ok n_M hown hK hP hD hS 0 rfl rfl 9 (by decide) (hB _ wd_347) (fun _ h9 => h9) rfl (by decide +kernel) rfl rfl (Nat.le_of_ble_eq_true rfl) d_M_lowest_26 (fun H locs hP hD hS => ?_)
    have hP : va_P D vwCl (wM m0 m1 m2 m3 m4 m5 k1 k2 k3 k4 k5 code funs made great x11 down size rows work xx power) H := hP
    have hD : va_D A (wM m0 m1 m2 m3 m4 m5 k1 k2 k3 k4 k5 code funs made great x11 down size rows work xx power) := hD
    refine lv_aload_n hx hb d_M_lowest_29 rfl (lv_at hl 1 rfl) ?_
    refine lv_lload_n hx hb d_M_lowest_30 rfl (lv_at hl 3 rfl) ?_
    have hF12 := va_free (wc := (wM m0 m1 m2 m3 m4 m5 k1 k2 k3 k4 k5 code funs made great x11 down size rows work xx power)) hD hS hA [0, 1, 2, 3, 4, 5] rfl
    refine va_calll (va_runS (As := [.long p1]) (rest := [.ref m0]) ⟨hx, hb, hml, hown, hB⟩ (c_M_size l D m0 m1 m2 m3 m4 m5 k1 k2 k3 k4 k5 H.size code funs made great x11 down size rows work xx power p1 _) (cwS 1 hB (goodS wd_369 wd_370 wd_3 wd_371) rfl rfl rfl (by decide +kernel) ⟨Nat.le_of_ble_eq_true rfl, Nat.le_of_ble_eq_true rfl⟩) ⟨pcG_blind, pcG_pre hP hK hD h⟩ rfl rfl hl.1 rfl (lv_room (Nat.le_of_ble_eq_true rfl)) d_M_lowest_31 ⟨Nat.le_of_ble_eq_true rfl, Nat.le_of_ble_eq_true rfl⟩) hS (fun q _ h => hF12 q h) hF12 (fun r13 u t H locs ht hvm h hB hz1 hk1 hS => ?_)
    obtain ⟨hP1, hK1, hD1⟩ := hB
    rw [ht] at hP1
    have hP : va_P D vwCl (wM m0 m1 m2 m3 m4 m5 k1 k2 k3 k4 k5 code funs made great x11 down size rows work xx power) H := hP1
    have hD : va_D A (wM m0 m1 m2 m3 m4 m5 k1 k2 k3 k4 k5 code funs made great x11 down size rows work xx power) := hD1.weaken (fun _ _ _ hq => hF12 _ hq)
    refine lv_lload hx hb d_M_lowest_34 (lv_at hl 0 rfl) ?_
    obtain ⟨g14, h⟩ := h
    refine lv_ldiv hx hb d_M_lowest_36 g14 ?_
    refine lv_topl (fun x15 ex15 => ?_)
    replace h := h x15 ex15
    refine va_put (D := D) (ci := 2) (v := .long x15) (ty := .long) (C := R_M) (T := F_M) (N := 11) hx hb hB inF_M t_M t_M_ok n_M hown hK hP hD hS 0 rfl rfl 10 (by decide) (hB _ wd_348) (fun _ h9 => h9) rfl (by decide +kernel) rfl rfl (Nat.le_of_ble_eq_true rfl) d_M_lowest_37 (fun H locs hP hD hS => ?_)
    have hP : va_P D vwCl (wM m0 m1 m2 m3 m4 m5 k1 k2 k3 k4 k5 code funs made great x11 x15 size rows work xx power) H := hP
    have hD : va_D A (wM m0 m1 m2 m3 m4 m5 k1 k2 k3 k4 k5 code funs made great x11 x15 size rows work xx power) := hD
    exact W.vret hx hb hr (fun t ht hW => ⟨⟨(x11, x15), rfl, h, by rw [ht]; exact hP, va_K.moved hW.alike hK, hD⟩, hS.F ht⟩) hS.2.2 d_M_lowest_40
set_option maxHeartbeats 4000000 in
set_option maxRecDepth 100000 in
theorem c_M_bound (l : Launch) (D : va_G) (m0 m1 m2 m3 m4 m5 : Nat) (k1 k2 k3 k4 k5 : ClassId) (sz : Nat) (code : Int32) (funs : Int32) (made : Int32) (great : Int32) (up : Int64) (down : Int64) (size : (Nat → Int32)) (rows : (Nat → Int32)) (work : (Nat → Int32)) (xx : (Nat → Int32)) (power : (Nat → Int32)) (post : Int32 → Prop) : Met l y_M_bound (Cond.code y_M_bound b_M_bound 1 none :: BIG) ({ frames := 1, cells := 0, slots := 0, locals := 21 }) (va_Pc [.ref m0] (pcG D vwCl (wM m0 m1 m2 m3 m4 m5 k1 k2 k3 k4 k5 code funs made great up down size rows work xx power) [(k1, .int), (k2, .int), (k3, .int), (k4, .int), (k5, .int)] sz (wp_M_bound great up down post))) (va_Qv (fun (u : Int32) => post u) (fun u => atG D vwCl [(k1, .int), (k2, .int), (k3, .int), (k4, .int), (k5, .int)] (va_A (wM m0 m1 m2 m3 m4 m5 k1 k2 k3 k4 k5 code funs made great up down size rows work xx power) sz) (wM m0 m1 m2 m3 m4 m5 k1 k2 k3 k4 k5 code funs made u up down size rows work xx power)) (va_A (wM m0 m1 m2 m3 m4 m5 k1 k2 k3 k4 k5 code funs made great up down size rows work xx power) sz)) 0 0 (va_A (wM m0 m1 m2 m3 m4 m5 k1 k2 k3 k4 k5 code funs made great up down size rows work xx power) sz) := by
  refine Met.ofW (cc := b_M_bound) (maxL := 1) (ret := none) (by decide) rfl ?_
  intro p e s m args below meth c s₁ B hml hv
  obtain ⟨rfl, hsz, hP, hK, hD0, h⟩ := hv
  have hx := B.exec
  have hb := B.bytes
  have hr := B.returns
  have hB : ∀ w ∈ BIG, w.before _ s = true := fun w h => atoms_spec (ws := (Cond.code y_M_bound b_M_bound 1 none :: BIG)) B.pre w (List.mem_cons_of_mem _ h)
  have hown : s.vm.findClass R_M = some m.cls := findClass_of_methodNamed B.named
  have hlocks := B.notSynchronized
  subst hsz
  have hD := hD0.self (sz := s.heap.size)
  generalize hAe : va_A (wM m0 m1 m2 m3 m4 m5 k1 k2 k3 k4 k5 code funs made great up down size rows work xx power) s.heap.size = A at hD ⊢
  have hA : ∀ q : Nat, s.heap.size ≤ q → A q := fun q h => by rw [← hAe]; exact Or.inr h
  have hl := lv_entry ([.ref m0]) (n := 1) (Nat.le_of_ble_eq_true rfl)
  rw [lg_entry_eq]
  generalize (lg_sl ([.ref m0]) ++ List.replicate (1 - (lg_sl ([.ref m0])).length) Slot.unset).toArray = ls at hl ⊢
  have hl : lv_has ls 1 [(0, .ref m0)] := hl
  refine W.cap (fun G Gi Ge => ?_)
  suffices hL : ∀ (H : Heap) (locs : List Loc), va_P D vwCl (wM m0 m1 m2 m3 m4 m5 k1 k2 k3 k4 k5 code funs made great up down size rows work xx power) H → va_S A s.heap H locs → G H locs (F0 m 0 ls []) from hL _ _ hP va_S.rf
  clear hP
  intro H locs hP hS
  refine Gi _ _ _ ?_
  unfold wp_M_bound at h
  refine lv_aload_n hx hb d_M_bound_0 rfl (lv_at hl 0 rfl) ?_
  refine va_get (D := D) (ci := 2) (v := .long up) (C := R_M) (T := F_M) (N := 11) hx hb hB inF_M hown hK hP 0 rfl rfl 9 (by decide) (hB _ wd_347) (fun _ h9 => h9) rfl d_M_bound_1 ?_
  have hF1 := va_free (wc := (wM m0 m1 m2 m3 m4 m5 k1 k2 k3 k4 k5 code funs made great up down size rows work xx power)) hD hS hA [0, 1, 2, 3, 4, 5] rfl
  refine va_calll (va_runS (As := [.long up]) (rest := []) ⟨hx, hb, hml, hown, hB⟩ (c_M_size l D m0 m1 m2 m3 m4 m5 k1 k2 k3 k4 k5 H.size code funs made great up down size rows work xx power up _) (cwS 1 hB (goodS wd_369 wd_370 wd_3 wd_371) rfl rfl rfl (by decide +kernel) ⟨Nat.le_of_ble_eq_true rfl, Nat.le_of_ble_eq_true rfl⟩) ⟨pcG_blind, pcG_pre hP hK hD h⟩ rfl rfl hl.1 rfl (lv_room (Nat.le_of_ble_eq_true rfl)) d_M_bound_4 ⟨Nat.le_of_ble_eq_true rfl, Nat.le_of_ble_eq_true rfl⟩) hS (fun q _ h => hF1 q h) hF1 (fun r2 u t H locs ht hvm h hB hz1 hk1 hS => ?_)
  obtain ⟨hP1, hK1, hD1⟩ := hB
  rw [ht] at hP1
  have hP : va_P D vwCl (wM m0 m1 m2 m3 m4 m5 k1 k2 k3 k4 k5 code funs made great up down size rows work xx power) H := hP1
  have hD : va_D A (wM m0 m1 m2 m3 m4 m5 k1 k2 k3 k4 k5 code funs made great up down size rows work xx power) := hD1.weaken (fun _ _ _ hq => hF1 _ hq)
  refine lv_ldc2 (v := 1000000) hx hb hown (hB _ wd_375) d_M_bound_7 ?_
  refine W.lcmp hx hb d_M_bound_10 ?_
  refine lv_if_gt (tgt := 25) hx hb d_M_bound_11 (by decide) (fun hc3 => ?_) (fun hc3 => ?_)
  · replace h := h.1 hc3
    refine lv_aload_n hx hb d_M_bound_25 rfl (lv_at hl 0 rfl) ?_
    refine lv_iconst (v := 1) hx hb d_M_bound_26 (by decide) ?_
    refine va_put (D := D) (ci := 2) (v := .int 1) (ty := .boolean) (C := R_M) (T := F_M) (N := 11) hx hb hB inF_M t_M t_M_ok n_M hown hK hP hD hS 0 rfl rfl 6 (by decide) (hB _ wd_344) (fun _ h9 => h9) rfl (by decide +kernel) rfl rfl (Nat.le_of_ble_eq_true rfl) d_M_bound_27 (fun H locs hP hD hS => ?_)
    have hP : va_P D vwCl (wM m0 m1 m2 m3 m4 m5 k1 k2 k3 k4 k5 code funs made 1 up down size rows work xx power) H := hP
    have hD : va_D A (wM m0 m1 m2 m3 m4 m5 k1 k2 k3 k4 k5 code funs made 1 up down size rows work xx power) := hD
    exact W.vret hx hb hr (fun t ht hW => ⟨⟨1, rfl, h, by rw [ht]; exact hP, va_K.moved hW.alike hK, hD⟩, hS.F ht⟩) hS.2.2 d_M_bound_30
  · replace h := h.2 hc3
    refine lv_aload_n hx hb d_M_bound_14 rfl (lv_at hl 0 rfl) ?_
    refine va_get (D := D) (ci := 2) (v := .long down) (C := R_M) (T := F_M) (N := 11) hx hb hB inF_M hown hK hP 0 rfl rfl 10 (by decide) (hB _ wd_348) (fun _ h9 => h9) rfl d_M_bound_15 ?_
    refine lv_ldc2 (v := 1000000) hx hb hown (hB _ wd_375) d_M_bound_18 ?_
    refine W.lcmp hx hb d_M_bound_21 ?_
    refine lv_if_le (tgt := 30) hx hb d_M_bound_22 (by decide) (fun hc4 => ?_) (fun hc4 => ?_)
    · replace h := h.1 hc4
      exact W.vret hx hb hr (fun t ht hW => ⟨⟨great, rfl, h, by rw [ht]; exact hP, va_K.moved hW.alike hK, hD⟩, hS.F ht⟩) hS.2.2 d_M_bound_30
    · replace h := h.2 hc4
      refine lv_aload_n hx hb d_M_bound_25 rfl (lv_at hl 0 rfl) ?_
      refine lv_iconst (v := 1) hx hb d_M_bound_26 (by decide) ?_
      refine va_put (D := D) (ci := 2) (v := .int 1) (ty := .boolean) (C := R_M) (T := F_M) (N := 11) hx hb hB inF_M t_M t_M_ok n_M hown hK hP hD hS 0 rfl rfl 6 (by decide) (hB _ wd_344) (fun _ h9 => h9) rfl (by decide +kernel) rfl rfl (Nat.le_of_ble_eq_true rfl) d_M_bound_27 (fun H locs hP hD hS => ?_)
      have hP : va_P D vwCl (wM m0 m1 m2 m3 m4 m5 k1 k2 k3 k4 k5 code funs made 1 up down size rows work xx power) H := hP
      have hD : va_D A (wM m0 m1 m2 m3 m4 m5 k1 k2 k3 k4 k5 code funs made 1 up down size rows work xx power) := hD
      exact W.vret hx hb hr (fun t ht hW => ⟨⟨1, rfl, h, by rw [ht]; exact hP, va_K.moved hW.alike hK, hD⟩, hS.F ht⟩) hS.2.2 d_M_bound_30
set_option maxHeartbeats 4000000 in
set_option maxRecDepth 100000 in
theorem c_M_at (l : Launch) (D : va_G) (m0 m1 m2 m3 m4 m5 : Nat) (k1 k2 k3 k4 k5 : ClassId) (sz : Nat) (code : Int32) (funs : Int32) (made : Int32) (great : Int32) (up : Int64) (down : Int64) (size : (Nat → Int32)) (rows : (Nat → Int32)) (work : (Nat → Int32)) (xx : (Nat → Int32)) (power : (Nat → Int32)) (p0 : Int32) (p1 : Int32) (p2 : Int32) (post : Int32 → Prop) : Met l y_M_at (Cond.code y_M_at b_M_at 4 (some .int) :: BIG) ({ frames := 0, cells := 0, slots := 0, locals := 0 }) (va_Pc [.ref m0, .int p0, .int p1, .int p2] (pcG D vwCl (wM m0 m1 m2 m3 m4 m5 k1 k2 k3 k4 k5 code funs made great up down size rows work xx power) [(k1, .int), (k2, .int), (k3, .int), (k4, .int), (k5, .int)] sz (wp_M_at rows p0 p1 p2 post))) (va_Qi (fun (r : Int32) (_ : Unit) => post r) (fun _ => atG D vwCl [(k1, .int), (k2, .int), (k3, .int), (k4, .int), (k5, .int)] (va_A (wM m0 m1 m2 m3 m4 m5 k1 k2 k3 k4 k5 code funs made great up down size rows work xx power) sz) (wM m0 m1 m2 m3 m4 m5 k1 k2 k3 k4 k5 code funs made great up down size rows work xx power)) (va_A (wM m0 m1 m2 m3 m4 m5 k1 k2 k3 k4 k5 code funs made great up down size rows work xx power) sz)) 0 0 (va_A (wM m0 m1 m2 m3 m4 m5 k1 k2 k3 k4 k5 code funs made great up down size rows work xx power) sz) := by
  refine Met.ofW (cc := b_M_at) (maxL := 4) (ret := (some .int)) (by decide) rfl ?_
  intro p e s m args below meth c s₁ B hml hv
  obtain ⟨rfl, hsz, hP, hK, hD0, h⟩ := hv
  have hx := B.exec
  have hb := B.bytes
  have hr := B.returns
  have hB : ∀ w ∈ BIG, w.before _ s = true := fun w h => atoms_spec (ws := (Cond.code y_M_at b_M_at 4 (some .int) :: BIG)) B.pre w (List.mem_cons_of_mem _ h)
  have hown : s.vm.findClass R_M = some m.cls := findClass_of_methodNamed B.named
  have hlocks := B.notSynchronized
  subst hsz
  have hD := hD0.self (sz := s.heap.size)
  generalize hAe : va_A (wM m0 m1 m2 m3 m4 m5 k1 k2 k3 k4 k5 code funs made great up down size rows work xx power) s.heap.size = A at hD ⊢
  have hA : ∀ q : Nat, s.heap.size ≤ q → A q := fun q h => by rw [← hAe]; exact Or.inr h
  have hl := lv_entry ([.ref m0, .int p0, .int p1, .int p2]) (n := 4) (Nat.le_of_ble_eq_true rfl)
  rw [lg_entry_eq]
  generalize (lg_sl ([.ref m0, .int p0, .int p1, .int p2]) ++ List.replicate (4 - (lg_sl ([.ref m0, .int p0, .int p1, .int p2])).length) Slot.unset).toArray = ls at hl ⊢
  have hl : lv_has ls 4 [(0, .ref m0), (1, .int p0), (2, .int p1), (3, .int p2)] := hl
  refine W.cap (fun G Gi Ge => ?_)
  suffices hL : ∀ (H : Heap) (locs : List Loc), va_P D vwCl (wM m0 m1 m2 m3 m4 m5 k1 k2 k3 k4 k5 code funs made great up down size rows work xx power) H → va_S A s.heap H locs → G H locs (F0 m 0 ls []) from hL _ _ hP va_S.rf
  clear hP
  intro H locs hP hS
  refine Gi _ _ _ ?_
  unfold wp_M_at at h
  refine lv_aload_n hx hb d_M_at_0 rfl (lv_at hl 0 rfl) ?_
  refine va_get (D := D) (ci := 2) (v := .ref m2) (C := R_M) (T := F_M) (N := 11) hx hb hB inF_M hown hK hP 0 rfl rfl 3 (by decide) (hB _ wd_341) (fun _ h9 => h9) rfl d_M_at_1 ?_
  refine lv_bipush (v := 70) hx hb d_M_at_4 (by decide) ?_
  refine lv_iload_n hx hb d_M_at_6 rfl (lv_at hl 1 rfl) ?_
  refine lv_imul hx hb d_M_at_7 ?_
  refine lv_bipush (v := 7) hx hb d_M_at_8 (by decide) ?_
  refine lv_iload_n hx hb d_M_at_10 rfl (lv_at hl 2 rfl) ?_
  refine lv_imul hx hb d_M_at_11 ?_
  refine lv_iadd hx hb d_M_at_12 ?_
  refine lv_iload_n hx hb d_M_at_13 rfl (lv_at hl 3 rfl) ?_
  refine lv_iadd hx hb d_M_at_14 ?_
  obtain ⟨g1, h⟩ := h
  refine va_iald hx hb hK hP 2 1 rfl rfl g1 d_M_at_15 ?_
  exact W.iret (v := rows (((70 * p0) + (7 * p1)) + p2).toNatClampNeg) hx hb hr (fun t ht hW => ⟨⟨rows (((70 * p0) + (7 * p1)) + p2).toNatClampNeg, (), rfl, h, by rw [ht]; exact hP, va_K.moved hW.alike hK, hD⟩, hS.F ht⟩) hS.2.2 d_M_at_16
set_option maxHeartbeats 4000000 in
set_option maxRecDepth 100000 in
theorem c_M_isFunction (l : Launch) (D : va_G) (m0 m1 m2 m3 m4 m5 : Nat) (k1 k2 k3 k4 k5 : ClassId) (sz : Nat) (code : Int32) (funs : Int32) (made : Int32) (great : Int32) (up : Int64) (down : Int64) (size : (Nat → Int32)) (rows : (Nat → Int32)) (work : (Nat → Int32)) (xx : (Nat → Int32)) (power : (Nat → Int32)) (p0 : Int32) (post : Int32 → Prop) : Met l y_M_isFunction (Cond.code y_M_isFunction b_M_isFunction 2 (some .boolean) :: BIG) ({ frames := 1, cells := 0, slots := 0, locals := 25 }) (va_Pc [.ref m0, .int p0] (pcG D vwCl (wM m0 m1 m2 m3 m4 m5 k1 k2 k3 k4 k5 code funs made great up down size rows work xx power) [(k1, .int), (k2, .int), (k3, .int), (k4, .int), (k5, .int)] sz (wp_M_isFunction funs p0 post))) (va_Qi (fun (r : Int32) (_ : Unit) => post r) (fun _ => atG D vwCl [(k1, .int), (k2, .int), (k3, .int), (k4, .int), (k5, .int)] (va_A (wM m0 m1 m2 m3 m4 m5 k1 k2 k3 k4 k5 code funs made great up down size rows work xx power) sz) (wM m0 m1 m2 m3 m4 m5 k1 k2 k3 k4 k5 code funs made great up down size rows work xx power)) (va_A (wM m0 m1 m2 m3 m4 m5 k1 k2 k3 k4 k5 code funs made great up down size rows work xx power) sz)) 0 0 (va_A (wM m0 m1 m2 m3 m4 m5 k1 k2 k3 k4 k5 code funs made great up down size rows work xx power) sz) := by
  refine Met.ofW (cc := b_M_isFunction) (maxL := 2) (ret := (some .boolean)) (by decide) rfl ?_
  intro p e s m args below meth c s₁ B hml hv
  obtain ⟨rfl, hsz, hP, hK, hD0, h⟩ := hv
  have hx := B.exec
  have hb := B.bytes
  have hr := B.returns
  have hB : ∀ w ∈ BIG, w.before _ s = true := fun w h => atoms_spec (ws := (Cond.code y_M_isFunction b_M_isFunction 2 (some .boolean) :: BIG)) B.pre w (List.mem_cons_of_mem _ h)
  have hown : s.vm.findClass R_M = some m.cls := findClass_of_methodNamed B.named
  have hlocks := B.notSynchronized
  subst hsz
  have hD := hD0.self (sz := s.heap.size)
  generalize hAe : va_A (wM m0 m1 m2 m3 m4 m5 k1 k2 k3 k4 k5 code funs made great up down size rows work xx power) s.heap.size = A at hD ⊢
  have hA : ∀ q : Nat, s.heap.size ≤ q → A q := fun q h => by rw [← hAe]; exact Or.inr h
  have hl := lv_entry ([.ref m0, .int p0]) (n := 2) (Nat.le_of_ble_eq_true rfl)
  rw [lg_entry_eq]
  generalize (lg_sl ([.ref m0, .int p0]) ++ List.replicate (2 - (lg_sl ([.ref m0, .int p0])).length) Slot.unset).toArray = ls at hl ⊢
  have hl : lv_has ls 2 [(0, .ref m0), (1, .int p0)] := hl
  refine W.cap (fun G Gi Ge => ?_)
  suffices hL : ∀ (H : Heap) (locs : List Loc), va_P D vwCl (wM m0 m1 m2 m3 m4 m5 k1 k2 k3 k4 k5 code funs made great up down size rows work xx power) H → va_S A s.heap H locs → G H locs (F0 m 0 ls []) from hL _ _ hP va_S.rf
  clear hP
  intro H locs hP hS
  refine Gi _ _ _ ?_
  unfold wp_M_isFunction at h
  refine lv_iload_n hx hb d_M_isFunction_0 rfl (lv_at hl 1 rfl) ?_
  refine lv_i2l hx hb d_M_isFunction_1 rfl ?_
  refine lv_lconst (v := 0) hx hb d_M_isFunction_2 (by decide) ?_
  refine lv_aload_n hx hb d_M_isFunction_3 rfl (lv_at hl 0 rfl) ?_
  refine va_get (D := D) (ci := 2) (v := .int funs) (C := R_M) (T := F_M) (N := 11) hx hb hB inF_M hown hK hP 0 rfl rfl 1 (by decide) (hB _ wd_339) (fun _ h9 => h9) rfl d_M_isFunction_4 ?_
  refine lv_iconst (v := 1) hx hb d_M_isFunction_7 (by decide) ?_
  refine lv_isub hx hb d_M_isFunction_8 ?_
  refine lv_i2l hx hb d_M_isFunction_9 rfl ?_
  have hF1 := va_free (wc := (wM m0 m1 m2 m3 m4 m5 k1 k2 k3 k4 k5 code funs made great up down size rows work xx power)) hD hS hA [0, 1, 2, 3, 4, 5] rfl
  refine va_calli (va_runS (As := [.long (p0.toInt64), .long 0, .long ((funs - 1).toInt64)]) (rest := []) ⟨hx, hb, hml, hown, hB⟩ (c_M_in l D m0 m1 m2 m3 m4 m5 k1 k2 k3 k4 k5 H.size code funs made great up down size rows work xx power (p0.toInt64) 0 ((funs - 1).toInt64) _) (cwS 3 hB (goodS wd_381 wd_382 wd_3 wd_383) rfl rfl rfl (by decide +kernel) ⟨Nat.le_of_ble_eq_true rfl, Nat.le_of_ble_eq_true rfl⟩) ⟨pcG_blind, pcG_pre hP hK hD h⟩ rfl rfl hl.1 rfl (lv_room (Nat.le_of_ble_eq_true rfl)) d_M_isFunction_10 ⟨Nat.le_of_ble_eq_true rfl, Nat.le_of_ble_eq_true rfl⟩) hS (fun q _ h => hF1 q h) hF1 (fun r2 u t H locs ht hvm h hB hz1 hk1 hS => ?_)
  obtain ⟨hP1, hK1, hD1⟩ := hB
  rw [ht] at hP1
  have hP : va_P D vwCl (wM m0 m1 m2 m3 m4 m5 k1 k2 k3 k4 k5 code funs made great up down size rows work xx power) H := hP1
  have hD : va_D A (wM m0 m1 m2 m3 m4 m5 k1 k2 k3 k4 k5 code funs made great up down size rows work xx power) := hD1.weaken (fun _ _ _ hq => hF1 _ hq)
  obtain ⟨g3, h⟩ := h
  exact W.zret (v := r2) hx hb hr g3 (fun t ht hW => ⟨⟨r2, (), rfl, h, by rw [ht]; exact hP, va_K.moved hW.alike hK, hD⟩, hS.F ht⟩) hS.2.2 d_M_isFunction_13
set_option maxHeartbeats 4000000 in
set_option maxRecDepth 100000 in
theorem c_M_start (l : Launch) (D : va_G) (m0 m1 m2 m3 m4 m5 : Nat) (k1 k2 k3 k4 k5 : ClassId) (sz : Nat) (code : Int32) (funs : Int32) (made : Int32) (great : Int32) (up : Int64) (down : Int64) (size : (Nat → Int32)) (rows : (Nat → Int32)) (work : (Nat → Int32)) (xx : (Nat → Int32)) (power : (Nat → Int32)) (post : Int32 → Int32 → Prop) : Met l y_M_start (Cond.code y_M_start b_M_start 1 none :: BIG) ({ frames := 0, cells := 0, slots := 0, locals := 0 }) (va_Pc [.ref m0] (pcG D vwCl (wM m0 m1 m2 m3 m4 m5 k1 k2 k3 k4 k5 code funs made great up down size rows work xx power) [(k1, .int), (k2, .int), (k3, .int), (k4, .int), (k5, .int)] sz (wp_M_start made great post))) (va_Qv (fun (u : Int32 × Int32) => post (u.1) (u.2)) (fun u => atG D vwCl [(k1, .int), (k2, .int), (k3, .int), (k4, .int), (k5, .int)] (va_A (wM m0 m1 m2 m3 m4 m5 k1 k2 k3 k4 k5 code funs made great up down size rows work xx power) sz) (wM m0 m1 m2 m3 m4 m5 k1 k2 k3 k4 k5 code funs (u.1) (u.2) up down size rows work xx power)) (va_A (wM m0 m1 m2 m3 m4 m5 k1 k2 k3 k4 k5 code funs made great up down size rows work xx power) sz)) 0 0 (va_A (wM m0 m1 m2 m3 m4 m5 k1 k2 k3 k4 k5 code funs made great up down size rows work xx power) sz) := by
  refine Met.ofW (cc := b_M_start) (maxL := 1) (ret := none) (by decide) rfl ?_
  intro p e s m args below meth c s₁ B hml hv
  obtain ⟨rfl, hsz, hP, hK, hD0, h⟩ := hv
  have hx := B.exec
  have hb := B.bytes
  have hr := B.returns
  have hB : ∀ w ∈ BIG, w.before _ s = true := fun w h => atoms_spec (ws := (Cond.code y_M_start b_M_start 1 none :: BIG)) B.pre w (List.mem_cons_of_mem _ h)
  have hown : s.vm.findClass R_M = some m.cls := findClass_of_methodNamed B.named
  have hlocks := B.notSynchronized
  subst hsz
  have hD := hD0.self (sz := s.heap.size)
  generalize hAe : va_A (wM m0 m1 m2 m3 m4 m5 k1 k2 k3 k4 k5 code funs made great up down size rows work xx power) s.heap.size = A at hD ⊢
  have hA : ∀ q : Nat, s.heap.size ≤ q → A q := fun q h => by rw [← hAe]; exact Or.inr h
  have hl := lv_entry ([.ref m0]) (n := 1) (Nat.le_of_ble_eq_true rfl)
  rw [lg_entry_eq]
  generalize (lg_sl ([.ref m0]) ++ List.replicate (1 - (lg_sl ([.ref m0])).length) Slot.unset).toArray = ls at hl ⊢
  have hl : lv_has ls 1 [(0, .ref m0)] := hl
  refine W.cap (fun G Gi Ge => ?_)
  suffices hL : ∀ (H : Heap) (locs : List Loc), va_P D vwCl (wM m0 m1 m2 m3 m4 m5 k1 k2 k3 k4 k5 code funs made great up down size rows work xx power) H → va_S A s.heap H locs → G H locs (F0 m 0 ls []) from hL _ _ hP va_S.rf
  clear hP
  intro H locs hP hS
  refine Gi _ _ _ ?_
  unfold wp_M_start at h
  refine lv_aload_n hx hb d_M_start_0 rfl (lv_at hl 0 rfl) ?_
  refine lv_iconst (v := 0) hx hb d_M_start_1 (by decide) ?_
  refine va_put (D := D) (ci := 2) (v := .int 0) (ty := .int) (C := R_M) (T := F_M) (N := 11) hx hb hB inF_M t_M t_M_ok n_M hown hK hP hD hS 0 rfl rfl 4 (by decide) (hB _ wd_342) (fun _ h9 => h9) rfl (by decide +kernel) rfl rfl (Nat.le_of_ble_eq_true rfl) d_M_start_2 (fun H locs hP hD hS => ?_)
  have hP : va_P D vwCl (wM m0 m1 m2 m3 m4 m5 k1 k2 k3 k4 k5 code funs 0 great up down size rows work xx power) H := hP
  have hD : va_D A (wM m0 m1 m2 m3 m4 m5 k1 k2 k3 k4 k5 code funs 0 great up down size rows work xx power) := hD
  refine lv_aload_n hx hb d_M_start_5 rfl (lv_at hl 0 rfl) ?_
  refine lv_iconst (v := 0) hx hb d_M_start_6 (by decide) ?_
  refine va_put (D := D) (ci := 2) (v := .int 0) (ty := .boolean) (C := R_M) (T := F_M) (N := 11) hx hb hB inF_M t_M t_M_ok n_M hown hK hP hD hS 0 rfl rfl 6 (by decide) (hB _ wd_344) (fun _ h9 => h9) rfl (by decide +kernel) rfl rfl (Nat.le_of_ble_eq_true rfl) d_M_start_7 (fun H locs hP hD hS => ?_)
  have hP : va_P D vwCl (wM m0 m1 m2 m3 m4 m5 k1 k2 k3 k4 k5 code funs 0 0 up down size rows work xx power) H := hP
  have hD : va_D A (wM m0 m1 m2 m3 m4 m5 k1 k2 k3 k4 k5 code funs 0 0 up down size rows work xx power) := hD
  exact W.vret hx hb hr (fun t ht hW => ⟨⟨(0, 0), rfl, h, by rw [ht]; exact hP, va_K.moved hW.alike hK, hD⟩, hS.F ht⟩) hS.2.2 d_M_start_10
set_option maxHeartbeats 4000000 in
set_option maxRecDepth 100000 in
theorem c_M_order (l : Launch) (D : va_G) (m0 m1 m2 m3 m4 m5 : Nat) (k1 k2 k3 k4 k5 : ClassId) (sz : Nat) (code : Int32) (funs : Int32) (made : Int32) (great : Int32) (up : Int64) (down : Int64) (size : (Nat → Int32)) (rows : (Nat → Int32)) (work : (Nat → Int32)) (xx : (Nat → Int32)) (power : (Nat → Int32)) (p0 : Int32) (post : Int32 → Prop) : Met l y_M_order (Cond.code y_M_order b_M_order 3 (some .int) :: BIG) ({ frames := 0, cells := 0, slots := 0, locals := 0 }) (va_Pc [.ref m0, .int p0] (pcG D vwCl (wM m0 m1 m2 m3 m4 m5 k1 k2 k3 k4 k5 code funs made great up down size rows work xx power) [(k1, .int), (k2, .int), (k3, .int), (k4, .int), (k5, .int)] sz (wp_M_order work xx p0 post))) (va_Qi (fun (r : Int32) (_ : Unit) => post r) (fun _ => atG D vwCl [(k1, .int), (k2, .int), (k3, .int), (k4, .int), (k5, .int)] (va_A (wM m0 m1 m2 m3 m4 m5 k1 k2 k3 k4 k5 code funs made great up down size rows work xx power) sz) (wM m0 m1 m2 m3 m4 m5 k1 k2 k3 k4 k5 code funs made great up down size rows work xx power)) (va_A (wM m0 m1 m2 m3 m4 m5 k1 k2 k3 k4 k5 code funs made great up down size rows work xx power) sz)) 0 0 (va_A (wM m0 m1 m2 m3 m4 m5 k1 k2 k3 k4 k5 code funs made great up down size rows work xx power) sz) := by
  refine Met.ofW (cc := b_M_order) (maxL := 3) (ret := (some .int)) (by decide) rfl ?_
  intro p e s m args below meth c s₁ B hml hv
  obtain ⟨rfl, hsz, hP, hK, hD0, h⟩ := hv
  have hx := B.exec
  have hb := B.bytes
  have hr := B.returns
  have hB : ∀ w ∈ BIG, w.before _ s = true := fun w h => atoms_spec (ws := (Cond.code y_M_order b_M_order 3 (some .int) :: BIG)) B.pre w (List.mem_cons_of_mem _ h)
  have hown : s.vm.findClass R_M = some m.cls := findClass_of_methodNamed B.named
  have hlocks := B.notSynchronized
  subst hsz
  have hD := hD0.self (sz := s.heap.size)
  generalize hAe : va_A (wM m0 m1 m2 m3 m4 m5 k1 k2 k3 k4 k5 code funs made great up down size rows work xx power) s.heap.size = A at hD ⊢
  have hA : ∀ q : Nat, s.heap.size ≤ q → A q := fun q h => by rw [← hAe]; exact Or.inr h
  have hl := lv_entry ([.ref m0, .int p0]) (n := 3) (Nat.le_of_ble_eq_true rfl)
  rw [lg_entry_eq]
  generalize (lg_sl ([.ref m0, .int p0]) ++ List.replicate (3 - (lg_sl ([.ref m0, .int p0])).length) Slot.unset).toArray = ls at hl ⊢
  have hl : lv_has ls 3 [(0, .ref m0), (1, .int p0)] := hl
  refine W.cap (fun G Gi Ge => ?_)
  suffices hL : ∀ (H : Heap) (locs : List Loc), va_P D vwCl (wM m0 m1 m2 m3 m4 m5 k1 k2 k3 k4 k5 code funs made great up down size rows work xx power) H → va_S A s.heap H locs → G H locs (F0 m 0 ls []) from hL _ _ hP va_S.rf
  clear hP
  intro H locs hP hS
  refine Gi _ _ _ ?_
  unfold wp_M_order at h
  refine lv_iconst (v := 0) hx hb d_M_order_0 (by decide) ?_
  refine lv_istore_n (lv' := [(2, .int 0), (0, .ref m0), (1, .int p0)]) hx hb d_M_order_1 rfl hl (by decide) rfl (fun ls hl => ?_)
  obtain ⟨n2, h⟩ := h
  refine W.cap (fun G2 Gi2 Ge2 => ?_)
  suffices hL2 : ∀ (n2 : Nat) (v2_1 : Int32) (H : Heap) (locs : List Loc) (ls : Array Slot), va_P D vwCl (wM m0 m1 m2 m3 m4 m5 k1 k2 k3 k4 k5 code funs made great up down size rows work xx power) H → va_D A (wM m0 m1 m2 m3 m4 m5 k1 k2 k3 k4 k5 code funs made great up down size rows work xx power) → va_S A s.heap H locs → lv_has ls 3 [(2, .int v2_1), (0, .ref m0), (1, .int p0)] → lpW1 (wb_M_order_2 post p0 work xx) n2 v2_1 → G2 H locs (F0 m 2 ls []) from hL2 n2 (0 : Int32) _ _ _ hP hD hS hl h
  clear h hP hD hS hl
  intro n2
  induction n2 with
  | zero => intro v2_1 H locs ls hP hD hS hl h; exact (show False from h).elim
  | succ n2 ihL2 =>
    intro v2_1 H locs ls hP hD hS hl h
    replace h : (wb_M_order_2 post p0 work xx) (lpW1 (wb_M_order_2 post p0 work xx) n2) v2_1 := h
    refine Gi2 _ _ _ ?_
    refine lv_iload_n hx hb d_M_order_2 rfl (lv_at hl 0 rfl) ?_
    refine lv_iconst (v := 5) hx hb d_M_order_3 (by decide) ?_
    refine lv_icmp_ge (tgt := 59) hx hb d_M_order_4 (by decide) (fun hc2 => ?_) (fun hc2 => ?_)
    · replace h := h.1 hc2
      refine lv_iconst (v := 0) hx hb d_M_order_59 (by decide) ?_
      exact W.iret (v := 0) hx hb hr (fun t ht hW => ⟨⟨0, (), rfl, h, by rw [ht]; exact hP, va_K.moved hW.alike hK, hD⟩, hS.F ht⟩) hS.2.2 d_M_order_60
    · replace h := h.2 hc2
      refine lv_aload_n hx hb d_M_order_7 rfl (lv_at hl 1 rfl) ?_
      refine va_get (D := D) (ci := 2) (v := .ref m3) (C := R_M) (T := F_M) (N := 11) hx hb hB inF_M hown hK hP 0 rfl rfl 5 (by decide) (hB _ wd_343) (fun _ h9 => h9) rfl d_M_order_8 ?_
      refine lv_bipush (v := 7) hx hb d_M_order_11 (by decide) ?_
      refine lv_iload_n hx hb d_M_order_13 rfl (lv_at hl 2 rfl) ?_
      refine lv_imul hx hb d_M_order_14 ?_
      refine lv_iload_n hx hb d_M_order_15 rfl (lv_at hl 0 rfl) ?_
      refine lv_iadd hx hb d_M_order_16 ?_
      obtain ⟨g3, h⟩ := h
      refine va_iald hx hb hK hP 3 2 rfl rfl g3 d_M_order_17 ?_
      refine lv_aload_n hx hb d_M_order_18 rfl (lv_at hl 1 rfl) ?_
      refine va_get (D := D) (ci := 2) (v := .ref m4) (C := R_M) (T := F_M) (N := 11) hx hb hB inF_M hown hK hP 0 rfl rfl 7 (by decide) (hB _ wd_345) (fun _ h9 => h9) rfl d_M_order_19 ?_
      refine lv_iload_n hx hb d_M_order_22 rfl (lv_at hl 0 rfl) ?_
      obtain ⟨g4, h⟩ := h
      refine va_iald hx hb hK hP 4 3 rfl rfl g4 d_M_order_23 ?_
      refine lv_icmp_eq (tgt := 53) hx hb d_M_order_24 (by decide) (fun hc5 => ?_) (fun hc5 => ?_)
      · replace h := h.1 hc5
        obtain ⟨x6, ex6⟩ : ∃ z : Int32, z = v2_1 + 1 := ⟨_, rfl⟩
        replace h := h x6 ex6
        refine lv_iinc (v := x6) (lv' := [(2, .int x6), (0, .ref m0), (1, .int p0)]) hx hb d_M_order_53 hl (k := 0) rfl (by rw [ex6]; rfl) (by decide) rfl (fun ls hl => ?_)
        refine lv_goto (tgt := 2) hx hb d_M_order_56 (by decide) ?_
        exact Ge2 _ _ _ (ihL2 x6 _ _ _ hP hD hS (lv_sub hl [0, 1, 2] rfl) h)
      · replace h := h.2 hc5
        refine lv_aload_n hx hb d_M_order_27 rfl (lv_at hl 1 rfl) ?_
        refine va_get (D := D) (ci := 2) (v := .ref m3) (C := R_M) (T := F_M) (N := 11) hx hb hB inF_M hown hK hP 0 rfl rfl 5 (by decide) (hB _ wd_343) (fun _ h9 => h9) rfl d_M_order_28 ?_
        refine lv_bipush (v := 7) hx hb d_M_order_31 (by decide) ?_
        refine lv_iload_n hx hb d_M_order_33 rfl (lv_at hl 2 rfl) ?_
        refine lv_imul hx hb d_M_order_34 ?_
        refine lv_iload_n hx hb d_M_order_35 rfl (lv_at hl 0 rfl) ?_
        refine lv_iadd hx hb d_M_order_36 ?_
        obtain ⟨g7, h⟩ := h
        refine va_iald hx hb hK hP 3 2 rfl rfl g7 d_M_order_37 ?_
        refine lv_aload_n hx hb d_M_order_38 rfl (lv_at hl 1 rfl) ?_
        refine va_get (D := D) (ci := 2) (v := .ref m4) (C := R_M) (T := F_M) (N := 11) hx hb hB inF_M hown hK hP 0 rfl rfl 7 (by decide) (hB _ wd_345) (fun _ h9 => h9) rfl d_M_order_39 ?_
        refine lv_iload_n hx hb d_M_order_42 rfl (lv_at hl 0 rfl) ?_
        obtain ⟨g8, h⟩ := h
        refine va_iald hx hb hK hP 4 3 rfl rfl g8 d_M_order_43 ?_
        refine lv_icmp_le (tgt := 51) hx hb d_M_order_44 (by decide) (fun hc9 => ?_) (fun hc9 => ?_)
        · replace h := h.1 hc9
          refine lv_iconst (v := (-1)) hx hb d_M_order_51 (by decide) ?_
          exact W.iret (v := (-1)) hx hb hr (fun t ht hW => ⟨⟨(-1), (), rfl, h, by rw [ht]; exact hP, va_K.moved hW.alike hK, hD⟩, hS.F ht⟩) hS.2.2 d_M_order_52
        · replace h := h.2 hc9
          refine lv_iconst (v := 1) hx hb d_M_order_47 (by decide) ?_
          refine lv_goto (tgt := 52) hx hb d_M_order_48 (by decide) ?_
          exact W.iret (v := 1) hx hb hr (fun t ht hW => ⟨⟨1, (), rfl, h, by rw [ht]; exact hP, va_K.moved hW.alike hK, hD⟩, hS.F ht⟩) hS.2.2 d_M_order_52
