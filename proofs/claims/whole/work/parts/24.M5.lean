def wp_M_terms (code : Int32) (funs : Int32) (size : (Nat → Int32)) (p0 : Int32) (post : Int32 → Int32 → Prop) : Prop :=
  wp_M_isFunction funs p0 (fun r2 => (r2 = 0 → (post 0 1)) ∧ (¬ r2 = 0 → (vp_in p0 80 ∧ (post (size p0.toNatClampNeg) 0))))
def wp_M_term (code : Int32) (funs : Int32) (size : (Nat → Int32)) (rows : (Nat → Int32)) (p0 : Int32) (p1 : Int32) (p2 : Int32) (post : Int32 → Int32 → Prop) : Prop :=
  wp_M_isFunction funs p0 (fun r2 => (¬ r2 = 0 → (vp_in p0 80 ∧ (wp_M_in (p1.toInt64) 0 (((size p0.toNatClampNeg) - 1).toInt64) (fun r6 => (r6 = 0 → (post 0 2)) ∧ (¬ r6 = 0 → (wp_M_in (p2.toInt64) 0 6 (fun r9 => (¬ r9 = 0 → (wp_M_at rows p0 p1 p2 (fun r12 => post r12 0))) ∧ (r9 = 0 → (post 0 2))))))))) ∧ (r2 = 0 → (post 0 1)))
def wb_M_high_2 (post : Int32 → Prop) (p0 : Int32) (size : (Nat → Int32)) (rows : (Nat → Int32)) : (Int32 → Prop) → Int32 → Prop :=
  fun ih_2 v2_1 =>
  (5 ≤ v2_1 → (post 0)) ∧ (¬ 5 ≤ v2_1 → (vp_in p0 80 ∧ (((size p0.toNatClampNeg) ≤ 0 → (post 0)) ∧ (¬ (size p0.toNatClampNeg) ≤ 0 → (wp_M_at rows p0 0 v2_1 (fun r6 => (r6 = 0 → (∀ x8 : Int32, x8 = v2_1 + 1 → (ih_2 x8))) ∧ (¬ r6 = 0 → (wp_M_at rows p0 0 v2_1 (fun r10 => (r10 ≤ 0 → (post (-1))) ∧ (¬ r10 ≤ 0 → (post 1)))))))))))
def wp_M_high (size : (Nat → Int32)) (rows : (Nat → Int32)) (p0 : Int32) (post : Int32 → Prop) : Prop :=
  ∃ n : Nat, lpW1 (wb_M_high_2 post p0 size rows) n (0 : Int32)
def wp_M_signOf (size : (Nat → Int32)) (rows : (Nat → Int32)) (p0 : Int32) (post : Int32 → Prop) : Prop :=
  vp_in p0 80 ∧ ((¬ (size p0.toNatClampNeg) = 0 → (wp_M_at rows p0 0 5 (fun r4 => (r4 ≤ 0 → (post (-1))) ∧ (¬ r4 ≤ 0 → (post 1))))) ∧ ((size p0.toNatClampNeg) = 0 → (post 0)))
def wp_M_sign (code : Int32) (funs : Int32) (size : (Nat → Int32)) (rows : (Nat → Int32)) (p0 : Int32) (post : Int32 → Int32 → Prop) : Prop :=
  wp_M_isFunction funs p0 (fun r2 => (r2 = 0 → (post 0 1)) ∧ (¬ r2 = 0 → (wp_M_signOf size rows p0 (fun r5 => post r5 0))))
def wj_M_limit_14 (size : (Nat → Int32)) (rows : (Nat → Int32)) (p0 : Int32) (post : Int32 → Int32 → Prop) : Prop :=
  wp_M_high size rows p0 (fun r5 => (r5 ≤ 0 → (post 0 0)) ∧ (¬ r5 ≤ 0 → (wp_M_signOf size rows p0 (fun r8 => post r8 0))))
def wp_M_limit (code : Int32) (funs : Int32) (size : (Nat → Int32)) (rows : (Nat → Int32)) (p0 : Int32) (post : Int32 → Int32 → Prop) : Prop :=
  wp_M_isFunction funs p0 (fun r2 => (r2 = 0 → (post 0 1)) ∧ (¬ r2 = 0 → (wj_M_limit_14 size rows p0 post)))
def wj_M_value_40 (p0 : Int32) (size : (Nat → Int32)) (post : Int32 → Int32 → Prop) (p1 : Int32) (rows : (Nat → Int32)) : Prop :=
  vp_in p0 80 ∧ (((size p0.toNatClampNeg) ≤ 0 → (post p1 0)) ∧ (¬ (size p0.toNatClampNeg) ≤ 0 → (wp_M_high size rows p0 (fun r13 => (¬ r13 = 0 → (post p1 0)) ∧ (r13 = 0 → (wp_M_at rows p0 0 (5 + p1) (fun r16 => post r16 0)))))))
def wp_M_value (code : Int32) (funs : Int32) (size : (Nat → Int32)) (rows : (Nat → Int32)) (p0 : Int32) (p1 : Int32) (post : Int32 → Int32 → Prop) : Prop :=
  wp_M_isFunction funs p0 (fun r2 => (¬ r2 = 0 → (wp_M_high size rows p0 (fun r5 => (r5 ≤ 0 → (wp_M_in (p1.toInt64) 0 1 (fun r8 => (¬ r8 = 0 → (wj_M_value_40 p0 size post p1 rows)) ∧ (r8 = 0 → (post 0 3))))) ∧ (¬ r5 ≤ 0 → (post 0 2))))) ∧ (r2 = 0 → (post 0 1)))
def wj_M_compared_18 (p0 : Int32) (size : (Nat → Int32)) (p1 : Int32) (post : Int32 → Prop) : Prop :=
  vp_in p0 80 ∧ (((size p0.toNatClampNeg) ≤ 0 → (vp_in p1 80 ∧ (((size p1.toNatClampNeg) ≤ 0 → (post 0)) ∧ (¬ (size p1.toNatClampNeg) ≤ 0 → (post (-1)))))) ∧ (¬ (size p0.toNatClampNeg) ≤ 0 → (post 1)))
def wb_M_compared_48 (post : Int32 → Prop) (rows : (Nat → Int32)) (p0 : Int32) (p1 : Int32) : (Int32 → Prop) → Int32 → Prop :=
  fun ih_48 v3_9 =>
  (5 ≤ v3_9 → (post 0)) ∧ (¬ 5 ≤ v3_9 → (wp_M_at rows p0 0 v3_9 (fun r12 => wp_M_at rows p1 0 v3_9 (fun r14 => (r12 = r14 → (∀ x16 : Int32, x16 = v3_9 + 1 → (ih_48 x16))) ∧ (¬ r12 = r14 → (wp_M_at rows p0 0 v3_9 (fun r18 => wp_M_at rows p1 0 v3_9 (fun r20 => (r18 ≤ r20 → (post (-1))) ∧ (¬ r18 ≤ r20 → (post 1))))))))))
def wp_M_compared (size : (Nat → Int32)) (rows : (Nat → Int32)) (p0 : Int32) (p1 : Int32) (post : Int32 → Prop) : Prop :=
  vp_in p0 80 ∧ (((size p0.toNatClampNeg) = 0 → (wj_M_compared_18 p0 size p1 post)) ∧ (¬ (size p0.toNatClampNeg) = 0 → (vp_in p1 80 ∧ ((¬ (size p1.toNatClampNeg) = 0 → (∃ n : Nat, lpW1 (wb_M_compared_48 post rows p0 p1) n (0 : Int32))) ∧ ((size p1.toNatClampNeg) = 0 → (wj_M_compared_18 p0 size p1 post))))))
def wp_M_compare (code : Int32) (funs : Int32) (size : (Nat → Int32)) (rows : (Nat → Int32)) (p0 : Int32) (p1 : Int32) (post : Int32 → Int32 → Prop) : Prop :=
  wp_M_isFunction funs p0 (fun r2 => (r2 = 0 → (post 0 1)) ∧ (¬ r2 = 0 → (wp_M_isFunction funs p1 (fun r5 => (r5 = 0 → (post 0 1)) ∧ (¬ r5 = 0 → (wp_M_compared size rows p0 p1 (fun r8 => post r8 0)))))))
def wj_M_ratio_16 (code : Int32) (post : Int64 → Int32 → Int64 → Int64 → Prop) (up : Int64) (down : Int64) : Prop :=
  wp_M_raise code 1 (fun r5 code_6 => post (r5.toInt64) code_6 up down)
def wj_M_ratio_50 (code : Int32) (post : Int64 → Int32 → Int64 → Int64 → Prop) (up : Int64) (down : Int64) : Prop :=
  wp_M_raise code 2 (fun r13 code_14 => post (r13.toInt64) code_14 up down)
def wj_M_ratio_73 (rows : (Nat → Int32)) (p0 : Int32) (p1 : Int32) (up : Int64) (down : Int64) (p2 : Int32) (post : Int64 → Int32 → Int64 → Int64 → Prop) : Prop :=
  wp_M_at rows p0 0 5 (fun r27 => wp_M_at rows p1 0 6 (fun r29 => wp_M_at rows p0 0 6 (fun r31 => wp_M_at rows p1 0 5 (fun r33 => wp_M_lowest up down ((r27.toInt64) * (r29.toInt64)) ((r31.toInt64) * (r33.toInt64)) (fun up_35 down_36 => (¬ p2 = 0 → (post down_36 0 up_35 down_36)) ∧ (p2 = 0 → (post up_35 0 up_35 down_36)))))))
def wp_M_ratio (code : Int32) (funs : Int32) (up : Int64) (down : Int64) (size : (Nat → Int32)) (rows : (Nat → Int32)) (p0 : Int32) (p1 : Int32) (p2 : Int32) (post : Int64 → Int32 → Int64 → Int64 → Prop) : Prop :=
  wp_M_isFunction funs p0 (fun r2 => (r2 = 0 → (wj_M_ratio_16 code post up down)) ∧ (¬ r2 = 0 → (wp_M_isFunction funs p1 (fun r8 => (¬ r8 = 0 → (vp_in p0 80 ∧ (((size p0.toNatClampNeg) = 0 → (wj_M_ratio_50 code post up down)) ∧ (¬ (size p0.toNatClampNeg) = 0 → (vp_in p1 80 ∧ (((size p1.toNatClampNeg) = 0 → (wj_M_ratio_50 code post up down)) ∧ (¬ (size p1.toNatClampNeg) = 0 → (wp_M_compared size rows p0 p1 (fun r21 => (r21 = 0 → (wp_M_in (p2.toInt64) 0 1 (fun r24 => (r24 = 0 → (post 0 3 up down)) ∧ (¬ r24 = 0 → (wj_M_ratio_73 rows p0 p1 up down p2 post))))) ∧ (¬ r21 = 0 → (wj_M_ratio_50 code post up down))))))))))) ∧ (r8 = 0 → (wj_M_ratio_16 code post up down))))))
def wb_M_same_51 (p0 : Int32) (size : (Nat → Int32)) (post : Int32 → Int32 → Prop) (p1 : Int32) (rows : (Nat → Int32)) : (Int32 → Prop) → Int32 → Prop :=
  fun ih_51 v3_10 =>
  vp_in p0 80 ∧ (((7 * (size p0.toNatClampNeg)) ≤ v3_10 → (post 1 0)) ∧ (¬ (7 * (size p0.toNatClampNeg)) ≤ v3_10 → (vp_in ((70 * p0) + v3_10) 5600 ∧ (vp_in ((70 * p1) + v3_10) 5600 ∧ (((rows ((70 * p0) + v3_10).toNatClampNeg) = (rows ((70 * p1) + v3_10).toNatClampNeg) → (∀ x16 : Int32, x16 = v3_10 + 1 → (ih_51 x16))) ∧ (¬ (rows ((70 * p0) + v3_10).toNatClampNeg) = (rows ((70 * p1) + v3_10).toNatClampNeg) → (post 0 0)))))))
def wj_M_same_22 (p0 : Int32) (p1 : Int32) (size : (Nat → Int32)) (post : Int32 → Int32 → Prop) (rows : (Nat → Int32)) : Prop :=
  vp_in p0 80 ∧ (vp_in p1 80 ∧ (((size p0.toNatClampNeg) = (size p1.toNatClampNeg) → (∃ n : Nat, lpW1 (wb_M_same_51 p0 size post p1 rows) n (0 : Int32))) ∧ (¬ (size p0.toNatClampNeg) = (size p1.toNatClampNeg) → (post 0 0))))
def wp_M_same (code : Int32) (funs : Int32) (size : (Nat → Int32)) (rows : (Nat → Int32)) (p0 : Int32) (p1 : Int32) (post : Int32 → Int32 → Prop) : Prop :=
  wp_M_isFunction funs p0 (fun r2 => (r2 = 0 → (post 0 1)) ∧ (¬ r2 = 0 → (wp_M_isFunction funs p1 (fun r5 => (r5 = 0 → (post 0 1)) ∧ (¬ r5 = 0 → (wj_M_same_22 p0 p1 size post rows))))))
def wb_M_fastest_54 (post : Int32 → Int32 → Prop) (code_2 : Int32) (p0 : Int32) (size : (Nat → Int32)) (rows : (Nat → Int32)) : (Int32 → Int32 → Prop) → Int32 → Int32 → Prop :=
  fun ih_54 v2_5 v3_6 =>
  (32 ≤ v3_6 → (post v2_5 code_2)) ∧ (¬ 32 ≤ v3_6 → ((¬ ((p0 >>> (v3_6 &&& 31)) &&& 1) = 0 → ((v2_5 = (-1) → (∀ x10 : Int32, x10 = v3_6 + 1 → (ih_54 v3_6 x10))) ∧ (¬ v2_5 = (-1) → (wp_M_compared size rows v3_6 v2_5 (fun r12 => (r12 ≤ 0 → (∀ x14 : Int32, x14 = v3_6 + 1 → (ih_54 v2_5 x14))) ∧ (¬ r12 ≤ 0 → (∀ x15 : Int32, x15 = v3_6 + 1 → (ih_54 v3_6 x15)))))))) ∧ (((p0 >>> (v3_6 &&& 31)) &&& 1) = 0 → (∀ x16 : Int32, x16 = v3_6 + 1 → (ih_54 v2_5 x16)))))
def wb_M_fastest_7 (post : Int32 → Int32 → Prop) (p0 : Int32) (size : (Nat → Int32)) (rows : (Nat → Int32)) (funs : Int32) : (Int32 → Int32 → Prop) → Int32 → Int32 → Prop :=
  fun ih_7 v2_1 code_2 =>
  (32 ≤ v2_1 → ((code_2 ≤ 0 → (∃ n : Nat, lpW2 (wb_M_fastest_54 post code_2 p0 size rows) n ((-1) : Int32) (0 : Int32))) ∧ (¬ code_2 ≤ 0 → (post 0 code_2)))) ∧ (¬ 32 ≤ v2_1 → ((¬ ((p0 >>> (v2_1 &&& 31)) &&& 1) = 1 → (∀ x18 : Int32, x18 = v2_1 + 1 → (ih_7 x18 code_2))) ∧ (((p0 >>> (v2_1 &&& 31)) &&& 1) = 1 → ((v2_1 < funs → (∀ x20 : Int32, x20 = v2_1 + 1 → (ih_7 x20 code_2))) ∧ (¬ v2_1 < funs → (∀ x21 : Int32, x21 = v2_1 + 1 → (ih_7 x21 1)))))))
def wp_M_fastest (code : Int32) (funs : Int32) (size : (Nat → Int32)) (rows : (Nat → Int32)) (p0 : Int32) (post : Int32 → Int32 → Prop) : Prop :=
  ∃ n : Nat, lpW2 (wb_M_fastest_7 post p0 size rows funs) n (0 : Int32) 0
def wp_M_count (code : Int32) (funs : Int32) (post : Int32 → Int32 → Prop) : Prop :=
  post funs 0
set_option maxHeartbeats 4000000 in
set_option maxRecDepth 100000 in
theorem c_M_terms (l : Launch) (D : va_G) (m0 m1 m2 m3 m4 m5 : Nat) (k1 k2 k3 k4 k5 : ClassId) (sz : Nat) (code : Int32) (funs : Int32) (made : Int32) (great : Int32) (up : Int64) (down : Int64) (size : (Nat → Int32)) (rows : (Nat → Int32)) (work : (Nat → Int32)) (xx : (Nat → Int32)) (power : (Nat → Int32)) (p0 : Int32) (post : Int32 → Int32 → Prop) : Met l y_M_terms (Cond.code y_M_terms b_M_terms 2 (some .int) :: BIG) ({ frames := 2, cells := 0, slots := 0, locals := 46 }) (va_Pc [.ref m0, .int p0] (pcG D vwCl (wM m0 m1 m2 m3 m4 m5 k1 k2 k3 k4 k5 code funs made great up down size rows work xx power) [(k1, .int), (k2, .int), (k3, .int), (k4, .int), (k5, .int)] sz (wp_M_terms code funs size p0 post))) (va_Qi (fun (r : Int32) (u : Int32) => post r u) (fun u => atG D vwCl [(k1, .int), (k2, .int), (k3, .int), (k4, .int), (k5, .int)] (va_A (wM m0 m1 m2 m3 m4 m5 k1 k2 k3 k4 k5 code funs made great up down size rows work xx power) sz) (wM m0 m1 m2 m3 m4 m5 k1 k2 k3 k4 k5 u funs made great up down size rows work xx power)) (va_A (wM m0 m1 m2 m3 m4 m5 k1 k2 k3 k4 k5 code funs made great up down size rows work xx power) sz)) 0 0 (va_A (wM m0 m1 m2 m3 m4 m5 k1 k2 k3 k4 k5 code funs made great up down size rows work xx power) sz) := by
  refine Met.ofW (cc := b_M_terms) (maxL := 2) (ret := (some .int)) (by decide) rfl ?_
  intro p e s m args below meth c s₁ B hml hv
  obtain ⟨rfl, hsz, hP, hK, hD0, h⟩ := hv
  have hx := B.exec
  have hb := B.bytes
  have hr := B.returns
  have hB : ∀ w ∈ BIG, w.before _ s = true := fun w h => atoms_spec (ws := (Cond.code y_M_terms b_M_terms 2 (some .int) :: BIG)) B.pre w (List.mem_cons_of_mem _ h)
  have hown : s.vm.findClass R_M = some m.cls := findClass_of_methodNamed B.named
  have hlocks := B.notSynchronized
  subst hsz
  have hD := hD0.self (sz := s.heap.size)
  generalize hAe : va_A (wM m0 m1 m2 m3 m4 m5 k1 k2 k3 k4 k5 code funs made great up down size rows work xx power) s.heap.size = A at hD ⊢
  have hA : ∀ q : Nat, s.heap.size ≤ q → A q := fun q h => by rw [← hAe]; exact Or.inr h
  have hl := lv_entry ([.ref m0, .int p0]) (n := 2) (Nat.le_of_ble_eq_true rfl)
  rw [lg_entry_eq]
  generalize (lg_sl ([.ref m0, .int p0]) ++ List.replicate (2 - (lg_sl ([.ref m0, .int p0])).length) Slot.unset).toArray = ls at hl ⊢
  have hl : lv_has ls 2 [(0, .ref m0), (1, .int p0)] := hl
  refine W.cap (fun G Gi Ge => ?_)
  suffices hL : ∀ (H : Heap) (locs : List Loc), va_P D vwCl (wM m0 m1 m2 m3 m4 m5 k1 k2 k3 k4 k5 code funs made great up down size rows work xx power) H → va_S A s.heap H locs → G H locs (F0 m 0 ls []) from hL _ _ hP va_S.rf
  clear hP
  intro H locs hP hS
  refine Gi _ _ _ ?_
  unfold wp_M_terms at h
  refine lv_aload_n hx hb d_M_terms_0 rfl (lv_at hl 0 rfl) ?_
  refine lv_aload_n hx hb d_M_terms_1 rfl (lv_at hl 0 rfl) ?_
  refine lv_iload_n hx hb d_M_terms_2 rfl (lv_at hl 1 rfl) ?_
  have hF1 := va_free (wc := (wM m0 m1 m2 m3 m4 m5 k1 k2 k3 k4 k5 code funs made great up down size rows work xx power)) hD hS hA [0, 1, 2, 3, 4, 5] rfl
  refine va_calli (va_runV (As := [.int p0]) (rest := [.ref m0]) ⟨hx, hb, hml, hown, hB⟩ (c_M_isFunction l D m0 m1 m2 m3 m4 m5 k1 k2 k3 k4 k5 H.size code funs made great up down size rows work xx power p0 _) (cwV 1 hB (goodV wd_402 wd_403 wd_515 wd_3 wd_404) rfl rfl rfl (by decide +kernel) ⟨Nat.le_of_ble_eq_true rfl, Nat.le_of_ble_eq_true rfl⟩) ⟨pcG_blind, va_recv hK hP (ci := 2) (q0 := 0) rfl rfl, pcG_pre hP hK hD h⟩ rfl rfl hl.1 rfl (lv_room (Nat.le_of_ble_eq_true rfl)) d_M_terms_3 ⟨Nat.le_of_ble_eq_true rfl, Nat.le_of_ble_eq_true rfl⟩) hS (fun q _ h => hF1 q h) hF1 (fun r2 u t H locs ht hvm h hB hz1 hk1 hS => ?_)
  obtain ⟨hP1, hK1, hD1⟩ := hB
  rw [ht] at hP1
  have hP : va_P D vwCl (wM m0 m1 m2 m3 m4 m5 k1 k2 k3 k4 k5 code funs made great up down size rows work xx power) H := hP1
  have hD : va_D A (wM m0 m1 m2 m3 m4 m5 k1 k2 k3 k4 k5 code funs made great up down size rows work xx power) := hD1.weaken (fun _ _ _ hq => hF1 _ hq)
  refine lv_if_eq (tgt := 13) hx hb d_M_terms_6 (by decide) (fun hc3 => ?_) (fun hc3 => ?_)
  · replace h := h.1 hc3
    refine lv_iconst (v := 1) hx hb d_M_terms_13 (by decide) ?_
    refine va_put (D := D) (ci := 2) (v := .int 1) (ty := .int) (C := R_M) (T := F_M) (N := 11) hx hb hB inF_M t_M t_M_ok n_M hown hK hP hD hS 0 rfl rfl 0 (by decide) (hB _ wd_338) (fun _ h9 => h9) rfl (by decide +kernel) rfl rfl (Nat.le_of_ble_eq_true rfl) d_M_terms_14 (fun H locs hP hD hS => ?_)
    have hP : va_P D vwCl (wM m0 m1 m2 m3 m4 m5 k1 k2 k3 k4 k5 1 funs made great up down size rows work xx power) H := hP
    have hD : va_D A (wM m0 m1 m2 m3 m4 m5 k1 k2 k3 k4 k5 1 funs made great up down size rows work xx power) := hD
    refine lv_aload_n hx hb d_M_terms_17 rfl (lv_at hl 0 rfl) ?_
    refine va_get (D := D) (ci := 2) (v := .int 1) (C := R_M) (T := F_M) (N := 11) hx hb hB inF_M hown hK hP 0 rfl rfl 0 (by decide) (hB _ wd_338) (fun _ h9 => h9) rfl d_M_terms_18 ?_
    refine lv_if_le (tgt := 28) hx hb d_M_terms_21 (by decide) (fun c => absurd c (by decide)) (fun _ => ?_)
    refine lv_iconst (v := 0) hx hb d_M_terms_24 (by decide) ?_
    refine lv_goto (tgt := 34) hx hb d_M_terms_25 (by decide) ?_
    exact W.iret (v := 0) hx hb hr (fun t ht hW => ⟨⟨0, 1, rfl, h, by rw [ht]; exact hP, va_K.moved hW.alike hK, hD⟩, hS.F ht⟩) hS.2.2 d_M_terms_34
  · replace h := h.2 hc3
    refine lv_iconst (v := 0) hx hb d_M_terms_9 (by decide) ?_
    refine lv_goto (tgt := 14) hx hb d_M_terms_10 (by decide) ?_
    refine va_put (D := D) (ci := 2) (v := .int 0) (ty := .int) (C := R_M) (T := F_M) (N := 11) hx hb hB inF_M t_M t_M_ok n_M hown hK hP hD hS 0 rfl rfl 0 (by decide) (hB _ wd_338) (fun _ h9 => h9) rfl (by decide +kernel) rfl rfl (Nat.le_of_ble_eq_true rfl) d_M_terms_14 (fun H locs hP hD hS => ?_)
    have hP : va_P D vwCl (wM m0 m1 m2 m3 m4 m5 k1 k2 k3 k4 k5 0 funs made great up down size rows work xx power) H := hP
    have hD : va_D A (wM m0 m1 m2 m3 m4 m5 k1 k2 k3 k4 k5 0 funs made great up down size rows work xx power) := hD
    refine lv_aload_n hx hb d_M_terms_17 rfl (lv_at hl 0 rfl) ?_
    refine va_get (D := D) (ci := 2) (v := .int 0) (C := R_M) (T := F_M) (N := 11) hx hb hB inF_M hown hK hP 0 rfl rfl 0 (by decide) (hB _ wd_338) (fun _ h9 => h9) rfl d_M_terms_18 ?_
    refine lv_if_le (tgt := 28) hx hb d_M_terms_21 (by decide) (fun _ => ?_) (fun c => absurd c (by decide))
    refine lv_aload_n hx hb d_M_terms_28 rfl (lv_at hl 0 rfl) ?_
    refine va_get (D := D) (ci := 2) (v := .ref m1) (C := R_M) (T := F_M) (N := 11) hx hb hB inF_M hown hK hP 0 rfl rfl 2 (by decide) (hB _ wd_340) (fun _ h9 => h9) rfl d_M_terms_29 ?_
    refine lv_iload_n hx hb d_M_terms_32 rfl (lv_at hl 1 rfl) ?_
    obtain ⟨g4, h⟩ := h
    refine va_iald hx hb hK hP 1 0 rfl rfl g4 d_M_terms_33 ?_
    exact W.iret (v := size p0.toNatClampNeg) hx hb hr (fun t ht hW => ⟨⟨size p0.toNatClampNeg, 0, rfl, h, by rw [ht]; exact hP, va_K.moved hW.alike hK, hD⟩, hS.F ht⟩) hS.2.2 d_M_terms_34
set_option maxHeartbeats 4000000 in
set_option maxRecDepth 100000 in
theorem c_M_term (l : Launch) (D : va_G) (m0 m1 m2 m3 m4 m5 : Nat) (k1 k2 k3 k4 k5 : ClassId) (sz : Nat) (code : Int32) (funs : Int32) (made : Int32) (great : Int32) (up : Int64) (down : Int64) (size : (Nat → Int32)) (rows : (Nat → Int32)) (work : (Nat → Int32)) (xx : (Nat → Int32)) (power : (Nat → Int32)) (p0 : Int32) (p1 : Int32) (p2 : Int32) (post : Int32 → Int32 → Prop) : Met l y_M_term (Cond.code y_M_term b_M_term 4 (some .int) :: BIG) ({ frames := 2, cells := 0, slots := 0, locals := 46 }) (va_Pc [.ref m0, .int p0, .int p1, .int p2] (pcG D vwCl (wM m0 m1 m2 m3 m4 m5 k1 k2 k3 k4 k5 code funs made great up down size rows work xx power) [(k1, .int), (k2, .int), (k3, .int), (k4, .int), (k5, .int)] sz (wp_M_term code funs size rows p0 p1 p2 post))) (va_Qi (fun (r : Int32) (u : Int32) => post r u) (fun u => atG D vwCl [(k1, .int), (k2, .int), (k3, .int), (k4, .int), (k5, .int)] (va_A (wM m0 m1 m2 m3 m4 m5 k1 k2 k3 k4 k5 code funs made great up down size rows work xx power) sz) (wM m0 m1 m2 m3 m4 m5 k1 k2 k3 k4 k5 u funs made great up down size rows work xx power)) (va_A (wM m0 m1 m2 m3 m4 m5 k1 k2 k3 k4 k5 code funs made great up down size rows work xx power) sz)) 0 0 (va_A (wM m0 m1 m2 m3 m4 m5 k1 k2 k3 k4 k5 code funs made great up down size rows work xx power) sz) := by
  refine Met.ofW (cc := b_M_term) (maxL := 4) (ret := (some .int)) (by decide) rfl ?_
  intro p e s m args below meth c s₁ B hml hv
  obtain ⟨rfl, hsz, hP, hK, hD0, h⟩ := hv
  have hx := B.exec
  have hb := B.bytes
  have hr := B.returns
  have hB : ∀ w ∈ BIG, w.before _ s = true := fun w h => atoms_spec (ws := (Cond.code y_M_term b_M_term 4 (some .int) :: BIG)) B.pre w (List.mem_cons_of_mem _ h)
  have hown : s.vm.findClass R_M = some m.cls := findClass_of_methodNamed B.named
  have hlocks := B.notSynchronized
  subst hsz
  have hD := hD0.self (sz := s.heap.size)
  generalize hAe : va_A (wM m0 m1 m2 m3 m4 m5 k1 k2 k3 k4 k5 code funs made great up down size rows work xx power) s.heap.size = A at hD ⊢
  have hA : ∀ q : Nat, s.heap.size ≤ q → A q := fun q h => by rw [← hAe]; exact Or.inr h
  have hl := lv_entry ([.ref m0, .int p0, .int p1, .int p2]) (n := 4) (Nat.le_of_ble_eq_true rfl)
  rw [lg_entry_eq]
  generalize (lg_sl ([.ref m0, .int p0, .int p1, .int p2]) ++ List.replicate (4 - (lg_sl ([.ref m0, .int p0, .int p1, .int p2])).length) Slot.unset).toArray = ls at hl ⊢
  have hl : lv_has ls 4 [(0, .ref m0), (1, .int p0), (2, .int p1), (3, .int p2)] := hl
  refine W.cap (fun G Gi Ge => ?_)
  suffices hL : ∀ (H : Heap) (locs : List Loc), va_P D vwCl (wM m0 m1 m2 m3 m4 m5 k1 k2 k3 k4 k5 code funs made great up down size rows work xx power) H → va_S A s.heap H locs → G H locs (F0 m 0 ls []) from hL _ _ hP va_S.rf
  clear hP
  intro H locs hP hS
  refine Gi _ _ _ ?_
  unfold wp_M_term at h
  refine lv_aload_n hx hb d_M_term_0 rfl (lv_at hl 0 rfl) ?_
  refine lv_aload_n hx hb d_M_term_1 rfl (lv_at hl 0 rfl) ?_
  refine lv_iload_n hx hb d_M_term_2 rfl (lv_at hl 1 rfl) ?_
  have hF1 := va_free (wc := (wM m0 m1 m2 m3 m4 m5 k1 k2 k3 k4 k5 code funs made great up down size rows work xx power)) hD hS hA [0, 1, 2, 3, 4, 5] rfl
  refine va_calli (va_runV (As := [.int p0]) (rest := [.ref m0]) ⟨hx, hb, hml, hown, hB⟩ (c_M_isFunction l D m0 m1 m2 m3 m4 m5 k1 k2 k3 k4 k5 H.size code funs made great up down size rows work xx power p0 _) (cwV 1 hB (goodV wd_402 wd_403 wd_515 wd_3 wd_404) rfl rfl rfl (by decide +kernel) ⟨Nat.le_of_ble_eq_true rfl, Nat.le_of_ble_eq_true rfl⟩) ⟨pcG_blind, va_recv hK hP (ci := 2) (q0 := 0) rfl rfl, pcG_pre hP hK hD h⟩ rfl rfl hl.1 rfl (lv_room (Nat.le_of_ble_eq_true rfl)) d_M_term_3 ⟨Nat.le_of_ble_eq_true rfl, Nat.le_of_ble_eq_true rfl⟩) hS (fun q _ h => hF1 q h) hF1 (fun r2 u t H locs ht hvm h hB hz1 hk1 hS => ?_)
  obtain ⟨hP1, hK1, hD1⟩ := hB
  rw [ht] at hP1
  have hP : va_P D vwCl (wM m0 m1 m2 m3 m4 m5 k1 k2 k3 k4 k5 code funs made great up down size rows work xx power) H := hP1
  have hD : va_D A (wM m0 m1 m2 m3 m4 m5 k1 k2 k3 k4 k5 code funs made great up down size rows work xx power) := hD1.weaken (fun _ _ _ hq => hF1 _ hq)
  refine lv_if_ne (tgt := 13) hx hb d_M_term_6 (by decide) (fun hc3 => ?_) (fun hc3 => ?_)
  · replace h := h.1 hc3
    refine lv_iload_n hx hb d_M_term_13 rfl (lv_at hl 2 rfl) ?_
    refine lv_i2l hx hb d_M_term_14 rfl ?_
    refine lv_lconst (v := 0) hx hb d_M_term_15 (by decide) ?_
    refine lv_aload_n hx hb d_M_term_16 rfl (lv_at hl 0 rfl) ?_
    refine va_get (D := D) (ci := 2) (v := .ref m1) (C := R_M) (T := F_M) (N := 11) hx hb hB inF_M hown hK hP 0 rfl rfl 2 (by decide) (hB _ wd_340) (fun _ h9 => h9) rfl d_M_term_17 ?_
    refine lv_iload_n hx hb d_M_term_20 rfl (lv_at hl 1 rfl) ?_
    obtain ⟨g4, h⟩ := h
    refine va_iald hx hb hK hP 1 0 rfl rfl g4 d_M_term_21 ?_
    refine lv_iconst (v := 1) hx hb d_M_term_22 (by decide) ?_
    refine lv_isub hx hb d_M_term_23 ?_
    refine lv_i2l hx hb d_M_term_24 rfl ?_
    have hF5 := va_free (wc := (wM m0 m1 m2 m3 m4 m5 k1 k2 k3 k4 k5 code funs made great up down size rows work xx power)) hD hS hA [0, 1, 2, 3, 4, 5] rfl
    refine va_calli (va_runS (As := [.long (p1.toInt64), .long 0, .long (((size p0.toNatClampNeg) - 1).toInt64)]) (rest := [.ref m0]) ⟨hx, hb, hml, hown, hB⟩ (c_M_in l D m0 m1 m2 m3 m4 m5 k1 k2 k3 k4 k5 H.size code funs made great up down size rows work xx power (p1.toInt64) 0 (((size p0.toNatClampNeg) - 1).toInt64) _) (cwS 3 hB (goodS wd_381 wd_382 wd_3 wd_383) rfl rfl rfl (by decide +kernel) ⟨Nat.le_of_ble_eq_true rfl, Nat.le_of_ble_eq_true rfl⟩) ⟨pcG_blind, pcG_pre hP hK hD h⟩ rfl rfl hl.1 rfl (lv_room (Nat.le_of_ble_eq_true rfl)) d_M_term_25 ⟨Nat.le_of_ble_eq_true rfl, Nat.le_of_ble_eq_true rfl⟩) hS (fun q _ h => hF5 q h) hF5 (fun r6 u t H locs ht hvm h hB hz1 hk1 hS => ?_)
    obtain ⟨hP1, hK1, hD1⟩ := hB
    rw [ht] at hP1
    have hP : va_P D vwCl (wM m0 m1 m2 m3 m4 m5 k1 k2 k3 k4 k5 code funs made great up down size rows work xx power) H := hP1
    have hD : va_D A (wM m0 m1 m2 m3 m4 m5 k1 k2 k3 k4 k5 code funs made great up down size rows work xx power) := hD1.weaken (fun _ _ _ hq => hF5 _ hq)
    refine lv_if_eq (tgt := 43) hx hb d_M_term_28 (by decide) (fun hc7 => ?_) (fun hc7 => ?_)
    · replace h := h.1 hc7
      refine lv_iconst (v := 2) hx hb d_M_term_43 (by decide) ?_
      refine lv_goto (tgt := 48) hx hb d_M_term_44 (by decide) ?_
      refine va_put (D := D) (ci := 2) (v := .int 2) (ty := .int) (C := R_M) (T := F_M) (N := 11) hx hb hB inF_M t_M t_M_ok n_M hown hK hP hD hS 0 rfl rfl 0 (by decide) (hB _ wd_338) (fun _ h9 => h9) rfl (by decide +kernel) rfl rfl (Nat.le_of_ble_eq_true rfl) d_M_term_48 (fun H locs hP hD hS => ?_)
      have hP : va_P D vwCl (wM m0 m1 m2 m3 m4 m5 k1 k2 k3 k4 k5 2 funs made great up down size rows work xx power) H := hP
      have hD : va_D A (wM m0 m1 m2 m3 m4 m5 k1 k2 k3 k4 k5 2 funs made great up down size rows work xx power) := hD
      refine lv_aload_n hx hb d_M_term_51 rfl (lv_at hl 0 rfl) ?_
      refine va_get (D := D) (ci := 2) (v := .int 2) (C := R_M) (T := F_M) (N := 11) hx hb hB inF_M hown hK hP 0 rfl rfl 0 (by decide) (hB _ wd_338) (fun _ h9 => h9) rfl d_M_term_52 ?_
      refine lv_if_le (tgt := 62) hx hb d_M_term_55 (by decide) (fun c => absurd c (by decide)) (fun _ => ?_)
      refine lv_iconst (v := 0) hx hb d_M_term_58 (by decide) ?_
      refine lv_goto (tgt := 69) hx hb d_M_term_59 (by decide) ?_
      exact W.iret (v := 0) hx hb hr (fun t ht hW => ⟨⟨0, 2, rfl, h, by rw [ht]; exact hP, va_K.moved hW.alike hK, hD⟩, hS.F ht⟩) hS.2.2 d_M_term_69
    · replace h := h.2 hc7
      refine lv_iload_n hx hb d_M_term_31 rfl (lv_at hl 3 rfl) ?_
      refine lv_i2l hx hb d_M_term_32 rfl ?_
      refine lv_lconst (v := 0) hx hb d_M_term_33 (by decide) ?_
      refine lv_ldc2 (v := 6) hx hb hown (hB _ wd_446) d_M_term_34 ?_
      have hF8 := va_free (wc := (wM m0 m1 m2 m3 m4 m5 k1 k2 k3 k4 k5 code funs made great up down size rows work xx power)) hD hS hA [0, 1, 2, 3, 4, 5] rfl
      refine va_calli (va_runS (As := [.long (p2.toInt64), .long 0, .long 6]) (rest := [.ref m0]) ⟨hx, hb, hml, hown, hB⟩ (c_M_in l D m0 m1 m2 m3 m4 m5 k1 k2 k3 k4 k5 H.size code funs made great up down size rows work xx power (p2.toInt64) 0 6 _) (cwS 3 hB (goodS wd_381 wd_382 wd_3 wd_383) rfl rfl rfl (by decide +kernel) ⟨Nat.le_of_ble_eq_true rfl, Nat.le_of_ble_eq_true rfl⟩) ⟨pcG_blind, pcG_pre hP hK hD h⟩ rfl rfl hl.1 rfl (lv_room (Nat.le_of_ble_eq_true rfl)) d_M_term_37 ⟨Nat.le_of_ble_eq_true rfl, Nat.le_of_ble_eq_true rfl⟩) hS (fun q _ h => hF8 q h) hF8 (fun r9 u t H locs ht hvm h hB hz1 hk1 hS => ?_)
      obtain ⟨hP1, hK1, hD1⟩ := hB
      rw [ht] at hP1
      have hP : va_P D vwCl (wM m0 m1 m2 m3 m4 m5 k1 k2 k3 k4 k5 code funs made great up down size rows work xx power) H := hP1
      have hD : va_D A (wM m0 m1 m2 m3 m4 m5 k1 k2 k3 k4 k5 code funs made great up down size rows work xx power) := hD1.weaken (fun _ _ _ hq => hF8 _ hq)
      refine lv_if_ne (tgt := 47) hx hb d_M_term_40 (by decide) (fun hc10 => ?_) (fun hc10 => ?_)
      · replace h := h.1 hc10
        refine lv_iconst (v := 0) hx hb d_M_term_47 (by decide) ?_
        refine va_put (D := D) (ci := 2) (v := .int 0) (ty := .int) (C := R_M) (T := F_M) (N := 11) hx hb hB inF_M t_M t_M_ok n_M hown hK hP hD hS 0 rfl rfl 0 (by decide) (hB _ wd_338) (fun _ h9 => h9) rfl (by decide +kernel) rfl rfl (Nat.le_of_ble_eq_true rfl) d_M_term_48 (fun H locs hP hD hS => ?_)
        have hP : va_P D vwCl (wM m0 m1 m2 m3 m4 m5 k1 k2 k3 k4 k5 0 funs made great up down size rows work xx power) H := hP
        have hD : va_D A (wM m0 m1 m2 m3 m4 m5 k1 k2 k3 k4 k5 0 funs made great up down size rows work xx power) := hD
        refine lv_aload_n hx hb d_M_term_51 rfl (lv_at hl 0 rfl) ?_
        refine va_get (D := D) (ci := 2) (v := .int 0) (C := R_M) (T := F_M) (N := 11) hx hb hB inF_M hown hK hP 0 rfl rfl 0 (by decide) (hB _ wd_338) (fun _ h9 => h9) rfl d_M_term_52 ?_
        refine lv_if_le (tgt := 62) hx hb d_M_term_55 (by decide) (fun _ => ?_) (fun c => absurd c (by decide))
        refine lv_aload_n hx hb d_M_term_62 rfl (lv_at hl 0 rfl) ?_
        refine lv_iload_n hx hb d_M_term_63 rfl (lv_at hl 1 rfl) ?_
        refine lv_iload_n hx hb d_M_term_64 rfl (lv_at hl 2 rfl) ?_
        refine lv_iload_n hx hb d_M_term_65 rfl (lv_at hl 3 rfl) ?_
        have hF11 := va_free (wc := (wM m0 m1 m2 m3 m4 m5 k1 k2 k3 k4 k5 0 funs made great up down size rows work xx power)) hD hS hA [0, 1, 2, 3, 4, 5] rfl
        refine va_calli (va_runV (As := [.int p0, .int p1, .int p2]) (rest := []) ⟨hx, hb, hml, hown, hB⟩ (c_M_at l D m0 m1 m2 m3 m4 m5 k1 k2 k3 k4 k5 H.size 0 funs made great up down size rows work xx power p0 p1 p2 _) (cwV 3 hB (goodV wd_408 wd_409 wd_517 wd_3 wd_410) rfl rfl rfl (by decide +kernel) ⟨Nat.le_of_ble_eq_true rfl, Nat.le_of_ble_eq_true rfl⟩) ⟨pcG_blind, va_recv hK hP (ci := 2) (q0 := 0) rfl rfl, pcG_pre hP hK hD h⟩ rfl rfl hl.1 rfl (lv_room (Nat.le_of_ble_eq_true rfl)) d_M_term_66 ⟨Nat.le_of_ble_eq_true rfl, Nat.le_of_ble_eq_true rfl⟩) hS (fun q _ h => hF11 q h) hF11 (fun r12 u t H locs ht hvm h hB hz1 hk1 hS => ?_)
        obtain ⟨hP1, hK1, hD1⟩ := hB
        rw [ht] at hP1
        have hP : va_P D vwCl (wM m0 m1 m2 m3 m4 m5 k1 k2 k3 k4 k5 0 funs made great up down size rows work xx power) H := hP1
        have hD : va_D A (wM m0 m1 m2 m3 m4 m5 k1 k2 k3 k4 k5 0 funs made great up down size rows work xx power) := hD1.weaken (fun _ _ _ hq => hF11 _ hq)
        exact W.iret (v := r12) hx hb hr (fun t ht hW => ⟨⟨r12, 0, rfl, h, by rw [ht]; exact hP, va_K.moved hW.alike hK, hD⟩, hS.F ht⟩) hS.2.2 d_M_term_69
      · replace h := h.2 hc10
        refine lv_iconst (v := 2) hx hb d_M_term_43 (by decide) ?_
        refine lv_goto (tgt := 48) hx hb d_M_term_44 (by decide) ?_
        refine va_put (D := D) (ci := 2) (v := .int 2) (ty := .int) (C := R_M) (T := F_M) (N := 11) hx hb hB inF_M t_M t_M_ok n_M hown hK hP hD hS 0 rfl rfl 0 (by decide) (hB _ wd_338) (fun _ h9 => h9) rfl (by decide +kernel) rfl rfl (Nat.le_of_ble_eq_true rfl) d_M_term_48 (fun H locs hP hD hS => ?_)
        have hP : va_P D vwCl (wM m0 m1 m2 m3 m4 m5 k1 k2 k3 k4 k5 2 funs made great up down size rows work xx power) H := hP
        have hD : va_D A (wM m0 m1 m2 m3 m4 m5 k1 k2 k3 k4 k5 2 funs made great up down size rows work xx power) := hD
        refine lv_aload_n hx hb d_M_term_51 rfl (lv_at hl 0 rfl) ?_
        refine va_get (D := D) (ci := 2) (v := .int 2) (C := R_M) (T := F_M) (N := 11) hx hb hB inF_M hown hK hP 0 rfl rfl 0 (by decide) (hB _ wd_338) (fun _ h9 => h9) rfl d_M_term_52 ?_
        refine lv_if_le (tgt := 62) hx hb d_M_term_55 (by decide) (fun c => absurd c (by decide)) (fun _ => ?_)
        refine lv_iconst (v := 0) hx hb d_M_term_58 (by decide) ?_
        refine lv_goto (tgt := 69) hx hb d_M_term_59 (by decide) ?_
        exact W.iret (v := 0) hx hb hr (fun t ht hW => ⟨⟨0, 2, rfl, h, by rw [ht]; exact hP, va_K.moved hW.alike hK, hD⟩, hS.F ht⟩) hS.2.2 d_M_term_69
  · replace h := h.2 hc3
    refine lv_iconst (v := 1) hx hb d_M_term_9 (by decide) ?_
    refine lv_goto (tgt := 48) hx hb d_M_term_10 (by decide) ?_
    refine va_put (D := D) (ci := 2) (v := .int 1) (ty := .int) (C := R_M) (T := F_M) (N := 11) hx hb hB inF_M t_M t_M_ok n_M hown hK hP hD hS 0 rfl rfl 0 (by decide) (hB _ wd_338) (fun _ h9 => h9) rfl (by decide +kernel) rfl rfl (Nat.le_of_ble_eq_true rfl) d_M_term_48 (fun H locs hP hD hS => ?_)
    have hP : va_P D vwCl (wM m0 m1 m2 m3 m4 m5 k1 k2 k3 k4 k5 1 funs made great up down size rows work xx power) H := hP
    have hD : va_D A (wM m0 m1 m2 m3 m4 m5 k1 k2 k3 k4 k5 1 funs made great up down size rows work xx power) := hD
    refine lv_aload_n hx hb d_M_term_51 rfl (lv_at hl 0 rfl) ?_
    refine va_get (D := D) (ci := 2) (v := .int 1) (C := R_M) (T := F_M) (N := 11) hx hb hB inF_M hown hK hP 0 rfl rfl 0 (by decide) (hB _ wd_338) (fun _ h9 => h9) rfl d_M_term_52 ?_
    refine lv_if_le (tgt := 62) hx hb d_M_term_55 (by decide) (fun c => absurd c (by decide)) (fun _ => ?_)
    refine lv_iconst (v := 0) hx hb d_M_term_58 (by decide) ?_
    refine lv_goto (tgt := 69) hx hb d_M_term_59 (by decide) ?_
    exact W.iret (v := 0) hx hb hr (fun t ht hW => ⟨⟨0, 1, rfl, h, by rw [ht]; exact hP, va_K.moved hW.alike hK, hD⟩, hS.F ht⟩) hS.2.2 d_M_term_69
set_option maxHeartbeats 4000000 in
set_option maxRecDepth 100000 in
theorem c_M_high (l : Launch) (D : va_G) (m0 m1 m2 m3 m4 m5 : Nat) (k1 k2 k3 k4 k5 : ClassId) (sz : Nat) (code : Int32) (funs : Int32) (made : Int32) (great : Int32) (up : Int64) (down : Int64) (size : (Nat → Int32)) (rows : (Nat → Int32)) (work : (Nat → Int32)) (xx : (Nat → Int32)) (power : (Nat → Int32)) (p0 : Int32) (post : Int32 → Prop) : Met l y_M_high (Cond.code y_M_high b_M_high 3 (some .int) :: BIG) ({ frames := 1, cells := 0, slots := 0, locals := 23 }) (va_Pc [.ref m0, .int p0] (pcG D vwCl (wM m0 m1 m2 m3 m4 m5 k1 k2 k3 k4 k5 code funs made great up down size rows work xx power) [(k1, .int), (k2, .int), (k3, .int), (k4, .int), (k5, .int)] sz (wp_M_high size rows p0 post))) (va_Qi (fun (r : Int32) (_ : Unit) => post r) (fun _ => atG D vwCl [(k1, .int), (k2, .int), (k3, .int), (k4, .int), (k5, .int)] (va_A (wM m0 m1 m2 m3 m4 m5 k1 k2 k3 k4 k5 code funs made great up down size rows work xx power) sz) (wM m0 m1 m2 m3 m4 m5 k1 k2 k3 k4 k5 code funs made great up down size rows work xx power)) (va_A (wM m0 m1 m2 m3 m4 m5 k1 k2 k3 k4 k5 code funs made great up down size rows work xx power) sz)) 0 0 (va_A (wM m0 m1 m2 m3 m4 m5 k1 k2 k3 k4 k5 code funs made great up down size rows work xx power) sz) := by
  refine Met.ofW (cc := b_M_high) (maxL := 3) (ret := (some .int)) (by decide) rfl ?_
  intro p e s m args below meth c s₁ B hml hv
  obtain ⟨rfl, hsz, hP, hK, hD0, h⟩ := hv
  have hx := B.exec
  have hb := B.bytes
  have hr := B.returns
  have hB : ∀ w ∈ BIG, w.before _ s = true := fun w h => atoms_spec (ws := (Cond.code y_M_high b_M_high 3 (some .int) :: BIG)) B.pre w (List.mem_cons_of_mem _ h)
  have hown : s.vm.findClass R_M = some m.cls := findClass_of_methodNamed B.named
  have hlocks := B.notSynchronized
  subst hsz
  have hD := hD0.self (sz := s.heap.size)
  generalize hAe : va_A (wM m0 m1 m2 m3 m4 m5 k1 k2 k3 k4 k5 code funs made great up down size rows work xx power) s.heap.size = A at hD ⊢
  have hA : ∀ q : Nat, s.heap.size ≤ q → A q := fun q h => by rw [← hAe]; exact Or.inr h
  have hl := lv_entry ([.ref m0, .int p0]) (n := 3) (Nat.le_of_ble_eq_true rfl)
  rw [lg_entry_eq]
  generalize (lg_sl ([.ref m0, .int p0]) ++ List.replicate (3 - (lg_sl ([.ref m0, .int p0])).length) Slot.unset).toArray = ls at hl ⊢
  have hl : lv_has ls 3 [(0, .ref m0), (1, .int p0)] := hl
  refine W.cap (fun G Gi Ge => ?_)
  suffices hL : ∀ (H : Heap) (locs : List Loc), va_P D vwCl (wM m0 m1 m2 m3 m4 m5 k1 k2 k3 k4 k5 code funs made great up down size rows work xx power) H → va_S A s.heap H locs → G H locs (F0 m 0 ls []) from hL _ _ hP va_S.rf
  clear hP
  intro H locs hP hS
  refine Gi _ _ _ ?_
  unfold wp_M_high at h
  refine lv_iconst (v := 0) hx hb d_M_high_0 (by decide) ?_
  refine lv_istore_n (lv' := [(2, .int 0), (0, .ref m0), (1, .int p0)]) hx hb d_M_high_1 rfl hl (by decide) rfl (fun ls hl => ?_)
  obtain ⟨n2, h⟩ := h
  refine W.cap (fun G2 Gi2 Ge2 => ?_)
  suffices hL2 : ∀ (n2 : Nat) (v2_1 : Int32) (H : Heap) (locs : List Loc) (ls : Array Slot), va_P D vwCl (wM m0 m1 m2 m3 m4 m5 k1 k2 k3 k4 k5 code funs made great up down size rows work xx power) H → va_D A (wM m0 m1 m2 m3 m4 m5 k1 k2 k3 k4 k5 code funs made great up down size rows work xx power) → va_S A s.heap H locs → lv_has ls 3 [(2, .int v2_1), (0, .ref m0), (1, .int p0)] → lpW1 (wb_M_high_2 post p0 size rows) n2 v2_1 → G2 H locs (F0 m 2 ls []) from hL2 n2 (0 : Int32) _ _ _ hP hD hS hl h
  clear h hP hD hS hl
  intro n2
  induction n2 with
  | zero => intro v2_1 H locs ls hP hD hS hl h; exact (show False from h).elim
  | succ n2 ihL2 =>
    intro v2_1 H locs ls hP hD hS hl h
    replace h : (wb_M_high_2 post p0 size rows) (lpW1 (wb_M_high_2 post p0 size rows) n2) v2_1 := h
    refine Gi2 _ _ _ ?_
    refine lv_iload_n hx hb d_M_high_2 rfl (lv_at hl 0 rfl) ?_
    refine lv_iconst (v := 5) hx hb d_M_high_3 (by decide) ?_
    refine lv_icmp_ge (tgt := 48) hx hb d_M_high_4 (by decide) (fun hc2 => ?_) (fun hc2 => ?_)
    · replace h := h.1 hc2
      refine lv_iconst (v := 0) hx hb d_M_high_48 (by decide) ?_
      exact W.iret (v := 0) hx hb hr (fun t ht hW => ⟨⟨0, (), rfl, h, by rw [ht]; exact hP, va_K.moved hW.alike hK, hD⟩, hS.F ht⟩) hS.2.2 d_M_high_49
    · replace h := h.2 hc2
      refine lv_aload_n hx hb d_M_high_7 rfl (lv_at hl 1 rfl) ?_
      refine va_get (D := D) (ci := 2) (v := .ref m1) (C := R_M) (T := F_M) (N := 11) hx hb hB inF_M hown hK hP 0 rfl rfl 2 (by decide) (hB _ wd_340) (fun _ h9 => h9) rfl d_M_high_8 ?_
      refine lv_iload_n hx hb d_M_high_11 rfl (lv_at hl 2 rfl) ?_
      obtain ⟨g3, h⟩ := h
      refine va_iald hx hb hK hP 1 0 rfl rfl g3 d_M_high_12 ?_
      refine lv_if_le (tgt := 48) hx hb d_M_high_13 (by decide) (fun hc4 => ?_) (fun hc4 => ?_)
      · replace h := h.1 hc4
        refine lv_iconst (v := 0) hx hb d_M_high_48 (by decide) ?_
        exact W.iret (v := 0) hx hb hr (fun t ht hW => ⟨⟨0, (), rfl, h, by rw [ht]; exact hP, va_K.moved hW.alike hK, hD⟩, hS.F ht⟩) hS.2.2 d_M_high_49
      · replace h := h.2 hc4
        refine lv_aload_n hx hb d_M_high_16 rfl (lv_at hl 1 rfl) ?_
        refine lv_iload_n hx hb d_M_high_17 rfl (lv_at hl 2 rfl) ?_
        refine lv_iconst (v := 0) hx hb d_M_high_18 (by decide) ?_
        refine lv_iload_n hx hb d_M_high_19 rfl (lv_at hl 0 rfl) ?_
        have hF5 := va_free (wc := (wM m0 m1 m2 m3 m4 m5 k1 k2 k3 k4 k5 code funs made great up down size rows work xx power)) hD hS hA [0, 1, 2, 3, 4, 5] rfl
        refine va_calli (va_runV (As := [.int p0, .int 0, .int v2_1]) (rest := []) ⟨hx, hb, hml, hown, hB⟩ (c_M_at l D m0 m1 m2 m3 m4 m5 k1 k2 k3 k4 k5 H.size code funs made great up down size rows work xx power p0 0 v2_1 _) (cwV 3 hB (goodV wd_408 wd_409 wd_517 wd_3 wd_410) rfl rfl rfl (by decide +kernel) ⟨Nat.le_of_ble_eq_true rfl, Nat.le_of_ble_eq_true rfl⟩) ⟨pcG_blind, va_recv hK hP (ci := 2) (q0 := 0) rfl rfl, pcG_pre hP hK hD h⟩ rfl rfl hl.1 rfl (lv_room (Nat.le_of_ble_eq_true rfl)) d_M_high_20 ⟨Nat.le_of_ble_eq_true rfl, Nat.le_of_ble_eq_true rfl⟩) hS (fun q _ h => hF5 q h) hF5 (fun r6 u t H locs ht hvm h hB hz1 hk1 hS => ?_)
        obtain ⟨hP1, hK1, hD1⟩ := hB
        rw [ht] at hP1
        have hP : va_P D vwCl (wM m0 m1 m2 m3 m4 m5 k1 k2 k3 k4 k5 code funs made great up down size rows work xx power) H := hP1
        have hD : va_D A (wM m0 m1 m2 m3 m4 m5 k1 k2 k3 k4 k5 code funs made great up down size rows work xx power) := hD1.weaken (fun _ _ _ hq => hF5 _ hq)
        refine lv_if_eq (tgt := 42) hx hb d_M_high_23 (by decide) (fun hc7 => ?_) (fun hc7 => ?_)
        · replace h := h.1 hc7
          obtain ⟨x8, ex8⟩ : ∃ z : Int32, z = v2_1 + 1 := ⟨_, rfl⟩
          replace h := h x8 ex8
          refine lv_iinc (v := x8) (lv' := [(2, .int x8), (0, .ref m0), (1, .int p0)]) hx hb d_M_high_42 hl (k := 0) rfl (by rw [ex8]; rfl) (by decide) rfl (fun ls hl => ?_)
          refine lv_goto (tgt := 2) hx hb d_M_high_45 (by decide) ?_
          exact Ge2 _ _ _ (ihL2 x8 _ _ _ hP hD hS (lv_sub hl [0, 1, 2] rfl) h)
        · replace h := h.2 hc7
          refine lv_aload_n hx hb d_M_high_26 rfl (lv_at hl 1 rfl) ?_
          refine lv_iload_n hx hb d_M_high_27 rfl (lv_at hl 2 rfl) ?_
          refine lv_iconst (v := 0) hx hb d_M_high_28 (by decide) ?_
          refine lv_iload_n hx hb d_M_high_29 rfl (lv_at hl 0 rfl) ?_
          have hF9 := va_free (wc := (wM m0 m1 m2 m3 m4 m5 k1 k2 k3 k4 k5 code funs made great up down size rows work xx power)) hD hS hA [0, 1, 2, 3, 4, 5] rfl
          refine va_calli (va_runV (As := [.int p0, .int 0, .int v2_1]) (rest := []) ⟨hx, hb, hml, hown, hB⟩ (c_M_at l D m0 m1 m2 m3 m4 m5 k1 k2 k3 k4 k5 H.size code funs made great up down size rows work xx power p0 0 v2_1 _) (cwV 3 hB (goodV wd_408 wd_409 wd_517 wd_3 wd_410) rfl rfl rfl (by decide +kernel) ⟨Nat.le_of_ble_eq_true rfl, Nat.le_of_ble_eq_true rfl⟩) ⟨pcG_blind, va_recv hK hP (ci := 2) (q0 := 0) rfl rfl, pcG_pre hP hK hD h⟩ rfl rfl hl.1 rfl (lv_room (Nat.le_of_ble_eq_true rfl)) d_M_high_30 ⟨Nat.le_of_ble_eq_true rfl, Nat.le_of_ble_eq_true rfl⟩) hS (fun q _ h => hF9 q h) hF9 (fun r10 u t H locs ht hvm h hB hz1 hk1 hS => ?_)
          obtain ⟨hP1, hK1, hD1⟩ := hB
          rw [ht] at hP1
          have hP : va_P D vwCl (wM m0 m1 m2 m3 m4 m5 k1 k2 k3 k4 k5 code funs made great up down size rows work xx power) H := hP1
          have hD : va_D A (wM m0 m1 m2 m3 m4 m5 k1 k2 k3 k4 k5 code funs made great up down size rows work xx power) := hD1.weaken (fun _ _ _ hq => hF9 _ hq)
          refine lv_if_le (tgt := 40) hx hb d_M_high_33 (by decide) (fun hc11 => ?_) (fun hc11 => ?_)
          · replace h := h.1 hc11
            refine lv_iconst (v := (-1)) hx hb d_M_high_40 (by decide) ?_
            exact W.iret (v := (-1)) hx hb hr (fun t ht hW => ⟨⟨(-1), (), rfl, h, by rw [ht]; exact hP, va_K.moved hW.alike hK, hD⟩, hS.F ht⟩) hS.2.2 d_M_high_41
          · replace h := h.2 hc11
            refine lv_iconst (v := 1) hx hb d_M_high_36 (by decide) ?_
            refine lv_goto (tgt := 41) hx hb d_M_high_37 (by decide) ?_
            exact W.iret (v := 1) hx hb hr (fun t ht hW => ⟨⟨1, (), rfl, h, by rw [ht]; exact hP, va_K.moved hW.alike hK, hD⟩, hS.F ht⟩) hS.2.2 d_M_high_41
set_option maxHeartbeats 4000000 in
set_option maxRecDepth 100000 in
theorem c_M_signOf (l : Launch) (D : va_G) (m0 m1 m2 m3 m4 m5 : Nat) (k1 k2 k3 k4 k5 : ClassId) (sz : Nat) (code : Int32) (funs : Int32) (made : Int32) (great : Int32) (up : Int64) (down : Int64) (size : (Nat → Int32)) (rows : (Nat → Int32)) (work : (Nat → Int32)) (xx : (Nat → Int32)) (power : (Nat → Int32)) (p0 : Int32) (post : Int32 → Prop) : Met l y_M_signOf (Cond.code y_M_signOf b_M_signOf 2 (some .int) :: BIG) ({ frames := 1, cells := 0, slots := 0, locals := 23 }) (va_Pc [.ref m0, .int p0] (pcG D vwCl (wM m0 m1 m2 m3 m4 m5 k1 k2 k3 k4 k5 code funs made great up down size rows work xx power) [(k1, .int), (k2, .int), (k3, .int), (k4, .int), (k5, .int)] sz (wp_M_signOf size rows p0 post))) (va_Qi (fun (r : Int32) (_ : Unit) => post r) (fun _ => atG D vwCl [(k1, .int), (k2, .int), (k3, .int), (k4, .int), (k5, .int)] (va_A (wM m0 m1 m2 m3 m4 m5 k1 k2 k3 k4 k5 code funs made great up down size rows work xx power) sz) (wM m0 m1 m2 m3 m4 m5 k1 k2 k3 k4 k5 code funs made great up down size rows work xx power)) (va_A (wM m0 m1 m2 m3 m4 m5 k1 k2 k3 k4 k5 code funs made great up down size rows work xx power) sz)) 0 0 (va_A (wM m0 m1 m2 m3 m4 m5 k1 k2 k3 k4 k5 code funs made great up down size rows work xx power) sz) := by
  refine Met.ofW (cc := b_M_signOf) (maxL := 2) (ret := (some .int)) (by decide) rfl ?_
  intro p e s m args below meth c s₁ B hml hv
  obtain ⟨rfl, hsz, hP, hK, hD0, h⟩ := hv
  have hx := B.exec
  have hb := B.bytes
  have hr := B.returns
  have hB : ∀ w ∈ BIG, w.before _ s = true := fun w h => atoms_spec (ws := (Cond.code y_M_signOf b_M_signOf 2 (some .int) :: BIG)) B.pre w (List.mem_cons_of_mem _ h)
  have hown : s.vm.findClass R_M = some m.cls := findClass_of_methodNamed B.named
  have hlocks := B.notSynchronized
  subst hsz
  have hD := hD0.self (sz := s.heap.size)
  generalize hAe : va_A (wM m0 m1 m2 m3 m4 m5 k1 k2 k3 k4 k5 code funs made great up down size rows work xx power) s.heap.size = A at hD ⊢
  have hA : ∀ q : Nat, s.heap.size ≤ q → A q := fun q h => by rw [← hAe]; exact Or.inr h
  have hl := lv_entry ([.ref m0, .int p0]) (n := 2) (Nat.le_of_ble_eq_true rfl)
  rw [lg_entry_eq]
  generalize (lg_sl ([.ref m0, .int p0]) ++ List.replicate (2 - (lg_sl ([.ref m0, .int p0])).length) Slot.unset).toArray = ls at hl ⊢
  have hl : lv_has ls 2 [(0, .ref m0), (1, .int p0)] := hl
  refine W.cap (fun G Gi Ge => ?_)
  suffices hL : ∀ (H : Heap) (locs : List Loc), va_P D vwCl (wM m0 m1 m2 m3 m4 m5 k1 k2 k3 k4 k5 code funs made great up down size rows work xx power) H → va_S A s.heap H locs → G H locs (F0 m 0 ls []) from hL _ _ hP va_S.rf
  clear hP
  intro H locs hP hS
  refine Gi _ _ _ ?_
  unfold wp_M_signOf at h
  refine lv_aload_n hx hb d_M_signOf_0 rfl (lv_at hl 0 rfl) ?_
  refine va_get (D := D) (ci := 2) (v := .ref m1) (C := R_M) (T := F_M) (N := 11) hx hb hB inF_M hown hK hP 0 rfl rfl 2 (by decide) (hB _ wd_340) (fun _ h9 => h9) rfl d_M_signOf_1 ?_
  refine lv_iload_n hx hb d_M_signOf_4 rfl (lv_at hl 1 rfl) ?_
  obtain ⟨g1, h⟩ := h
  refine va_iald hx hb hK hP 1 0 rfl rfl g1 d_M_signOf_5 ?_
  refine lv_if_ne (tgt := 13) hx hb d_M_signOf_6 (by decide) (fun hc2 => ?_) (fun hc2 => ?_)
  · replace h := h.1 hc2
    refine lv_aload_n hx hb d_M_signOf_13 rfl (lv_at hl 0 rfl) ?_
    refine lv_iload_n hx hb d_M_signOf_14 rfl (lv_at hl 1 rfl) ?_
    refine lv_iconst (v := 0) hx hb d_M_signOf_15 (by decide) ?_
    refine lv_iconst (v := 5) hx hb d_M_signOf_16 (by decide) ?_
    have hF3 := va_free (wc := (wM m0 m1 m2 m3 m4 m5 k1 k2 k3 k4 k5 code funs made great up down size rows work xx power)) hD hS hA [0, 1, 2, 3, 4, 5] rfl
    refine va_calli (va_runV (As := [.int p0, .int 0, .int 5]) (rest := []) ⟨hx, hb, hml, hown, hB⟩ (c_M_at l D m0 m1 m2 m3 m4 m5 k1 k2 k3 k4 k5 H.size code funs made great up down size rows work xx power p0 0 5 _) (cwV 3 hB (goodV wd_408 wd_409 wd_517 wd_3 wd_410) rfl rfl rfl (by decide +kernel) ⟨Nat.le_of_ble_eq_true rfl, Nat.le_of_ble_eq_true rfl⟩) ⟨pcG_blind, va_recv hK hP (ci := 2) (q0 := 0) rfl rfl, pcG_pre hP hK hD h⟩ rfl rfl hl.1 rfl (lv_room (Nat.le_of_ble_eq_true rfl)) d_M_signOf_17 ⟨Nat.le_of_ble_eq_true rfl, Nat.le_of_ble_eq_true rfl⟩) hS (fun q _ h => hF3 q h) hF3 (fun r4 u t H locs ht hvm h hB hz1 hk1 hS => ?_)
    obtain ⟨hP1, hK1, hD1⟩ := hB
    rw [ht] at hP1
    have hP : va_P D vwCl (wM m0 m1 m2 m3 m4 m5 k1 k2 k3 k4 k5 code funs made great up down size rows work xx power) H := hP1
    have hD : va_D A (wM m0 m1 m2 m3 m4 m5 k1 k2 k3 k4 k5 code funs made great up down size rows work xx power) := hD1.weaken (fun _ _ _ hq => hF3 _ hq)
    refine lv_if_le (tgt := 27) hx hb d_M_signOf_20 (by decide) (fun hc5 => ?_) (fun hc5 => ?_)
    · replace h := h.1 hc5
      refine lv_iconst (v := (-1)) hx hb d_M_signOf_27 (by decide) ?_
      exact W.iret (v := (-1)) hx hb hr (fun t ht hW => ⟨⟨(-1), (), rfl, h, by rw [ht]; exact hP, va_K.moved hW.alike hK, hD⟩, hS.F ht⟩) hS.2.2 d_M_signOf_28
    · replace h := h.2 hc5
      refine lv_iconst (v := 1) hx hb d_M_signOf_23 (by decide) ?_
      refine lv_goto (tgt := 28) hx hb d_M_signOf_24 (by decide) ?_
      exact W.iret (v := 1) hx hb hr (fun t ht hW => ⟨⟨1, (), rfl, h, by rw [ht]; exact hP, va_K.moved hW.alike hK, hD⟩, hS.F ht⟩) hS.2.2 d_M_signOf_28
  · replace h := h.2 hc2
    refine lv_iconst (v := 0) hx hb d_M_signOf_9 (by decide) ?_
    refine lv_goto (tgt := 28) hx hb d_M_signOf_10 (by decide) ?_
    exact W.iret (v := 0) hx hb hr (fun t ht hW => ⟨⟨0, (), rfl, h, by rw [ht]; exact hP, va_K.moved hW.alike hK, hD⟩, hS.F ht⟩) hS.2.2 d_M_signOf_28
set_option maxHeartbeats 4000000 in
set_option maxRecDepth 100000 in
theorem c_M_sign (l : Launch) (D : va_G) (m0 m1 m2 m3 m4 m5 : Nat) (k1 k2 k3 k4 k5 : ClassId) (sz : Nat) (code : Int32) (funs : Int32) (made : Int32) (great : Int32) (up : Int64) (down : Int64) (size : (Nat → Int32)) (rows : (Nat → Int32)) (work : (Nat → Int32)) (xx : (Nat → Int32)) (power : (Nat → Int32)) (p0 : Int32) (post : Int32 → Int32 → Prop) : Met l y_M_sign (Cond.code y_M_sign b_M_sign 2 (some .int) :: BIG) ({ frames := 2, cells := 0, slots := 0, locals := 46 }) (va_Pc [.ref m0, .int p0] (pcG D vwCl (wM m0 m1 m2 m3 m4 m5 k1 k2 k3 k4 k5 code funs made great up down size rows work xx power) [(k1, .int), (k2, .int), (k3, .int), (k4, .int), (k5, .int)] sz (wp_M_sign code funs size rows p0 post))) (va_Qi (fun (r : Int32) (u : Int32) => post r u) (fun u => atG D vwCl [(k1, .int), (k2, .int), (k3, .int), (k4, .int), (k5, .int)] (va_A (wM m0 m1 m2 m3 m4 m5 k1 k2 k3 k4 k5 code funs made great up down size rows work xx power) sz) (wM m0 m1 m2 m3 m4 m5 k1 k2 k3 k4 k5 u funs made great up down size rows work xx power)) (va_A (wM m0 m1 m2 m3 m4 m5 k1 k2 k3 k4 k5 code funs made great up down size rows work xx power) sz)) 0 0 (va_A (wM m0 m1 m2 m3 m4 m5 k1 k2 k3 k4 k5 code funs made great up down size rows work xx power) sz) := by
  refine Met.ofW (cc := b_M_sign) (maxL := 2) (ret := (some .int)) (by decide) rfl ?_
  intro p e s m args below meth c s₁ B hml hv
  obtain ⟨rfl, hsz, hP, hK, hD0, h⟩ := hv
  have hx := B.exec
  have hb := B.bytes
  have hr := B.returns
  have hB : ∀ w ∈ BIG, w.before _ s = true := fun w h => atoms_spec (ws := (Cond.code y_M_sign b_M_sign 2 (some .int) :: BIG)) B.pre w (List.mem_cons_of_mem _ h)
  have hown : s.vm.findClass R_M = some m.cls := findClass_of_methodNamed B.named
  have hlocks := B.notSynchronized
  subst hsz
  have hD := hD0.self (sz := s.heap.size)
  generalize hAe : va_A (wM m0 m1 m2 m3 m4 m5 k1 k2 k3 k4 k5 code funs made great up down size rows work xx power) s.heap.size = A at hD ⊢
  have hA : ∀ q : Nat, s.heap.size ≤ q → A q := fun q h => by rw [← hAe]; exact Or.inr h
  have hl := lv_entry ([.ref m0, .int p0]) (n := 2) (Nat.le_of_ble_eq_true rfl)
  rw [lg_entry_eq]
  generalize (lg_sl ([.ref m0, .int p0]) ++ List.replicate (2 - (lg_sl ([.ref m0, .int p0])).length) Slot.unset).toArray = ls at hl ⊢
  have hl : lv_has ls 2 [(0, .ref m0), (1, .int p0)] := hl
  refine W.cap (fun G Gi Ge => ?_)
  suffices hL : ∀ (H : Heap) (locs : List Loc), va_P D vwCl (wM m0 m1 m2 m3 m4 m5 k1 k2 k3 k4 k5 code funs made great up down size rows work xx power) H → va_S A s.heap H locs → G H locs (F0 m 0 ls []) from hL _ _ hP va_S.rf
  clear hP
  intro H locs hP hS
  refine Gi _ _ _ ?_
  unfold wp_M_sign at h
  refine lv_aload_n hx hb d_M_sign_0 rfl (lv_at hl 0 rfl) ?_
  refine lv_aload_n hx hb d_M_sign_1 rfl (lv_at hl 0 rfl) ?_
  refine lv_iload_n hx hb d_M_sign_2 rfl (lv_at hl 1 rfl) ?_
  have hF1 := va_free (wc := (wM m0 m1 m2 m3 m4 m5 k1 k2 k3 k4 k5 code funs made great up down size rows work xx power)) hD hS hA [0, 1, 2, 3, 4, 5] rfl
  refine va_calli (va_runV (As := [.int p0]) (rest := [.ref m0]) ⟨hx, hb, hml, hown, hB⟩ (c_M_isFunction l D m0 m1 m2 m3 m4 m5 k1 k2 k3 k4 k5 H.size code funs made great up down size rows work xx power p0 _) (cwV 1 hB (goodV wd_402 wd_403 wd_515 wd_3 wd_404) rfl rfl rfl (by decide +kernel) ⟨Nat.le_of_ble_eq_true rfl, Nat.le_of_ble_eq_true rfl⟩) ⟨pcG_blind, va_recv hK hP (ci := 2) (q0 := 0) rfl rfl, pcG_pre hP hK hD h⟩ rfl rfl hl.1 rfl (lv_room (Nat.le_of_ble_eq_true rfl)) d_M_sign_3 ⟨Nat.le_of_ble_eq_true rfl, Nat.le_of_ble_eq_true rfl⟩) hS (fun q _ h => hF1 q h) hF1 (fun r2 u t H locs ht hvm h hB hz1 hk1 hS => ?_)
  obtain ⟨hP1, hK1, hD1⟩ := hB
  rw [ht] at hP1
  have hP : va_P D vwCl (wM m0 m1 m2 m3 m4 m5 k1 k2 k3 k4 k5 code funs made great up down size rows work xx power) H := hP1
  have hD : va_D A (wM m0 m1 m2 m3 m4 m5 k1 k2 k3 k4 k5 code funs made great up down size rows work xx power) := hD1.weaken (fun _ _ _ hq => hF1 _ hq)
  refine lv_if_eq (tgt := 13) hx hb d_M_sign_6 (by decide) (fun hc3 => ?_) (fun hc3 => ?_)
  · replace h := h.1 hc3
    refine lv_iconst (v := 1) hx hb d_M_sign_13 (by decide) ?_
    refine va_put (D := D) (ci := 2) (v := .int 1) (ty := .int) (C := R_M) (T := F_M) (N := 11) hx hb hB inF_M t_M t_M_ok n_M hown hK hP hD hS 0 rfl rfl 0 (by decide) (hB _ wd_338) (fun _ h9 => h9) rfl (by decide +kernel) rfl rfl (Nat.le_of_ble_eq_true rfl) d_M_sign_14 (fun H locs hP hD hS => ?_)
    have hP : va_P D vwCl (wM m0 m1 m2 m3 m4 m5 k1 k2 k3 k4 k5 1 funs made great up down size rows work xx power) H := hP
    have hD : va_D A (wM m0 m1 m2 m3 m4 m5 k1 k2 k3 k4 k5 1 funs made great up down size rows work xx power) := hD
    refine lv_aload_n hx hb d_M_sign_17 rfl (lv_at hl 0 rfl) ?_
    refine va_get (D := D) (ci := 2) (v := .int 1) (C := R_M) (T := F_M) (N := 11) hx hb hB inF_M hown hK hP 0 rfl rfl 0 (by decide) (hB _ wd_338) (fun _ h9 => h9) rfl d_M_sign_18 ?_
    refine lv_if_le (tgt := 28) hx hb d_M_sign_21 (by decide) (fun c => absurd c (by decide)) (fun _ => ?_)
    refine lv_iconst (v := 0) hx hb d_M_sign_24 (by decide) ?_
    refine lv_goto (tgt := 33) hx hb d_M_sign_25 (by decide) ?_
    exact W.iret (v := 0) hx hb hr (fun t ht hW => ⟨⟨0, 1, rfl, h, by rw [ht]; exact hP, va_K.moved hW.alike hK, hD⟩, hS.F ht⟩) hS.2.2 d_M_sign_33
  · replace h := h.2 hc3
    refine lv_iconst (v := 0) hx hb d_M_sign_9 (by decide) ?_
    refine lv_goto (tgt := 14) hx hb d_M_sign_10 (by decide) ?_
    refine va_put (D := D) (ci := 2) (v := .int 0) (ty := .int) (C := R_M) (T := F_M) (N := 11) hx hb hB inF_M t_M t_M_ok n_M hown hK hP hD hS 0 rfl rfl 0 (by decide) (hB _ wd_338) (fun _ h9 => h9) rfl (by decide +kernel) rfl rfl (Nat.le_of_ble_eq_true rfl) d_M_sign_14 (fun H locs hP hD hS => ?_)
    have hP : va_P D vwCl (wM m0 m1 m2 m3 m4 m5 k1 k2 k3 k4 k5 0 funs made great up down size rows work xx power) H := hP
    have hD : va_D A (wM m0 m1 m2 m3 m4 m5 k1 k2 k3 k4 k5 0 funs made great up down size rows work xx power) := hD
    refine lv_aload_n hx hb d_M_sign_17 rfl (lv_at hl 0 rfl) ?_
    refine va_get (D := D) (ci := 2) (v := .int 0) (C := R_M) (T := F_M) (N := 11) hx hb hB inF_M hown hK hP 0 rfl rfl 0 (by decide) (hB _ wd_338) (fun _ h9 => h9) rfl d_M_sign_18 ?_
    refine lv_if_le (tgt := 28) hx hb d_M_sign_21 (by decide) (fun _ => ?_) (fun c => absurd c (by decide))
    refine lv_aload_n hx hb d_M_sign_28 rfl (lv_at hl 0 rfl) ?_
    refine lv_iload_n hx hb d_M_sign_29 rfl (lv_at hl 1 rfl) ?_
    have hF4 := va_free (wc := (wM m0 m1 m2 m3 m4 m5 k1 k2 k3 k4 k5 0 funs made great up down size rows work xx power)) hD hS hA [0, 1, 2, 3, 4, 5] rfl
    refine va_calli (va_runV (As := [.int p0]) (rest := []) ⟨hx, hb, hml, hown, hB⟩ (c_M_signOf l D m0 m1 m2 m3 m4 m5 k1 k2 k3 k4 k5 H.size 0 funs made great up down size rows work xx power p0 _) (cwV 1 hB (goodV wd_451 wd_452 wd_520 wd_3 wd_453) rfl rfl rfl (by decide +kernel) ⟨Nat.le_of_ble_eq_true rfl, Nat.le_of_ble_eq_true rfl⟩) ⟨pcG_blind, va_recv hK hP (ci := 2) (q0 := 0) rfl rfl, pcG_pre hP hK hD h⟩ rfl rfl hl.1 rfl (lv_room (Nat.le_of_ble_eq_true rfl)) d_M_sign_30 ⟨Nat.le_of_ble_eq_true rfl, Nat.le_of_ble_eq_true rfl⟩) hS (fun q _ h => hF4 q h) hF4 (fun r5 u t H locs ht hvm h hB hz1 hk1 hS => ?_)
    obtain ⟨hP1, hK1, hD1⟩ := hB
    rw [ht] at hP1
    have hP : va_P D vwCl (wM m0 m1 m2 m3 m4 m5 k1 k2 k3 k4 k5 0 funs made great up down size rows work xx power) H := hP1
    have hD : va_D A (wM m0 m1 m2 m3 m4 m5 k1 k2 k3 k4 k5 0 funs made great up down size rows work xx power) := hD1.weaken (fun _ _ _ hq => hF4 _ hq)
    exact W.iret (v := r5) hx hb hr (fun t ht hW => ⟨⟨r5, 0, rfl, h, by rw [ht]; exact hP, va_K.moved hW.alike hK, hD⟩, hS.F ht⟩) hS.2.2 d_M_sign_33
set_option maxHeartbeats 4000000 in
set_option maxRecDepth 100000 in
theorem c_M_limit (l : Launch) (D : va_G) (m0 m1 m2 m3 m4 m5 : Nat) (k1 k2 k3 k4 k5 : ClassId) (sz : Nat) (code : Int32) (funs : Int32) (made : Int32) (great : Int32) (up : Int64) (down : Int64) (size : (Nat → Int32)) (rows : (Nat → Int32)) (work : (Nat → Int32)) (xx : (Nat → Int32)) (power : (Nat → Int32)) (p0 : Int32) (post : Int32 → Int32 → Prop) : Met l y_M_limit (Cond.code y_M_limit b_M_limit 2 (some .int) :: BIG) ({ frames := 2, cells := 0, slots := 0, locals := 46 }) (va_Pc [.ref m0, .int p0] (pcG D vwCl (wM m0 m1 m2 m3 m4 m5 k1 k2 k3 k4 k5 code funs made great up down size rows work xx power) [(k1, .int), (k2, .int), (k3, .int), (k4, .int), (k5, .int)] sz (wp_M_limit code funs size rows p0 post))) (va_Qi (fun (r : Int32) (u : Int32) => post r u) (fun u => atG D vwCl [(k1, .int), (k2, .int), (k3, .int), (k4, .int), (k5, .int)] (va_A (wM m0 m1 m2 m3 m4 m5 k1 k2 k3 k4 k5 code funs made great up down size rows work xx power) sz) (wM m0 m1 m2 m3 m4 m5 k1 k2 k3 k4 k5 u funs made great up down size rows work xx power)) (va_A (wM m0 m1 m2 m3 m4 m5 k1 k2 k3 k4 k5 code funs made great up down size rows work xx power) sz)) 0 0 (va_A (wM m0 m1 m2 m3 m4 m5 k1 k2 k3 k4 k5 code funs made great up down size rows work xx power) sz) := by
  refine Met.ofW (cc := b_M_limit) (maxL := 2) (ret := (some .int)) (by decide) rfl ?_
  intro p e s m args below meth c s₁ B hml hv
  obtain ⟨rfl, hsz, hP, hK, hD0, h⟩ := hv
  have hx := B.exec
  have hb := B.bytes
  have hr := B.returns
  have hB : ∀ w ∈ BIG, w.before _ s = true := fun w h => atoms_spec (ws := (Cond.code y_M_limit b_M_limit 2 (some .int) :: BIG)) B.pre w (List.mem_cons_of_mem _ h)
  have hown : s.vm.findClass R_M = some m.cls := findClass_of_methodNamed B.named
  have hlocks := B.notSynchronized
  subst hsz
  have hD := hD0.self (sz := s.heap.size)
  generalize hAe : va_A (wM m0 m1 m2 m3 m4 m5 k1 k2 k3 k4 k5 code funs made great up down size rows work xx power) s.heap.size = A at hD ⊢
  have hA : ∀ q : Nat, s.heap.size ≤ q → A q := fun q h => by rw [← hAe]; exact Or.inr h
  have hl := lv_entry ([.ref m0, .int p0]) (n := 2) (Nat.le_of_ble_eq_true rfl)
  rw [lg_entry_eq]
  generalize (lg_sl ([.ref m0, .int p0]) ++ List.replicate (2 - (lg_sl ([.ref m0, .int p0])).length) Slot.unset).toArray = ls at hl ⊢
  have hl : lv_has ls 2 [(0, .ref m0), (1, .int p0)] := hl
  refine W.cap (fun G Gi Ge => ?_)
  suffices hL : ∀ (H : Heap) (locs : List Loc), va_P D vwCl (wM m0 m1 m2 m3 m4 m5 k1 k2 k3 k4 k5 code funs made great up down size rows work xx power) H → va_S A s.heap H locs → G H locs (F0 m 0 ls []) from hL _ _ hP va_S.rf
  clear hP
  intro H locs hP hS
  refine Gi _ _ _ ?_
  unfold wp_M_limit at h
  refine lv_aload_n hx hb d_M_limit_0 rfl (lv_at hl 0 rfl) ?_
  refine lv_aload_n hx hb d_M_limit_1 rfl (lv_at hl 0 rfl) ?_
  refine lv_iload_n hx hb d_M_limit_2 rfl (lv_at hl 1 rfl) ?_
  have hF1 := va_free (wc := (wM m0 m1 m2 m3 m4 m5 k1 k2 k3 k4 k5 code funs made great up down size rows work xx power)) hD hS hA [0, 1, 2, 3, 4, 5] rfl
  refine va_calli (va_runV (As := [.int p0]) (rest := [.ref m0]) ⟨hx, hb, hml, hown, hB⟩ (c_M_isFunction l D m0 m1 m2 m3 m4 m5 k1 k2 k3 k4 k5 H.size code funs made great up down size rows work xx power p0 _) (cwV 1 hB (goodV wd_402 wd_403 wd_515 wd_3 wd_404) rfl rfl rfl (by decide +kernel) ⟨Nat.le_of_ble_eq_true rfl, Nat.le_of_ble_eq_true rfl⟩) ⟨pcG_blind, va_recv hK hP (ci := 2) (q0 := 0) rfl rfl, pcG_pre hP hK hD h⟩ rfl rfl hl.1 rfl (lv_room (Nat.le_of_ble_eq_true rfl)) d_M_limit_3 ⟨Nat.le_of_ble_eq_true rfl, Nat.le_of_ble_eq_true rfl⟩) hS (fun q _ h => hF1 q h) hF1 (fun r2 u t H locs ht hvm h hB hz1 hk1 hS => ?_)
  obtain ⟨hP1, hK1, hD1⟩ := hB
  rw [ht] at hP1
  have hP : va_P D vwCl (wM m0 m1 m2 m3 m4 m5 k1 k2 k3 k4 k5 code funs made great up down size rows work xx power) H := hP1
  have hD : va_D A (wM m0 m1 m2 m3 m4 m5 k1 k2 k3 k4 k5 code funs made great up down size rows work xx power) := hD1.weaken (fun _ _ _ hq => hF1 _ hq)
  refine lv_if_eq (tgt := 13) hx hb d_M_limit_6 (by decide) (fun hc3 => ?_) (fun hc3 => ?_)
  · replace h := h.1 hc3
    refine lv_iconst (v := 1) hx hb d_M_limit_13 (by decide) ?_
    refine va_put (D := D) (ci := 2) (v := .int 1) (ty := .int) (C := R_M) (T := F_M) (N := 11) hx hb hB inF_M t_M t_M_ok n_M hown hK hP hD hS 0 rfl rfl 0 (by decide) (hB _ wd_338) (fun _ h9 => h9) rfl (by decide +kernel) rfl rfl (Nat.le_of_ble_eq_true rfl) d_M_limit_14 (fun H locs hP hD hS => ?_)
    have hP : va_P D vwCl (wM m0 m1 m2 m3 m4 m5 k1 k2 k3 k4 k5 1 funs made great up down size rows work xx power) H := hP
    have hD : va_D A (wM m0 m1 m2 m3 m4 m5 k1 k2 k3 k4 k5 1 funs made great up down size rows work xx power) := hD
    refine lv_aload_n hx hb d_M_limit_17 rfl (lv_at hl 0 rfl) ?_
    refine va_get (D := D) (ci := 2) (v := .int 1) (C := R_M) (T := F_M) (N := 11) hx hb hB inF_M hown hK hP 0 rfl rfl 0 (by decide) (hB _ wd_338) (fun _ h9 => h9) rfl d_M_limit_18 ?_
    refine lv_if_le (tgt := 28) hx hb d_M_limit_21 (by decide) (fun c => absurd c (by decide)) (fun _ => ?_)
    refine lv_iconst (v := 0) hx hb d_M_limit_24 (by decide) ?_
    refine lv_goto (tgt := 45) hx hb d_M_limit_25 (by decide) ?_
    exact W.iret (v := 0) hx hb hr (fun t ht hW => ⟨⟨0, 1, rfl, h, by rw [ht]; exact hP, va_K.moved hW.alike hK, hD⟩, hS.F ht⟩) hS.2.2 d_M_limit_45
  · replace h := h.2 hc3
    refine lv_iconst (v := 0) hx hb d_M_limit_9 (by decide) ?_
    refine lv_goto (tgt := 14) hx hb d_M_limit_10 (by decide) ?_
    refine va_put (D := D) (ci := 2) (v := .int 0) (ty := .int) (C := R_M) (T := F_M) (N := 11) hx hb hB inF_M t_M t_M_ok n_M hown hK hP hD hS 0 rfl rfl 0 (by decide) (hB _ wd_338) (fun _ h9 => h9) rfl (by decide +kernel) rfl rfl (Nat.le_of_ble_eq_true rfl) d_M_limit_14 (fun H locs hP hD hS => ?_)
    have hP : va_P D vwCl (wM m0 m1 m2 m3 m4 m5 k1 k2 k3 k4 k5 0 funs made great up down size rows work xx power) H := hP
    have hD : va_D A (wM m0 m1 m2 m3 m4 m5 k1 k2 k3 k4 k5 0 funs made great up down size rows work xx power) := hD
    refine lv_aload_n hx hb d_M_limit_17 rfl (lv_at hl 0 rfl) ?_
    refine va_get (D := D) (ci := 2) (v := .int 0) (C := R_M) (T := F_M) (N := 11) hx hb hB inF_M hown hK hP 0 rfl rfl 0 (by decide) (hB _ wd_338) (fun _ h9 => h9) rfl d_M_limit_18 ?_
    refine lv_if_le (tgt := 28) hx hb d_M_limit_21 (by decide) (fun _ => ?_) (fun c => absurd c (by decide))
    refine lv_aload_n hx hb d_M_limit_28 rfl (lv_at hl 0 rfl) ?_
    refine lv_iload_n hx hb d_M_limit_29 rfl (lv_at hl 1 rfl) ?_
    have hF4 := va_free (wc := (wM m0 m1 m2 m3 m4 m5 k1 k2 k3 k4 k5 0 funs made great up down size rows work xx power)) hD hS hA [0, 1, 2, 3, 4, 5] rfl
    refine va_calli (va_runV (As := [.int p0]) (rest := []) ⟨hx, hb, hml, hown, hB⟩ (c_M_high l D m0 m1 m2 m3 m4 m5 k1 k2 k3 k4 k5 H.size 0 funs made great up down size rows work xx power p0 _) (cwV 1 hB (goodV wd_458 wd_459 wd_521 wd_3 wd_460) rfl rfl rfl (by decide +kernel) ⟨Nat.le_of_ble_eq_true rfl, Nat.le_of_ble_eq_true rfl⟩) ⟨pcG_blind, va_recv hK hP (ci := 2) (q0 := 0) rfl rfl, pcG_pre hP hK hD h⟩ rfl rfl hl.1 rfl (lv_room (Nat.le_of_ble_eq_true rfl)) d_M_limit_30 ⟨Nat.le_of_ble_eq_true rfl, Nat.le_of_ble_eq_true rfl⟩) hS (fun q _ h => hF4 q h) hF4 (fun r5 u t H locs ht hvm h hB hz1 hk1 hS => ?_)
    obtain ⟨hP1, hK1, hD1⟩ := hB
    rw [ht] at hP1
    have hP : va_P D vwCl (wM m0 m1 m2 m3 m4 m5 k1 k2 k3 k4 k5 0 funs made great up down size rows work xx power) H := hP1
    have hD : va_D A (wM m0 m1 m2 m3 m4 m5 k1 k2 k3 k4 k5 0 funs made great up down size rows work xx power) := hD1.weaken (fun _ _ _ hq => hF4 _ hq)
    refine lv_if_le (tgt := 44) hx hb d_M_limit_33 (by decide) (fun hc6 => ?_) (fun hc6 => ?_)
    · replace h := h.1 hc6
      refine lv_iconst (v := 0) hx hb d_M_limit_44 (by decide) ?_
      exact W.iret (v := 0) hx hb hr (fun t ht hW => ⟨⟨0, 0, rfl, h, by rw [ht]; exact hP, va_K.moved hW.alike hK, hD⟩, hS.F ht⟩) hS.2.2 d_M_limit_45
    · replace h := h.2 hc6
      refine lv_aload_n hx hb d_M_limit_36 rfl (lv_at hl 0 rfl) ?_
      refine lv_iload_n hx hb d_M_limit_37 rfl (lv_at hl 1 rfl) ?_
      have hF7 := va_free (wc := (wM m0 m1 m2 m3 m4 m5 k1 k2 k3 k4 k5 0 funs made great up down size rows work xx power)) hD hS hA [0, 1, 2, 3, 4, 5] rfl
      refine va_calli (va_runV (As := [.int p0]) (rest := []) ⟨hx, hb, hml, hown, hB⟩ (c_M_signOf l D m0 m1 m2 m3 m4 m5 k1 k2 k3 k4 k5 H.size 0 funs made great up down size rows work xx power p0 _) (cwV 1 hB (goodV wd_451 wd_452 wd_520 wd_3 wd_453) rfl rfl rfl (by decide +kernel) ⟨Nat.le_of_ble_eq_true rfl, Nat.le_of_ble_eq_true rfl⟩) ⟨pcG_blind, va_recv hK hP (ci := 2) (q0 := 0) rfl rfl, pcG_pre hP hK hD h⟩ rfl rfl hl.1 rfl (lv_room (Nat.le_of_ble_eq_true rfl)) d_M_limit_38 ⟨Nat.le_of_ble_eq_true rfl, Nat.le_of_ble_eq_true rfl⟩) hS (fun q _ h => hF7 q h) hF7 (fun r8 u t H locs ht hvm h hB hz1 hk1 hS => ?_)
      obtain ⟨hP1, hK1, hD1⟩ := hB
      rw [ht] at hP1
      have hP : va_P D vwCl (wM m0 m1 m2 m3 m4 m5 k1 k2 k3 k4 k5 0 funs made great up down size rows work xx power) H := hP1
      have hD : va_D A (wM m0 m1 m2 m3 m4 m5 k1 k2 k3 k4 k5 0 funs made great up down size rows work xx power) := hD1.weaken (fun _ _ _ hq => hF7 _ hq)
      refine lv_goto (tgt := 45) hx hb d_M_limit_41 (by decide) ?_
      exact W.iret (v := r8) hx hb hr (fun t ht hW => ⟨⟨r8, 0, rfl, h, by rw [ht]; exact hP, va_K.moved hW.alike hK, hD⟩, hS.F ht⟩) hS.2.2 d_M_limit_45
set_option maxHeartbeats 4000000 in
set_option maxRecDepth 100000 in
theorem c_M_value (l : Launch) (D : va_G) (m0 m1 m2 m3 m4 m5 : Nat) (k1 k2 k3 k4 k5 : ClassId) (sz : Nat) (code : Int32) (funs : Int32) (made : Int32) (great : Int32) (up : Int64) (down : Int64) (size : (Nat → Int32)) (rows : (Nat → Int32)) (work : (Nat → Int32)) (xx : (Nat → Int32)) (power : (Nat → Int32)) (p0 : Int32) (p1 : Int32) (post : Int32 → Int32 → Prop) : Met l y_M_value (Cond.code y_M_value b_M_value 4 (some .int) :: BIG) ({ frames := 2, cells := 0, slots := 0, locals := 46 }) (va_Pc [.ref m0, .int p0, .int p1] (pcG D vwCl (wM m0 m1 m2 m3 m4 m5 k1 k2 k3 k4 k5 code funs made great up down size rows work xx power) [(k1, .int), (k2, .int), (k3, .int), (k4, .int), (k5, .int)] sz (wp_M_value code funs size rows p0 p1 post))) (va_Qi (fun (r : Int32) (u : Int32) => post r u) (fun u => atG D vwCl [(k1, .int), (k2, .int), (k3, .int), (k4, .int), (k5, .int)] (va_A (wM m0 m1 m2 m3 m4 m5 k1 k2 k3 k4 k5 code funs made great up down size rows work xx power) sz) (wM m0 m1 m2 m3 m4 m5 k1 k2 k3 k4 k5 u funs made great up down size rows work xx power)) (va_A (wM m0 m1 m2 m3 m4 m5 k1 k2 k3 k4 k5 code funs made great up down size rows work xx power) sz)) 0 0 (va_A (wM m0 m1 m2 m3 m4 m5 k1 k2 k3 k4 k5 code funs made great up down size rows work xx power) sz) := by
  refine Met.ofW (cc := b_M_value) (maxL := 4) (ret := (some .int)) (by decide) rfl ?_
  intro p e s m args below meth c s₁ B hml hv
  obtain ⟨rfl, hsz, hP, hK, hD0, h⟩ := hv
  have hx := B.exec
  have hb := B.bytes
  have hr := B.returns
  have hB : ∀ w ∈ BIG, w.before _ s = true := fun w h => atoms_spec (ws := (Cond.code y_M_value b_M_value 4 (some .int) :: BIG)) B.pre w (List.mem_cons_of_mem _ h)
  have hown : s.vm.findClass R_M = some m.cls := findClass_of_methodNamed B.named
  have hlocks := B.notSynchronized
  subst hsz
  have hD := hD0.self (sz := s.heap.size)
  generalize hAe : va_A (wM m0 m1 m2 m3 m4 m5 k1 k2 k3 k4 k5 code funs made great up down size rows work xx power) s.heap.size = A at hD ⊢
  have hA : ∀ q : Nat, s.heap.size ≤ q → A q := fun q h => by rw [← hAe]; exact Or.inr h
  have hl := lv_entry ([.ref m0, .int p0, .int p1]) (n := 4) (Nat.le_of_ble_eq_true rfl)
  rw [lg_entry_eq]
  generalize (lg_sl ([.ref m0, .int p0, .int p1]) ++ List.replicate (4 - (lg_sl ([.ref m0, .int p0, .int p1])).length) Slot.unset).toArray = ls at hl ⊢
  have hl : lv_has ls 4 [(0, .ref m0), (1, .int p0), (2, .int p1)] := hl
  refine W.cap (fun G Gi Ge => ?_)
  suffices hL : ∀ (H : Heap) (locs : List Loc), va_P D vwCl (wM m0 m1 m2 m3 m4 m5 k1 k2 k3 k4 k5 code funs made great up down size rows work xx power) H → va_S A s.heap H locs → G H locs (F0 m 0 ls []) from hL _ _ hP va_S.rf
  clear hP
  intro H locs hP hS
  refine Gi _ _ _ ?_
  unfold wp_M_value at h
  refine lv_aload_n hx hb d_M_value_0 rfl (lv_at hl 0 rfl) ?_
  refine lv_aload_n hx hb d_M_value_1 rfl (lv_at hl 0 rfl) ?_
  refine lv_iload_n hx hb d_M_value_2 rfl (lv_at hl 1 rfl) ?_
  have hF1 := va_free (wc := (wM m0 m1 m2 m3 m4 m5 k1 k2 k3 k4 k5 code funs made great up down size rows work xx power)) hD hS hA [0, 1, 2, 3, 4, 5] rfl
  refine va_calli (va_runV (As := [.int p0]) (rest := [.ref m0]) ⟨hx, hb, hml, hown, hB⟩ (c_M_isFunction l D m0 m1 m2 m3 m4 m5 k1 k2 k3 k4 k5 H.size code funs made great up down size rows work xx power p0 _) (cwV 1 hB (goodV wd_402 wd_403 wd_515 wd_3 wd_404) rfl rfl rfl (by decide +kernel) ⟨Nat.le_of_ble_eq_true rfl, Nat.le_of_ble_eq_true rfl⟩) ⟨pcG_blind, va_recv hK hP (ci := 2) (q0 := 0) rfl rfl, pcG_pre hP hK hD h⟩ rfl rfl hl.1 rfl (lv_room (Nat.le_of_ble_eq_true rfl)) d_M_value_3 ⟨Nat.le_of_ble_eq_true rfl, Nat.le_of_ble_eq_true rfl⟩) hS (fun q _ h => hF1 q h) hF1 (fun r2 u t H locs ht hvm h hB hz1 hk1 hS => ?_)
  obtain ⟨hP1, hK1, hD1⟩ := hB
  rw [ht] at hP1
  have hP : va_P D vwCl (wM m0 m1 m2 m3 m4 m5 k1 k2 k3 k4 k5 code funs made great up down size rows work xx power) H := hP1
  have hD : va_D A (wM m0 m1 m2 m3 m4 m5 k1 k2 k3 k4 k5 code funs made great up down size rows work xx power) := hD1.weaken (fun _ _ _ hq => hF1 _ hq)
  refine lv_if_ne (tgt := 13) hx hb d_M_value_6 (by decide) (fun hc3 => ?_) (fun hc3 => ?_)
  · replace h := h.1 hc3
    refine lv_aload_n hx hb d_M_value_13 rfl (lv_at hl 0 rfl) ?_
    refine lv_iload_n hx hb d_M_value_14 rfl (lv_at hl 1 rfl) ?_
    have hF4 := va_free (wc := (wM m0 m1 m2 m3 m4 m5 k1 k2 k3 k4 k5 code funs made great up down size rows work xx power)) hD hS hA [0, 1, 2, 3, 4, 5] rfl
    refine va_calli (va_runV (As := [.int p0]) (rest := [.ref m0]) ⟨hx, hb, hml, hown, hB⟩ (c_M_high l D m0 m1 m2 m3 m4 m5 k1 k2 k3 k4 k5 H.size code funs made great up down size rows work xx power p0 _) (cwV 1 hB (goodV wd_458 wd_459 wd_521 wd_3 wd_460) rfl rfl rfl (by decide +kernel) ⟨Nat.le_of_ble_eq_true rfl, Nat.le_of_ble_eq_true rfl⟩) ⟨pcG_blind, va_recv hK hP (ci := 2) (q0 := 0) rfl rfl, pcG_pre hP hK hD h⟩ rfl rfl hl.1 rfl (lv_room (Nat.le_of_ble_eq_true rfl)) d_M_value_15 ⟨Nat.le_of_ble_eq_true rfl, Nat.le_of_ble_eq_true rfl⟩) hS (fun q _ h => hF4 q h) hF4 (fun r5 u t H locs ht hvm h hB hz1 hk1 hS => ?_)
    obtain ⟨hP1, hK1, hD1⟩ := hB
    rw [ht] at hP1
    have hP : va_P D vwCl (wM m0 m1 m2 m3 m4 m5 k1 k2 k3 k4 k5 code funs made great up down size rows work xx power) H := hP1
    have hD : va_D A (wM m0 m1 m2 m3 m4 m5 k1 k2 k3 k4 k5 code funs made great up down size rows work xx power) := hD1.weaken (fun _ _ _ hq => hF4 _ hq)
    refine lv_if_le (tgt := 25) hx hb d_M_value_18 (by decide) (fun hc6 => ?_) (fun hc6 => ?_)
    · replace h := h.1 hc6
      refine lv_iload_n hx hb d_M_value_25 rfl (lv_at hl 2 rfl) ?_
      refine lv_i2l hx hb d_M_value_26 rfl ?_
      refine lv_lconst (v := 0) hx hb d_M_value_27 (by decide) ?_
      refine lv_lconst (v := 1) hx hb d_M_value_28 (by decide) ?_
      have hF7 := va_free (wc := (wM m0 m1 m2 m3 m4 m5 k1 k2 k3 k4 k5 code funs made great up down size rows work xx power)) hD hS hA [0, 1, 2, 3, 4, 5] rfl
      refine va_calli (va_runS (As := [.long (p1.toInt64), .long 0, .long 1]) (rest := [.ref m0]) ⟨hx, hb, hml, hown, hB⟩ (c_M_in l D m0 m1 m2 m3 m4 m5 k1 k2 k3 k4 k5 H.size code funs made great up down size rows work xx power (p1.toInt64) 0 1 _) (cwS 3 hB (goodS wd_381 wd_382 wd_3 wd_383) rfl rfl rfl (by decide +kernel) ⟨Nat.le_of_ble_eq_true rfl, Nat.le_of_ble_eq_true rfl⟩) ⟨pcG_blind, pcG_pre hP hK hD h⟩ rfl rfl hl.1 rfl (lv_room (Nat.le_of_ble_eq_true rfl)) d_M_value_29 ⟨Nat.le_of_ble_eq_true rfl, Nat.le_of_ble_eq_true rfl⟩) hS (fun q _ h => hF7 q h) hF7 (fun r8 u t H locs ht hvm h hB hz1 hk1 hS => ?_)
      obtain ⟨hP1, hK1, hD1⟩ := hB
      rw [ht] at hP1
      have hP : va_P D vwCl (wM m0 m1 m2 m3 m4 m5 k1 k2 k3 k4 k5 code funs made great up down size rows work xx power) H := hP1
      have hD : va_D A (wM m0 m1 m2 m3 m4 m5 k1 k2 k3 k4 k5 code funs made great up down size rows work xx power) := hD1.weaken (fun _ _ _ hq => hF7 _ hq)
      refine lv_if_ne (tgt := 39) hx hb d_M_value_32 (by decide) (fun hc9 => ?_) (fun hc9 => ?_)
      · replace h := h.1 hc9
        refine lv_iconst (v := 0) hx hb d_M_value_39 (by decide) ?_
        refine va_put (D := D) (ci := 2) (v := .int 0) (ty := .int) (C := R_M) (T := F_M) (N := 11) hx hb hB inF_M t_M t_M_ok n_M hown hK hP hD hS 0 rfl rfl 0 (by decide) (hB _ wd_338) (fun _ h9 => h9) rfl (by decide +kernel) rfl rfl (Nat.le_of_ble_eq_true rfl) d_M_value_40 (fun H locs hP hD hS => ?_)
        have hP : va_P D vwCl (wM m0 m1 m2 m3 m4 m5 k1 k2 k3 k4 k5 0 funs made great up down size rows work xx power) H := hP
        have hD : va_D A (wM m0 m1 m2 m3 m4 m5 k1 k2 k3 k4 k5 0 funs made great up down size rows work xx power) := hD
        refine lv_aload_n hx hb d_M_value_43 rfl (lv_at hl 0 rfl) ?_
        refine va_get (D := D) (ci := 2) (v := .int 0) (C := R_M) (T := F_M) (N := 11) hx hb hB inF_M hown hK hP 0 rfl rfl 0 (by decide) (hB _ wd_338) (fun _ h9 => h9) rfl d_M_value_44 ?_
        refine lv_if_le (tgt := 52) hx hb d_M_value_47 (by decide) (fun _ => ?_) (fun c => absurd c (by decide))
        refine lv_aload_n hx hb d_M_value_52 rfl (lv_at hl 0 rfl) ?_
        refine va_get (D := D) (ci := 2) (v := .ref m1) (C := R_M) (T := F_M) (N := 11) hx hb hB inF_M hown hK hP 0 rfl rfl 2 (by decide) (hB _ wd_340) (fun _ h9 => h9) rfl d_M_value_53 ?_
        refine lv_iload_n hx hb d_M_value_56 rfl (lv_at hl 1 rfl) ?_
        obtain ⟨g10, h⟩ := h
        refine va_iald hx hb hK hP 1 0 rfl rfl g10 d_M_value_57 ?_
        refine lv_if_le (tgt := 73) hx hb d_M_value_58 (by decide) (fun hc11 => ?_) (fun hc11 => ?_)
        · replace h := h.1 hc11
          refine lv_iconst (v := 0) hx hb d_M_value_73 (by decide) ?_
          refine lv_istore_n (lv' := [(3, .int 0), (0, .ref m0), (1, .int p0), (2, .int p1)]) hx hb d_M_value_74 rfl hl (by decide) rfl (fun ls hl => ?_)
          refine lv_iload_n hx hb d_M_value_75 rfl (lv_at hl 0 rfl) ?_
          refine lv_if_eq (tgt := 91) hx hb d_M_value_76 (by decide) (fun _ => ?_) (fun c => absurd c (by decide))
          refine lv_iload_n hx hb d_M_value_91 rfl (lv_at hl 3 rfl) ?_
          exact W.iret (v := p1) hx hb hr (fun t ht hW => ⟨⟨p1, 0, rfl, h, by rw [ht]; exact hP, va_K.moved hW.alike hK, hD⟩, hS.F ht⟩) hS.2.2 d_M_value_92
        · replace h := h.2 hc11
          refine lv_aload_n hx hb d_M_value_61 rfl (lv_at hl 0 rfl) ?_
          refine lv_iload_n hx hb d_M_value_62 rfl (lv_at hl 1 rfl) ?_
          have hF12 := va_free (wc := (wM m0 m1 m2 m3 m4 m5 k1 k2 k3 k4 k5 0 funs made great up down size rows work xx power)) hD hS hA [0, 1, 2, 3, 4, 5] rfl
          refine va_calli (va_runV (As := [.int p0]) (rest := []) ⟨hx, hb, hml, hown, hB⟩ (c_M_high l D m0 m1 m2 m3 m4 m5 k1 k2 k3 k4 k5 H.size 0 funs made great up down size rows work xx power p0 _) (cwV 1 hB (goodV wd_458 wd_459 wd_521 wd_3 wd_460) rfl rfl rfl (by decide +kernel) ⟨Nat.le_of_ble_eq_true rfl, Nat.le_of_ble_eq_true rfl⟩) ⟨pcG_blind, va_recv hK hP (ci := 2) (q0 := 0) rfl rfl, pcG_pre hP hK hD h⟩ rfl rfl hl.1 rfl (lv_room (Nat.le_of_ble_eq_true rfl)) d_M_value_63 ⟨Nat.le_of_ble_eq_true rfl, Nat.le_of_ble_eq_true rfl⟩) hS (fun q _ h => hF12 q h) hF12 (fun r13 u t H locs ht hvm h hB hz1 hk1 hS => ?_)
          obtain ⟨hP1, hK1, hD1⟩ := hB
          rw [ht] at hP1
          have hP : va_P D vwCl (wM m0 m1 m2 m3 m4 m5 k1 k2 k3 k4 k5 0 funs made great up down size rows work xx power) H := hP1
          have hD : va_D A (wM m0 m1 m2 m3 m4 m5 k1 k2 k3 k4 k5 0 funs made great up down size rows work xx power) := hD1.weaken (fun _ _ _ hq => hF12 _ hq)
          refine lv_if_ne (tgt := 73) hx hb d_M_value_66 (by decide) (fun hc14 => ?_) (fun hc14 => ?_)
          · replace h := h.1 hc14
            refine lv_iconst (v := 0) hx hb d_M_value_73 (by decide) ?_
            refine lv_istore_n (lv' := [(3, .int 0), (0, .ref m0), (1, .int p0), (2, .int p1)]) hx hb d_M_value_74 rfl hl (by decide) rfl (fun ls hl => ?_)
            refine lv_iload_n hx hb d_M_value_75 rfl (lv_at hl 0 rfl) ?_
            refine lv_if_eq (tgt := 91) hx hb d_M_value_76 (by decide) (fun _ => ?_) (fun c => absurd c (by decide))
            refine lv_iload_n hx hb d_M_value_91 rfl (lv_at hl 3 rfl) ?_
            exact W.iret (v := p1) hx hb hr (fun t ht hW => ⟨⟨p1, 0, rfl, h, by rw [ht]; exact hP, va_K.moved hW.alike hK, hD⟩, hS.F ht⟩) hS.2.2 d_M_value_92
          · replace h := h.2 hc14
            refine lv_iconst (v := 1) hx hb d_M_value_69 (by decide) ?_
            refine lv_goto (tgt := 74) hx hb d_M_value_70 (by decide) ?_
            refine lv_istore_n (lv' := [(3, .int 1), (0, .ref m0), (1, .int p0), (2, .int p1)]) hx hb d_M_value_74 rfl hl (by decide) rfl (fun ls hl => ?_)
            refine lv_iload_n hx hb d_M_value_75 rfl (lv_at hl 0 rfl) ?_
            refine lv_if_eq (tgt := 91) hx hb d_M_value_76 (by decide) (fun c => absurd c (by decide)) (fun _ => ?_)
            refine lv_aload_n hx hb d_M_value_79 rfl (lv_at hl 1 rfl) ?_
            refine lv_iload_n hx hb d_M_value_80 rfl (lv_at hl 2 rfl) ?_
            refine lv_iconst (v := 0) hx hb d_M_value_81 (by decide) ?_
            refine lv_iconst (v := 5) hx hb d_M_value_82 (by decide) ?_
            refine lv_iload_n hx hb d_M_value_83 rfl (lv_at hl 3 rfl) ?_
            refine lv_iadd hx hb d_M_value_84 ?_
            have hF15 := va_free (wc := (wM m0 m1 m2 m3 m4 m5 k1 k2 k3 k4 k5 0 funs made great up down size rows work xx power)) hD hS hA [0, 1, 2, 3, 4, 5] rfl
            refine va_calli (va_runV (As := [.int p0, .int 0, .int (5 + p1)]) (rest := []) ⟨hx, hb, hml, hown, hB⟩ (c_M_at l D m0 m1 m2 m3 m4 m5 k1 k2 k3 k4 k5 H.size 0 funs made great up down size rows work xx power p0 0 (5 + p1) _) (cwV 3 hB (goodV wd_408 wd_409 wd_517 wd_3 wd_410) rfl rfl rfl (by decide +kernel) ⟨Nat.le_of_ble_eq_true rfl, Nat.le_of_ble_eq_true rfl⟩) ⟨pcG_blind, va_recv hK hP (ci := 2) (q0 := 0) rfl rfl, pcG_pre hP hK hD h⟩ rfl rfl hl.1 rfl (lv_room (Nat.le_of_ble_eq_true rfl)) d_M_value_85 ⟨Nat.le_of_ble_eq_true rfl, Nat.le_of_ble_eq_true rfl⟩) hS (fun q _ h => hF15 q h) hF15 (fun r16 u t H locs ht hvm h hB hz1 hk1 hS => ?_)
            obtain ⟨hP1, hK1, hD1⟩ := hB
            rw [ht] at hP1
            have hP : va_P D vwCl (wM m0 m1 m2 m3 m4 m5 k1 k2 k3 k4 k5 0 funs made great up down size rows work xx power) H := hP1
            have hD : va_D A (wM m0 m1 m2 m3 m4 m5 k1 k2 k3 k4 k5 0 funs made great up down size rows work xx power) := hD1.weaken (fun _ _ _ hq => hF15 _ hq)
            refine lv_goto (tgt := 92) hx hb d_M_value_88 (by decide) ?_
            exact W.iret (v := r16) hx hb hr (fun t ht hW => ⟨⟨r16, 0, rfl, h, by rw [ht]; exact hP, va_K.moved hW.alike hK, hD⟩, hS.F ht⟩) hS.2.2 d_M_value_92
      · replace h := h.2 hc9
        refine lv_iconst (v := 3) hx hb d_M_value_35 (by decide) ?_
        refine lv_goto (tgt := 40) hx hb d_M_value_36 (by decide) ?_
        refine va_put (D := D) (ci := 2) (v := .int 3) (ty := .int) (C := R_M) (T := F_M) (N := 11) hx hb hB inF_M t_M t_M_ok n_M hown hK hP hD hS 0 rfl rfl 0 (by decide) (hB _ wd_338) (fun _ h9 => h9) rfl (by decide +kernel) rfl rfl (Nat.le_of_ble_eq_true rfl) d_M_value_40 (fun H locs hP hD hS => ?_)
        have hP : va_P D vwCl (wM m0 m1 m2 m3 m4 m5 k1 k2 k3 k4 k5 3 funs made great up down size rows work xx power) H := hP
        have hD : va_D A (wM m0 m1 m2 m3 m4 m5 k1 k2 k3 k4 k5 3 funs made great up down size rows work xx power) := hD
        refine lv_aload_n hx hb d_M_value_43 rfl (lv_at hl 0 rfl) ?_
        refine va_get (D := D) (ci := 2) (v := .int 3) (C := R_M) (T := F_M) (N := 11) hx hb hB inF_M hown hK hP 0 rfl rfl 0 (by decide) (hB _ wd_338) (fun _ h9 => h9) rfl d_M_value_44 ?_
        refine lv_if_le (tgt := 52) hx hb d_M_value_47 (by decide) (fun c => absurd c (by decide)) (fun _ => ?_)
        refine lv_iconst (v := 0) hx hb d_M_value_50 (by decide) ?_
        exact W.iret (v := 0) hx hb hr (fun t ht hW => ⟨⟨0, 3, rfl, h, by rw [ht]; exact hP, va_K.moved hW.alike hK, hD⟩, hS.F ht⟩) hS.2.2 d_M_value_51
    · replace h := h.2 hc6
      refine lv_iconst (v := 2) hx hb d_M_value_21 (by decide) ?_
      refine lv_goto (tgt := 40) hx hb d_M_value_22 (by decide) ?_
      refine va_put (D := D) (ci := 2) (v := .int 2) (ty := .int) (C := R_M) (T := F_M) (N := 11) hx hb hB inF_M t_M t_M_ok n_M hown hK hP hD hS 0 rfl rfl 0 (by decide) (hB _ wd_338) (fun _ h9 => h9) rfl (by decide +kernel) rfl rfl (Nat.le_of_ble_eq_true rfl) d_M_value_40 (fun H locs hP hD hS => ?_)
      have hP : va_P D vwCl (wM m0 m1 m2 m3 m4 m5 k1 k2 k3 k4 k5 2 funs made great up down size rows work xx power) H := hP
      have hD : va_D A (wM m0 m1 m2 m3 m4 m5 k1 k2 k3 k4 k5 2 funs made great up down size rows work xx power) := hD
      refine lv_aload_n hx hb d_M_value_43 rfl (lv_at hl 0 rfl) ?_
      refine va_get (D := D) (ci := 2) (v := .int 2) (C := R_M) (T := F_M) (N := 11) hx hb hB inF_M hown hK hP 0 rfl rfl 0 (by decide) (hB _ wd_338) (fun _ h9 => h9) rfl d_M_value_44 ?_
      refine lv_if_le (tgt := 52) hx hb d_M_value_47 (by decide) (fun c => absurd c (by decide)) (fun _ => ?_)
      refine lv_iconst (v := 0) hx hb d_M_value_50 (by decide) ?_
      exact W.iret (v := 0) hx hb hr (fun t ht hW => ⟨⟨0, 2, rfl, h, by rw [ht]; exact hP, va_K.moved hW.alike hK, hD⟩, hS.F ht⟩) hS.2.2 d_M_value_51
  · replace h := h.2 hc3
    refine lv_iconst (v := 1) hx hb d_M_value_9 (by decide) ?_
    refine lv_goto (tgt := 40) hx hb d_M_value_10 (by decide) ?_
    refine va_put (D := D) (ci := 2) (v := .int 1) (ty := .int) (C := R_M) (T := F_M) (N := 11) hx hb hB inF_M t_M t_M_ok n_M hown hK hP hD hS 0 rfl rfl 0 (by decide) (hB _ wd_338) (fun _ h9 => h9) rfl (by decide +kernel) rfl rfl (Nat.le_of_ble_eq_true rfl) d_M_value_40 (fun H locs hP hD hS => ?_)
    have hP : va_P D vwCl (wM m0 m1 m2 m3 m4 m5 k1 k2 k3 k4 k5 1 funs made great up down size rows work xx power) H := hP
    have hD : va_D A (wM m0 m1 m2 m3 m4 m5 k1 k2 k3 k4 k5 1 funs made great up down size rows work xx power) := hD
    refine lv_aload_n hx hb d_M_value_43 rfl (lv_at hl 0 rfl) ?_
    refine va_get (D := D) (ci := 2) (v := .int 1) (C := R_M) (T := F_M) (N := 11) hx hb hB inF_M hown hK hP 0 rfl rfl 0 (by decide) (hB _ wd_338) (fun _ h9 => h9) rfl d_M_value_44 ?_
    refine lv_if_le (tgt := 52) hx hb d_M_value_47 (by decide) (fun c => absurd c (by decide)) (fun _ => ?_)
    refine lv_iconst (v := 0) hx hb d_M_value_50 (by decide) ?_
    exact W.iret (v := 0) hx hb hr (fun t ht hW => ⟨⟨0, 1, rfl, h, by rw [ht]; exact hP, va_K.moved hW.alike hK, hD⟩, hS.F ht⟩) hS.2.2 d_M_value_51
set_option maxHeartbeats 4000000 in
set_option maxRecDepth 100000 in
theorem c_M_compared (l : Launch) (D : va_G) (m0 m1 m2 m3 m4 m5 : Nat) (k1 k2 k3 k4 k5 : ClassId) (sz : Nat) (code : Int32) (funs : Int32) (made : Int32) (great : Int32) (up : Int64) (down : Int64) (size : (Nat → Int32)) (rows : (Nat → Int32)) (work : (Nat → Int32)) (xx : (Nat → Int32)) (power : (Nat → Int32)) (p0 : Int32) (p1 : Int32) (post : Int32 → Prop) : Met l y_M_compared (Cond.code y_M_compared b_M_compared 4 (some .int) :: BIG) ({ frames := 1, cells := 0, slots := 0, locals := 23 }) (va_Pc [.ref m0, .int p0, .int p1] (pcG D vwCl (wM m0 m1 m2 m3 m4 m5 k1 k2 k3 k4 k5 code funs made great up down size rows work xx power) [(k1, .int), (k2, .int), (k3, .int), (k4, .int), (k5, .int)] sz (wp_M_compared size rows p0 p1 post))) (va_Qi (fun (r : Int32) (_ : Unit) => post r) (fun _ => atG D vwCl [(k1, .int), (k2, .int), (k3, .int), (k4, .int), (k5, .int)] (va_A (wM m0 m1 m2 m3 m4 m5 k1 k2 k3 k4 k5 code funs made great up down size rows work xx power) sz) (wM m0 m1 m2 m3 m4 m5 k1 k2 k3 k4 k5 code funs made great up down size rows work xx power)) (va_A (wM m0 m1 m2 m3 m4 m5 k1 k2 k3 k4 k5 code funs made great up down size rows work xx power) sz)) 0 0 (va_A (wM m0 m1 m2 m3 m4 m5 k1 k2 k3 k4 k5 code funs made great up down size rows work xx power) sz) := by
  refine Met.ofW (cc := b_M_compared) (maxL := 4) (ret := (some .int)) (by decide) rfl ?_
  intro p e s m args below meth c s₁ B hml hv
  obtain ⟨rfl, hsz, hP, hK, hD0, h⟩ := hv
  have hx := B.exec
  have hb := B.bytes
  have hr := B.returns
  have hB : ∀ w ∈ BIG, w.before _ s = true := fun w h => atoms_spec (ws := (Cond.code y_M_compared b_M_compared 4 (some .int) :: BIG)) B.pre w (List.mem_cons_of_mem _ h)
  have hown : s.vm.findClass R_M = some m.cls := findClass_of_methodNamed B.named
  have hlocks := B.notSynchronized
  subst hsz
  have hD := hD0.self (sz := s.heap.size)
  generalize hAe : va_A (wM m0 m1 m2 m3 m4 m5 k1 k2 k3 k4 k5 code funs made great up down size rows work xx power) s.heap.size = A at hD ⊢
  have hA : ∀ q : Nat, s.heap.size ≤ q → A q := fun q h => by rw [← hAe]; exact Or.inr h
  have hl := lv_entry ([.ref m0, .int p0, .int p1]) (n := 4) (Nat.le_of_ble_eq_true rfl)
  rw [lg_entry_eq]
  generalize (lg_sl ([.ref m0, .int p0, .int p1]) ++ List.replicate (4 - (lg_sl ([.ref m0, .int p0, .int p1])).length) Slot.unset).toArray = ls at hl ⊢
  have hl : lv_has ls 4 [(0, .ref m0), (1, .int p0), (2, .int p1)] := hl
  refine W.cap (fun G Gi Ge => ?_)
  suffices hL : ∀ (H : Heap) (locs : List Loc), va_P D vwCl (wM m0 m1 m2 m3 m4 m5 k1 k2 k3 k4 k5 code funs made great up down size rows work xx power) H → va_S A s.heap H locs → G H locs (F0 m 0 ls []) from hL _ _ hP va_S.rf
  clear hP
  intro H locs hP hS
  refine Gi _ _ _ ?_
  unfold wp_M_compared at h
  refine lv_aload_n hx hb d_M_compared_0 rfl (lv_at hl 0 rfl) ?_
  refine va_get (D := D) (ci := 2) (v := .ref m1) (C := R_M) (T := F_M) (N := 11) hx hb hB inF_M hown hK hP 0 rfl rfl 2 (by decide) (hB _ wd_340) (fun _ h9 => h9) rfl d_M_compared_1 ?_
  refine lv_iload_n hx hb d_M_compared_4 rfl (lv_at hl 1 rfl) ?_
  obtain ⟨g1, h⟩ := h
  refine va_iald hx hb hK hP 1 0 rfl rfl g1 d_M_compared_5 ?_
  refine lv_if_eq (tgt := 18) hx hb d_M_compared_6 (by decide) (fun hc2 => ?_) (fun hc2 => ?_)
  · replace h := h.1 hc2
    refine lv_aload_n hx hb d_M_compared_18 rfl (lv_at hl 0 rfl) ?_
    refine va_get (D := D) (ci := 2) (v := .ref m1) (C := R_M) (T := F_M) (N := 11) hx hb hB inF_M hown hK hP 0 rfl rfl 2 (by decide) (hB _ wd_340) (fun _ h9 => h9) rfl d_M_compared_19 ?_
    refine lv_iload_n hx hb d_M_compared_22 rfl (lv_at hl 1 rfl) ?_
    obtain ⟨g3, h⟩ := h
    refine va_iald hx hb hK hP 1 0 rfl rfl g3 d_M_compared_23 ?_
    refine lv_if_le (tgt := 31) hx hb d_M_compared_24 (by decide) (fun hc4 => ?_) (fun hc4 => ?_)
    · replace h := h.1 hc4
      refine lv_aload_n hx hb d_M_compared_31 rfl (lv_at hl 0 rfl) ?_
      refine va_get (D := D) (ci := 2) (v := .ref m1) (C := R_M) (T := F_M) (N := 11) hx hb hB inF_M hown hK hP 0 rfl rfl 2 (by decide) (hB _ wd_340) (fun _ h9 => h9) rfl d_M_compared_32 ?_
      refine lv_iload_n hx hb d_M_compared_35 rfl (lv_at hl 2 rfl) ?_
      obtain ⟨g5, h⟩ := h
      refine va_iald hx hb hK hP 1 0 rfl rfl g5 d_M_compared_36 ?_
      refine lv_if_le (tgt := 44) hx hb d_M_compared_37 (by decide) (fun hc6 => ?_) (fun hc6 => ?_)
      · replace h := h.1 hc6
        refine lv_iconst (v := 0) hx hb d_M_compared_44 (by decide) ?_
        exact W.iret (v := 0) hx hb hr (fun t ht hW => ⟨⟨0, (), rfl, h, by rw [ht]; exact hP, va_K.moved hW.alike hK, hD⟩, hS.F ht⟩) hS.2.2 d_M_compared_45
      · replace h := h.2 hc6
        refine lv_iconst (v := (-1)) hx hb d_M_compared_40 (by decide) ?_
        refine lv_goto (tgt := 45) hx hb d_M_compared_41 (by decide) ?_
        exact W.iret (v := (-1)) hx hb hr (fun t ht hW => ⟨⟨(-1), (), rfl, h, by rw [ht]; exact hP, va_K.moved hW.alike hK, hD⟩, hS.F ht⟩) hS.2.2 d_M_compared_45
    · replace h := h.2 hc4
      refine lv_iconst (v := 1) hx hb d_M_compared_27 (by decide) ?_
      refine lv_goto (tgt := 45) hx hb d_M_compared_28 (by decide) ?_
      exact W.iret (v := 1) hx hb hr (fun t ht hW => ⟨⟨1, (), rfl, h, by rw [ht]; exact hP, va_K.moved hW.alike hK, hD⟩, hS.F ht⟩) hS.2.2 d_M_compared_45
  · replace h := h.2 hc2
    refine lv_aload_n hx hb d_M_compared_9 rfl (lv_at hl 0 rfl) ?_
    refine va_get (D := D) (ci := 2) (v := .ref m1) (C := R_M) (T := F_M) (N := 11) hx hb hB inF_M hown hK hP 0 rfl rfl 2 (by decide) (hB _ wd_340) (fun _ h9 => h9) rfl d_M_compared_10 ?_
    refine lv_iload_n hx hb d_M_compared_13 rfl (lv_at hl 2 rfl) ?_
    obtain ⟨g7, h⟩ := h
    refine va_iald hx hb hK hP 1 0 rfl rfl g7 d_M_compared_14 ?_
    refine lv_if_ne (tgt := 46) hx hb d_M_compared_15 (by decide) (fun hc8 => ?_) (fun hc8 => ?_)
    · replace h := h.1 hc8
      refine lv_iconst (v := 0) hx hb d_M_compared_46 (by decide) ?_
      refine lv_istore_n (lv' := [(3, .int 0), (0, .ref m0), (1, .int p0), (2, .int p1)]) hx hb d_M_compared_47 rfl hl (by decide) rfl (fun ls hl => ?_)
      obtain ⟨n48, h⟩ := h
      refine W.cap (fun G48 Gi48 Ge48 => ?_)
      suffices hL48 : ∀ (n48 : Nat) (v3_9 : Int32) (H : Heap) (locs : List Loc) (ls : Array Slot), va_P D vwCl (wM m0 m1 m2 m3 m4 m5 k1 k2 k3 k4 k5 code funs made great up down size rows work xx power) H → va_D A (wM m0 m1 m2 m3 m4 m5 k1 k2 k3 k4 k5 code funs made great up down size rows work xx power) → va_S A s.heap H locs → lv_has ls 4 [(3, .int v3_9), (0, .ref m0), (1, .int p0), (2, .int p1)] → lpW1 (wb_M_compared_48 post rows p0 p1) n48 v3_9 → G48 H locs (F0 m 48 ls []) from hL48 n48 (0 : Int32) _ _ _ hP hD hS hl h
      clear h hP hD hS hl
      intro n48
      induction n48 with
      | zero => intro v3_9 H locs ls hP hD hS hl h; exact (show False from h).elim
      | succ n48 ihL48 =>
        intro v3_9 H locs ls hP hD hS hl h
        replace h : (wb_M_compared_48 post rows p0 p1) (lpW1 (wb_M_compared_48 post rows p0 p1) n48) v3_9 := h
        refine Gi48 _ _ _ ?_
        refine lv_iload_n hx hb d_M_compared_48 rfl (lv_at hl 0 rfl) ?_
        refine lv_iconst (v := 5) hx hb d_M_compared_49 (by decide) ?_
        refine lv_icmp_ge (tgt := 99) hx hb d_M_compared_50 (by decide) (fun hc10 => ?_) (fun hc10 => ?_)
        · replace h := h.1 hc10
          refine lv_iconst (v := 0) hx hb d_M_compared_99 (by decide) ?_
          exact W.iret (v := 0) hx hb hr (fun t ht hW => ⟨⟨0, (), rfl, h, by rw [ht]; exact hP, va_K.moved hW.alike hK, hD⟩, hS.F ht⟩) hS.2.2 d_M_compared_100
        · replace h := h.2 hc10
          refine lv_aload_n hx hb d_M_compared_53 rfl (lv_at hl 1 rfl) ?_
          refine lv_iload_n hx hb d_M_compared_54 rfl (lv_at hl 2 rfl) ?_
          refine lv_iconst (v := 0) hx hb d_M_compared_55 (by decide) ?_
          refine lv_iload_n hx hb d_M_compared_56 rfl (lv_at hl 0 rfl) ?_
          have hF11 := va_free (wc := (wM m0 m1 m2 m3 m4 m5 k1 k2 k3 k4 k5 code funs made great up down size rows work xx power)) hD hS hA [0, 1, 2, 3, 4, 5] rfl
          refine va_calli (va_runV (As := [.int p0, .int 0, .int v3_9]) (rest := []) ⟨hx, hb, hml, hown, hB⟩ (c_M_at l D m0 m1 m2 m3 m4 m5 k1 k2 k3 k4 k5 H.size code funs made great up down size rows work xx power p0 0 v3_9 _) (cwV 3 hB (goodV wd_408 wd_409 wd_517 wd_3 wd_410) rfl rfl rfl (by decide +kernel) ⟨Nat.le_of_ble_eq_true rfl, Nat.le_of_ble_eq_true rfl⟩) ⟨pcG_blind, va_recv hK hP (ci := 2) (q0 := 0) rfl rfl, pcG_pre hP hK hD h⟩ rfl rfl hl.1 rfl (lv_room (Nat.le_of_ble_eq_true rfl)) d_M_compared_57 ⟨Nat.le_of_ble_eq_true rfl, Nat.le_of_ble_eq_true rfl⟩) hS (fun q _ h => hF11 q h) hF11 (fun r12 u t H locs ht hvm h hB hz1 hk1 hS => ?_)
          obtain ⟨hP1, hK1, hD1⟩ := hB
          rw [ht] at hP1
          have hP : va_P D vwCl (wM m0 m1 m2 m3 m4 m5 k1 k2 k3 k4 k5 code funs made great up down size rows work xx power) H := hP1
          have hD : va_D A (wM m0 m1 m2 m3 m4 m5 k1 k2 k3 k4 k5 code funs made great up down size rows work xx power) := hD1.weaken (fun _ _ _ hq => hF11 _ hq)
          refine lv_aload_n hx hb d_M_compared_60 rfl (lv_at hl 1 rfl) ?_
          refine lv_iload_n hx hb d_M_compared_61 rfl (lv_at hl 3 rfl) ?_
          refine lv_iconst (v := 0) hx hb d_M_compared_62 (by decide) ?_
          refine lv_iload_n hx hb d_M_compared_63 rfl (lv_at hl 0 rfl) ?_
          have hF13 := va_free (wc := (wM m0 m1 m2 m3 m4 m5 k1 k2 k3 k4 k5 code funs made great up down size rows work xx power)) hD hS hA [0, 1, 2, 3, 4, 5] rfl
          refine va_calli (va_runV (As := [.int p1, .int 0, .int v3_9]) (rest := [.int r12]) ⟨hx, hb, hml, hown, hB⟩ (c_M_at l D m0 m1 m2 m3 m4 m5 k1 k2 k3 k4 k5 H.size code funs made great up down size rows work xx power p1 0 v3_9 _) (cwV 3 hB (goodV wd_408 wd_409 wd_517 wd_3 wd_410) rfl rfl rfl (by decide +kernel) ⟨Nat.le_of_ble_eq_true rfl, Nat.le_of_ble_eq_true rfl⟩) ⟨pcG_blind, va_recv hK hP (ci := 2) (q0 := 0) rfl rfl, pcG_pre hP hK hD h⟩ rfl rfl hl.1 rfl (lv_room (Nat.le_of_ble_eq_true rfl)) d_M_compared_64 ⟨Nat.le_of_ble_eq_true rfl, Nat.le_of_ble_eq_true rfl⟩) hS (fun q _ h => hF13 q h) hF13 (fun r14 u t H locs ht hvm h hB hz1 hk1 hS => ?_)
          obtain ⟨hP1, hK1, hD1⟩ := hB
          rw [ht] at hP1
          have hP : va_P D vwCl (wM m0 m1 m2 m3 m4 m5 k1 k2 k3 k4 k5 code funs made great up down size rows work xx power) H := hP1
          have hD : va_D A (wM m0 m1 m2 m3 m4 m5 k1 k2 k3 k4 k5 code funs made great up down size rows work xx power) := hD1.weaken (fun _ _ _ hq => hF13 _ hq)
          refine lv_icmp_eq (tgt := 93) hx hb d_M_compared_67 (by decide) (fun hc15 => ?_) (fun hc15 => ?_)
          · replace h := h.1 hc15
            obtain ⟨x16, ex16⟩ : ∃ z : Int32, z = v3_9 + 1 := ⟨_, rfl⟩
            replace h := h x16 ex16
            refine lv_iinc (v := x16) (lv' := [(3, .int x16), (0, .ref m0), (1, .int p0), (2, .int p1)]) hx hb d_M_compared_93 hl (k := 0) rfl (by rw [ex16]; rfl) (by decide) rfl (fun ls hl => ?_)
            refine lv_goto (tgt := 48) hx hb d_M_compared_96 (by decide) ?_
            exact Ge48 _ _ _ (ihL48 x16 _ _ _ hP hD hS (lv_sub hl [0, 1, 2, 3] rfl) h)
          · replace h := h.2 hc15
            refine lv_aload_n hx hb d_M_compared_70 rfl (lv_at hl 1 rfl) ?_
            refine lv_iload_n hx hb d_M_compared_71 rfl (lv_at hl 2 rfl) ?_
            refine lv_iconst (v := 0) hx hb d_M_compared_72 (by decide) ?_
            refine lv_iload_n hx hb d_M_compared_73 rfl (lv_at hl 0 rfl) ?_
            have hF17 := va_free (wc := (wM m0 m1 m2 m3 m4 m5 k1 k2 k3 k4 k5 code funs made great up down size rows work xx power)) hD hS hA [0, 1, 2, 3, 4, 5] rfl
            refine va_calli (va_runV (As := [.int p0, .int 0, .int v3_9]) (rest := []) ⟨hx, hb, hml, hown, hB⟩ (c_M_at l D m0 m1 m2 m3 m4 m5 k1 k2 k3 k4 k5 H.size code funs made great up down size rows work xx power p0 0 v3_9 _) (cwV 3 hB (goodV wd_408 wd_409 wd_517 wd_3 wd_410) rfl rfl rfl (by decide +kernel) ⟨Nat.le_of_ble_eq_true rfl, Nat.le_of_ble_eq_true rfl⟩) ⟨pcG_blind, va_recv hK hP (ci := 2) (q0 := 0) rfl rfl, pcG_pre hP hK hD h⟩ rfl rfl hl.1 rfl (lv_room (Nat.le_of_ble_eq_true rfl)) d_M_compared_74 ⟨Nat.le_of_ble_eq_true rfl, Nat.le_of_ble_eq_true rfl⟩) hS (fun q _ h => hF17 q h) hF17 (fun r18 u t H locs ht hvm h hB hz1 hk1 hS => ?_)
            obtain ⟨hP1, hK1, hD1⟩ := hB
            rw [ht] at hP1
            have hP : va_P D vwCl (wM m0 m1 m2 m3 m4 m5 k1 k2 k3 k4 k5 code funs made great up down size rows work xx power) H := hP1
            have hD : va_D A (wM m0 m1 m2 m3 m4 m5 k1 k2 k3 k4 k5 code funs made great up down size rows work xx power) := hD1.weaken (fun _ _ _ hq => hF17 _ hq)
            refine lv_aload_n hx hb d_M_compared_77 rfl (lv_at hl 1 rfl) ?_
            refine lv_iload_n hx hb d_M_compared_78 rfl (lv_at hl 3 rfl) ?_
            refine lv_iconst (v := 0) hx hb d_M_compared_79 (by decide) ?_
            refine lv_iload_n hx hb d_M_compared_80 rfl (lv_at hl 0 rfl) ?_
            have hF19 := va_free (wc := (wM m0 m1 m2 m3 m4 m5 k1 k2 k3 k4 k5 code funs made great up down size rows work xx power)) hD hS hA [0, 1, 2, 3, 4, 5] rfl
            refine va_calli (va_runV (As := [.int p1, .int 0, .int v3_9]) (rest := [.int r18]) ⟨hx, hb, hml, hown, hB⟩ (c_M_at l D m0 m1 m2 m3 m4 m5 k1 k2 k3 k4 k5 H.size code funs made great up down size rows work xx power p1 0 v3_9 _) (cwV 3 hB (goodV wd_408 wd_409 wd_517 wd_3 wd_410) rfl rfl rfl (by decide +kernel) ⟨Nat.le_of_ble_eq_true rfl, Nat.le_of_ble_eq_true rfl⟩) ⟨pcG_blind, va_recv hK hP (ci := 2) (q0 := 0) rfl rfl, pcG_pre hP hK hD h⟩ rfl rfl hl.1 rfl (lv_room (Nat.le_of_ble_eq_true rfl)) d_M_compared_81 ⟨Nat.le_of_ble_eq_true rfl, Nat.le_of_ble_eq_true rfl⟩) hS (fun q _ h => hF19 q h) hF19 (fun r20 u t H locs ht hvm h hB hz1 hk1 hS => ?_)
            obtain ⟨hP1, hK1, hD1⟩ := hB
            rw [ht] at hP1
            have hP : va_P D vwCl (wM m0 m1 m2 m3 m4 m5 k1 k2 k3 k4 k5 code funs made great up down size rows work xx power) H := hP1
            have hD : va_D A (wM m0 m1 m2 m3 m4 m5 k1 k2 k3 k4 k5 code funs made great up down size rows work xx power) := hD1.weaken (fun _ _ _ hq => hF19 _ hq)
            refine lv_icmp_le (tgt := 91) hx hb d_M_compared_84 (by decide) (fun hc21 => ?_) (fun hc21 => ?_)
            · replace h := h.1 hc21
              refine lv_iconst (v := (-1)) hx hb d_M_compared_91 (by decide) ?_
              exact W.iret (v := (-1)) hx hb hr (fun t ht hW => ⟨⟨(-1), (), rfl, h, by rw [ht]; exact hP, va_K.moved hW.alike hK, hD⟩, hS.F ht⟩) hS.2.2 d_M_compared_92
            · replace h := h.2 hc21
              refine lv_iconst (v := 1) hx hb d_M_compared_87 (by decide) ?_
              refine lv_goto (tgt := 92) hx hb d_M_compared_88 (by decide) ?_
              exact W.iret (v := 1) hx hb hr (fun t ht hW => ⟨⟨1, (), rfl, h, by rw [ht]; exact hP, va_K.moved hW.alike hK, hD⟩, hS.F ht⟩) hS.2.2 d_M_compared_92
    · replace h := h.2 hc8
      refine lv_aload_n hx hb d_M_compared_18 rfl (lv_at hl 0 rfl) ?_
      refine va_get (D := D) (ci := 2) (v := .ref m1) (C := R_M) (T := F_M) (N := 11) hx hb hB inF_M hown hK hP 0 rfl rfl 2 (by decide) (hB _ wd_340) (fun _ h9 => h9) rfl d_M_compared_19 ?_
      refine lv_iload_n hx hb d_M_compared_22 rfl (lv_at hl 1 rfl) ?_
      obtain ⟨g22, h⟩ := h
      refine va_iald hx hb hK hP 1 0 rfl rfl g22 d_M_compared_23 ?_
      refine lv_if_le (tgt := 31) hx hb d_M_compared_24 (by decide) (fun hc23 => ?_) (fun hc23 => ?_)
      · replace h := h.1 hc23
        refine lv_aload_n hx hb d_M_compared_31 rfl (lv_at hl 0 rfl) ?_
        refine va_get (D := D) (ci := 2) (v := .ref m1) (C := R_M) (T := F_M) (N := 11) hx hb hB inF_M hown hK hP 0 rfl rfl 2 (by decide) (hB _ wd_340) (fun _ h9 => h9) rfl d_M_compared_32 ?_
        refine lv_iload_n hx hb d_M_compared_35 rfl (lv_at hl 2 rfl) ?_
        obtain ⟨g24, h⟩ := h
        refine va_iald hx hb hK hP 1 0 rfl rfl g24 d_M_compared_36 ?_
        refine lv_if_le (tgt := 44) hx hb d_M_compared_37 (by decide) (fun hc25 => ?_) (fun hc25 => ?_)
        · replace h := h.1 hc25
          refine lv_iconst (v := 0) hx hb d_M_compared_44 (by decide) ?_
          exact W.iret (v := 0) hx hb hr (fun t ht hW => ⟨⟨0, (), rfl, h, by rw [ht]; exact hP, va_K.moved hW.alike hK, hD⟩, hS.F ht⟩) hS.2.2 d_M_compared_45
        · replace h := h.2 hc25
          refine lv_iconst (v := (-1)) hx hb d_M_compared_40 (by decide) ?_
          refine lv_goto (tgt := 45) hx hb d_M_compared_41 (by decide) ?_
          exact W.iret (v := (-1)) hx hb hr (fun t ht hW => ⟨⟨(-1), (), rfl, h, by rw [ht]; exact hP, va_K.moved hW.alike hK, hD⟩, hS.F ht⟩) hS.2.2 d_M_compared_45
      · replace h := h.2 hc23
        refine lv_iconst (v := 1) hx hb d_M_compared_27 (by decide) ?_
        refine lv_goto (tgt := 45) hx hb d_M_compared_28 (by decide) ?_
        exact W.iret (v := 1) hx hb hr (fun t ht hW => ⟨⟨1, (), rfl, h, by rw [ht]; exact hP, va_K.moved hW.alike hK, hD⟩, hS.F ht⟩) hS.2.2 d_M_compared_45
set_option maxHeartbeats 4000000 in
set_option maxRecDepth 100000 in
theorem c_M_compare (l : Launch) (D : va_G) (m0 m1 m2 m3 m4 m5 : Nat) (k1 k2 k3 k4 k5 : ClassId) (sz : Nat) (code : Int32) (funs : Int32) (made : Int32) (great : Int32) (up : Int64) (down : Int64) (size : (Nat → Int32)) (rows : (Nat → Int32)) (work : (Nat → Int32)) (xx : (Nat → Int32)) (power : (Nat → Int32)) (p0 : Int32) (p1 : Int32) (post : Int32 → Int32 → Prop) : Met l y_M_compare (Cond.code y_M_compare b_M_compare 3 (some .int) :: BIG) ({ frames := 2, cells := 0, slots := 0, locals := 46 }) (va_Pc [.ref m0, .int p0, .int p1] (pcG D vwCl (wM m0 m1 m2 m3 m4 m5 k1 k2 k3 k4 k5 code funs made great up down size rows work xx power) [(k1, .int), (k2, .int), (k3, .int), (k4, .int), (k5, .int)] sz (wp_M_compare code funs size rows p0 p1 post))) (va_Qi (fun (r : Int32) (u : Int32) => post r u) (fun u => atG D vwCl [(k1, .int), (k2, .int), (k3, .int), (k4, .int), (k5, .int)] (va_A (wM m0 m1 m2 m3 m4 m5 k1 k2 k3 k4 k5 code funs made great up down size rows work xx power) sz) (wM m0 m1 m2 m3 m4 m5 k1 k2 k3 k4 k5 u funs made great up down size rows work xx power)) (va_A (wM m0 m1 m2 m3 m4 m5 k1 k2 k3 k4 k5 code funs made great up down size rows work xx power) sz)) 0 0 (va_A (wM m0 m1 m2 m3 m4 m5 k1 k2 k3 k4 k5 code funs made great up down size rows work xx power) sz) := by
  refine Met.ofW (cc := b_M_compare) (maxL := 3) (ret := (some .int)) (by decide) rfl ?_
  intro p e s m args below meth c s₁ B hml hv
  obtain ⟨rfl, hsz, hP, hK, hD0, h⟩ := hv
  have hx := B.exec
  have hb := B.bytes
  have hr := B.returns
  have hB : ∀ w ∈ BIG, w.before _ s = true := fun w h => atoms_spec (ws := (Cond.code y_M_compare b_M_compare 3 (some .int) :: BIG)) B.pre w (List.mem_cons_of_mem _ h)
  have hown : s.vm.findClass R_M = some m.cls := findClass_of_methodNamed B.named
  have hlocks := B.notSynchronized
  subst hsz
  have hD := hD0.self (sz := s.heap.size)
  generalize hAe : va_A (wM m0 m1 m2 m3 m4 m5 k1 k2 k3 k4 k5 code funs made great up down size rows work xx power) s.heap.size = A at hD ⊢
  have hA : ∀ q : Nat, s.heap.size ≤ q → A q := fun q h => by rw [← hAe]; exact Or.inr h
  have hl := lv_entry ([.ref m0, .int p0, .int p1]) (n := 3) (Nat.le_of_ble_eq_true rfl)
  rw [lg_entry_eq]
  generalize (lg_sl ([.ref m0, .int p0, .int p1]) ++ List.replicate (3 - (lg_sl ([.ref m0, .int p0, .int p1])).length) Slot.unset).toArray = ls at hl ⊢
  have hl : lv_has ls 3 [(0, .ref m0), (1, .int p0), (2, .int p1)] := hl
  refine W.cap (fun G Gi Ge => ?_)
  suffices hL : ∀ (H : Heap) (locs : List Loc), va_P D vwCl (wM m0 m1 m2 m3 m4 m5 k1 k2 k3 k4 k5 code funs made great up down size rows work xx power) H → va_S A s.heap H locs → G H locs (F0 m 0 ls []) from hL _ _ hP va_S.rf
  clear hP
  intro H locs hP hS
  refine Gi _ _ _ ?_
  unfold wp_M_compare at h
  refine lv_aload_n hx hb d_M_compare_0 rfl (lv_at hl 0 rfl) ?_
  refine lv_aload_n hx hb d_M_compare_1 rfl (lv_at hl 0 rfl) ?_
  refine lv_iload_n hx hb d_M_compare_2 rfl (lv_at hl 1 rfl) ?_
  have hF1 := va_free (wc := (wM m0 m1 m2 m3 m4 m5 k1 k2 k3 k4 k5 code funs made great up down size rows work xx power)) hD hS hA [0, 1, 2, 3, 4, 5] rfl
  refine va_calli (va_runV (As := [.int p0]) (rest := [.ref m0]) ⟨hx, hb, hml, hown, hB⟩ (c_M_isFunction l D m0 m1 m2 m3 m4 m5 k1 k2 k3 k4 k5 H.size code funs made great up down size rows work xx power p0 _) (cwV 1 hB (goodV wd_402 wd_403 wd_515 wd_3 wd_404) rfl rfl rfl (by decide +kernel) ⟨Nat.le_of_ble_eq_true rfl, Nat.le_of_ble_eq_true rfl⟩) ⟨pcG_blind, va_recv hK hP (ci := 2) (q0 := 0) rfl rfl, pcG_pre hP hK hD h⟩ rfl rfl hl.1 rfl (lv_room (Nat.le_of_ble_eq_true rfl)) d_M_compare_3 ⟨Nat.le_of_ble_eq_true rfl, Nat.le_of_ble_eq_true rfl⟩) hS (fun q _ h => hF1 q h) hF1 (fun r2 u t H locs ht hvm h hB hz1 hk1 hS => ?_)
  obtain ⟨hP1, hK1, hD1⟩ := hB
  rw [ht] at hP1
  have hP : va_P D vwCl (wM m0 m1 m2 m3 m4 m5 k1 k2 k3 k4 k5 code funs made great up down size rows work xx power) H := hP1
  have hD : va_D A (wM m0 m1 m2 m3 m4 m5 k1 k2 k3 k4 k5 code funs made great up down size rows work xx power) := hD1.weaken (fun _ _ _ hq => hF1 _ hq)
  refine lv_if_eq (tgt := 21) hx hb d_M_compare_6 (by decide) (fun hc3 => ?_) (fun hc3 => ?_)
  · replace h := h.1 hc3
    refine lv_iconst (v := 1) hx hb d_M_compare_21 (by decide) ?_
    refine va_put (D := D) (ci := 2) (v := .int 1) (ty := .int) (C := R_M) (T := F_M) (N := 11) hx hb hB inF_M t_M t_M_ok n_M hown hK hP hD hS 0 rfl rfl 0 (by decide) (hB _ wd_338) (fun _ h9 => h9) rfl (by decide +kernel) rfl rfl (Nat.le_of_ble_eq_true rfl) d_M_compare_22 (fun H locs hP hD hS => ?_)
    have hP : va_P D vwCl (wM m0 m1 m2 m3 m4 m5 k1 k2 k3 k4 k5 1 funs made great up down size rows work xx power) H := hP
    have hD : va_D A (wM m0 m1 m2 m3 m4 m5 k1 k2 k3 k4 k5 1 funs made great up down size rows work xx power) := hD
    refine lv_aload_n hx hb d_M_compare_25 rfl (lv_at hl 0 rfl) ?_
    refine va_get (D := D) (ci := 2) (v := .int 1) (C := R_M) (T := F_M) (N := 11) hx hb hB inF_M hown hK hP 0 rfl rfl 0 (by decide) (hB _ wd_338) (fun _ h9 => h9) rfl d_M_compare_26 ?_
    refine lv_if_le (tgt := 36) hx hb d_M_compare_29 (by decide) (fun c => absurd c (by decide)) (fun _ => ?_)
    refine lv_iconst (v := 0) hx hb d_M_compare_32 (by decide) ?_
    refine lv_goto (tgt := 42) hx hb d_M_compare_33 (by decide) ?_
    exact W.iret (v := 0) hx hb hr (fun t ht hW => ⟨⟨0, 1, rfl, h, by rw [ht]; exact hP, va_K.moved hW.alike hK, hD⟩, hS.F ht⟩) hS.2.2 d_M_compare_42
  · replace h := h.2 hc3
    refine lv_aload_n hx hb d_M_compare_9 rfl (lv_at hl 0 rfl) ?_
    refine lv_iload_n hx hb d_M_compare_10 rfl (lv_at hl 2 rfl) ?_
    have hF4 := va_free (wc := (wM m0 m1 m2 m3 m4 m5 k1 k2 k3 k4 k5 code funs made great up down size rows work xx power)) hD hS hA [0, 1, 2, 3, 4, 5] rfl
    refine va_calli (va_runV (As := [.int p1]) (rest := [.ref m0]) ⟨hx, hb, hml, hown, hB⟩ (c_M_isFunction l D m0 m1 m2 m3 m4 m5 k1 k2 k3 k4 k5 H.size code funs made great up down size rows work xx power p1 _) (cwV 1 hB (goodV wd_402 wd_403 wd_515 wd_3 wd_404) rfl rfl rfl (by decide +kernel) ⟨Nat.le_of_ble_eq_true rfl, Nat.le_of_ble_eq_true rfl⟩) ⟨pcG_blind, va_recv hK hP (ci := 2) (q0 := 0) rfl rfl, pcG_pre hP hK hD h⟩ rfl rfl hl.1 rfl (lv_room (Nat.le_of_ble_eq_true rfl)) d_M_compare_11 ⟨Nat.le_of_ble_eq_true rfl, Nat.le_of_ble_eq_true rfl⟩) hS (fun q _ h => hF4 q h) hF4 (fun r5 u t H locs ht hvm h hB hz1 hk1 hS => ?_)
    obtain ⟨hP1, hK1, hD1⟩ := hB
    rw [ht] at hP1
    have hP : va_P D vwCl (wM m0 m1 m2 m3 m4 m5 k1 k2 k3 k4 k5 code funs made great up down size rows work xx power) H := hP1
    have hD : va_D A (wM m0 m1 m2 m3 m4 m5 k1 k2 k3 k4 k5 code funs made great up down size rows work xx power) := hD1.weaken (fun _ _ _ hq => hF4 _ hq)
    refine lv_if_eq (tgt := 21) hx hb d_M_compare_14 (by decide) (fun hc6 => ?_) (fun hc6 => ?_)
    · replace h := h.1 hc6
      refine lv_iconst (v := 1) hx hb d_M_compare_21 (by decide) ?_
      refine va_put (D := D) (ci := 2) (v := .int 1) (ty := .int) (C := R_M) (T := F_M) (N := 11) hx hb hB inF_M t_M t_M_ok n_M hown hK hP hD hS 0 rfl rfl 0 (by decide) (hB _ wd_338) (fun _ h9 => h9) rfl (by decide +kernel) rfl rfl (Nat.le_of_ble_eq_true rfl) d_M_compare_22 (fun H locs hP hD hS => ?_)
      have hP : va_P D vwCl (wM m0 m1 m2 m3 m4 m5 k1 k2 k3 k4 k5 1 funs made great up down size rows work xx power) H := hP
      have hD : va_D A (wM m0 m1 m2 m3 m4 m5 k1 k2 k3 k4 k5 1 funs made great up down size rows work xx power) := hD
      refine lv_aload_n hx hb d_M_compare_25 rfl (lv_at hl 0 rfl) ?_
      refine va_get (D := D) (ci := 2) (v := .int 1) (C := R_M) (T := F_M) (N := 11) hx hb hB inF_M hown hK hP 0 rfl rfl 0 (by decide) (hB _ wd_338) (fun _ h9 => h9) rfl d_M_compare_26 ?_
      refine lv_if_le (tgt := 36) hx hb d_M_compare_29 (by decide) (fun c => absurd c (by decide)) (fun _ => ?_)
      refine lv_iconst (v := 0) hx hb d_M_compare_32 (by decide) ?_
      refine lv_goto (tgt := 42) hx hb d_M_compare_33 (by decide) ?_
      exact W.iret (v := 0) hx hb hr (fun t ht hW => ⟨⟨0, 1, rfl, h, by rw [ht]; exact hP, va_K.moved hW.alike hK, hD⟩, hS.F ht⟩) hS.2.2 d_M_compare_42
    · replace h := h.2 hc6
      refine lv_iconst (v := 0) hx hb d_M_compare_17 (by decide) ?_
      refine lv_goto (tgt := 22) hx hb d_M_compare_18 (by decide) ?_
      refine va_put (D := D) (ci := 2) (v := .int 0) (ty := .int) (C := R_M) (T := F_M) (N := 11) hx hb hB inF_M t_M t_M_ok n_M hown hK hP hD hS 0 rfl rfl 0 (by decide) (hB _ wd_338) (fun _ h9 => h9) rfl (by decide +kernel) rfl rfl (Nat.le_of_ble_eq_true rfl) d_M_compare_22 (fun H locs hP hD hS => ?_)
      have hP : va_P D vwCl (wM m0 m1 m2 m3 m4 m5 k1 k2 k3 k4 k5 0 funs made great up down size rows work xx power) H := hP
      have hD : va_D A (wM m0 m1 m2 m3 m4 m5 k1 k2 k3 k4 k5 0 funs made great up down size rows work xx power) := hD
      refine lv_aload_n hx hb d_M_compare_25 rfl (lv_at hl 0 rfl) ?_
      refine va_get (D := D) (ci := 2) (v := .int 0) (C := R_M) (T := F_M) (N := 11) hx hb hB inF_M hown hK hP 0 rfl rfl 0 (by decide) (hB _ wd_338) (fun _ h9 => h9) rfl d_M_compare_26 ?_
      refine lv_if_le (tgt := 36) hx hb d_M_compare_29 (by decide) (fun _ => ?_) (fun c => absurd c (by decide))
      refine lv_aload_n hx hb d_M_compare_36 rfl (lv_at hl 0 rfl) ?_
      refine lv_iload_n hx hb d_M_compare_37 rfl (lv_at hl 1 rfl) ?_
      refine lv_iload_n hx hb d_M_compare_38 rfl (lv_at hl 2 rfl) ?_
      have hF7 := va_free (wc := (wM m0 m1 m2 m3 m4 m5 k1 k2 k3 k4 k5 0 funs made great up down size rows work xx power)) hD hS hA [0, 1, 2, 3, 4, 5] rfl
      refine va_calli (va_runV (As := [.int p0, .int p1]) (rest := []) ⟨hx, hb, hml, hown, hB⟩ (c_M_compared l D m0 m1 m2 m3 m4 m5 k1 k2 k3 k4 k5 H.size 0 funs made great up down size rows work xx power p0 p1 _) (cwV 2 hB (goodV wd_469 wd_470 wd_522 wd_3 wd_471) rfl rfl rfl (by decide +kernel) ⟨Nat.le_of_ble_eq_true rfl, Nat.le_of_ble_eq_true rfl⟩) ⟨pcG_blind, va_recv hK hP (ci := 2) (q0 := 0) rfl rfl, pcG_pre hP hK hD h⟩ rfl rfl hl.1 rfl (lv_room (Nat.le_of_ble_eq_true rfl)) d_M_compare_39 ⟨Nat.le_of_ble_eq_true rfl, Nat.le_of_ble_eq_true rfl⟩) hS (fun q _ h => hF7 q h) hF7 (fun r8 u t H locs ht hvm h hB hz1 hk1 hS => ?_)
      obtain ⟨hP1, hK1, hD1⟩ := hB
      rw [ht] at hP1
      have hP : va_P D vwCl (wM m0 m1 m2 m3 m4 m5 k1 k2 k3 k4 k5 0 funs made great up down size rows work xx power) H := hP1
      have hD : va_D A (wM m0 m1 m2 m3 m4 m5 k1 k2 k3 k4 k5 0 funs made great up down size rows work xx power) := hD1.weaken (fun _ _ _ hq => hF7 _ hq)
      exact W.iret (v := r8) hx hb hr (fun t ht hW => ⟨⟨r8, 0, rfl, h, by rw [ht]; exact hP, va_K.moved hW.alike hK, hD⟩, hS.F ht⟩) hS.2.2 d_M_compare_42
set_option maxHeartbeats 4000000 in
set_option maxRecDepth 100000 in
theorem c_M_ratio (l : Launch) (D : va_G) (m0 m1 m2 m3 m4 m5 : Nat) (k1 k2 k3 k4 k5 : ClassId) (sz : Nat) (code : Int32) (funs : Int32) (made : Int32) (great : Int32) (up : Int64) (down : Int64) (size : (Nat → Int32)) (rows : (Nat → Int32)) (work : (Nat → Int32)) (xx : (Nat → Int32)) (power : (Nat → Int32)) (p0 : Int32) (p1 : Int32) (p2 : Int32) (post : Int64 → Int32 → Int64 → Int64 → Prop) : Met l y_M_ratio (Cond.code y_M_ratio b_M_ratio 4 (some .long) :: BIG) ({ frames := 3, cells := 0, slots := 0, locals := 76 }) (va_Pc [.ref m0, .int p0, .int p1, .int p2] (pcG D vwCl (wM m0 m1 m2 m3 m4 m5 k1 k2 k3 k4 k5 code funs made great up down size rows work xx power) [(k1, .int), (k2, .int), (k3, .int), (k4, .int), (k5, .int)] sz (wp_M_ratio code funs up down size rows p0 p1 p2 post))) (va_Ql (fun (r : Int64) (u : Int32 × Int64 × Int64) => post r (u.1) (u.2.1) (u.2.2)) (fun u => atG D vwCl [(k1, .int), (k2, .int), (k3, .int), (k4, .int), (k5, .int)] (va_A (wM m0 m1 m2 m3 m4 m5 k1 k2 k3 k4 k5 code funs made great up down size rows work xx power) sz) (wM m0 m1 m2 m3 m4 m5 k1 k2 k3 k4 k5 (u.1) funs made great (u.2.1) (u.2.2) size rows work xx power)) (va_A (wM m0 m1 m2 m3 m4 m5 k1 k2 k3 k4 k5 code funs made great up down size rows work xx power) sz)) 0 0 (va_A (wM m0 m1 m2 m3 m4 m5 k1 k2 k3 k4 k5 code funs made great up down size rows work xx power) sz) := by
  refine Met.ofW (cc := b_M_ratio) (maxL := 4) (ret := (some .long)) (by decide) rfl ?_
  intro p e s m args below meth c s₁ B hml hv
  obtain ⟨rfl, hsz, hP, hK, hD0, h⟩ := hv
  have hx := B.exec
  have hb := B.bytes
  have hr := B.returns
  have hB : ∀ w ∈ BIG, w.before _ s = true := fun w h => atoms_spec (ws := (Cond.code y_M_ratio b_M_ratio 4 (some .long) :: BIG)) B.pre w (List.mem_cons_of_mem _ h)
  have hown : s.vm.findClass R_M = some m.cls := findClass_of_methodNamed B.named
  have hlocks := B.notSynchronized
  subst hsz
  have hD := hD0.self (sz := s.heap.size)
  generalize hAe : va_A (wM m0 m1 m2 m3 m4 m5 k1 k2 k3 k4 k5 code funs made great up down size rows work xx power) s.heap.size = A at hD ⊢
  have hA : ∀ q : Nat, s.heap.size ≤ q → A q := fun q h => by rw [← hAe]; exact Or.inr h
  have hl := lv_entry ([.ref m0, .int p0, .int p1, .int p2]) (n := 4) (Nat.le_of_ble_eq_true rfl)
  rw [lg_entry_eq]
  generalize (lg_sl ([.ref m0, .int p0, .int p1, .int p2]) ++ List.replicate (4 - (lg_sl ([.ref m0, .int p0, .int p1, .int p2])).length) Slot.unset).toArray = ls at hl ⊢
  have hl : lv_has ls 4 [(0, .ref m0), (1, .int p0), (2, .int p1), (3, .int p2)] := hl
  refine W.cap (fun G Gi Ge => ?_)
  suffices hL : ∀ (H : Heap) (locs : List Loc), va_P D vwCl (wM m0 m1 m2 m3 m4 m5 k1 k2 k3 k4 k5 code funs made great up down size rows work xx power) H → va_S A s.heap H locs → G H locs (F0 m 0 ls []) from hL _ _ hP va_S.rf
  clear hP
  intro H locs hP hS
  refine Gi _ _ _ ?_
  unfold wp_M_ratio at h
  refine lv_aload_n hx hb d_M_ratio_0 rfl (lv_at hl 0 rfl) ?_
  refine lv_iload_n hx hb d_M_ratio_1 rfl (lv_at hl 1 rfl) ?_
  have hF1 := va_free (wc := (wM m0 m1 m2 m3 m4 m5 k1 k2 k3 k4 k5 code funs made great up down size rows work xx power)) hD hS hA [0, 1, 2, 3, 4, 5] rfl
  refine va_calli (va_runV (As := [.int p0]) (rest := []) ⟨hx, hb, hml, hown, hB⟩ (c_M_isFunction l D m0 m1 m2 m3 m4 m5 k1 k2 k3 k4 k5 H.size code funs made great up down size rows work xx power p0 _) (cwV 1 hB (goodV wd_402 wd_403 wd_515 wd_3 wd_404) rfl rfl rfl (by decide +kernel) ⟨Nat.le_of_ble_eq_true rfl, Nat.le_of_ble_eq_true rfl⟩) ⟨pcG_blind, va_recv hK hP (ci := 2) (q0 := 0) rfl rfl, pcG_pre hP hK hD h⟩ rfl rfl hl.1 rfl (lv_room (Nat.le_of_ble_eq_true rfl)) d_M_ratio_2 ⟨Nat.le_of_ble_eq_true rfl, Nat.le_of_ble_eq_true rfl⟩) hS (fun q _ h => hF1 q h) hF1 (fun r2 u t H locs ht hvm h hB hz1 hk1 hS => ?_)
  obtain ⟨hP1, hK1, hD1⟩ := hB
  rw [ht] at hP1
  have hP : va_P D vwCl (wM m0 m1 m2 m3 m4 m5 k1 k2 k3 k4 k5 code funs made great up down size rows work xx power) H := hP1
  have hD : va_D A (wM m0 m1 m2 m3 m4 m5 k1 k2 k3 k4 k5 code funs made great up down size rows work xx power) := hD1.weaken (fun _ _ _ hq => hF1 _ hq)
  refine lv_if_eq (tgt := 16) hx hb d_M_ratio_5 (by decide) (fun hc3 => ?_) (fun hc3 => ?_)
  · replace h := h.1 hc3
    refine lv_aload_n hx hb d_M_ratio_16 rfl (lv_at hl 0 rfl) ?_
    refine lv_iconst (v := 1) hx hb d_M_ratio_17 (by decide) ?_
    have hF4 := va_free (wc := (wM m0 m1 m2 m3 m4 m5 k1 k2 k3 k4 k5 code funs made great up down size rows work xx power)) hD hS hA [0, 1, 2, 3, 4, 5] rfl
    refine va_calli (va_runV (As := [.int 1]) (rest := []) ⟨hx, hb, hml, hown, hB⟩ (c_M_raise l D m0 m1 m2 m3 m4 m5 k1 k2 k3 k4 k5 H.size code funs made great up down size rows work xx power 1 _) (cwV 1 hB (goodV wd_357 wd_358 wd_507 wd_3 wd_359) rfl rfl rfl (by decide +kernel) ⟨Nat.le_of_ble_eq_true rfl, Nat.le_of_ble_eq_true rfl⟩) ⟨pcG_blind, va_recv hK hP (ci := 2) (q0 := 0) rfl rfl, pcG_pre hP hK hD h⟩ rfl rfl hl.1 rfl (lv_room (Nat.le_of_ble_eq_true rfl)) d_M_ratio_18 ⟨Nat.le_of_ble_eq_true rfl, Nat.le_of_ble_eq_true rfl⟩) hS (fun q _ h => hF4 q h) hF4 (fun r5 code_6 t H locs ht hvm h hB hz1 hk1 hS => ?_)
    obtain ⟨hP1, hK1, hD1⟩ := hB
    rw [ht] at hP1
    have hP : va_P D vwCl (wM m0 m1 m2 m3 m4 m5 k1 k2 k3 k4 k5 code_6 funs made great up down size rows work xx power) H := hP1
    have hD : va_D A (wM m0 m1 m2 m3 m4 m5 k1 k2 k3 k4 k5 code_6 funs made great up down size rows work xx power) := hD1.weaken (fun _ _ _ hq => hF4 _ hq)
    refine lv_i2l hx hb d_M_ratio_21 rfl ?_
    exact W.lret (v := r5.toInt64) hx hb hr (fun t ht hW => ⟨⟨r5.toInt64, (code_6, up, down), rfl, h, by rw [ht]; exact hP, va_K.moved hW.alike hK, hD⟩, hS.F ht⟩) hS.2.2 d_M_ratio_22
  · replace h := h.2 hc3
    refine lv_aload_n hx hb d_M_ratio_8 rfl (lv_at hl 0 rfl) ?_
    refine lv_iload_n hx hb d_M_ratio_9 rfl (lv_at hl 2 rfl) ?_
    have hF7 := va_free (wc := (wM m0 m1 m2 m3 m4 m5 k1 k2 k3 k4 k5 code funs made great up down size rows work xx power)) hD hS hA [0, 1, 2, 3, 4, 5] rfl
    refine va_calli (va_runV (As := [.int p1]) (rest := []) ⟨hx, hb, hml, hown, hB⟩ (c_M_isFunction l D m0 m1 m2 m3 m4 m5 k1 k2 k3 k4 k5 H.size code funs made great up down size rows work xx power p1 _) (cwV 1 hB (goodV wd_402 wd_403 wd_515 wd_3 wd_404) rfl rfl rfl (by decide +kernel) ⟨Nat.le_of_ble_eq_true rfl, Nat.le_of_ble_eq_true rfl⟩) ⟨pcG_blind, va_recv hK hP (ci := 2) (q0 := 0) rfl rfl, pcG_pre hP hK hD h⟩ rfl rfl hl.1 rfl (lv_room (Nat.le_of_ble_eq_true rfl)) d_M_ratio_10 ⟨Nat.le_of_ble_eq_true rfl, Nat.le_of_ble_eq_true rfl⟩) hS (fun q _ h => hF7 q h) hF7 (fun r8 u t H locs ht hvm h hB hz1 hk1 hS => ?_)
    obtain ⟨hP1, hK1, hD1⟩ := hB
    rw [ht] at hP1
    have hP : va_P D vwCl (wM m0 m1 m2 m3 m4 m5 k1 k2 k3 k4 k5 code funs made great up down size rows work xx power) H := hP1
    have hD : va_D A (wM m0 m1 m2 m3 m4 m5 k1 k2 k3 k4 k5 code funs made great up down size rows work xx power) := hD1.weaken (fun _ _ _ hq => hF7 _ hq)
    refine lv_if_ne (tgt := 23) hx hb d_M_ratio_13 (by decide) (fun hc9 => ?_) (fun hc9 => ?_)
    · replace h := h.1 hc9
      refine lv_aload_n hx hb d_M_ratio_23 rfl (lv_at hl 0 rfl) ?_
      refine va_get (D := D) (ci := 2) (v := .ref m1) (C := R_M) (T := F_M) (N := 11) hx hb hB inF_M hown hK hP 0 rfl rfl 2 (by decide) (hB _ wd_340) (fun _ h9 => h9) rfl d_M_ratio_24 ?_
      refine lv_iload_n hx hb d_M_ratio_27 rfl (lv_at hl 1 rfl) ?_
      obtain ⟨g10, h⟩ := h
      refine va_iald hx hb hK hP 1 0 rfl rfl g10 d_M_ratio_28 ?_
      refine lv_if_eq (tgt := 50) hx hb d_M_ratio_29 (by decide) (fun hc11 => ?_) (fun hc11 => ?_)
      · replace h := h.1 hc11
        refine lv_aload_n hx hb d_M_ratio_50 rfl (lv_at hl 0 rfl) ?_
        refine lv_iconst (v := 2) hx hb d_M_ratio_51 (by decide) ?_
        have hF12 := va_free (wc := (wM m0 m1 m2 m3 m4 m5 k1 k2 k3 k4 k5 code funs made great up down size rows work xx power)) hD hS hA [0, 1, 2, 3, 4, 5] rfl
        refine va_calli (va_runV (As := [.int 2]) (rest := []) ⟨hx, hb, hml, hown, hB⟩ (c_M_raise l D m0 m1 m2 m3 m4 m5 k1 k2 k3 k4 k5 H.size code funs made great up down size rows work xx power 2 _) (cwV 1 hB (goodV wd_357 wd_358 wd_507 wd_3 wd_359) rfl rfl rfl (by decide +kernel) ⟨Nat.le_of_ble_eq_true rfl, Nat.le_of_ble_eq_true rfl⟩) ⟨pcG_blind, va_recv hK hP (ci := 2) (q0 := 0) rfl rfl, pcG_pre hP hK hD h⟩ rfl rfl hl.1 rfl (lv_room (Nat.le_of_ble_eq_true rfl)) d_M_ratio_52 ⟨Nat.le_of_ble_eq_true rfl, Nat.le_of_ble_eq_true rfl⟩) hS (fun q _ h => hF12 q h) hF12 (fun r13 code_14 t H locs ht hvm h hB hz1 hk1 hS => ?_)
        obtain ⟨hP1, hK1, hD1⟩ := hB
        rw [ht] at hP1
        have hP : va_P D vwCl (wM m0 m1 m2 m3 m4 m5 k1 k2 k3 k4 k5 code_14 funs made great up down size rows work xx power) H := hP1
        have hD : va_D A (wM m0 m1 m2 m3 m4 m5 k1 k2 k3 k4 k5 code_14 funs made great up down size rows work xx power) := hD1.weaken (fun _ _ _ hq => hF12 _ hq)
        refine lv_i2l hx hb d_M_ratio_55 rfl ?_
        exact W.lret (v := r13.toInt64) hx hb hr (fun t ht hW => ⟨⟨r13.toInt64, (code_14, up, down), rfl, h, by rw [ht]; exact hP, va_K.moved hW.alike hK, hD⟩, hS.F ht⟩) hS.2.2 d_M_ratio_56
      · replace h := h.2 hc11
        refine lv_aload_n hx hb d_M_ratio_32 rfl (lv_at hl 0 rfl) ?_
        refine va_get (D := D) (ci := 2) (v := .ref m1) (C := R_M) (T := F_M) (N := 11) hx hb hB inF_M hown hK hP 0 rfl rfl 2 (by decide) (hB _ wd_340) (fun _ h9 => h9) rfl d_M_ratio_33 ?_
        refine lv_iload_n hx hb d_M_ratio_36 rfl (lv_at hl 2 rfl) ?_
        obtain ⟨g15, h⟩ := h
        refine va_iald hx hb hK hP 1 0 rfl rfl g15 d_M_ratio_37 ?_
        refine lv_if_eq (tgt := 50) hx hb d_M_ratio_38 (by decide) (fun hc16 => ?_) (fun hc16 => ?_)
        · replace h := h.1 hc16
          refine lv_aload_n hx hb d_M_ratio_50 rfl (lv_at hl 0 rfl) ?_
          refine lv_iconst (v := 2) hx hb d_M_ratio_51 (by decide) ?_
          have hF17 := va_free (wc := (wM m0 m1 m2 m3 m4 m5 k1 k2 k3 k4 k5 code funs made great up down size rows work xx power)) hD hS hA [0, 1, 2, 3, 4, 5] rfl
          refine va_calli (va_runV (As := [.int 2]) (rest := []) ⟨hx, hb, hml, hown, hB⟩ (c_M_raise l D m0 m1 m2 m3 m4 m5 k1 k2 k3 k4 k5 H.size code funs made great up down size rows work xx power 2 _) (cwV 1 hB (goodV wd_357 wd_358 wd_507 wd_3 wd_359) rfl rfl rfl (by decide +kernel) ⟨Nat.le_of_ble_eq_true rfl, Nat.le_of_ble_eq_true rfl⟩) ⟨pcG_blind, va_recv hK hP (ci := 2) (q0 := 0) rfl rfl, pcG_pre hP hK hD h⟩ rfl rfl hl.1 rfl (lv_room (Nat.le_of_ble_eq_true rfl)) d_M_ratio_52 ⟨Nat.le_of_ble_eq_true rfl, Nat.le_of_ble_eq_true rfl⟩) hS (fun q _ h => hF17 q h) hF17 (fun r18 code_19 t H locs ht hvm h hB hz1 hk1 hS => ?_)
          obtain ⟨hP1, hK1, hD1⟩ := hB
          rw [ht] at hP1
          have hP : va_P D vwCl (wM m0 m1 m2 m3 m4 m5 k1 k2 k3 k4 k5 code_19 funs made great up down size rows work xx power) H := hP1
          have hD : va_D A (wM m0 m1 m2 m3 m4 m5 k1 k2 k3 k4 k5 code_19 funs made great up down size rows work xx power) := hD1.weaken (fun _ _ _ hq => hF17 _ hq)
          refine lv_i2l hx hb d_M_ratio_55 rfl ?_
          exact W.lret (v := r18.toInt64) hx hb hr (fun t ht hW => ⟨⟨r18.toInt64, (code_19, up, down), rfl, h, by rw [ht]; exact hP, va_K.moved hW.alike hK, hD⟩, hS.F ht⟩) hS.2.2 d_M_ratio_56
        · replace h := h.2 hc16
          refine lv_aload_n hx hb d_M_ratio_41 rfl (lv_at hl 0 rfl) ?_
          refine lv_iload_n hx hb d_M_ratio_42 rfl (lv_at hl 1 rfl) ?_
          refine lv_iload_n hx hb d_M_ratio_43 rfl (lv_at hl 2 rfl) ?_
          have hF20 := va_free (wc := (wM m0 m1 m2 m3 m4 m5 k1 k2 k3 k4 k5 code funs made great up down size rows work xx power)) hD hS hA [0, 1, 2, 3, 4, 5] rfl
          refine va_calli (va_runV (As := [.int p0, .int p1]) (rest := []) ⟨hx, hb, hml, hown, hB⟩ (c_M_compared l D m0 m1 m2 m3 m4 m5 k1 k2 k3 k4 k5 H.size code funs made great up down size rows work xx power p0 p1 _) (cwV 2 hB (goodV wd_469 wd_470 wd_522 wd_3 wd_471) rfl rfl rfl (by decide +kernel) ⟨Nat.le_of_ble_eq_true rfl, Nat.le_of_ble_eq_true rfl⟩) ⟨pcG_blind, va_recv hK hP (ci := 2) (q0 := 0) rfl rfl, pcG_pre hP hK hD h⟩ rfl rfl hl.1 rfl (lv_room (Nat.le_of_ble_eq_true rfl)) d_M_ratio_44 ⟨Nat.le_of_ble_eq_true rfl, Nat.le_of_ble_eq_true rfl⟩) hS (fun q _ h => hF20 q h) hF20 (fun r21 u t H locs ht hvm h hB hz1 hk1 hS => ?_)
          obtain ⟨hP1, hK1, hD1⟩ := hB
          rw [ht] at hP1
          have hP : va_P D vwCl (wM m0 m1 m2 m3 m4 m5 k1 k2 k3 k4 k5 code funs made great up down size rows work xx power) H := hP1
          have hD : va_D A (wM m0 m1 m2 m3 m4 m5 k1 k2 k3 k4 k5 code funs made great up down size rows work xx power) := hD1.weaken (fun _ _ _ hq => hF20 _ hq)
          refine lv_if_eq (tgt := 57) hx hb d_M_ratio_47 (by decide) (fun hc22 => ?_) (fun hc22 => ?_)
          · replace h := h.1 hc22
            refine lv_aload_n hx hb d_M_ratio_57 rfl (lv_at hl 0 rfl) ?_
            refine lv_iload_n hx hb d_M_ratio_58 rfl (lv_at hl 3 rfl) ?_
            refine lv_i2l hx hb d_M_ratio_59 rfl ?_
            refine lv_lconst (v := 0) hx hb d_M_ratio_60 (by decide) ?_
            refine lv_lconst (v := 1) hx hb d_M_ratio_61 (by decide) ?_
            have hF23 := va_free (wc := (wM m0 m1 m2 m3 m4 m5 k1 k2 k3 k4 k5 code funs made great up down size rows work xx power)) hD hS hA [0, 1, 2, 3, 4, 5] rfl
            refine va_calli (va_runS (As := [.long (p2.toInt64), .long 0, .long 1]) (rest := [.ref m0]) ⟨hx, hb, hml, hown, hB⟩ (c_M_in l D m0 m1 m2 m3 m4 m5 k1 k2 k3 k4 k5 H.size code funs made great up down size rows work xx power (p2.toInt64) 0 1 _) (cwS 3 hB (goodS wd_381 wd_382 wd_3 wd_383) rfl rfl rfl (by decide +kernel) ⟨Nat.le_of_ble_eq_true rfl, Nat.le_of_ble_eq_true rfl⟩) ⟨pcG_blind, pcG_pre hP hK hD h⟩ rfl rfl hl.1 rfl (lv_room (Nat.le_of_ble_eq_true rfl)) d_M_ratio_62 ⟨Nat.le_of_ble_eq_true rfl, Nat.le_of_ble_eq_true rfl⟩) hS (fun q _ h => hF23 q h) hF23 (fun r24 u t H locs ht hvm h hB hz1 hk1 hS => ?_)
            obtain ⟨hP1, hK1, hD1⟩ := hB
            rw [ht] at hP1
            have hP : va_P D vwCl (wM m0 m1 m2 m3 m4 m5 k1 k2 k3 k4 k5 code funs made great up down size rows work xx power) H := hP1
            have hD : va_D A (wM m0 m1 m2 m3 m4 m5 k1 k2 k3 k4 k5 code funs made great up down size rows work xx power) := hD1.weaken (fun _ _ _ hq => hF23 _ hq)
            refine lv_if_eq (tgt := 72) hx hb d_M_ratio_65 (by decide) (fun hc25 => ?_) (fun hc25 => ?_)
            · replace h := h.1 hc25
              refine lv_iconst (v := 3) hx hb d_M_ratio_72 (by decide) ?_
              refine va_put (D := D) (ci := 2) (v := .int 3) (ty := .int) (C := R_M) (T := F_M) (N := 11) hx hb hB inF_M t_M t_M_ok n_M hown hK hP hD hS 0 rfl rfl 0 (by decide) (hB _ wd_338) (fun _ h9 => h9) rfl (by decide +kernel) rfl rfl (Nat.le_of_ble_eq_true rfl) d_M_ratio_73 (fun H locs hP hD hS => ?_)
              have hP : va_P D vwCl (wM m0 m1 m2 m3 m4 m5 k1 k2 k3 k4 k5 3 funs made great up down size rows work xx power) H := hP
              have hD : va_D A (wM m0 m1 m2 m3 m4 m5 k1 k2 k3 k4 k5 3 funs made great up down size rows work xx power) := hD
              refine lv_aload_n hx hb d_M_ratio_76 rfl (lv_at hl 0 rfl) ?_
              refine va_get (D := D) (ci := 2) (v := .int 3) (C := R_M) (T := F_M) (N := 11) hx hb hB inF_M hown hK hP 0 rfl rfl 0 (by decide) (hB _ wd_338) (fun _ h9 => h9) rfl d_M_ratio_77 ?_
              refine lv_if_le (tgt := 85) hx hb d_M_ratio_80 (by decide) (fun c => absurd c (by decide)) (fun _ => ?_)
              refine lv_lconst (v := 0) hx hb d_M_ratio_83 (by decide) ?_
              exact W.lret (v := 0) hx hb hr (fun t ht hW => ⟨⟨0, (3, up, down), rfl, h, by rw [ht]; exact hP, va_K.moved hW.alike hK, hD⟩, hS.F ht⟩) hS.2.2 d_M_ratio_84
            · replace h := h.2 hc25
              refine lv_iconst (v := 0) hx hb d_M_ratio_68 (by decide) ?_
              refine lv_goto (tgt := 73) hx hb d_M_ratio_69 (by decide) ?_
              refine va_put (D := D) (ci := 2) (v := .int 0) (ty := .int) (C := R_M) (T := F_M) (N := 11) hx hb hB inF_M t_M t_M_ok n_M hown hK hP hD hS 0 rfl rfl 0 (by decide) (hB _ wd_338) (fun _ h9 => h9) rfl (by decide +kernel) rfl rfl (Nat.le_of_ble_eq_true rfl) d_M_ratio_73 (fun H locs hP hD hS => ?_)
              have hP : va_P D vwCl (wM m0 m1 m2 m3 m4 m5 k1 k2 k3 k4 k5 0 funs made great up down size rows work xx power) H := hP
              have hD : va_D A (wM m0 m1 m2 m3 m4 m5 k1 k2 k3 k4 k5 0 funs made great up down size rows work xx power) := hD
              refine lv_aload_n hx hb d_M_ratio_76 rfl (lv_at hl 0 rfl) ?_
              refine va_get (D := D) (ci := 2) (v := .int 0) (C := R_M) (T := F_M) (N := 11) hx hb hB inF_M hown hK hP 0 rfl rfl 0 (by decide) (hB _ wd_338) (fun _ h9 => h9) rfl d_M_ratio_77 ?_
              refine lv_if_le (tgt := 85) hx hb d_M_ratio_80 (by decide) (fun _ => ?_) (fun c => absurd c (by decide))
              refine lv_aload_n hx hb d_M_ratio_85 rfl (lv_at hl 0 rfl) ?_
              refine lv_aload_n hx hb d_M_ratio_86 rfl (lv_at hl 0 rfl) ?_
              refine lv_iload_n hx hb d_M_ratio_87 rfl (lv_at hl 1 rfl) ?_
              refine lv_iconst (v := 0) hx hb d_M_ratio_88 (by decide) ?_
              refine lv_iconst (v := 5) hx hb d_M_ratio_89 (by decide) ?_
              have hF26 := va_free (wc := (wM m0 m1 m2 m3 m4 m5 k1 k2 k3 k4 k5 0 funs made great up down size rows work xx power)) hD hS hA [0, 1, 2, 3, 4, 5] rfl
              refine va_calli (va_runV (As := [.int p0, .int 0, .int 5]) (rest := [.ref m0]) ⟨hx, hb, hml, hown, hB⟩ (c_M_at l D m0 m1 m2 m3 m4 m5 k1 k2 k3 k4 k5 H.size 0 funs made great up down size rows work xx power p0 0 5 _) (cwV 3 hB (goodV wd_408 wd_409 wd_517 wd_3 wd_410) rfl rfl rfl (by decide +kernel) ⟨Nat.le_of_ble_eq_true rfl, Nat.le_of_ble_eq_true rfl⟩) ⟨pcG_blind, va_recv hK hP (ci := 2) (q0 := 0) rfl rfl, pcG_pre hP hK hD h⟩ rfl rfl hl.1 rfl (lv_room (Nat.le_of_ble_eq_true rfl)) d_M_ratio_90 ⟨Nat.le_of_ble_eq_true rfl, Nat.le_of_ble_eq_true rfl⟩) hS (fun q _ h => hF26 q h) hF26 (fun r27 u t H locs ht hvm h hB hz1 hk1 hS => ?_)
              obtain ⟨hP1, hK1, hD1⟩ := hB
              rw [ht] at hP1
              have hP : va_P D vwCl (wM m0 m1 m2 m3 m4 m5 k1 k2 k3 k4 k5 0 funs made great up down size rows work xx power) H := hP1
              have hD : va_D A (wM m0 m1 m2 m3 m4 m5 k1 k2 k3 k4 k5 0 funs made great up down size rows work xx power) := hD1.weaken (fun _ _ _ hq => hF26 _ hq)
              refine lv_i2l hx hb d_M_ratio_93 rfl ?_
              refine lv_aload_n hx hb d_M_ratio_94 rfl (lv_at hl 0 rfl) ?_
              refine lv_iload_n hx hb d_M_ratio_95 rfl (lv_at hl 2 rfl) ?_
              refine lv_iconst (v := 0) hx hb d_M_ratio_96 (by decide) ?_
              refine lv_bipush (v := 6) hx hb d_M_ratio_97 (by decide) ?_
              have hF28 := va_free (wc := (wM m0 m1 m2 m3 m4 m5 k1 k2 k3 k4 k5 0 funs made great up down size rows work xx power)) hD hS hA [0, 1, 2, 3, 4, 5] rfl
              refine va_calli (va_runV (As := [.int p1, .int 0, .int 6]) (rest := [.long (r27.toInt64), .ref m0]) ⟨hx, hb, hml, hown, hB⟩ (c_M_at l D m0 m1 m2 m3 m4 m5 k1 k2 k3 k4 k5 H.size 0 funs made great up down size rows work xx power p1 0 6 _) (cwV 3 hB (goodV wd_408 wd_409 wd_517 wd_3 wd_410) rfl rfl rfl (by decide +kernel) ⟨Nat.le_of_ble_eq_true rfl, Nat.le_of_ble_eq_true rfl⟩) ⟨pcG_blind, va_recv hK hP (ci := 2) (q0 := 0) rfl rfl, pcG_pre hP hK hD h⟩ rfl rfl hl.1 rfl (lv_room (Nat.le_of_ble_eq_true rfl)) d_M_ratio_99 ⟨Nat.le_of_ble_eq_true rfl, Nat.le_of_ble_eq_true rfl⟩) hS (fun q _ h => hF28 q h) hF28 (fun r29 u t H locs ht hvm h hB hz1 hk1 hS => ?_)
              obtain ⟨hP1, hK1, hD1⟩ := hB
              rw [ht] at hP1
              have hP : va_P D vwCl (wM m0 m1 m2 m3 m4 m5 k1 k2 k3 k4 k5 0 funs made great up down size rows work xx power) H := hP1
              have hD : va_D A (wM m0 m1 m2 m3 m4 m5 k1 k2 k3 k4 k5 0 funs made great up down size rows work xx power) := hD1.weaken (fun _ _ _ hq => hF28 _ hq)
              refine lv_i2l hx hb d_M_ratio_102 rfl ?_
              refine lv_lmul hx hb d_M_ratio_103 ?_
              refine lv_aload_n hx hb d_M_ratio_104 rfl (lv_at hl 0 rfl) ?_
              refine lv_iload_n hx hb d_M_ratio_105 rfl (lv_at hl 1 rfl) ?_
              refine lv_iconst (v := 0) hx hb d_M_ratio_106 (by decide) ?_
              refine lv_bipush (v := 6) hx hb d_M_ratio_107 (by decide) ?_
              have hF30 := va_free (wc := (wM m0 m1 m2 m3 m4 m5 k1 k2 k3 k4 k5 0 funs made great up down size rows work xx power)) hD hS hA [0, 1, 2, 3, 4, 5] rfl
              refine va_calli (va_runV (As := [.int p0, .int 0, .int 6]) (rest := [.long ((r27.toInt64) * (r29.toInt64)), .ref m0]) ⟨hx, hb, hml, hown, hB⟩ (c_M_at l D m0 m1 m2 m3 m4 m5 k1 k2 k3 k4 k5 H.size 0 funs made great up down size rows work xx power p0 0 6 _) (cwV 3 hB (goodV wd_408 wd_409 wd_517 wd_3 wd_410) rfl rfl rfl (by decide +kernel) ⟨Nat.le_of_ble_eq_true rfl, Nat.le_of_ble_eq_true rfl⟩) ⟨pcG_blind, va_recv hK hP (ci := 2) (q0 := 0) rfl rfl, pcG_pre hP hK hD h⟩ rfl rfl hl.1 rfl (lv_room (Nat.le_of_ble_eq_true rfl)) d_M_ratio_109 ⟨Nat.le_of_ble_eq_true rfl, Nat.le_of_ble_eq_true rfl⟩) hS (fun q _ h => hF30 q h) hF30 (fun r31 u t H locs ht hvm h hB hz1 hk1 hS => ?_)
              obtain ⟨hP1, hK1, hD1⟩ := hB
              rw [ht] at hP1
              have hP : va_P D vwCl (wM m0 m1 m2 m3 m4 m5 k1 k2 k3 k4 k5 0 funs made great up down size rows work xx power) H := hP1
              have hD : va_D A (wM m0 m1 m2 m3 m4 m5 k1 k2 k3 k4 k5 0 funs made great up down size rows work xx power) := hD1.weaken (fun _ _ _ hq => hF30 _ hq)
              refine lv_i2l hx hb d_M_ratio_112 rfl ?_
              refine lv_aload_n hx hb d_M_ratio_113 rfl (lv_at hl 0 rfl) ?_
              refine lv_iload_n hx hb d_M_ratio_114 rfl (lv_at hl 2 rfl) ?_
              refine lv_iconst (v := 0) hx hb d_M_ratio_115 (by decide) ?_
              refine lv_iconst (v := 5) hx hb d_M_ratio_116 (by decide) ?_
              have hF32 := va_free (wc := (wM m0 m1 m2 m3 m4 m5 k1 k2 k3 k4 k5 0 funs made great up down size rows work xx power)) hD hS hA [0, 1, 2, 3, 4, 5] rfl
              refine va_calli (va_runV (As := [.int p1, .int 0, .int 5]) (rest := [.long (r31.toInt64), .long ((r27.toInt64) * (r29.toInt64)), .ref m0]) ⟨hx, hb, hml, hown, hB⟩ (c_M_at l D m0 m1 m2 m3 m4 m5 k1 k2 k3 k4 k5 H.size 0 funs made great up down size rows work xx power p1 0 5 _) (cwV 3 hB (goodV wd_408 wd_409 wd_517 wd_3 wd_410) rfl rfl rfl (by decide +kernel) ⟨Nat.le_of_ble_eq_true rfl, Nat.le_of_ble_eq_true rfl⟩) ⟨pcG_blind, va_recv hK hP (ci := 2) (q0 := 0) rfl rfl, pcG_pre hP hK hD h⟩ rfl rfl hl.1 rfl (lv_room (Nat.le_of_ble_eq_true rfl)) d_M_ratio_117 ⟨Nat.le_of_ble_eq_true rfl, Nat.le_of_ble_eq_true rfl⟩) hS (fun q _ h => hF32 q h) hF32 (fun r33 u t H locs ht hvm h hB hz1 hk1 hS => ?_)
              obtain ⟨hP1, hK1, hD1⟩ := hB
              rw [ht] at hP1
              have hP : va_P D vwCl (wM m0 m1 m2 m3 m4 m5 k1 k2 k3 k4 k5 0 funs made great up down size rows work xx power) H := hP1
              have hD : va_D A (wM m0 m1 m2 m3 m4 m5 k1 k2 k3 k4 k5 0 funs made great up down size rows work xx power) := hD1.weaken (fun _ _ _ hq => hF32 _ hq)
              refine lv_i2l hx hb d_M_ratio_120 rfl ?_
              refine lv_lmul hx hb d_M_ratio_121 ?_
              have hF34 := va_free (wc := (wM m0 m1 m2 m3 m4 m5 k1 k2 k3 k4 k5 0 funs made great up down size rows work xx power)) hD hS hA [0, 1, 2, 3, 4, 5] rfl
              refine va_callv (va_runV (As := [.long ((r27.toInt64) * (r29.toInt64)), .long ((r31.toInt64) * (r33.toInt64))]) (rest := []) ⟨hx, hb, hml, hown, hB⟩ (c_M_lowest l D m0 m1 m2 m3 m4 m5 k1 k2 k3 k4 k5 H.size 0 funs made great up down size rows work xx power ((r27.toInt64) * (r29.toInt64)) ((r31.toInt64) * (r33.toInt64)) _) (cwV 2 hB (goodV wd_363 wd_364 wd_509 wd_3 wd_365) rfl rfl rfl (by decide +kernel) ⟨Nat.le_of_ble_eq_true rfl, Nat.le_of_ble_eq_true rfl⟩) ⟨pcG_blind, va_recv hK hP (ci := 2) (q0 := 0) rfl rfl, pcG_pre hP hK hD h⟩ rfl rfl hl.1 rfl (lv_room (Nat.le_of_ble_eq_true rfl)) d_M_ratio_122 ⟨Nat.le_of_ble_eq_true rfl, Nat.le_of_ble_eq_true rfl⟩) hS (fun q _ h => hF34 q h) hF34 (fun u t H locs ht hvm h hB hz1 hk1 hS => ?_)
              obtain ⟨up_35, down_36⟩ := u
              obtain ⟨hP1, hK1, hD1⟩ := hB
              rw [ht] at hP1
              have hP : va_P D vwCl (wM m0 m1 m2 m3 m4 m5 k1 k2 k3 k4 k5 0 funs made great up_35 down_36 size rows work xx power) H := hP1
              have hD : va_D A (wM m0 m1 m2 m3 m4 m5 k1 k2 k3 k4 k5 0 funs made great up_35 down_36 size rows work xx power) := hD1.weaken (fun _ _ _ hq => hF34 _ hq)
              refine lv_iload_n hx hb d_M_ratio_125 rfl (lv_at hl 3 rfl) ?_
              refine lv_if_ne (tgt := 136) hx hb d_M_ratio_126 (by decide) (fun hc37 => ?_) (fun hc37 => ?_)
              · replace h := h.1 hc37
                refine lv_aload_n hx hb d_M_ratio_136 rfl (lv_at hl 0 rfl) ?_
                refine va_get (D := D) (ci := 2) (v := .long down_36) (C := R_M) (T := F_M) (N := 11) hx hb hB inF_M hown hK hP 0 rfl rfl 10 (by decide) (hB _ wd_348) (fun _ h9 => h9) rfl d_M_ratio_137 ?_
                exact W.lret (v := down_36) hx hb hr (fun t ht hW => ⟨⟨down_36, (0, up_35, down_36), rfl, h, by rw [ht]; exact hP, va_K.moved hW.alike hK, hD⟩, hS.F ht⟩) hS.2.2 d_M_ratio_140
              · replace h := h.2 hc37
                refine lv_aload_n hx hb d_M_ratio_129 rfl (lv_at hl 0 rfl) ?_
                refine va_get (D := D) (ci := 2) (v := .long up_35) (C := R_M) (T := F_M) (N := 11) hx hb hB inF_M hown hK hP 0 rfl rfl 9 (by decide) (hB _ wd_347) (fun _ h9 => h9) rfl d_M_ratio_130 ?_
                refine lv_goto (tgt := 140) hx hb d_M_ratio_133 (by decide) ?_
                exact W.lret (v := up_35) hx hb hr (fun t ht hW => ⟨⟨up_35, (0, up_35, down_36), rfl, h, by rw [ht]; exact hP, va_K.moved hW.alike hK, hD⟩, hS.F ht⟩) hS.2.2 d_M_ratio_140
          · replace h := h.2 hc22
            refine lv_aload_n hx hb d_M_ratio_50 rfl (lv_at hl 0 rfl) ?_
            refine lv_iconst (v := 2) hx hb d_M_ratio_51 (by decide) ?_
            have hF38 := va_free (wc := (wM m0 m1 m2 m3 m4 m5 k1 k2 k3 k4 k5 code funs made great up down size rows work xx power)) hD hS hA [0, 1, 2, 3, 4, 5] rfl
            refine va_calli (va_runV (As := [.int 2]) (rest := []) ⟨hx, hb, hml, hown, hB⟩ (c_M_raise l D m0 m1 m2 m3 m4 m5 k1 k2 k3 k4 k5 H.size code funs made great up down size rows work xx power 2 _) (cwV 1 hB (goodV wd_357 wd_358 wd_507 wd_3 wd_359) rfl rfl rfl (by decide +kernel) ⟨Nat.le_of_ble_eq_true rfl, Nat.le_of_ble_eq_true rfl⟩) ⟨pcG_blind, va_recv hK hP (ci := 2) (q0 := 0) rfl rfl, pcG_pre hP hK hD h⟩ rfl rfl hl.1 rfl (lv_room (Nat.le_of_ble_eq_true rfl)) d_M_ratio_52 ⟨Nat.le_of_ble_eq_true rfl, Nat.le_of_ble_eq_true rfl⟩) hS (fun q _ h => hF38 q h) hF38 (fun r39 code_40 t H locs ht hvm h hB hz1 hk1 hS => ?_)
            obtain ⟨hP1, hK1, hD1⟩ := hB
            rw [ht] at hP1
            have hP : va_P D vwCl (wM m0 m1 m2 m3 m4 m5 k1 k2 k3 k4 k5 code_40 funs made great up down size rows work xx power) H := hP1
            have hD : va_D A (wM m0 m1 m2 m3 m4 m5 k1 k2 k3 k4 k5 code_40 funs made great up down size rows work xx power) := hD1.weaken (fun _ _ _ hq => hF38 _ hq)
            refine lv_i2l hx hb d_M_ratio_55 rfl ?_
            exact W.lret (v := r39.toInt64) hx hb hr (fun t ht hW => ⟨⟨r39.toInt64, (code_40, up, down), rfl, h, by rw [ht]; exact hP, va_K.moved hW.alike hK, hD⟩, hS.F ht⟩) hS.2.2 d_M_ratio_56
    · replace h := h.2 hc9
      refine lv_aload_n hx hb d_M_ratio_16 rfl (lv_at hl 0 rfl) ?_
      refine lv_iconst (v := 1) hx hb d_M_ratio_17 (by decide) ?_
      have hF41 := va_free (wc := (wM m0 m1 m2 m3 m4 m5 k1 k2 k3 k4 k5 code funs made great up down size rows work xx power)) hD hS hA [0, 1, 2, 3, 4, 5] rfl
      refine va_calli (va_runV (As := [.int 1]) (rest := []) ⟨hx, hb, hml, hown, hB⟩ (c_M_raise l D m0 m1 m2 m3 m4 m5 k1 k2 k3 k4 k5 H.size code funs made great up down size rows work xx power 1 _) (cwV 1 hB (goodV wd_357 wd_358 wd_507 wd_3 wd_359) rfl rfl rfl (by decide +kernel) ⟨Nat.le_of_ble_eq_true rfl, Nat.le_of_ble_eq_true rfl⟩) ⟨pcG_blind, va_recv hK hP (ci := 2) (q0 := 0) rfl rfl, pcG_pre hP hK hD h⟩ rfl rfl hl.1 rfl (lv_room (Nat.le_of_ble_eq_true rfl)) d_M_ratio_18 ⟨Nat.le_of_ble_eq_true rfl, Nat.le_of_ble_eq_true rfl⟩) hS (fun q _ h => hF41 q h) hF41 (fun r42 code_43 t H locs ht hvm h hB hz1 hk1 hS => ?_)
      obtain ⟨hP1, hK1, hD1⟩ := hB
      rw [ht] at hP1
      have hP : va_P D vwCl (wM m0 m1 m2 m3 m4 m5 k1 k2 k3 k4 k5 code_43 funs made great up down size rows work xx power) H := hP1
      have hD : va_D A (wM m0 m1 m2 m3 m4 m5 k1 k2 k3 k4 k5 code_43 funs made great up down size rows work xx power) := hD1.weaken (fun _ _ _ hq => hF41 _ hq)
      refine lv_i2l hx hb d_M_ratio_21 rfl ?_
      exact W.lret (v := r42.toInt64) hx hb hr (fun t ht hW => ⟨⟨r42.toInt64, (code_43, up, down), rfl, h, by rw [ht]; exact hP, va_K.moved hW.alike hK, hD⟩, hS.F ht⟩) hS.2.2 d_M_ratio_22
set_option maxHeartbeats 4000000 in
set_option maxRecDepth 100000 in
theorem c_M_same (l : Launch) (D : va_G) (m0 m1 m2 m3 m4 m5 : Nat) (k1 k2 k3 k4 k5 : ClassId) (sz : Nat) (code : Int32) (funs : Int32) (made : Int32) (great : Int32) (up : Int64) (down : Int64) (size : (Nat → Int32)) (rows : (Nat → Int32)) (work : (Nat → Int32)) (xx : (Nat → Int32)) (power : (Nat → Int32)) (p0 : Int32) (p1 : Int32) (post : Int32 → Int32 → Prop) : Met l y_M_same (Cond.code y_M_same b_M_same 4 (some .boolean) :: BIG) ({ frames := 2, cells := 0, slots := 0, locals := 46 }) (va_Pc [.ref m0, .int p0, .int p1] (pcG D vwCl (wM m0 m1 m2 m3 m4 m5 k1 k2 k3 k4 k5 code funs made great up down size rows work xx power) [(k1, .int), (k2, .int), (k3, .int), (k4, .int), (k5, .int)] sz (wp_M_same code funs size rows p0 p1 post))) (va_Qi (fun (r : Int32) (u : Int32) => post r u) (fun u => atG D vwCl [(k1, .int), (k2, .int), (k3, .int), (k4, .int), (k5, .int)] (va_A (wM m0 m1 m2 m3 m4 m5 k1 k2 k3 k4 k5 code funs made great up down size rows work xx power) sz) (wM m0 m1 m2 m3 m4 m5 k1 k2 k3 k4 k5 u funs made great up down size rows work xx power)) (va_A (wM m0 m1 m2 m3 m4 m5 k1 k2 k3 k4 k5 code funs made great up down size rows work xx power) sz)) 0 0 (va_A (wM m0 m1 m2 m3 m4 m5 k1 k2 k3 k4 k5 code funs made great up down size rows work xx power) sz) := by
  refine Met.ofW (cc := b_M_same) (maxL := 4) (ret := (some .boolean)) (by decide) rfl ?_
  intro p e s m args below meth c s₁ B hml hv
  obtain ⟨rfl, hsz, hP, hK, hD0, h⟩ := hv
  have hx := B.exec
  have hb := B.bytes
  have hr := B.returns
  have hB : ∀ w ∈ BIG, w.before _ s = true := fun w h => atoms_spec (ws := (Cond.code y_M_same b_M_same 4 (some .boolean) :: BIG)) B.pre w (List.mem_cons_of_mem _ h)
  have hown : s.vm.findClass R_M = some m.cls := findClass_of_methodNamed B.named
  have hlocks := B.notSynchronized
  subst hsz
  have hD := hD0.self (sz := s.heap.size)
  generalize hAe : va_A (wM m0 m1 m2 m3 m4 m5 k1 k2 k3 k4 k5 code funs made great up down size rows work xx power) s.heap.size = A at hD ⊢
  have hA : ∀ q : Nat, s.heap.size ≤ q → A q := fun q h => by rw [← hAe]; exact Or.inr h
  have hl := lv_entry ([.ref m0, .int p0, .int p1]) (n := 4) (Nat.le_of_ble_eq_true rfl)
  rw [lg_entry_eq]
  generalize (lg_sl ([.ref m0, .int p0, .int p1]) ++ List.replicate (4 - (lg_sl ([.ref m0, .int p0, .int p1])).length) Slot.unset).toArray = ls at hl ⊢
  have hl : lv_has ls 4 [(0, .ref m0), (1, .int p0), (2, .int p1)] := hl
  refine W.cap (fun G Gi Ge => ?_)
  suffices hL : ∀ (H : Heap) (locs : List Loc), va_P D vwCl (wM m0 m1 m2 m3 m4 m5 k1 k2 k3 k4 k5 code funs made great up down size rows work xx power) H → va_S A s.heap H locs → G H locs (F0 m 0 ls []) from hL _ _ hP va_S.rf
  clear hP
  intro H locs hP hS
  refine Gi _ _ _ ?_
  unfold wp_M_same at h
  refine lv_aload_n hx hb d_M_same_0 rfl (lv_at hl 0 rfl) ?_
  refine lv_aload_n hx hb d_M_same_1 rfl (lv_at hl 0 rfl) ?_
  refine lv_iload_n hx hb d_M_same_2 rfl (lv_at hl 1 rfl) ?_
  have hF1 := va_free (wc := (wM m0 m1 m2 m3 m4 m5 k1 k2 k3 k4 k5 code funs made great up down size rows work xx power)) hD hS hA [0, 1, 2, 3, 4, 5] rfl
  refine va_calli (va_runV (As := [.int p0]) (rest := [.ref m0]) ⟨hx, hb, hml, hown, hB⟩ (c_M_isFunction l D m0 m1 m2 m3 m4 m5 k1 k2 k3 k4 k5 H.size code funs made great up down size rows work xx power p0 _) (cwV 1 hB (goodV wd_402 wd_403 wd_515 wd_3 wd_404) rfl rfl rfl (by decide +kernel) ⟨Nat.le_of_ble_eq_true rfl, Nat.le_of_ble_eq_true rfl⟩) ⟨pcG_blind, va_recv hK hP (ci := 2) (q0 := 0) rfl rfl, pcG_pre hP hK hD h⟩ rfl rfl hl.1 rfl (lv_room (Nat.le_of_ble_eq_true rfl)) d_M_same_3 ⟨Nat.le_of_ble_eq_true rfl, Nat.le_of_ble_eq_true rfl⟩) hS (fun q _ h => hF1 q h) hF1 (fun r2 u t H locs ht hvm h hB hz1 hk1 hS => ?_)
  obtain ⟨hP1, hK1, hD1⟩ := hB
  rw [ht] at hP1
  have hP : va_P D vwCl (wM m0 m1 m2 m3 m4 m5 k1 k2 k3 k4 k5 code funs made great up down size rows work xx power) H := hP1
  have hD : va_D A (wM m0 m1 m2 m3 m4 m5 k1 k2 k3 k4 k5 code funs made great up down size rows work xx power) := hD1.weaken (fun _ _ _ hq => hF1 _ hq)
  refine lv_if_eq (tgt := 21) hx hb d_M_same_6 (by decide) (fun hc3 => ?_) (fun hc3 => ?_)
  · replace h := h.1 hc3
    refine lv_iconst (v := 1) hx hb d_M_same_21 (by decide) ?_
    refine va_put (D := D) (ci := 2) (v := .int 1) (ty := .int) (C := R_M) (T := F_M) (N := 11) hx hb hB inF_M t_M t_M_ok n_M hown hK hP hD hS 0 rfl rfl 0 (by decide) (hB _ wd_338) (fun _ h9 => h9) rfl (by decide +kernel) rfl rfl (Nat.le_of_ble_eq_true rfl) d_M_same_22 (fun H locs hP hD hS => ?_)
    have hP : va_P D vwCl (wM m0 m1 m2 m3 m4 m5 k1 k2 k3 k4 k5 1 funs made great up down size rows work xx power) H := hP
    have hD : va_D A (wM m0 m1 m2 m3 m4 m5 k1 k2 k3 k4 k5 1 funs made great up down size rows work xx power) := hD
    refine lv_aload_n hx hb d_M_same_25 rfl (lv_at hl 0 rfl) ?_
    refine va_get (D := D) (ci := 2) (v := .int 1) (C := R_M) (T := F_M) (N := 11) hx hb hB inF_M hown hK hP 0 rfl rfl 0 (by decide) (hB _ wd_338) (fun _ h9 => h9) rfl d_M_same_26 ?_
    refine lv_if_gt (tgt := 47) hx hb d_M_same_29 (by decide) (fun _ => ?_) (fun c => absurd c (by decide))
    refine lv_iconst (v := 0) hx hb d_M_same_47 (by decide) ?_
    exact W.zret (v := 0) hx hb hr (by first | rfl | decide) (fun t ht hW => ⟨⟨0, 1, rfl, h, by rw [ht]; exact hP, va_K.moved hW.alike hK, hD⟩, hS.F ht⟩) hS.2.2 d_M_same_48
  · replace h := h.2 hc3
    refine lv_aload_n hx hb d_M_same_9 rfl (lv_at hl 0 rfl) ?_
    refine lv_iload_n hx hb d_M_same_10 rfl (lv_at hl 2 rfl) ?_
    have hF4 := va_free (wc := (wM m0 m1 m2 m3 m4 m5 k1 k2 k3 k4 k5 code funs made great up down size rows work xx power)) hD hS hA [0, 1, 2, 3, 4, 5] rfl
    refine va_calli (va_runV (As := [.int p1]) (rest := [.ref m0]) ⟨hx, hb, hml, hown, hB⟩ (c_M_isFunction l D m0 m1 m2 m3 m4 m5 k1 k2 k3 k4 k5 H.size code funs made great up down size rows work xx power p1 _) (cwV 1 hB (goodV wd_402 wd_403 wd_515 wd_3 wd_404) rfl rfl rfl (by decide +kernel) ⟨Nat.le_of_ble_eq_true rfl, Nat.le_of_ble_eq_true rfl⟩) ⟨pcG_blind, va_recv hK hP (ci := 2) (q0 := 0) rfl rfl, pcG_pre hP hK hD h⟩ rfl rfl hl.1 rfl (lv_room (Nat.le_of_ble_eq_true rfl)) d_M_same_11 ⟨Nat.le_of_ble_eq_true rfl, Nat.le_of_ble_eq_true rfl⟩) hS (fun q _ h => hF4 q h) hF4 (fun r5 u t H locs ht hvm h hB hz1 hk1 hS => ?_)
    obtain ⟨hP1, hK1, hD1⟩ := hB
    rw [ht] at hP1
    have hP : va_P D vwCl (wM m0 m1 m2 m3 m4 m5 k1 k2 k3 k4 k5 code funs made great up down size rows work xx power) H := hP1
    have hD : va_D A (wM m0 m1 m2 m3 m4 m5 k1 k2 k3 k4 k5 code funs made great up down size rows work xx power) := hD1.weaken (fun _ _ _ hq => hF4 _ hq)
    refine lv_if_eq (tgt := 21) hx hb d_M_same_14 (by decide) (fun hc6 => ?_) (fun hc6 => ?_)
    · replace h := h.1 hc6
      refine lv_iconst (v := 1) hx hb d_M_same_21 (by decide) ?_
      refine va_put (D := D) (ci := 2) (v := .int 1) (ty := .int) (C := R_M) (T := F_M) (N := 11) hx hb hB inF_M t_M t_M_ok n_M hown hK hP hD hS 0 rfl rfl 0 (by decide) (hB _ wd_338) (fun _ h9 => h9) rfl (by decide +kernel) rfl rfl (Nat.le_of_ble_eq_true rfl) d_M_same_22 (fun H locs hP hD hS => ?_)
      have hP : va_P D vwCl (wM m0 m1 m2 m3 m4 m5 k1 k2 k3 k4 k5 1 funs made great up down size rows work xx power) H := hP
      have hD : va_D A (wM m0 m1 m2 m3 m4 m5 k1 k2 k3 k4 k5 1 funs made great up down size rows work xx power) := hD
      refine lv_aload_n hx hb d_M_same_25 rfl (lv_at hl 0 rfl) ?_
      refine va_get (D := D) (ci := 2) (v := .int 1) (C := R_M) (T := F_M) (N := 11) hx hb hB inF_M hown hK hP 0 rfl rfl 0 (by decide) (hB _ wd_338) (fun _ h9 => h9) rfl d_M_same_26 ?_
      refine lv_if_gt (tgt := 47) hx hb d_M_same_29 (by decide) (fun _ => ?_) (fun c => absurd c (by decide))
      refine lv_iconst (v := 0) hx hb d_M_same_47 (by decide) ?_
      exact W.zret (v := 0) hx hb hr (by first | rfl | decide) (fun t ht hW => ⟨⟨0, 1, rfl, h, by rw [ht]; exact hP, va_K.moved hW.alike hK, hD⟩, hS.F ht⟩) hS.2.2 d_M_same_48
    · replace h := h.2 hc6
      refine lv_iconst (v := 0) hx hb d_M_same_17 (by decide) ?_
      refine lv_goto (tgt := 22) hx hb d_M_same_18 (by decide) ?_
      refine va_put (D := D) (ci := 2) (v := .int 0) (ty := .int) (C := R_M) (T := F_M) (N := 11) hx hb hB inF_M t_M t_M_ok n_M hown hK hP hD hS 0 rfl rfl 0 (by decide) (hB _ wd_338) (fun _ h9 => h9) rfl (by decide +kernel) rfl rfl (Nat.le_of_ble_eq_true rfl) d_M_same_22 (fun H locs hP hD hS => ?_)
      have hP : va_P D vwCl (wM m0 m1 m2 m3 m4 m5 k1 k2 k3 k4 k5 0 funs made great up down size rows work xx power) H := hP
      have hD : va_D A (wM m0 m1 m2 m3 m4 m5 k1 k2 k3 k4 k5 0 funs made great up down size rows work xx power) := hD
      refine lv_aload_n hx hb d_M_same_25 rfl (lv_at hl 0 rfl) ?_
      refine va_get (D := D) (ci := 2) (v := .int 0) (C := R_M) (T := F_M) (N := 11) hx hb hB inF_M hown hK hP 0 rfl rfl 0 (by decide) (hB _ wd_338) (fun _ h9 => h9) rfl d_M_same_26 ?_
      refine lv_if_gt (tgt := 47) hx hb d_M_same_29 (by decide) (fun c => absurd c (by decide)) (fun _ => ?_)
      refine lv_aload_n hx hb d_M_same_32 rfl (lv_at hl 0 rfl) ?_
      refine va_get (D := D) (ci := 2) (v := .ref m1) (C := R_M) (T := F_M) (N := 11) hx hb hB inF_M hown hK hP 0 rfl rfl 2 (by decide) (hB _ wd_340) (fun _ h9 => h9) rfl d_M_same_33 ?_
      refine lv_iload_n hx hb d_M_same_36 rfl (lv_at hl 1 rfl) ?_
      obtain ⟨g7, h⟩ := h
      refine va_iald hx hb hK hP 1 0 rfl rfl g7 d_M_same_37 ?_
      refine lv_aload_n hx hb d_M_same_38 rfl (lv_at hl 0 rfl) ?_
      refine va_get (D := D) (ci := 2) (v := .ref m1) (C := R_M) (T := F_M) (N := 11) hx hb hB inF_M hown hK hP 0 rfl rfl 2 (by decide) (hB _ wd_340) (fun _ h9 => h9) rfl d_M_same_39 ?_
      refine lv_iload_n hx hb d_M_same_42 rfl (lv_at hl 2 rfl) ?_
      obtain ⟨g8, h⟩ := h
      refine va_iald hx hb hK hP 1 0 rfl rfl g8 d_M_same_43 ?_
      refine lv_icmp_eq (tgt := 49) hx hb d_M_same_44 (by decide) (fun hc9 => ?_) (fun hc9 => ?_)
      · replace h := h.1 hc9
        refine lv_iconst (v := 0) hx hb d_M_same_49 (by decide) ?_
        refine lv_istore_n (lv' := [(3, .int 0), (0, .ref m0), (1, .int p0), (2, .int p1)]) hx hb d_M_same_50 rfl hl (by decide) rfl (fun ls hl => ?_)
        obtain ⟨n51, h⟩ := h
        refine W.cap (fun G51 Gi51 Ge51 => ?_)
        suffices hL51 : ∀ (n51 : Nat) (v3_10 : Int32) (H : Heap) (locs : List Loc) (ls : Array Slot), va_P D vwCl (wM m0 m1 m2 m3 m4 m5 k1 k2 k3 k4 k5 0 funs made great up down size rows work xx power) H → va_D A (wM m0 m1 m2 m3 m4 m5 k1 k2 k3 k4 k5 0 funs made great up down size rows work xx power) → va_S A s.heap H locs → lv_has ls 4 [(3, .int v3_10), (0, .ref m0), (1, .int p0), (2, .int p1)] → lpW1 (wb_M_same_51 p0 size post p1 rows) n51 v3_10 → G51 H locs (F0 m 51 ls []) from hL51 n51 (0 : Int32) _ _ _ hP hD hS hl h
        clear h hP hD hS hl
        intro n51
        induction n51 with
        | zero => intro v3_10 H locs ls hP hD hS hl h; exact (show False from h).elim
        | succ n51 ihL51 =>
          intro v3_10 H locs ls hP hD hS hl h
          replace h : (wb_M_same_51 p0 size post p1 rows) (lpW1 (wb_M_same_51 p0 size post p1 rows) n51) v3_10 := h
          refine Gi51 _ _ _ ?_
          refine lv_iload_n hx hb d_M_same_51 rfl (lv_at hl 0 rfl) ?_
          refine lv_bipush (v := 7) hx hb d_M_same_52 (by decide) ?_
          refine lv_aload_n hx hb d_M_same_54 rfl (lv_at hl 1 rfl) ?_
          refine va_get (D := D) (ci := 2) (v := .ref m1) (C := R_M) (T := F_M) (N := 11) hx hb hB inF_M hown hK hP 0 rfl rfl 2 (by decide) (hB _ wd_340) (fun _ h9 => h9) rfl d_M_same_55 ?_
          refine lv_iload_n hx hb d_M_same_58 rfl (lv_at hl 2 rfl) ?_
          obtain ⟨g11, h⟩ := h
          refine va_iald hx hb hK hP 1 0 rfl rfl g11 d_M_same_59 ?_
          refine lv_imul hx hb d_M_same_60 ?_
          refine lv_icmp_ge (tgt := 97) hx hb d_M_same_61 (by decide) (fun hc12 => ?_) (fun hc12 => ?_)
          · replace h := h.1 hc12
            refine lv_iconst (v := 1) hx hb d_M_same_97 (by decide) ?_
            exact W.zret (v := 1) hx hb hr (by first | rfl | decide) (fun t ht hW => ⟨⟨1, 0, rfl, h, by rw [ht]; exact hP, va_K.moved hW.alike hK, hD⟩, hS.F ht⟩) hS.2.2 d_M_same_98
          · replace h := h.2 hc12
            refine lv_aload_n hx hb d_M_same_64 rfl (lv_at hl 1 rfl) ?_
            refine va_get (D := D) (ci := 2) (v := .ref m2) (C := R_M) (T := F_M) (N := 11) hx hb hB inF_M hown hK hP 0 rfl rfl 3 (by decide) (hB _ wd_341) (fun _ h9 => h9) rfl d_M_same_65 ?_
            refine lv_bipush (v := 70) hx hb d_M_same_68 (by decide) ?_
            refine lv_iload_n hx hb d_M_same_70 rfl (lv_at hl 2 rfl) ?_
            refine lv_imul hx hb d_M_same_71 ?_
            refine lv_iload_n hx hb d_M_same_72 rfl (lv_at hl 0 rfl) ?_
            refine lv_iadd hx hb d_M_same_73 ?_
            obtain ⟨g13, h⟩ := h
            refine va_iald hx hb hK hP 2 1 rfl rfl g13 d_M_same_74 ?_
            refine lv_aload_n hx hb d_M_same_75 rfl (lv_at hl 1 rfl) ?_
            refine va_get (D := D) (ci := 2) (v := .ref m2) (C := R_M) (T := F_M) (N := 11) hx hb hB inF_M hown hK hP 0 rfl rfl 3 (by decide) (hB _ wd_341) (fun _ h9 => h9) rfl d_M_same_76 ?_
            refine lv_bipush (v := 70) hx hb d_M_same_79 (by decide) ?_
            refine lv_iload_n hx hb d_M_same_81 rfl (lv_at hl 3 rfl) ?_
            refine lv_imul hx hb d_M_same_82 ?_
            refine lv_iload_n hx hb d_M_same_83 rfl (lv_at hl 0 rfl) ?_
            refine lv_iadd hx hb d_M_same_84 ?_
            obtain ⟨g14, h⟩ := h
            refine va_iald hx hb hK hP 2 1 rfl rfl g14 d_M_same_85 ?_
            refine lv_icmp_eq (tgt := 91) hx hb d_M_same_86 (by decide) (fun hc15 => ?_) (fun hc15 => ?_)
            · replace h := h.1 hc15
              obtain ⟨x16, ex16⟩ : ∃ z : Int32, z = v3_10 + 1 := ⟨_, rfl⟩
              replace h := h x16 ex16
              refine lv_iinc (v := x16) (lv' := [(3, .int x16), (0, .ref m0), (1, .int p0), (2, .int p1)]) hx hb d_M_same_91 hl (k := 0) rfl (by rw [ex16]; rfl) (by decide) rfl (fun ls hl => ?_)
              refine lv_goto (tgt := 51) hx hb d_M_same_94 (by decide) ?_
              exact Ge51 _ _ _ (ihL51 x16 _ _ _ hP hD hS (lv_sub hl [0, 1, 2, 3] rfl) h)
            · replace h := h.2 hc15
              refine lv_iconst (v := 0) hx hb d_M_same_89 (by decide) ?_
              exact W.zret (v := 0) hx hb hr (by first | rfl | decide) (fun t ht hW => ⟨⟨0, 0, rfl, h, by rw [ht]; exact hP, va_K.moved hW.alike hK, hD⟩, hS.F ht⟩) hS.2.2 d_M_same_90
      · replace h := h.2 hc9
        refine lv_iconst (v := 0) hx hb d_M_same_47 (by decide) ?_
        exact W.zret (v := 0) hx hb hr (by first | rfl | decide) (fun t ht hW => ⟨⟨0, 0, rfl, h, by rw [ht]; exact hP, va_K.moved hW.alike hK, hD⟩, hS.F ht⟩) hS.2.2 d_M_same_48
set_option maxHeartbeats 4000000 in
set_option maxRecDepth 100000 in
theorem c_M_fastest (l : Launch) (D : va_G) (m0 m1 m2 m3 m4 m5 : Nat) (k1 k2 k3 k4 k5 : ClassId) (sz : Nat) (code : Int32) (funs : Int32) (made : Int32) (great : Int32) (up : Int64) (down : Int64) (size : (Nat → Int32)) (rows : (Nat → Int32)) (work : (Nat → Int32)) (xx : (Nat → Int32)) (power : (Nat → Int32)) (p0 : Int32) (post : Int32 → Int32 → Prop) : Met l y_M_fastest (Cond.code y_M_fastest b_M_fastest 4 (some .int) :: BIG) ({ frames := 2, cells := 0, slots := 0, locals := 46 }) (va_Pc [.ref m0, .int p0] (pcG D vwCl (wM m0 m1 m2 m3 m4 m5 k1 k2 k3 k4 k5 code funs made great up down size rows work xx power) [(k1, .int), (k2, .int), (k3, .int), (k4, .int), (k5, .int)] sz (wp_M_fastest code funs size rows p0 post))) (va_Qi (fun (r : Int32) (u : Int32) => post r u) (fun u => atG D vwCl [(k1, .int), (k2, .int), (k3, .int), (k4, .int), (k5, .int)] (va_A (wM m0 m1 m2 m3 m4 m5 k1 k2 k3 k4 k5 code funs made great up down size rows work xx power) sz) (wM m0 m1 m2 m3 m4 m5 k1 k2 k3 k4 k5 u funs made great up down size rows work xx power)) (va_A (wM m0 m1 m2 m3 m4 m5 k1 k2 k3 k4 k5 code funs made great up down size rows work xx power) sz)) 0 0 (va_A (wM m0 m1 m2 m3 m4 m5 k1 k2 k3 k4 k5 code funs made great up down size rows work xx power) sz) := by
  refine Met.ofW (cc := b_M_fastest) (maxL := 4) (ret := (some .int)) (by decide) rfl ?_
  intro p e s m args below meth c s₁ B hml hv
  obtain ⟨rfl, hsz, hP, hK, hD0, h⟩ := hv
  have hx := B.exec
  have hb := B.bytes
  have hr := B.returns
  have hB : ∀ w ∈ BIG, w.before _ s = true := fun w h => atoms_spec (ws := (Cond.code y_M_fastest b_M_fastest 4 (some .int) :: BIG)) B.pre w (List.mem_cons_of_mem _ h)
  have hown : s.vm.findClass R_M = some m.cls := findClass_of_methodNamed B.named
  have hlocks := B.notSynchronized
  subst hsz
  have hD := hD0.self (sz := s.heap.size)
  generalize hAe : va_A (wM m0 m1 m2 m3 m4 m5 k1 k2 k3 k4 k5 code funs made great up down size rows work xx power) s.heap.size = A at hD ⊢
  have hA : ∀ q : Nat, s.heap.size ≤ q → A q := fun q h => by rw [← hAe]; exact Or.inr h
  have hl := lv_entry ([.ref m0, .int p0]) (n := 4) (Nat.le_of_ble_eq_true rfl)
  rw [lg_entry_eq]
  generalize (lg_sl ([.ref m0, .int p0]) ++ List.replicate (4 - (lg_sl ([.ref m0, .int p0])).length) Slot.unset).toArray = ls at hl ⊢
  have hl : lv_has ls 4 [(0, .ref m0), (1, .int p0)] := hl
  refine W.cap (fun G Gi Ge => ?_)
  suffices hL : ∀ (H : Heap) (locs : List Loc), va_P D vwCl (wM m0 m1 m2 m3 m4 m5 k1 k2 k3 k4 k5 code funs made great up down size rows work xx power) H → va_S A s.heap H locs → G H locs (F0 m 0 ls []) from hL _ _ hP va_S.rf
  clear hP
  intro H locs hP hS
  refine Gi _ _ _ ?_
  unfold wp_M_fastest at h
  refine lv_aload_n hx hb d_M_fastest_0 rfl (lv_at hl 0 rfl) ?_
  refine lv_iconst (v := 0) hx hb d_M_fastest_1 (by decide) ?_
  refine va_put (D := D) (ci := 2) (v := .int 0) (ty := .int) (C := R_M) (T := F_M) (N := 11) hx hb hB inF_M t_M t_M_ok n_M hown hK hP hD hS 0 rfl rfl 0 (by decide) (hB _ wd_338) (fun _ h9 => h9) rfl (by decide +kernel) rfl rfl (Nat.le_of_ble_eq_true rfl) d_M_fastest_2 (fun H locs hP hD hS => ?_)
  have hP : va_P D vwCl (wM m0 m1 m2 m3 m4 m5 k1 k2 k3 k4 k5 0 funs made great up down size rows work xx power) H := hP
  have hD : va_D A (wM m0 m1 m2 m3 m4 m5 k1 k2 k3 k4 k5 0 funs made great up down size rows work xx power) := hD
  refine lv_iconst (v := 0) hx hb d_M_fastest_5 (by decide) ?_
  refine lv_istore_n (lv' := [(2, .int 0), (0, .ref m0), (1, .int p0)]) hx hb d_M_fastest_6 rfl hl (by decide) rfl (fun ls hl => ?_)
  obtain ⟨n7, h⟩ := h
  refine W.cap (fun G7 Gi7 Ge7 => ?_)
  suffices hL7 : ∀ (n7 : Nat) (v2_1 : Int32) (code_2 : Int32) (H : Heap) (locs : List Loc) (ls : Array Slot), va_P D vwCl (wM m0 m1 m2 m3 m4 m5 k1 k2 k3 k4 k5 code_2 funs made great up down size rows work xx power) H → va_D A (wM m0 m1 m2 m3 m4 m5 k1 k2 k3 k4 k5 code_2 funs made great up down size rows work xx power) → va_S A s.heap H locs → lv_has ls 4 [(2, .int v2_1), (0, .ref m0), (1, .int p0)] → lpW2 (wb_M_fastest_7 post p0 size rows funs) n7 v2_1 code_2 → G7 H locs (F0 m 7 ls []) from hL7 n7 (0 : Int32) 0 _ _ _ hP hD hS hl h
  clear h hP hD hS hl
  intro n7
  induction n7 with
  | zero => intro v2_1 code_2 H locs ls hP hD hS hl h; exact (show False from h).elim
  | succ n7 ihL7 =>
    intro v2_1 code_2 H locs ls hP hD hS hl h
    replace h : (wb_M_fastest_7 post p0 size rows funs) (lpW2 (wb_M_fastest_7 post p0 size rows funs) n7) v2_1 code_2 := h
    refine Gi7 _ _ _ ?_
    refine lv_iload_n hx hb d_M_fastest_7 rfl (lv_at hl 0 rfl) ?_
    refine lv_bipush (v := 32) hx hb d_M_fastest_8 (by decide) ?_
    refine lv_icmp_ge (tgt := 41) hx hb d_M_fastest_10 (by decide) (fun hc3 => ?_) (fun hc3 => ?_)
    · replace h := h.1 hc3
      refine lv_aload_n hx hb d_M_fastest_41 rfl (lv_at hl 1 rfl) ?_
      refine va_get (D := D) (ci := 2) (v := .int code_2) (C := R_M) (T := F_M) (N := 11) hx hb hB inF_M hown hK hP 0 rfl rfl 0 (by decide) (hB _ wd_338) (fun _ h9 => h9) rfl d_M_fastest_42 ?_
      refine lv_if_le (tgt := 50) hx hb d_M_fastest_45 (by decide) (fun hc4 => ?_) (fun hc4 => ?_)
      · replace h := h.1 hc4
        refine lv_iconst (v := (-1)) hx hb d_M_fastest_50 (by decide) ?_
        refine lv_istore_n (lv' := [(2, .int (-1)), (0, .ref m0), (1, .int p0)]) hx hb d_M_fastest_51 rfl hl (by decide) rfl (fun ls hl => ?_)
        refine lv_iconst (v := 0) hx hb d_M_fastest_52 (by decide) ?_
        refine lv_istore_n (lv' := [(3, .int 0), (2, .int (-1)), (0, .ref m0), (1, .int p0)]) hx hb d_M_fastest_53 rfl hl (by decide) rfl (fun ls hl => ?_)
        obtain ⟨n54, h⟩ := h
        refine W.cap (fun G54 Gi54 Ge54 => ?_)
        suffices hL54 : ∀ (n54 : Nat) (v2_5 : Int32) (v3_6 : Int32) (H : Heap) (locs : List Loc) (ls : Array Slot), va_P D vwCl (wM m0 m1 m2 m3 m4 m5 k1 k2 k3 k4 k5 code_2 funs made great up down size rows work xx power) H → va_D A (wM m0 m1 m2 m3 m4 m5 k1 k2 k3 k4 k5 code_2 funs made great up down size rows work xx power) → va_S A s.heap H locs → lv_has ls 4 [(3, .int v3_6), (2, .int v2_5), (0, .ref m0), (1, .int p0)] → lpW2 (wb_M_fastest_54 post code_2 p0 size rows) n54 v2_5 v3_6 → G54 H locs (F0 m 54 ls []) from hL54 n54 ((-1) : Int32) (0 : Int32) _ _ _ hP hD hS hl h
        clear h hP hD hS hl
        intro n54
        induction n54 with
        | zero => intro v2_5 v3_6 H locs ls hP hD hS hl h; exact (show False from h).elim
        | succ n54 ihL54 =>
          intro v2_5 v3_6 H locs ls hP hD hS hl h
          replace h : (wb_M_fastest_54 post code_2 p0 size rows) (lpW2 (wb_M_fastest_54 post code_2 p0 size rows) n54) v2_5 v3_6 := h
          refine Gi54 _ _ _ ?_
          refine lv_iload_n hx hb d_M_fastest_54 rfl (lv_at hl 0 rfl) ?_
          refine lv_bipush (v := 32) hx hb d_M_fastest_55 (by decide) ?_
          refine lv_icmp_ge (tgt := 93) hx hb d_M_fastest_57 (by decide) (fun hc7 => ?_) (fun hc7 => ?_)
          · replace h := h.1 hc7
            refine lv_iload_n hx hb d_M_fastest_93 rfl (lv_at hl 1 rfl) ?_
            exact W.iret (v := v2_5) hx hb hr (fun t ht hW => ⟨⟨v2_5, code_2, rfl, h, by rw [ht]; exact hP, va_K.moved hW.alike hK, hD⟩, hS.F ht⟩) hS.2.2 d_M_fastest_94
          · replace h := h.2 hc7
            refine lv_iload_n hx hb d_M_fastest_60 rfl (lv_at hl 3 rfl) ?_
            refine lv_iload_n hx hb d_M_fastest_61 rfl (lv_at hl 0 rfl) ?_
            refine lv_ishr hx hb d_M_fastest_62 ?_
            refine lv_iconst (v := 1) hx hb d_M_fastest_63 (by decide) ?_
            refine lv_iand hx hb d_M_fastest_64 ?_
            refine lv_if_ne (tgt := 71) hx hb d_M_fastest_65 (by decide) (fun hc8 => ?_) (fun hc8 => ?_)
            · replace h := h.1 hc8
              refine lv_iload_n hx hb d_M_fastest_71 rfl (lv_at hl 1 rfl) ?_
              refine lv_iconst (v := (-1)) hx hb d_M_fastest_72 (by decide) ?_
              refine lv_icmp_eq (tgt := 85) hx hb d_M_fastest_73 (by decide) (fun hc9 => ?_) (fun hc9 => ?_)
              · replace h := h.1 hc9
                refine lv_iload_n hx hb d_M_fastest_85 rfl (lv_at hl 0 rfl) ?_
                refine lv_istore_n (lv' := [(2, .int v3_6), (3, .int v3_6), (0, .ref m0), (1, .int p0)]) hx hb d_M_fastest_86 rfl hl (by decide) rfl (fun ls hl => ?_)
                obtain ⟨x10, ex10⟩ : ∃ z : Int32, z = v3_6 + 1 := ⟨_, rfl⟩
                replace h := h x10 ex10
                refine lv_iinc (v := x10) (lv' := [(3, .int x10), (2, .int v3_6), (0, .ref m0), (1, .int p0)]) hx hb d_M_fastest_87 hl (k := 1) rfl (by rw [ex10]; rfl) (by decide) rfl (fun ls hl => ?_)
                refine lv_goto (tgt := 54) hx hb d_M_fastest_90 (by decide) ?_
                exact Ge54 _ _ _ (ihL54 v3_6 x10 _ _ _ hP hD hS (lv_sub hl [0, 1, 2, 3] rfl) h)
              · replace h := h.2 hc9
                refine lv_aload_n hx hb d_M_fastest_76 rfl (lv_at hl 2 rfl) ?_
                refine lv_iload_n hx hb d_M_fastest_77 rfl (lv_at hl 0 rfl) ?_
                refine lv_iload_n hx hb d_M_fastest_78 rfl (lv_at hl 1 rfl) ?_
                have hF11 := va_free (wc := (wM m0 m1 m2 m3 m4 m5 k1 k2 k3 k4 k5 code_2 funs made great up down size rows work xx power)) hD hS hA [0, 1, 2, 3, 4, 5] rfl
                refine va_calli (va_runV (As := [.int v3_6, .int v2_5]) (rest := []) ⟨hx, hb, hml, hown, hB⟩ (c_M_compared l D m0 m1 m2 m3 m4 m5 k1 k2 k3 k4 k5 H.size code_2 funs made great up down size rows work xx power v3_6 v2_5 _) (cwV 2 hB (goodV wd_469 wd_470 wd_522 wd_3 wd_471) rfl rfl rfl (by decide +kernel) ⟨Nat.le_of_ble_eq_true rfl, Nat.le_of_ble_eq_true rfl⟩) ⟨pcG_blind, va_recv hK hP (ci := 2) (q0 := 0) rfl rfl, pcG_pre hP hK hD h⟩ rfl rfl hl.1 rfl (lv_room (Nat.le_of_ble_eq_true rfl)) d_M_fastest_79 ⟨Nat.le_of_ble_eq_true rfl, Nat.le_of_ble_eq_true rfl⟩) hS (fun q _ h => hF11 q h) hF11 (fun r12 u t H locs ht hvm h hB hz1 hk1 hS => ?_)
                obtain ⟨hP1, hK1, hD1⟩ := hB
                rw [ht] at hP1
                have hP : va_P D vwCl (wM m0 m1 m2 m3 m4 m5 k1 k2 k3 k4 k5 code_2 funs made great up down size rows work xx power) H := hP1
                have hD : va_D A (wM m0 m1 m2 m3 m4 m5 k1 k2 k3 k4 k5 code_2 funs made great up down size rows work xx power) := hD1.weaken (fun _ _ _ hq => hF11 _ hq)
                refine lv_if_le (tgt := 87) hx hb d_M_fastest_82 (by decide) (fun hc13 => ?_) (fun hc13 => ?_)
                · replace h := h.1 hc13
                  obtain ⟨x14, ex14⟩ : ∃ z : Int32, z = v3_6 + 1 := ⟨_, rfl⟩
                  replace h := h x14 ex14
                  refine lv_iinc (v := x14) (lv' := [(3, .int x14), (2, .int v2_5), (0, .ref m0), (1, .int p0)]) hx hb d_M_fastest_87 hl (k := 0) rfl (by rw [ex14]; rfl) (by decide) rfl (fun ls hl => ?_)
                  refine lv_goto (tgt := 54) hx hb d_M_fastest_90 (by decide) ?_
                  exact Ge54 _ _ _ (ihL54 v2_5 x14 _ _ _ hP hD hS (lv_sub hl [0, 1, 2, 3] rfl) h)
                · replace h := h.2 hc13
                  refine lv_iload_n hx hb d_M_fastest_85 rfl (lv_at hl 0 rfl) ?_
                  refine lv_istore_n (lv' := [(2, .int v3_6), (3, .int v3_6), (0, .ref m0), (1, .int p0)]) hx hb d_M_fastest_86 rfl hl (by decide) rfl (fun ls hl => ?_)
                  obtain ⟨x15, ex15⟩ : ∃ z : Int32, z = v3_6 + 1 := ⟨_, rfl⟩
                  replace h := h x15 ex15
                  refine lv_iinc (v := x15) (lv' := [(3, .int x15), (2, .int v3_6), (0, .ref m0), (1, .int p0)]) hx hb d_M_fastest_87 hl (k := 1) rfl (by rw [ex15]; rfl) (by decide) rfl (fun ls hl => ?_)
                  refine lv_goto (tgt := 54) hx hb d_M_fastest_90 (by decide) ?_
                  exact Ge54 _ _ _ (ihL54 v3_6 x15 _ _ _ hP hD hS (lv_sub hl [0, 1, 2, 3] rfl) h)
            · replace h := h.2 hc8
              refine lv_goto (tgt := 87) hx hb d_M_fastest_68 (by decide) ?_
              obtain ⟨x16, ex16⟩ : ∃ z : Int32, z = v3_6 + 1 := ⟨_, rfl⟩
              replace h := h x16 ex16
              refine lv_iinc (v := x16) (lv' := [(3, .int x16), (2, .int v2_5), (0, .ref m0), (1, .int p0)]) hx hb d_M_fastest_87 hl (k := 0) rfl (by rw [ex16]; rfl) (by decide) rfl (fun ls hl => ?_)
              refine lv_goto (tgt := 54) hx hb d_M_fastest_90 (by decide) ?_
              exact Ge54 _ _ _ (ihL54 v2_5 x16 _ _ _ hP hD hS (lv_sub hl [0, 1, 2, 3] rfl) h)
      · replace h := h.2 hc4
        refine lv_iconst (v := 0) hx hb d_M_fastest_48 (by decide) ?_
        exact W.iret (v := 0) hx hb hr (fun t ht hW => ⟨⟨0, code_2, rfl, h, by rw [ht]; exact hP, va_K.moved hW.alike hK, hD⟩, hS.F ht⟩) hS.2.2 d_M_fastest_49
    · replace h := h.2 hc3
      refine lv_iload_n hx hb d_M_fastest_13 rfl (lv_at hl 2 rfl) ?_
      refine lv_iload_n hx hb d_M_fastest_14 rfl (lv_at hl 0 rfl) ?_
      refine lv_ishr hx hb d_M_fastest_15 ?_
      refine lv_iconst (v := 1) hx hb d_M_fastest_16 (by decide) ?_
      refine lv_iand hx hb d_M_fastest_17 ?_
      refine lv_iconst (v := 1) hx hb d_M_fastest_18 (by decide) ?_
      refine lv_icmp_ne (tgt := 35) hx hb d_M_fastest_19 (by decide) (fun hc17 => ?_) (fun hc17 => ?_)
      · replace h := h.1 hc17
        obtain ⟨x18, ex18⟩ : ∃ z : Int32, z = v2_1 + 1 := ⟨_, rfl⟩
        replace h := h x18 ex18
        refine lv_iinc (v := x18) (lv' := [(2, .int x18), (0, .ref m0), (1, .int p0)]) hx hb d_M_fastest_35 hl (k := 0) rfl (by rw [ex18]; rfl) (by decide) rfl (fun ls hl => ?_)
        refine lv_goto (tgt := 7) hx hb d_M_fastest_38 (by decide) ?_
        exact Ge7 _ _ _ (ihL7 x18 code_2 _ _ _ hP hD hS (lv_sub hl [0, 1, 2] rfl) h)
      · replace h := h.2 hc17
        refine lv_iload_n hx hb d_M_fastest_22 rfl (lv_at hl 0 rfl) ?_
        refine lv_aload_n hx hb d_M_fastest_23 rfl (lv_at hl 1 rfl) ?_
        refine va_get (D := D) (ci := 2) (v := .int funs) (C := R_M) (T := F_M) (N := 11) hx hb hB inF_M hown hK hP 0 rfl rfl 1 (by decide) (hB _ wd_339) (fun _ h9 => h9) rfl d_M_fastest_24 ?_
        refine lv_icmp_lt (tgt := 35) hx hb d_M_fastest_27 (by decide) (fun hc19 => ?_) (fun hc19 => ?_)
        · replace h := h.1 hc19
          obtain ⟨x20, ex20⟩ : ∃ z : Int32, z = v2_1 + 1 := ⟨_, rfl⟩
          replace h := h x20 ex20
          refine lv_iinc (v := x20) (lv' := [(2, .int x20), (0, .ref m0), (1, .int p0)]) hx hb d_M_fastest_35 hl (k := 0) rfl (by rw [ex20]; rfl) (by decide) rfl (fun ls hl => ?_)
          refine lv_goto (tgt := 7) hx hb d_M_fastest_38 (by decide) ?_
          exact Ge7 _ _ _ (ihL7 x20 code_2 _ _ _ hP hD hS (lv_sub hl [0, 1, 2] rfl) h)
        · replace h := h.2 hc19
          refine lv_aload_n hx hb d_M_fastest_30 rfl (lv_at hl 1 rfl) ?_
          refine lv_iconst (v := 1) hx hb d_M_fastest_31 (by decide) ?_
          refine va_put (D := D) (ci := 2) (v := .int 1) (ty := .int) (C := R_M) (T := F_M) (N := 11) hx hb hB inF_M t_M t_M_ok n_M hown hK hP hD hS 0 rfl rfl 0 (by decide) (hB _ wd_338) (fun _ h9 => h9) rfl (by decide +kernel) rfl rfl (Nat.le_of_ble_eq_true rfl) d_M_fastest_32 (fun H locs hP hD hS => ?_)
          have hP : va_P D vwCl (wM m0 m1 m2 m3 m4 m5 k1 k2 k3 k4 k5 1 funs made great up down size rows work xx power) H := hP
          have hD : va_D A (wM m0 m1 m2 m3 m4 m5 k1 k2 k3 k4 k5 1 funs made great up down size rows work xx power) := hD
          obtain ⟨x21, ex21⟩ : ∃ z : Int32, z = v2_1 + 1 := ⟨_, rfl⟩
          replace h := h x21 ex21
          refine lv_iinc (v := x21) (lv' := [(2, .int x21), (0, .ref m0), (1, .int p0)]) hx hb d_M_fastest_35 hl (k := 0) rfl (by rw [ex21]; rfl) (by decide) rfl (fun ls hl => ?_)
          refine lv_goto (tgt := 7) hx hb d_M_fastest_38 (by decide) ?_
          exact Ge7 _ _ _ (ihL7 x21 1 _ _ _ hP hD hS (lv_sub hl [0, 1, 2] rfl) h)
set_option maxHeartbeats 4000000 in
set_option maxRecDepth 100000 in
theorem c_M_count (l : Launch) (D : va_G) (m0 m1 m2 m3 m4 m5 : Nat) (k1 k2 k3 k4 k5 : ClassId) (sz : Nat) (code : Int32) (funs : Int32) (made : Int32) (great : Int32) (up : Int64) (down : Int64) (size : (Nat → Int32)) (rows : (Nat → Int32)) (work : (Nat → Int32)) (xx : (Nat → Int32)) (power : (Nat → Int32)) (post : Int32 → Int32 → Prop) : Met l y_M_count (Cond.code y_M_count b_M_count 1 (some .int) :: BIG) ({ frames := 0, cells := 0, slots := 0, locals := 0 }) (va_Pc [.ref m0] (pcG D vwCl (wM m0 m1 m2 m3 m4 m5 k1 k2 k3 k4 k5 code funs made great up down size rows work xx power) [(k1, .int), (k2, .int), (k3, .int), (k4, .int), (k5, .int)] sz (wp_M_count code funs post))) (va_Qi (fun (r : Int32) (u : Int32) => post r u) (fun u => atG D vwCl [(k1, .int), (k2, .int), (k3, .int), (k4, .int), (k5, .int)] (va_A (wM m0 m1 m2 m3 m4 m5 k1 k2 k3 k4 k5 code funs made great up down size rows work xx power) sz) (wM m0 m1 m2 m3 m4 m5 k1 k2 k3 k4 k5 u funs made great up down size rows work xx power)) (va_A (wM m0 m1 m2 m3 m4 m5 k1 k2 k3 k4 k5 code funs made great up down size rows work xx power) sz)) 0 0 (va_A (wM m0 m1 m2 m3 m4 m5 k1 k2 k3 k4 k5 code funs made great up down size rows work xx power) sz) := by
  refine Met.ofW (cc := b_M_count) (maxL := 1) (ret := (some .int)) (by decide) rfl ?_
  intro p e s m args below meth c s₁ B hml hv
  obtain ⟨rfl, hsz, hP, hK, hD0, h⟩ := hv
  have hx := B.exec
  have hb := B.bytes
  have hr := B.returns
  have hB : ∀ w ∈ BIG, w.before _ s = true := fun w h => atoms_spec (ws := (Cond.code y_M_count b_M_count 1 (some .int) :: BIG)) B.pre w (List.mem_cons_of_mem _ h)
  have hown : s.vm.findClass R_M = some m.cls := findClass_of_methodNamed B.named
  have hlocks := B.notSynchronized
  subst hsz
  have hD := hD0.self (sz := s.heap.size)
  generalize hAe : va_A (wM m0 m1 m2 m3 m4 m5 k1 k2 k3 k4 k5 code funs made great up down size rows work xx power) s.heap.size = A at hD ⊢
  have hA : ∀ q : Nat, s.heap.size ≤ q → A q := fun q h => by rw [← hAe]; exact Or.inr h
  have hl := lv_entry ([.ref m0]) (n := 1) (Nat.le_of_ble_eq_true rfl)
  rw [lg_entry_eq]
  generalize (lg_sl ([.ref m0]) ++ List.replicate (1 - (lg_sl ([.ref m0])).length) Slot.unset).toArray = ls at hl ⊢
  have hl : lv_has ls 1 [(0, .ref m0)] := hl
  refine W.cap (fun G Gi Ge => ?_)
  suffices hL : ∀ (H : Heap) (locs : List Loc), va_P D vwCl (wM m0 m1 m2 m3 m4 m5 k1 k2 k3 k4 k5 code funs made great up down size rows work xx power) H → va_S A s.heap H locs → G H locs (F0 m 0 ls []) from hL _ _ hP va_S.rf
  clear hP
  intro H locs hP hS
  refine Gi _ _ _ ?_
  unfold wp_M_count at h
  refine lv_aload_n hx hb d_M_count_0 rfl (lv_at hl 0 rfl) ?_
  refine lv_iconst (v := 0) hx hb d_M_count_1 (by decide) ?_
  refine va_put (D := D) (ci := 2) (v := .int 0) (ty := .int) (C := R_M) (T := F_M) (N := 11) hx hb hB inF_M t_M t_M_ok n_M hown hK hP hD hS 0 rfl rfl 0 (by decide) (hB _ wd_338) (fun _ h9 => h9) rfl (by decide +kernel) rfl rfl (Nat.le_of_ble_eq_true rfl) d_M_count_2 (fun H locs hP hD hS => ?_)
  have hP : va_P D vwCl (wM m0 m1 m2 m3 m4 m5 k1 k2 k3 k4 k5 0 funs made great up down size rows work xx power) H := hP
  have hD : va_D A (wM m0 m1 m2 m3 m4 m5 k1 k2 k3 k4 k5 0 funs made great up down size rows work xx power) := hD
  refine lv_aload_n hx hb d_M_count_5 rfl (lv_at hl 0 rfl) ?_
  refine va_get (D := D) (ci := 2) (v := .int funs) (C := R_M) (T := F_M) (N := 11) hx hb hB inF_M hown hK hP 0 rfl rfl 1 (by decide) (hB _ wd_339) (fun _ h9 => h9) rfl d_M_count_6 ?_
  exact W.iret (v := funs) hx hb hr (fun t ht hW => ⟨⟨funs, 0, rfl, h, by rw [ht]; exact hP, va_K.moved hW.alike hK, hD⟩, hS.F ht⟩) hS.2.2 d_M_count_9
