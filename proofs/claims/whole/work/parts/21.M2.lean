def wb_M_put_324 (post : Int32 → Int32 → Int64 → Int64 → (Nat → Int32) → Prop) (x12 : Int32) (great_2 : Int32) (up : Int64) (down : Int64) (v1_5 : Int32) (xx : (Nat → Int32)) : (Int32 → (Nat → Int32) → Prop) → Int32 → (Nat → Int32) → Prop :=
  fun ih_324 v2_13 work_14 =>
  (7 ≤ v2_13 → (post x12 great_2 up down work_14)) ∧ (¬ 7 ≤ v2_13 → (vp_in v2_13 7 ∧ (vp_in ((7 * v1_5) + v2_13) 840 ∧ (∀ work_18 : (Nat → Int32), work_18 = upd work_14 ((7 * v1_5) + v2_13).toNatClampNeg (xx v2_13.toNatClampNeg) → (∀ x19 : Int32, x19 = v2_13 + 1 → (ih_324 x19 work_18))))))
def wb_M_put_283 (v1_5 : Int32) (made : Int32) (post : Int32 → Int32 → Int64 → Int64 → (Nat → Int32) → Prop) (great_2 : Int32) (up : Int64) (down : Int64) (xx : (Nat → Int32)) : (Int32 → (Nat → Int32) → Prop) → Int32 → (Nat → Int32) → Prop :=
  fun ih_283 v2_9 work_10 =>
  (v2_9 < (7 * v1_5) → (∀ x12 : Int32, x12 = made + 1 → (∃ n : Nat, lpW2 (wb_M_put_324 post x12 great_2 up down v1_5 xx) n (0 : Int32) work_10))) ∧ (¬ v2_9 < (7 * v1_5) → (vp_in v2_9 840 ∧ (vp_in (v2_9 + 7) 840 ∧ (∀ work_22 : (Nat → Int32), work_22 = upd work_10 (v2_9 + 7).toNatClampNeg (work_10 v2_9.toNatClampNeg) → (∀ x23 : Int32, x23 = v2_9 + (-1) → (ih_283 x23 work_22))))))
def wj_M_put_273 (made : Int32) (v1_5 : Int32) (post : Int32 → Int32 → Int64 → Int64 → (Nat → Int32) → Prop) (great_2 : Int32) (up : Int64) (down : Int64) (xx : (Nat → Int32)) (work : (Nat → Int32)) : Prop :=
  ∀ x8 : Int32, x8 = (7 * made) - 1 → (∃ n : Nat, lpW2 (wb_M_put_283 v1_5 made post great_2 up down xx) n x8 work)
def wb_M_put_155 (x63 : Int32) (post : Int32 → Int32 → Int64 → Int64 → (Nat → Int32) → Prop) (great_2 : Int32) (up : Int64) (down : Int64) : (Int32 → (Nat → Int32) → Prop) → Int32 → (Nat → Int32) → Prop :=
  fun ih_155 v6_65 work_66 =>
  ((7 * x63) ≤ v6_65 → (post x63 great_2 up down work_66)) ∧ (¬ (7 * x63) ≤ v6_65 → (vp_in (v6_65 + 7) 840 ∧ (vp_in v6_65 840 ∧ (∀ work_70 : (Nat → Int32), work_70 = upd work_66 v6_65.toNatClampNeg (work_66 (v6_65 + 7).toNatClampNeg) → (∀ x71 : Int32, x71 = v6_65 + 1 → (ih_155 x71 work_70))))))
def wj_M_put_69 (made : Int32) (v1_5 : Int32) (post : Int32 → Int32 → Int64 → Int64 → (Nat → Int32) → Prop) (great_2 : Int32) (up : Int64) (down : Int64) (xx : (Nat → Int32)) (work : (Nat → Int32)) : Prop :=
  (made ≤ v1_5 → (wj_M_put_273 made v1_5 post great_2 up down xx work)) ∧ (¬ made ≤ v1_5 → (wp_M_order work xx v1_5 (fun r25 => (¬ r25 = 0 → (wj_M_put_273 made v1_5 post great_2 up down xx work)) ∧ (r25 = 0 → (vp_in ((7 * v1_5) + 5) 840 ∧ (∀ x44 : Int64, x44 = (work ((7 * v1_5) + 5).toNatClampNeg).toInt64 → (vp_in ((7 * v1_5) + 6) 840 ∧ (∀ x46 : Int64, x46 = (work ((7 * v1_5) + 6).toNatClampNeg).toInt64 → (vp_in 6 7 ∧ (vp_in 5 7 ∧ ((¬ (lg_cmp ((x44 * ((xx (6 : Int32).toNatClampNeg).toInt64)) + (((xx (5 : Int32).toNatClampNeg).toInt64) * x46)) 0) = 0 → (vp_in 6 7 ∧ (vp_in 5 7 ∧ (vp_in 6 7 ∧ (wp_M_lowest up down ((x44 * ((xx (6 : Int32).toNatClampNeg).toInt64)) + (((xx (5 : Int32).toNatClampNeg).toInt64) * x46)) (x46 * ((xx (6 : Int32).toNatClampNeg).toInt64)) (fun up_54 down_55 => wp_M_bound great_2 up_54 down_55 (fun great_57 => (great_57 = 0 → (vp_in ((7 * v1_5) + 5) 840 ∧ (∀ work_60 : (Nat → Int32), work_60 = upd work ((7 * v1_5) + 5).toNatClampNeg (up_54.toInt32) → (vp_in ((7 * v1_5) + 6) 840 ∧ (∀ work_62 : (Nat → Int32), work_62 = upd work_60 ((7 * v1_5) + 6).toNatClampNeg (down_55.toInt32) → (post made great_57 up_54 down_55 work_62)))))) ∧ (¬ great_57 = 0 → (post made great_57 up_54 down_55 work))))))))) ∧ ((lg_cmp ((x44 * ((xx (6 : Int32).toNatClampNeg).toInt64)) + (((xx (5 : Int32).toNatClampNeg).toInt64) * x46)) 0) = 0 → (∀ x63 : Int32, x63 = made - 1 → (∀ x64 : Int32, x64 = 7 * v1_5 → (∃ n : Nat, lpW2 (wb_M_put_155 x63 post great_2 up down) n x64 work)))))))))))))))
def wb_M_put_47 (made : Int32) (post : Int32 → Int32 → Int64 → Int64 → (Nat → Int32) → Prop) (great_2 : Int32) (up : Int64) (down : Int64) (xx : (Nat → Int32)) (work : (Nat → Int32)) : (Int32 → Prop) → Int32 → Prop :=
  fun ih_47 v1_5 =>
  (made ≤ v1_5 → (wj_M_put_69 made v1_5 post great_2 up down xx work)) ∧ (¬ made ≤ v1_5 → (wp_M_order work xx v1_5 (fun r73 => (r73 ≤ 0 → (wj_M_put_69 made v1_5 post great_2 up down xx work)) ∧ (¬ r73 ≤ 0 → (∀ x140 : Int32, x140 = v1_5 + 1 → (ih_47 x140))))))
def wb_M_put_2 (made : Int32) (post : Int32 → Int32 → Int64 → Int64 → (Nat → Int32) → Prop) (up : Int64) (down : Int64) (xx : (Nat → Int32)) (work : (Nat → Int32)) : (Int32 → Int32 → Prop) → Int32 → Int32 → Prop :=
  fun ih_2 v1_1 great_2 =>
  (5 ≤ v1_1 → ((great_2 = 0 → (∃ n : Nat, lpW1 (wb_M_put_47 made post great_2 up down xx work) n (0 : Int32))) ∧ (¬ great_2 = 0 → (post made great_2 up down work)))) ∧ (¬ 5 ≤ v1_1 → (vp_in v1_1 7 ∧ (wp_M_in ((xx v1_1.toNatClampNeg).toInt64) (-99) 99 (fun r143 => (¬ r143 = 0 → (∀ x145 : Int32, x145 = v1_1 + 1 → (ih_2 x145 great_2))) ∧ (r143 = 0 → (∀ x146 : Int32, x146 = v1_1 + 1 → (ih_2 x146 1)))))))
def wp_M_put (made : Int32) (great : Int32) (up : Int64) (down : Int64) (work : (Nat → Int32)) (xx : (Nat → Int32)) (post : Int32 → Int32 → Int64 → Int64 → (Nat → Int32) → Prop) : Prop :=
  ∃ n : Nat, lpW2 (wb_M_put_2 made post up down xx work) n (0 : Int32) great
def wb_M_load_2 (post : (Nat → Int32) → Prop) (rows : (Nat → Int32)) (p0 : Int32) (p1 : Int32) : (Int32 → (Nat → Int32) → Prop) → Int32 → (Nat → Int32) → Prop :=
  fun ih_2 v3_1 xx_2 =>
  (7 ≤ v3_1 → (post xx_2)) ∧ (¬ 7 ≤ v3_1 → (wp_M_at rows p0 p1 v3_1 (fun r5 => vp_in v3_1 7 ∧ (∀ xx_7 : (Nat → Int32), xx_7 = upd xx_2 v3_1.toNatClampNeg r5 → (∀ x8 : Int32, x8 = v3_1 + 1 → (ih_2 x8 xx_7))))))
def wp_M_load (rows : (Nat → Int32)) (xx : (Nat → Int32)) (p0 : Int32) (p1 : Int32) (post : (Nat → Int32) → Prop) : Prop :=
  ∃ n : Nat, lpW2 (wb_M_load_2 post rows p0 p1) n (0 : Int32) xx
def wj_M_scale_110 (xx_20 : (Nat → Int32)) (down_15 : Int64) (post : Int32 → Int64 → Int64 → (Nat → Int32) → Prop) (great_17 : Int32) (up_14 : Int64) : Prop :=
  vp_in 6 7 ∧ (∀ xx_23 : (Nat → Int32), xx_23 = upd xx_20 (6 : Int32).toNatClampNeg (down_15.toInt32) → (post great_17 up_14 down_15 xx_23))
def wj_M_scale_110_2 (xx_20 : (Nat → Int32)) (post : Int32 → Int64 → Int64 → (Nat → Int32) → Prop) (great_17 : Int32) (up_14 : Int64) (down_15 : Int64) : Prop :=
  vp_in 6 7 ∧ (∀ xx_25 : (Nat → Int32), xx_25 = upd xx_20 (6 : Int32).toNatClampNeg 1 → (post great_17 up_14 down_15 xx_25))
def wj_M_scale_87 (xx : (Nat → Int32)) (up_14 : Int64) (great_17 : Int32) (down_15 : Int64) (post : Int32 → Int64 → Int64 → (Nat → Int32) → Prop) : Prop :=
  vp_in 5 7 ∧ (∀ xx_20 : (Nat → Int32), xx_20 = upd xx (5 : Int32).toNatClampNeg (up_14.toInt32) → ((great_17 = 0 → (wj_M_scale_110 xx_20 down_15 post great_17 up_14)) ∧ (¬ great_17 = 0 → (wj_M_scale_110_2 xx_20 post great_17 up_14 down_15))))
def wj_M_scale_87_2 (xx : (Nat → Int32)) (great_17 : Int32) (down_15 : Int64) (post : Int32 → Int64 → Int64 → (Nat → Int32) → Prop) (up_14 : Int64) : Prop :=
  vp_in 5 7 ∧ (∀ xx_27 : (Nat → Int32), xx_27 = upd xx (5 : Int32).toNatClampNeg 1 → ((great_17 = 0 → (wj_M_scale_110 xx_27 down_15 post great_17 up_14)) ∧ (¬ great_17 = 0 → (wj_M_scale_110_2 xx_27 post great_17 up_14 down_15))))
def wp_M_scale (great : Int32) (up : Int64) (down : Int64) (xx : (Nat → Int32)) (p0 : Int64) (p1 : Int64) (post : Int32 → Int64 → Int64 → (Nat → Int32) → Prop) : Prop :=
  vp_in 5 7 ∧ (wp_M_divisor ((xx (5 : Int32).toNatClampNeg).toInt64) p1 (fun r3 => vp_in 6 7 ∧ (wp_M_divisor p0 ((xx (6 : Int32).toNatClampNeg).toInt64) (fun r6 => vp_in 5 7 ∧ ((¬ r3 = 0) ∧ ((¬ r6 = 0) ∧ (vp_in 6 7 ∧ ((¬ r6 = 0) ∧ ((¬ r3 = 0) ∧ (wp_M_lowest up down ((((xx (5 : Int32).toNatClampNeg).toInt64) / r3) * (p0 / r6)) ((((xx (6 : Int32).toNatClampNeg).toInt64) / r6) * (p1 / r3)) (fun up_14 down_15 => wp_M_bound great up_14 down_15 (fun great_17 => (great_17 = 0 → (wj_M_scale_87 xx up_14 great_17 down_15 post)) ∧ (¬ great_17 = 0 → (wj_M_scale_87_2 xx great_17 down_15 post up_14))))))))))))))
def wj_M_keep_16 (code : Int32) (post : Int32 → Int32 → Int32 → (Nat → Int32) → (Nat → Int32) → Prop) (funs : Int32) (size : (Nat → Int32)) (rows : (Nat → Int32)) : Prop :=
  wp_M_raise code 2 (fun r3 code_4 => post r3 code_4 funs size rows)
def wb_M_keep_42 (made : Int32) (funs : Int32) (post : Int32 → Int32 → Int32 → (Nat → Int32) → (Nat → Int32) → Prop) (size_7 : (Nat → Int32)) (work : (Nat → Int32)) : (Int32 → (Nat → Int32) → Prop) → Int32 → (Nat → Int32) → Prop :=
  fun ih_42 v1_8 rows_9 =>
  ((7 * made) ≤ v1_8 → (∀ x11 : Int32, x11 = funs + 1 → (post (x11 - 1) 0 x11 size_7 rows_9))) ∧ (¬ (7 * made) ≤ v1_8 → (vp_in v1_8 840 ∧ (vp_in ((70 * funs) + v1_8) 5600 ∧ (∀ rows_14 : (Nat → Int32), rows_14 = upd rows_9 ((70 * funs) + v1_8).toNatClampNeg (work v1_8.toNatClampNeg) → (∀ x15 : Int32, x15 = v1_8 + 1 → (ih_42 x15 rows_14))))))
def wp_M_keep (code : Int32) (funs : Int32) (made : Int32) (great : Int32) (size : (Nat → Int32)) (rows : (Nat → Int32)) (work : (Nat → Int32)) (post : Int32 → Int32 → Int32 → (Nat → Int32) → (Nat → Int32) → Prop) : Prop :=
  (¬ great = 0 → (wj_M_keep_16 code post funs size rows)) ∧ (great = 0 → ((made ≤ 10 → (vp_in funs 80 ∧ (∀ size_7 : (Nat → Int32), size_7 = upd size funs.toNatClampNeg made → (∃ n : Nat, lpW2 (wb_M_keep_42 made funs post size_7 work) n (0 : Int32) rows)))) ∧ (¬ made ≤ 10 → (wj_M_keep_16 code post funs size rows))))
def wp_M_may (code : Int32) (funs : Int32) (p0 : Int32) (p1 : Int32) (post : Int32 → Int32 → Prop) : Prop :=
  wp_M_isFunction funs p0 (fun r2 => (r2 = 0 → (post 0 1)) ∧ (¬ r2 = 0 → (wp_M_isFunction funs p1 (fun r5 => (¬ r5 = 0 → ((¬ funs = 80 → (post 1 0)) ∧ (funs = 80 → (post 0 2)))) ∧ (r5 = 0 → (post 0 1))))))
set_option maxHeartbeats 4000000 in
set_option maxRecDepth 100000 in
theorem c_M_put (l : Launch) (D : va_G) (m0 m1 m2 m3 m4 m5 : Nat) (k1 k2 k3 k4 k5 : ClassId) (sz : Nat) (code : Int32) (funs : Int32) (made : Int32) (great : Int32) (up : Int64) (down : Int64) (size : (Nat → Int32)) (rows : (Nat → Int32)) (work : (Nat → Int32)) (xx : (Nat → Int32)) (power : (Nat → Int32)) (post : Int32 → Int32 → Int64 → Int64 → (Nat → Int32) → Prop) : Met l y_M_put (Cond.code y_M_put b_M_put 7 none :: BIG) ({ frames := 3, cells := 0, slots := 0, locals := 76 }) (va_Pc [.ref m0] (pcG D vwCl (wM m0 m1 m2 m3 m4 m5 k1 k2 k3 k4 k5 code funs made great up down size rows work xx power) [(k1, .int), (k2, .int), (k3, .int), (k4, .int), (k5, .int)] sz (wp_M_put made great up down work xx post))) (va_Qv (fun (u : Int32 × Int32 × Int64 × Int64 × (Nat → Int32)) => post (u.1) (u.2.1) (u.2.2.1) (u.2.2.2.1) (u.2.2.2.2)) (fun u => atG D vwCl [(k1, .int), (k2, .int), (k3, .int), (k4, .int), (k5, .int)] (va_A (wM m0 m1 m2 m3 m4 m5 k1 k2 k3 k4 k5 code funs made great up down size rows work xx power) sz) (wM m0 m1 m2 m3 m4 m5 k1 k2 k3 k4 k5 code funs (u.1) (u.2.1) (u.2.2.1) (u.2.2.2.1) size rows (u.2.2.2.2) xx power)) (va_A (wM m0 m1 m2 m3 m4 m5 k1 k2 k3 k4 k5 code funs made great up down size rows work xx power) sz)) 0 0 (va_A (wM m0 m1 m2 m3 m4 m5 k1 k2 k3 k4 k5 code funs made great up down size rows work xx power) sz) := by
  refine Met.ofW (cc := b_M_put) (maxL := 7) (ret := none) (by decide) rfl ?_
  intro p e s m args below meth c s₁ B hml hv
  obtain ⟨rfl, hsz, hP, hK, hD0, h⟩ := hv
  have hx := B.exec
  have hb := B.bytes
  have hr := B.returns
  have hB : ∀ w ∈ BIG, w.before _ s = true := fun w h => atoms_spec (ws := (Cond.code y_M_put b_M_put 7 none :: BIG)) B.pre w (List.mem_cons_of_mem _ h)
  have hown : s.vm.findClass R_M = some m.cls := findClass_of_methodNamed B.named
  have hlocks := B.notSynchronized
  subst hsz
  have hD := hD0.self (sz := s.heap.size)
  generalize hAe : va_A (wM m0 m1 m2 m3 m4 m5 k1 k2 k3 k4 k5 code funs made great up down size rows work xx power) s.heap.size = A at hD ⊢
  have hA : ∀ q : Nat, s.heap.size ≤ q → A q := fun q h => by rw [← hAe]; exact Or.inr h
  have hl := lv_entry ([.ref m0]) (n := 7) (Nat.le_of_ble_eq_true rfl)
  rw [lg_entry_eq]
  generalize (lg_sl ([.ref m0]) ++ List.replicate (7 - (lg_sl ([.ref m0])).length) Slot.unset).toArray = ls at hl ⊢
  have hl : lv_has ls 7 [(0, .ref m0)] := hl
  refine W.cap (fun G Gi Ge => ?_)
  suffices hL : ∀ (H : Heap) (locs : List Loc), va_P D vwCl (wM m0 m1 m2 m3 m4 m5 k1 k2 k3 k4 k5 code funs made great up down size rows work xx power) H → va_S A s.heap H locs → G H locs (F0 m 0 ls []) from hL _ _ hP va_S.rf
  clear hP
  intro H locs hP hS
  refine Gi _ _ _ ?_
  unfold wp_M_put at h
  refine lv_iconst (v := 0) hx hb d_M_put_0 (by decide) ?_
  refine lv_istore_n (lv' := [(1, .int 0), (0, .ref m0)]) hx hb d_M_put_1 rfl hl (by decide) rfl (fun ls hl => ?_)
  obtain ⟨n2, h⟩ := h
  refine W.cap (fun G2 Gi2 Ge2 => ?_)
  suffices hL2 : ∀ (n2 : Nat) (v1_1 : Int32) (great_2 : Int32) (H : Heap) (locs : List Loc) (ls : Array Slot), va_P D vwCl (wM m0 m1 m2 m3 m4 m5 k1 k2 k3 k4 k5 code funs made great_2 up down size rows work xx power) H → va_D A (wM m0 m1 m2 m3 m4 m5 k1 k2 k3 k4 k5 code funs made great_2 up down size rows work xx power) → va_S A s.heap H locs → lv_has ls 7 [(1, .int v1_1), (0, .ref m0)] → lpW2 (wb_M_put_2 made post up down xx work) n2 v1_1 great_2 → G2 H locs (F0 m 2 ls []) from hL2 n2 (0 : Int32) great _ _ _ hP hD hS hl h
  clear h hP hD hS hl
  intro n2
  induction n2 with
  | zero => intro v1_1 great_2 H locs ls hP hD hS hl h; exact (show False from h).elim
  | succ n2 ihL2 =>
    intro v1_1 great_2 H locs ls hP hD hS hl h
    replace h : (wb_M_put_2 made post up down xx work) (lpW2 (wb_M_put_2 made post up down xx work) n2) v1_1 great_2 := h
    refine Gi2 _ _ _ ?_
    refine lv_iload_n hx hb d_M_put_2 rfl (lv_at hl 0 rfl) ?_
    refine lv_iconst (v := 5) hx hb d_M_put_3 (by decide) ?_
    refine lv_icmp_ge (tgt := 37) hx hb d_M_put_4 (by decide) (fun hc3 => ?_) (fun hc3 => ?_)
    · replace h := h.1 hc3
      refine lv_aload_n hx hb d_M_put_37 rfl (lv_at hl 1 rfl) ?_
      refine va_get (D := D) (ci := 2) (v := .int great_2) (C := R_M) (T := F_M) (N := 11) hx hb hB inF_M hown hK hP 0 rfl rfl 6 (by decide) (hB _ wd_344) (fun _ h9 => h9) rfl d_M_put_38 ?_
      refine lv_if_eq (tgt := 45) hx hb d_M_put_41 (by decide) (fun hc4 => ?_) (fun hc4 => ?_)
      · replace h := h.1 hc4
        refine lv_iconst (v := 0) hx hb d_M_put_45 (by decide) ?_
        refine lv_istore_n (lv' := [(1, .int 0), (0, .ref m0)]) hx hb d_M_put_46 rfl hl (by decide) rfl (fun ls hl => ?_)
        obtain ⟨n47, h⟩ := h
        refine W.cap (fun G47 Gi47 Ge47 => ?_)
        suffices hL47 : ∀ (n47 : Nat) (v1_5 : Int32) (H : Heap) (locs : List Loc) (ls : Array Slot), va_P D vwCl (wM m0 m1 m2 m3 m4 m5 k1 k2 k3 k4 k5 code funs made great_2 up down size rows work xx power) H → va_D A (wM m0 m1 m2 m3 m4 m5 k1 k2 k3 k4 k5 code funs made great_2 up down size rows work xx power) → va_S A s.heap H locs → lv_has ls 7 [(1, .int v1_5), (0, .ref m0)] → lpW1 (wb_M_put_47 made post great_2 up down xx work) n47 v1_5 → G47 H locs (F0 m 47 ls []) from hL47 n47 (0 : Int32) _ _ _ hP hD hS hl h
        clear h hP hD hS hl
        intro n47
        induction n47 with
        | zero => intro v1_5 H locs ls hP hD hS hl h; exact (show False from h).elim
        | succ n47 ihL47 =>
          intro v1_5 H locs ls hP hD hS hl h
          replace h : (wb_M_put_47 made post great_2 up down xx work) (lpW1 (wb_M_put_47 made post great_2 up down xx work) n47) v1_5 := h
          refine Gi47 _ _ _ ?_
          refine lv_iload_n hx hb d_M_put_47 rfl (lv_at hl 0 rfl) ?_
          refine lv_aload_n hx hb d_M_put_48 rfl (lv_at hl 1 rfl) ?_
          refine va_get (D := D) (ci := 2) (v := .int made) (C := R_M) (T := F_M) (N := 11) hx hb hB inF_M hown hK hP 0 rfl rfl 4 (by decide) (hB _ wd_342) (fun _ h9 => h9) rfl d_M_put_49 ?_
          refine lv_icmp_ge (tgt := 69) hx hb d_M_put_52 (by decide) (fun hc6 => ?_) (fun hc6 => ?_)
          · replace h := h.1 hc6
            refine lv_iload_n hx hb d_M_put_69 rfl (lv_at hl 0 rfl) ?_
            refine lv_aload_n hx hb d_M_put_70 rfl (lv_at hl 1 rfl) ?_
            refine va_get (D := D) (ci := 2) (v := .int made) (C := R_M) (T := F_M) (N := 11) hx hb hB inF_M hown hK hP 0 rfl rfl 4 (by decide) (hB _ wd_342) (fun _ h9 => h9) rfl d_M_put_71 ?_
            refine lv_icmp_ge (tgt := 273) hx hb d_M_put_74 (by decide) (fun hc7 => ?_) (fun hc7 => ?_)
            · replace h := h.1 hc7
              refine lv_bipush (v := 7) hx hb d_M_put_273 (by decide) ?_
              refine lv_aload_n hx hb d_M_put_275 rfl (lv_at hl 1 rfl) ?_
              refine va_get (D := D) (ci := 2) (v := .int made) (C := R_M) (T := F_M) (N := 11) hx hb hB inF_M hown hK hP 0 rfl rfl 4 (by decide) (hB _ wd_342) (fun _ h9 => h9) rfl d_M_put_276 ?_
              refine lv_imul hx hb d_M_put_279 ?_
              refine lv_iconst (v := 1) hx hb d_M_put_280 (by decide) ?_
              refine lv_isub hx hb d_M_put_281 ?_
              refine lv_topi (fun x8 ex8 => ?_)
              replace h := h x8 ex8
              refine lv_istore_n (lv' := [(2, .int x8), (1, .int v1_5), (0, .ref m0)]) hx hb d_M_put_282 rfl hl (by decide) rfl (fun ls hl => ?_)
              obtain ⟨n283, h⟩ := h
              refine W.cap (fun G283 Gi283 Ge283 => ?_)
              suffices hL283 : ∀ (n283 : Nat) (v2_9 : Int32) (work_10 : (Nat → Int32)) (H : Heap) (locs : List Loc) (ls : Array Slot), va_P D vwCl (wM m0 m1 m2 m3 m4 m5 k1 k2 k3 k4 k5 code funs made great_2 up down size rows work_10 xx power) H → va_D A (wM m0 m1 m2 m3 m4 m5 k1 k2 k3 k4 k5 code funs made great_2 up down size rows work_10 xx power) → va_S A s.heap H locs → lv_has ls 7 [(2, .int v2_9), (1, .int v1_5), (0, .ref m0)] → lpW2 (wb_M_put_283 v1_5 made post great_2 up down xx) n283 v2_9 work_10 → G283 H locs (F0 m 283 ls []) from hL283 n283 x8 work _ _ _ hP hD hS hl h
              clear h hP hD hS hl
              intro n283
              induction n283 with
              | zero => intro v2_9 work_10 H locs ls hP hD hS hl h; exact (show False from h).elim
              | succ n283 ihL283 =>
                intro v2_9 work_10 H locs ls hP hD hS hl h
                replace h : (wb_M_put_283 v1_5 made post great_2 up down xx) (lpW2 (wb_M_put_283 v1_5 made post great_2 up down xx) n283) v2_9 work_10 := h
                refine Gi283 _ _ _ ?_
                refine lv_iload_n hx hb d_M_put_283 rfl (lv_at hl 0 rfl) ?_
                refine lv_bipush (v := 7) hx hb d_M_put_284 (by decide) ?_
                refine lv_iload_n hx hb d_M_put_286 rfl (lv_at hl 1 rfl) ?_
                refine lv_imul hx hb d_M_put_287 ?_
                refine lv_icmp_lt (tgt := 312) hx hb d_M_put_288 (by decide) (fun hc11 => ?_) (fun hc11 => ?_)
                · replace h := h.1 hc11
                  refine lv_aload_n hx hb d_M_put_312 rfl (lv_at hl 2 rfl) ?_
                  refine lv_dup hx hb d_M_put_313 rfl ?_
                  refine va_get (D := D) (ci := 2) (v := .int made) (C := R_M) (T := F_M) (N := 11) hx hb hB inF_M hown hK hP 0 rfl rfl 4 (by decide) (hB _ wd_342) (fun _ h9 => h9) rfl d_M_put_314 ?_
                  refine lv_iconst (v := 1) hx hb d_M_put_317 (by decide) ?_
                  refine lv_iadd hx hb d_M_put_318 ?_
                  refine lv_topi (fun x12 ex12 => ?_)
                  replace h := h x12 ex12
                  refine va_put (D := D) (ci := 2) (v := .int x12) (ty := .int) (C := R_M) (T := F_M) (N := 11) hx hb hB inF_M t_M t_M_ok n_M hown hK hP hD hS 0 rfl rfl 4 (by decide) (hB _ wd_342) (fun _ h9 => h9) rfl (by decide +kernel) rfl rfl (Nat.le_of_ble_eq_true rfl) d_M_put_319 (fun H locs hP hD hS => ?_)
                  have hP : va_P D vwCl (wM m0 m1 m2 m3 m4 m5 k1 k2 k3 k4 k5 code funs x12 great_2 up down size rows work_10 xx power) H := hP
                  have hD : va_D A (wM m0 m1 m2 m3 m4 m5 k1 k2 k3 k4 k5 code funs x12 great_2 up down size rows work_10 xx power) := hD
                  refine lv_iconst (v := 0) hx hb d_M_put_322 (by decide) ?_
                  refine lv_istore_n (lv' := [(2, .int 0), (1, .int v1_5), (0, .ref m0)]) hx hb d_M_put_323 rfl hl (by decide) rfl (fun ls hl => ?_)
                  obtain ⟨n324, h⟩ := h
                  refine W.cap (fun G324 Gi324 Ge324 => ?_)
                  suffices hL324 : ∀ (n324 : Nat) (v2_13 : Int32) (work_14 : (Nat → Int32)) (H : Heap) (locs : List Loc) (ls : Array Slot), va_P D vwCl (wM m0 m1 m2 m3 m4 m5 k1 k2 k3 k4 k5 code funs x12 great_2 up down size rows work_14 xx power) H → va_D A (wM m0 m1 m2 m3 m4 m5 k1 k2 k3 k4 k5 code funs x12 great_2 up down size rows work_14 xx power) → va_S A s.heap H locs → lv_has ls 7 [(2, .int v2_13), (1, .int v1_5), (0, .ref m0)] → lpW2 (wb_M_put_324 post x12 great_2 up down v1_5 xx) n324 v2_13 work_14 → G324 H locs (F0 m 324 ls []) from hL324 n324 (0 : Int32) work_10 _ _ _ hP hD hS hl h
                  clear h hP hD hS hl
                  intro n324
                  induction n324 with
                  | zero => intro v2_13 work_14 H locs ls hP hD hS hl h; exact (show False from h).elim
                  | succ n324 ihL324 =>
                    intro v2_13 work_14 H locs ls hP hD hS hl h
                    replace h : (wb_M_put_324 post x12 great_2 up down v1_5 xx) (lpW2 (wb_M_put_324 post x12 great_2 up down v1_5 xx) n324) v2_13 work_14 := h
                    refine Gi324 _ _ _ ?_
                    refine lv_iload_n hx hb d_M_put_324 rfl (lv_at hl 0 rfl) ?_
                    refine lv_bipush (v := 7) hx hb d_M_put_325 (by decide) ?_
                    refine lv_icmp_ge (tgt := 353) hx hb d_M_put_327 (by decide) (fun hc15 => ?_) (fun hc15 => ?_)
                    · replace h := h.1 hc15
                      exact W.vret hx hb hr (fun t ht hW => ⟨⟨(x12, great_2, up, down, work_14), rfl, h, by rw [ht]; exact hP, va_K.moved hW.alike hK, hD⟩, hS.F ht⟩) hS.2.2 d_M_put_353
                    · replace h := h.2 hc15
                      refine lv_aload_n hx hb d_M_put_330 rfl (lv_at hl 2 rfl) ?_
                      refine va_get (D := D) (ci := 2) (v := .ref m3) (C := R_M) (T := F_M) (N := 11) hx hb hB inF_M hown hK hP 0 rfl rfl 5 (by decide) (hB _ wd_343) (fun _ h9 => h9) rfl d_M_put_331 ?_
                      refine lv_bipush (v := 7) hx hb d_M_put_334 (by decide) ?_
                      refine lv_iload_n hx hb d_M_put_336 rfl (lv_at hl 1 rfl) ?_
                      refine lv_imul hx hb d_M_put_337 ?_
                      refine lv_iload_n hx hb d_M_put_338 rfl (lv_at hl 0 rfl) ?_
                      refine lv_iadd hx hb d_M_put_339 ?_
                      refine lv_aload_n hx hb d_M_put_340 rfl (lv_at hl 2 rfl) ?_
                      refine va_get (D := D) (ci := 2) (v := .ref m4) (C := R_M) (T := F_M) (N := 11) hx hb hB inF_M hown hK hP 0 rfl rfl 7 (by decide) (hB _ wd_345) (fun _ h9 => h9) rfl d_M_put_341 ?_
                      refine lv_iload_n hx hb d_M_put_344 rfl (lv_at hl 0 rfl) ?_
                      obtain ⟨g16, h⟩ := h
                      refine va_iald hx hb hK hP 4 3 rfl rfl g16 d_M_put_345 ?_
                      obtain ⟨g17, h⟩ := h
                      obtain ⟨work_18, ework_18⟩ : ∃ z : (Nat → Int32), z = upd work_14 ((7 * v1_5) + v2_13).toNatClampNeg (xx v2_13.toNatClampNeg) := ⟨_, rfl⟩
                      replace h := h work_18 ework_18
                      refine va_iast hx hb hK hP hD hS 3 2 rfl rfl g17 d_M_put_346 (fun H locs hP hD hS => ?_)
                      have hP : va_P D vwCl (wM m0 m1 m2 m3 m4 m5 k1 k2 k3 k4 k5 code funs x12 great_2 up down size rows work_18 xx power) H := by rw [ework_18]; exact hP
                      have hD : va_D A (wM m0 m1 m2 m3 m4 m5 k1 k2 k3 k4 k5 code funs x12 great_2 up down size rows work_18 xx power) := by rw [ework_18]; exact hD
                      obtain ⟨x19, ex19⟩ : ∃ z : Int32, z = v2_13 + 1 := ⟨_, rfl⟩
                      replace h := h x19 ex19
                      refine lv_iinc (v := x19) (lv' := [(2, .int x19), (1, .int v1_5), (0, .ref m0)]) hx hb d_M_put_347 hl (k := 0) rfl (by rw [ex19]; rfl) (by decide) rfl (fun ls hl => ?_)
                      refine lv_goto (tgt := 324) hx hb d_M_put_350 (by decide) ?_
                      exact Ge324 _ _ _ (ihL324 x19 work_18 _ _ _ hP hD hS (lv_sub hl [0, 1, 2] rfl) h)
                · replace h := h.2 hc11
                  refine lv_aload_n hx hb d_M_put_291 rfl (lv_at hl 2 rfl) ?_
                  refine va_get (D := D) (ci := 2) (v := .ref m3) (C := R_M) (T := F_M) (N := 11) hx hb hB inF_M hown hK hP 0 rfl rfl 5 (by decide) (hB _ wd_343) (fun _ h9 => h9) rfl d_M_put_292 ?_
                  refine lv_iload_n hx hb d_M_put_295 rfl (lv_at hl 0 rfl) ?_
                  refine lv_bipush (v := 7) hx hb d_M_put_296 (by decide) ?_
                  refine lv_iadd hx hb d_M_put_298 ?_
                  refine lv_aload_n hx hb d_M_put_299 rfl (lv_at hl 2 rfl) ?_
                  refine va_get (D := D) (ci := 2) (v := .ref m3) (C := R_M) (T := F_M) (N := 11) hx hb hB inF_M hown hK hP 0 rfl rfl 5 (by decide) (hB _ wd_343) (fun _ h9 => h9) rfl d_M_put_300 ?_
                  refine lv_iload_n hx hb d_M_put_303 rfl (lv_at hl 0 rfl) ?_
                  obtain ⟨g20, h⟩ := h
                  refine va_iald hx hb hK hP 3 2 rfl rfl g20 d_M_put_304 ?_
                  obtain ⟨g21, h⟩ := h
                  obtain ⟨work_22, ework_22⟩ : ∃ z : (Nat → Int32), z = upd work_10 (v2_9 + 7).toNatClampNeg (work_10 v2_9.toNatClampNeg) := ⟨_, rfl⟩
                  replace h := h work_22 ework_22
                  refine va_iast hx hb hK hP hD hS 3 2 rfl rfl g21 d_M_put_305 (fun H locs hP hD hS => ?_)
                  have hP : va_P D vwCl (wM m0 m1 m2 m3 m4 m5 k1 k2 k3 k4 k5 code funs made great_2 up down size rows work_22 xx power) H := by rw [ework_22]; exact hP
                  have hD : va_D A (wM m0 m1 m2 m3 m4 m5 k1 k2 k3 k4 k5 code funs made great_2 up down size rows work_22 xx power) := by rw [ework_22]; exact hD
                  obtain ⟨x23, ex23⟩ : ∃ z : Int32, z = v2_9 + (-1) := ⟨_, rfl⟩
                  replace h := h x23 ex23
                  refine lv_iinc (v := x23) (lv' := [(2, .int x23), (1, .int v1_5), (0, .ref m0)]) hx hb d_M_put_306 hl (k := 0) rfl (by rw [ex23]; rfl) (by decide) rfl (fun ls hl => ?_)
                  refine lv_goto (tgt := 283) hx hb d_M_put_309 (by decide) ?_
                  exact Ge283 _ _ _ (ihL283 x23 work_22 _ _ _ hP hD hS (lv_sub hl [0, 1, 2] rfl) h)
            · replace h := h.2 hc7
              refine lv_aload_n hx hb d_M_put_77 rfl (lv_at hl 1 rfl) ?_
              refine lv_iload_n hx hb d_M_put_78 rfl (lv_at hl 0 rfl) ?_
              have hF24 := va_free (wc := (wM m0 m1 m2 m3 m4 m5 k1 k2 k3 k4 k5 code funs made great_2 up down size rows work xx power)) hD hS hA [0, 1, 2, 3, 4, 5] rfl
              refine va_calli (va_runV (As := [.int v1_5]) (rest := []) ⟨hx, hb, hml, hown, hB⟩ (c_M_order l D m0 m1 m2 m3 m4 m5 k1 k2 k3 k4 k5 H.size code funs made great_2 up down size rows work xx power v1_5 _) (cwV 1 hB (goodV wd_384 wd_385 wd_512 wd_3 wd_386) rfl rfl rfl (by decide +kernel) ⟨Nat.le_of_ble_eq_true rfl, Nat.le_of_ble_eq_true rfl⟩) ⟨pcG_blind, va_recv hK hP (ci := 2) (q0 := 0) rfl rfl, pcG_pre hP hK hD h⟩ rfl rfl hl.1 rfl (lv_room (Nat.le_of_ble_eq_true rfl)) d_M_put_79 ⟨Nat.le_of_ble_eq_true rfl, Nat.le_of_ble_eq_true rfl⟩) hS (fun q _ h => hF24 q h) hF24 (fun r25 u t H locs ht hvm h hB hz1 hk1 hS => ?_)
              obtain ⟨hP1, hK1, hD1⟩ := hB
              rw [ht] at hP1
              have hP : va_P D vwCl (wM m0 m1 m2 m3 m4 m5 k1 k2 k3 k4 k5 code funs made great_2 up down size rows work xx power) H := hP1
              have hD : va_D A (wM m0 m1 m2 m3 m4 m5 k1 k2 k3 k4 k5 code funs made great_2 up down size rows work xx power) := hD1.weaken (fun _ _ _ hq => hF24 _ hq)
              refine lv_if_ne (tgt := 273) hx hb d_M_put_82 (by decide) (fun hc26 => ?_) (fun hc26 => ?_)
              · replace h := h.1 hc26
                refine lv_bipush (v := 7) hx hb d_M_put_273 (by decide) ?_
                refine lv_aload_n hx hb d_M_put_275 rfl (lv_at hl 1 rfl) ?_
                refine va_get (D := D) (ci := 2) (v := .int made) (C := R_M) (T := F_M) (N := 11) hx hb hB inF_M hown hK hP 0 rfl rfl 4 (by decide) (hB _ wd_342) (fun _ h9 => h9) rfl d_M_put_276 ?_
                refine lv_imul hx hb d_M_put_279 ?_
                refine lv_iconst (v := 1) hx hb d_M_put_280 (by decide) ?_
                refine lv_isub hx hb d_M_put_281 ?_
                refine lv_topi (fun x27 ex27 => ?_)
                replace h := h x27 ex27
                refine lv_istore_n (lv' := [(2, .int x27), (1, .int v1_5), (0, .ref m0)]) hx hb d_M_put_282 rfl hl (by decide) rfl (fun ls hl => ?_)
                obtain ⟨n283, h⟩ := h
                refine W.cap (fun G283 Gi283 Ge283 => ?_)
                suffices hL283 : ∀ (n283 : Nat) (v2_28 : Int32) (work_29 : (Nat → Int32)) (H : Heap) (locs : List Loc) (ls : Array Slot), va_P D vwCl (wM m0 m1 m2 m3 m4 m5 k1 k2 k3 k4 k5 code funs made great_2 up down size rows work_29 xx power) H → va_D A (wM m0 m1 m2 m3 m4 m5 k1 k2 k3 k4 k5 code funs made great_2 up down size rows work_29 xx power) → va_S A s.heap H locs → lv_has ls 7 [(2, .int v2_28), (1, .int v1_5), (0, .ref m0)] → lpW2 (wb_M_put_283 v1_5 made post great_2 up down xx) n283 v2_28 work_29 → G283 H locs (F0 m 283 ls []) from hL283 n283 x27 work _ _ _ hP hD hS hl h
                clear h hP hD hS hl
                intro n283
                induction n283 with
                | zero => intro v2_28 work_29 H locs ls hP hD hS hl h; exact (show False from h).elim
                | succ n283 ihL283 =>
                  intro v2_28 work_29 H locs ls hP hD hS hl h
                  replace h : (wb_M_put_283 v1_5 made post great_2 up down xx) (lpW2 (wb_M_put_283 v1_5 made post great_2 up down xx) n283) v2_28 work_29 := h
                  refine Gi283 _ _ _ ?_
                  refine lv_iload_n hx hb d_M_put_283 rfl (lv_at hl 0 rfl) ?_
                  refine lv_bipush (v := 7) hx hb d_M_put_284 (by decide) ?_
                  refine lv_iload_n hx hb d_M_put_286 rfl (lv_at hl 1 rfl) ?_
                  refine lv_imul hx hb d_M_put_287 ?_
                  refine lv_icmp_lt (tgt := 312) hx hb d_M_put_288 (by decide) (fun hc30 => ?_) (fun hc30 => ?_)
                  · replace h := h.1 hc30
                    refine lv_aload_n hx hb d_M_put_312 rfl (lv_at hl 2 rfl) ?_
                    refine lv_dup hx hb d_M_put_313 rfl ?_
                    refine va_get (D := D) (ci := 2) (v := .int made) (C := R_M) (T := F_M) (N := 11) hx hb hB inF_M hown hK hP 0 rfl rfl 4 (by decide) (hB _ wd_342) (fun _ h9 => h9) rfl d_M_put_314 ?_
                    refine lv_iconst (v := 1) hx hb d_M_put_317 (by decide) ?_
                    refine lv_iadd hx hb d_M_put_318 ?_
                    refine lv_topi (fun x31 ex31 => ?_)
                    replace h := h x31 ex31
                    refine va_put (D := D) (ci := 2) (v := .int x31) (ty := .int) (C := R_M) (T := F_M) (N := 11) hx hb hB inF_M t_M t_M_ok n_M hown hK hP hD hS 0 rfl rfl 4 (by decide) (hB _ wd_342) (fun _ h9 => h9) rfl (by decide +kernel) rfl rfl (Nat.le_of_ble_eq_true rfl) d_M_put_319 (fun H locs hP hD hS => ?_)
                    have hP : va_P D vwCl (wM m0 m1 m2 m3 m4 m5 k1 k2 k3 k4 k5 code funs x31 great_2 up down size rows work_29 xx power) H := hP
                    have hD : va_D A (wM m0 m1 m2 m3 m4 m5 k1 k2 k3 k4 k5 code funs x31 great_2 up down size rows work_29 xx power) := hD
                    refine lv_iconst (v := 0) hx hb d_M_put_322 (by decide) ?_
                    refine lv_istore_n (lv' := [(2, .int 0), (1, .int v1_5), (0, .ref m0)]) hx hb d_M_put_323 rfl hl (by decide) rfl (fun ls hl => ?_)
                    obtain ⟨n324, h⟩ := h
                    refine W.cap (fun G324 Gi324 Ge324 => ?_)
                    suffices hL324 : ∀ (n324 : Nat) (v2_32 : Int32) (work_33 : (Nat → Int32)) (H : Heap) (locs : List Loc) (ls : Array Slot), va_P D vwCl (wM m0 m1 m2 m3 m4 m5 k1 k2 k3 k4 k5 code funs x31 great_2 up down size rows work_33 xx power) H → va_D A (wM m0 m1 m2 m3 m4 m5 k1 k2 k3 k4 k5 code funs x31 great_2 up down size rows work_33 xx power) → va_S A s.heap H locs → lv_has ls 7 [(2, .int v2_32), (1, .int v1_5), (0, .ref m0)] → lpW2 (wb_M_put_324 post x31 great_2 up down v1_5 xx) n324 v2_32 work_33 → G324 H locs (F0 m 324 ls []) from hL324 n324 (0 : Int32) work_29 _ _ _ hP hD hS hl h
                    clear h hP hD hS hl
                    intro n324
                    induction n324 with
                    | zero => intro v2_32 work_33 H locs ls hP hD hS hl h; exact (show False from h).elim
                    | succ n324 ihL324 =>
                      intro v2_32 work_33 H locs ls hP hD hS hl h
                      replace h : (wb_M_put_324 post x31 great_2 up down v1_5 xx) (lpW2 (wb_M_put_324 post x31 great_2 up down v1_5 xx) n324) v2_32 work_33 := h
                      refine Gi324 _ _ _ ?_
                      refine lv_iload_n hx hb d_M_put_324 rfl (lv_at hl 0 rfl) ?_
                      refine lv_bipush (v := 7) hx hb d_M_put_325 (by decide) ?_
                      refine lv_icmp_ge (tgt := 353) hx hb d_M_put_327 (by decide) (fun hc34 => ?_) (fun hc34 => ?_)
                      · replace h := h.1 hc34
                        exact W.vret hx hb hr (fun t ht hW => ⟨⟨(x31, great_2, up, down, work_33), rfl, h, by rw [ht]; exact hP, va_K.moved hW.alike hK, hD⟩, hS.F ht⟩) hS.2.2 d_M_put_353
                      · replace h := h.2 hc34
                        refine lv_aload_n hx hb d_M_put_330 rfl (lv_at hl 2 rfl) ?_
                        refine va_get (D := D) (ci := 2) (v := .ref m3) (C := R_M) (T := F_M) (N := 11) hx hb hB inF_M hown hK hP 0 rfl rfl 5 (by decide) (hB _ wd_343) (fun _ h9 => h9) rfl d_M_put_331 ?_
                        refine lv_bipush (v := 7) hx hb d_M_put_334 (by decide) ?_
                        refine lv_iload_n hx hb d_M_put_336 rfl (lv_at hl 1 rfl) ?_
                        refine lv_imul hx hb d_M_put_337 ?_
                        refine lv_iload_n hx hb d_M_put_338 rfl (lv_at hl 0 rfl) ?_
                        refine lv_iadd hx hb d_M_put_339 ?_
                        refine lv_aload_n hx hb d_M_put_340 rfl (lv_at hl 2 rfl) ?_
                        refine va_get (D := D) (ci := 2) (v := .ref m4) (C := R_M) (T := F_M) (N := 11) hx hb hB inF_M hown hK hP 0 rfl rfl 7 (by decide) (hB _ wd_345) (fun _ h9 => h9) rfl d_M_put_341 ?_
                        refine lv_iload_n hx hb d_M_put_344 rfl (lv_at hl 0 rfl) ?_
                        obtain ⟨g35, h⟩ := h
                        refine va_iald hx hb hK hP 4 3 rfl rfl g35 d_M_put_345 ?_
                        obtain ⟨g36, h⟩ := h
                        obtain ⟨work_37, ework_37⟩ : ∃ z : (Nat → Int32), z = upd work_33 ((7 * v1_5) + v2_32).toNatClampNeg (xx v2_32.toNatClampNeg) := ⟨_, rfl⟩
                        replace h := h work_37 ework_37
                        refine va_iast hx hb hK hP hD hS 3 2 rfl rfl g36 d_M_put_346 (fun H locs hP hD hS => ?_)
                        have hP : va_P D vwCl (wM m0 m1 m2 m3 m4 m5 k1 k2 k3 k4 k5 code funs x31 great_2 up down size rows work_37 xx power) H := by rw [ework_37]; exact hP
                        have hD : va_D A (wM m0 m1 m2 m3 m4 m5 k1 k2 k3 k4 k5 code funs x31 great_2 up down size rows work_37 xx power) := by rw [ework_37]; exact hD
                        obtain ⟨x38, ex38⟩ : ∃ z : Int32, z = v2_32 + 1 := ⟨_, rfl⟩
                        replace h := h x38 ex38
                        refine lv_iinc (v := x38) (lv' := [(2, .int x38), (1, .int v1_5), (0, .ref m0)]) hx hb d_M_put_347 hl (k := 0) rfl (by rw [ex38]; rfl) (by decide) rfl (fun ls hl => ?_)
                        refine lv_goto (tgt := 324) hx hb d_M_put_350 (by decide) ?_
                        exact Ge324 _ _ _ (ihL324 x38 work_37 _ _ _ hP hD hS (lv_sub hl [0, 1, 2] rfl) h)
                  · replace h := h.2 hc30
                    refine lv_aload_n hx hb d_M_put_291 rfl (lv_at hl 2 rfl) ?_
                    refine va_get (D := D) (ci := 2) (v := .ref m3) (C := R_M) (T := F_M) (N := 11) hx hb hB inF_M hown hK hP 0 rfl rfl 5 (by decide) (hB _ wd_343) (fun _ h9 => h9) rfl d_M_put_292 ?_
                    refine lv_iload_n hx hb d_M_put_295 rfl (lv_at hl 0 rfl) ?_
                    refine lv_bipush (v := 7) hx hb d_M_put_296 (by decide) ?_
                    refine lv_iadd hx hb d_M_put_298 ?_
                    refine lv_aload_n hx hb d_M_put_299 rfl (lv_at hl 2 rfl) ?_
                    refine va_get (D := D) (ci := 2) (v := .ref m3) (C := R_M) (T := F_M) (N := 11) hx hb hB inF_M hown hK hP 0 rfl rfl 5 (by decide) (hB _ wd_343) (fun _ h9 => h9) rfl d_M_put_300 ?_
                    refine lv_iload_n hx hb d_M_put_303 rfl (lv_at hl 0 rfl) ?_
                    obtain ⟨g39, h⟩ := h
                    refine va_iald hx hb hK hP 3 2 rfl rfl g39 d_M_put_304 ?_
                    obtain ⟨g40, h⟩ := h
                    obtain ⟨work_41, ework_41⟩ : ∃ z : (Nat → Int32), z = upd work_29 (v2_28 + 7).toNatClampNeg (work_29 v2_28.toNatClampNeg) := ⟨_, rfl⟩
                    replace h := h work_41 ework_41
                    refine va_iast hx hb hK hP hD hS 3 2 rfl rfl g40 d_M_put_305 (fun H locs hP hD hS => ?_)
                    have hP : va_P D vwCl (wM m0 m1 m2 m3 m4 m5 k1 k2 k3 k4 k5 code funs made great_2 up down size rows work_41 xx power) H := by rw [ework_41]; exact hP
                    have hD : va_D A (wM m0 m1 m2 m3 m4 m5 k1 k2 k3 k4 k5 code funs made great_2 up down size rows work_41 xx power) := by rw [ework_41]; exact hD
                    obtain ⟨x42, ex42⟩ : ∃ z : Int32, z = v2_28 + (-1) := ⟨_, rfl⟩
                    replace h := h x42 ex42
                    refine lv_iinc (v := x42) (lv' := [(2, .int x42), (1, .int v1_5), (0, .ref m0)]) hx hb d_M_put_306 hl (k := 0) rfl (by rw [ex42]; rfl) (by decide) rfl (fun ls hl => ?_)
                    refine lv_goto (tgt := 283) hx hb d_M_put_309 (by decide) ?_
                    exact Ge283 _ _ _ (ihL283 x42 work_41 _ _ _ hP hD hS (lv_sub hl [0, 1, 2] rfl) h)
              · replace h := h.2 hc26
                refine lv_aload_n hx hb d_M_put_85 rfl (lv_at hl 1 rfl) ?_
                refine va_get (D := D) (ci := 2) (v := .ref m3) (C := R_M) (T := F_M) (N := 11) hx hb hB inF_M hown hK hP 0 rfl rfl 5 (by decide) (hB _ wd_343) (fun _ h9 => h9) rfl d_M_put_86 ?_
                refine lv_bipush (v := 7) hx hb d_M_put_89 (by decide) ?_
                refine lv_iload_n hx hb d_M_put_91 rfl (lv_at hl 0 rfl) ?_
                refine lv_imul hx hb d_M_put_92 ?_
                refine lv_iconst (v := 5) hx hb d_M_put_93 (by decide) ?_
                refine lv_iadd hx hb d_M_put_94 ?_
                obtain ⟨g43, h⟩ := h
                refine va_iald hx hb hK hP 3 2 rfl rfl g43 d_M_put_95 ?_
                refine lv_i2l hx hb d_M_put_96 rfl ?_
                refine lv_topl (fun x44 ex44 => ?_)
                replace h := h x44 ex44
                refine lv_lstore_n (lv' := [(2, .long x44), (1, .int v1_5), (0, .ref m0)]) hx hb d_M_put_97 rfl hl (by decide) rfl (fun ls hl => ?_)
                refine lv_aload_n hx hb d_M_put_98 rfl (lv_at hl 2 rfl) ?_
                refine va_get (D := D) (ci := 2) (v := .ref m3) (C := R_M) (T := F_M) (N := 11) hx hb hB inF_M hown hK hP 0 rfl rfl 5 (by decide) (hB _ wd_343) (fun _ h9 => h9) rfl d_M_put_99 ?_
                refine lv_bipush (v := 7) hx hb d_M_put_102 (by decide) ?_
                refine lv_iload_n hx hb d_M_put_104 rfl (lv_at hl 1 rfl) ?_
                refine lv_imul hx hb d_M_put_105 ?_
                refine lv_bipush (v := 6) hx hb d_M_put_106 (by decide) ?_
                refine lv_iadd hx hb d_M_put_108 ?_
                obtain ⟨g45, h⟩ := h
                refine va_iald hx hb hK hP 3 2 rfl rfl g45 d_M_put_109 ?_
                refine lv_i2l hx hb d_M_put_110 rfl ?_
                refine lv_topl (fun x46 ex46 => ?_)
                replace h := h x46 ex46
                refine lv_lstore (lv' := [(4, .long x46), (2, .long x44), (1, .int v1_5), (0, .ref m0)]) hx hb d_M_put_111 hl (by decide) rfl (fun ls hl => ?_)
                refine lv_lload_n hx hb d_M_put_113 rfl (lv_at hl 1 rfl) ?_
                refine lv_aload_n hx hb d_M_put_114 rfl (lv_at hl 3 rfl) ?_
                refine va_get (D := D) (ci := 2) (v := .ref m4) (C := R_M) (T := F_M) (N := 11) hx hb hB inF_M hown hK hP 0 rfl rfl 7 (by decide) (hB _ wd_345) (fun _ h9 => h9) rfl d_M_put_115 ?_
                refine lv_bipush (v := 6) hx hb d_M_put_118 (by decide) ?_
                obtain ⟨g47, h⟩ := h
                refine va_iald hx hb hK hP 4 3 rfl rfl g47 d_M_put_120 ?_
                refine lv_i2l hx hb d_M_put_121 rfl ?_
                refine lv_lmul hx hb d_M_put_122 ?_
                refine lv_aload_n hx hb d_M_put_123 rfl (lv_at hl 3 rfl) ?_
                refine va_get (D := D) (ci := 2) (v := .ref m4) (C := R_M) (T := F_M) (N := 11) hx hb hB inF_M hown hK hP 0 rfl rfl 7 (by decide) (hB _ wd_345) (fun _ h9 => h9) rfl d_M_put_124 ?_
                refine lv_iconst (v := 5) hx hb d_M_put_127 (by decide) ?_
                obtain ⟨g48, h⟩ := h
                refine va_iald hx hb hK hP 4 3 rfl rfl g48 d_M_put_128 ?_
                refine lv_i2l hx hb d_M_put_129 rfl ?_
                refine lv_lload hx hb d_M_put_130 (lv_at hl 0 rfl) ?_
                refine lv_lmul hx hb d_M_put_132 ?_
                refine lv_ladd hx hb d_M_put_133 ?_
                refine lv_lconst (v := 0) hx hb d_M_put_134 (by decide) ?_
                refine W.lcmp hx hb d_M_put_135 ?_
                refine lv_if_ne (tgt := 191) hx hb d_M_put_136 (by decide) (fun hc49 => ?_) (fun hc49 => ?_)
                · replace h := h.1 hc49
                  refine lv_aload_n hx hb d_M_put_191 rfl (lv_at hl 3 rfl) ?_
                  refine lv_lload_n hx hb d_M_put_192 rfl (lv_at hl 1 rfl) ?_
                  refine lv_aload_n hx hb d_M_put_193 rfl (lv_at hl 3 rfl) ?_
                  refine va_get (D := D) (ci := 2) (v := .ref m4) (C := R_M) (T := F_M) (N := 11) hx hb hB inF_M hown hK hP 0 rfl rfl 7 (by decide) (hB _ wd_345) (fun _ h9 => h9) rfl d_M_put_194 ?_
                  refine lv_bipush (v := 6) hx hb d_M_put_197 (by decide) ?_
                  obtain ⟨g50, h⟩ := h
                  refine va_iald hx hb hK hP 4 3 rfl rfl g50 d_M_put_199 ?_
                  refine lv_i2l hx hb d_M_put_200 rfl ?_
                  refine lv_lmul hx hb d_M_put_201 ?_
                  refine lv_aload_n hx hb d_M_put_202 rfl (lv_at hl 3 rfl) ?_
                  refine va_get (D := D) (ci := 2) (v := .ref m4) (C := R_M) (T := F_M) (N := 11) hx hb hB inF_M hown hK hP 0 rfl rfl 7 (by decide) (hB _ wd_345) (fun _ h9 => h9) rfl d_M_put_203 ?_
                  refine lv_iconst (v := 5) hx hb d_M_put_206 (by decide) ?_
                  obtain ⟨g51, h⟩ := h
                  refine va_iald hx hb hK hP 4 3 rfl rfl g51 d_M_put_207 ?_
                  refine lv_i2l hx hb d_M_put_208 rfl ?_
                  refine lv_lload hx hb d_M_put_209 (lv_at hl 0 rfl) ?_
                  refine lv_lmul hx hb d_M_put_211 ?_
                  refine lv_ladd hx hb d_M_put_212 ?_
                  refine lv_lload hx hb d_M_put_213 (lv_at hl 0 rfl) ?_
                  refine lv_aload_n hx hb d_M_put_215 rfl (lv_at hl 3 rfl) ?_
                  refine va_get (D := D) (ci := 2) (v := .ref m4) (C := R_M) (T := F_M) (N := 11) hx hb hB inF_M hown hK hP 0 rfl rfl 7 (by decide) (hB _ wd_345) (fun _ h9 => h9) rfl d_M_put_216 ?_
                  refine lv_bipush (v := 6) hx hb d_M_put_219 (by decide) ?_
                  obtain ⟨g52, h⟩ := h
                  refine va_iald hx hb hK hP 4 3 rfl rfl g52 d_M_put_221 ?_
                  refine lv_i2l hx hb d_M_put_222 rfl ?_
                  refine lv_lmul hx hb d_M_put_223 ?_
                  have hF53 := va_free (wc := (wM m0 m1 m2 m3 m4 m5 k1 k2 k3 k4 k5 code funs made great_2 up down size rows work xx power)) hD hS hA [0, 1, 2, 3, 4, 5] rfl
                  refine va_callv (va_runV (As := [.long ((x44 * ((xx (6 : Int32).toNatClampNeg).toInt64)) + (((xx (5 : Int32).toNatClampNeg).toInt64) * x46)), .long (x46 * ((xx (6 : Int32).toNatClampNeg).toInt64))]) (rest := []) ⟨hx, hb, hml, hown, hB⟩ (c_M_lowest l D m0 m1 m2 m3 m4 m5 k1 k2 k3 k4 k5 H.size code funs made great_2 up down size rows work xx power ((x44 * ((xx (6 : Int32).toNatClampNeg).toInt64)) + (((xx (5 : Int32).toNatClampNeg).toInt64) * x46)) (x46 * ((xx (6 : Int32).toNatClampNeg).toInt64)) _) (cwV 2 hB (goodV wd_363 wd_364 wd_509 wd_3 wd_365) rfl rfl rfl (by decide +kernel) ⟨Nat.le_of_ble_eq_true rfl, Nat.le_of_ble_eq_true rfl⟩) ⟨pcG_blind, va_recv hK hP (ci := 2) (q0 := 0) rfl rfl, pcG_pre hP hK hD h⟩ rfl rfl hl.1 rfl (lv_room (Nat.le_of_ble_eq_true rfl)) d_M_put_224 ⟨Nat.le_of_ble_eq_true rfl, Nat.le_of_ble_eq_true rfl⟩) hS (fun q _ h => hF53 q h) hF53 (fun u t H locs ht hvm h hB hz1 hk1 hS => ?_)
                  obtain ⟨up_54, down_55⟩ := u
                  obtain ⟨hP1, hK1, hD1⟩ := hB
                  rw [ht] at hP1
                  have hP : va_P D vwCl (wM m0 m1 m2 m3 m4 m5 k1 k2 k3 k4 k5 code funs made great_2 up_54 down_55 size rows work xx power) H := hP1
                  have hD : va_D A (wM m0 m1 m2 m3 m4 m5 k1 k2 k3 k4 k5 code funs made great_2 up_54 down_55 size rows work xx power) := hD1.weaken (fun _ _ _ hq => hF53 _ hq)
                  refine lv_aload_n hx hb d_M_put_227 rfl (lv_at hl 3 rfl) ?_
                  have hF56 := va_free (wc := (wM m0 m1 m2 m3 m4 m5 k1 k2 k3 k4 k5 code funs made great_2 up_54 down_55 size rows work xx power)) hD hS hA [0, 1, 2, 3, 4, 5] rfl
                  refine va_callv (va_runV (As := []) (rest := []) ⟨hx, hb, hml, hown, hB⟩ (c_M_bound l D m0 m1 m2 m3 m4 m5 k1 k2 k3 k4 k5 H.size code funs made great_2 up_54 down_55 size rows work xx power _) (cwV 0 hB (goodV wd_372 wd_373 wd_510 wd_3 wd_374) rfl rfl rfl (by decide +kernel) ⟨Nat.le_of_ble_eq_true rfl, Nat.le_of_ble_eq_true rfl⟩) ⟨pcG_blind, va_recv hK hP (ci := 2) (q0 := 0) rfl rfl, pcG_pre hP hK hD h⟩ rfl rfl hl.1 rfl (lv_room (Nat.le_of_ble_eq_true rfl)) d_M_put_228 ⟨Nat.le_of_ble_eq_true rfl, Nat.le_of_ble_eq_true rfl⟩) hS (fun q _ h => hF56 q h) hF56 (fun great_57 t H locs ht hvm h hB hz1 hk1 hS => ?_)
                  obtain ⟨hP1, hK1, hD1⟩ := hB
                  rw [ht] at hP1
                  have hP : va_P D vwCl (wM m0 m1 m2 m3 m4 m5 k1 k2 k3 k4 k5 code funs made great_57 up_54 down_55 size rows work xx power) H := hP1
                  have hD : va_D A (wM m0 m1 m2 m3 m4 m5 k1 k2 k3 k4 k5 code funs made great_57 up_54 down_55 size rows work xx power) := hD1.weaken (fun _ _ _ hq => hF56 _ hq)
                  refine lv_aload_n hx hb d_M_put_231 rfl (lv_at hl 3 rfl) ?_
                  refine va_get (D := D) (ci := 2) (v := .int great_57) (C := R_M) (T := F_M) (N := 11) hx hb hB inF_M hown hK hP 0 rfl rfl 6 (by decide) (hB _ wd_344) (fun _ h9 => h9) rfl d_M_put_232 ?_
                  refine lv_if_eq (tgt := 239) hx hb d_M_put_235 (by decide) (fun hc58 => ?_) (fun hc58 => ?_)
                  · replace h := h.1 hc58
                    refine lv_aload_n hx hb d_M_put_239 rfl (lv_at hl 3 rfl) ?_
                    refine va_get (D := D) (ci := 2) (v := .ref m3) (C := R_M) (T := F_M) (N := 11) hx hb hB inF_M hown hK hP 0 rfl rfl 5 (by decide) (hB _ wd_343) (fun _ h9 => h9) rfl d_M_put_240 ?_
                    refine lv_bipush (v := 7) hx hb d_M_put_243 (by decide) ?_
                    refine lv_iload_n hx hb d_M_put_245 rfl (lv_at hl 2 rfl) ?_
                    refine lv_imul hx hb d_M_put_246 ?_
                    refine lv_iconst (v := 5) hx hb d_M_put_247 (by decide) ?_
                    refine lv_iadd hx hb d_M_put_248 ?_
                    refine lv_aload_n hx hb d_M_put_249 rfl (lv_at hl 3 rfl) ?_
                    refine va_get (D := D) (ci := 2) (v := .long up_54) (C := R_M) (T := F_M) (N := 11) hx hb hB inF_M hown hK hP 0 rfl rfl 9 (by decide) (hB _ wd_347) (fun _ h9 => h9) rfl d_M_put_250 ?_
                    refine lv_l2i hx hb d_M_put_253 rfl ?_
                    obtain ⟨g59, h⟩ := h
                    obtain ⟨work_60, ework_60⟩ : ∃ z : (Nat → Int32), z = upd work ((7 * v1_5) + 5).toNatClampNeg (up_54.toInt32) := ⟨_, rfl⟩
                    replace h := h work_60 ework_60
                    refine va_iast hx hb hK hP hD hS 3 2 rfl rfl g59 d_M_put_254 (fun H locs hP hD hS => ?_)
                    have hP : va_P D vwCl (wM m0 m1 m2 m3 m4 m5 k1 k2 k3 k4 k5 code funs made great_57 up_54 down_55 size rows work_60 xx power) H := by rw [ework_60]; exact hP
                    have hD : va_D A (wM m0 m1 m2 m3 m4 m5 k1 k2 k3 k4 k5 code funs made great_57 up_54 down_55 size rows work_60 xx power) := by rw [ework_60]; exact hD
                    refine lv_aload_n hx hb d_M_put_255 rfl (lv_at hl 3 rfl) ?_
                    refine va_get (D := D) (ci := 2) (v := .ref m3) (C := R_M) (T := F_M) (N := 11) hx hb hB inF_M hown hK hP 0 rfl rfl 5 (by decide) (hB _ wd_343) (fun _ h9 => h9) rfl d_M_put_256 ?_
                    refine lv_bipush (v := 7) hx hb d_M_put_259 (by decide) ?_
                    refine lv_iload_n hx hb d_M_put_261 rfl (lv_at hl 2 rfl) ?_
                    refine lv_imul hx hb d_M_put_262 ?_
                    refine lv_bipush (v := 6) hx hb d_M_put_263 (by decide) ?_
                    refine lv_iadd hx hb d_M_put_265 ?_
                    refine lv_aload_n hx hb d_M_put_266 rfl (lv_at hl 3 rfl) ?_
                    refine va_get (D := D) (ci := 2) (v := .long down_55) (C := R_M) (T := F_M) (N := 11) hx hb hB inF_M hown hK hP 0 rfl rfl 10 (by decide) (hB _ wd_348) (fun _ h9 => h9) rfl d_M_put_267 ?_
                    refine lv_l2i hx hb d_M_put_270 rfl ?_
                    obtain ⟨g61, h⟩ := h
                    obtain ⟨work_62, ework_62⟩ : ∃ z : (Nat → Int32), z = upd work_60 ((7 * v1_5) + 6).toNatClampNeg (down_55.toInt32) := ⟨_, rfl⟩
                    replace h := h work_62 ework_62
                    refine va_iast hx hb hK hP hD hS 3 2 rfl rfl g61 d_M_put_271 (fun H locs hP hD hS => ?_)
                    have hP : va_P D vwCl (wM m0 m1 m2 m3 m4 m5 k1 k2 k3 k4 k5 code funs made great_57 up_54 down_55 size rows work_62 xx power) H := by rw [ework_62]; exact hP
                    have hD : va_D A (wM m0 m1 m2 m3 m4 m5 k1 k2 k3 k4 k5 code funs made great_57 up_54 down_55 size rows work_62 xx power) := by rw [ework_62]; exact hD
                    exact W.vret hx hb hr (fun t ht hW => ⟨⟨(made, great_57, up_54, down_55, work_62), rfl, h, by rw [ht]; exact hP, va_K.moved hW.alike hK, hD⟩, hS.F ht⟩) hS.2.2 d_M_put_272
                  · replace h := h.2 hc58
                    exact W.vret hx hb hr (fun t ht hW => ⟨⟨(made, great_57, up_54, down_55, work), rfl, h, by rw [ht]; exact hP, va_K.moved hW.alike hK, hD⟩, hS.F ht⟩) hS.2.2 d_M_put_238
                · replace h := h.2 hc49
                  refine lv_aload_n hx hb d_M_put_139 rfl (lv_at hl 3 rfl) ?_
                  refine lv_dup hx hb d_M_put_140 rfl ?_
                  refine va_get (D := D) (ci := 2) (v := .int made) (C := R_M) (T := F_M) (N := 11) hx hb hB inF_M hown hK hP 0 rfl rfl 4 (by decide) (hB _ wd_342) (fun _ h9 => h9) rfl d_M_put_141 ?_
                  refine lv_iconst (v := 1) hx hb d_M_put_144 (by decide) ?_
                  refine lv_isub hx hb d_M_put_145 ?_
                  refine lv_topi (fun x63 ex63 => ?_)
                  replace h := h x63 ex63
                  refine va_put (D := D) (ci := 2) (v := .int x63) (ty := .int) (C := R_M) (T := F_M) (N := 11) hx hb hB inF_M t_M t_M_ok n_M hown hK hP hD hS 0 rfl rfl 4 (by decide) (hB _ wd_342) (fun _ h9 => h9) rfl (by decide +kernel) rfl rfl (Nat.le_of_ble_eq_true rfl) d_M_put_146 (fun H locs hP hD hS => ?_)
                  have hP : va_P D vwCl (wM m0 m1 m2 m3 m4 m5 k1 k2 k3 k4 k5 code funs x63 great_2 up down size rows work xx power) H := hP
                  have hD : va_D A (wM m0 m1 m2 m3 m4 m5 k1 k2 k3 k4 k5 code funs x63 great_2 up down size rows work xx power) := hD
                  refine lv_bipush (v := 7) hx hb d_M_put_149 (by decide) ?_
                  refine lv_iload_n hx hb d_M_put_151 rfl (lv_at hl 2 rfl) ?_
                  refine lv_imul hx hb d_M_put_152 ?_
                  refine lv_topi (fun x64 ex64 => ?_)
                  replace h := h x64 ex64
                  refine lv_istore (lv' := [(6, .int x64), (4, .long x46), (2, .long x44), (1, .int v1_5), (0, .ref m0)]) hx hb d_M_put_153 hl (by decide) rfl (fun ls hl => ?_)
                  obtain ⟨n155, h⟩ := h
                  refine W.cap (fun G155 Gi155 Ge155 => ?_)
                  suffices hL155 : ∀ (n155 : Nat) (v6_65 : Int32) (work_66 : (Nat → Int32)) (H : Heap) (locs : List Loc) (ls : Array Slot), va_P D vwCl (wM m0 m1 m2 m3 m4 m5 k1 k2 k3 k4 k5 code funs x63 great_2 up down size rows work_66 xx power) H → va_D A (wM m0 m1 m2 m3 m4 m5 k1 k2 k3 k4 k5 code funs x63 great_2 up down size rows work_66 xx power) → va_S A s.heap H locs → lv_has ls 7 [(6, .int v6_65), (4, .long x46), (2, .long x44), (1, .int v1_5), (0, .ref m0)] → lpW2 (wb_M_put_155 x63 post great_2 up down) n155 v6_65 work_66 → G155 H locs (F0 m 155 ls []) from hL155 n155 x64 work _ _ _ hP hD hS hl h
                  clear h hP hD hS hl
                  intro n155
                  induction n155 with
                  | zero => intro v6_65 work_66 H locs ls hP hD hS hl h; exact (show False from h).elim
                  | succ n155 ihL155 =>
                    intro v6_65 work_66 H locs ls hP hD hS hl h
                    replace h : (wb_M_put_155 x63 post great_2 up down) (lpW2 (wb_M_put_155 x63 post great_2 up down) n155) v6_65 work_66 := h
                    refine Gi155 _ _ _ ?_
                    refine lv_iload hx hb d_M_put_155 (lv_at hl 0 rfl) ?_
                    refine lv_bipush (v := 7) hx hb d_M_put_157 (by decide) ?_
                    refine lv_aload_n hx hb d_M_put_159 rfl (lv_at hl 4 rfl) ?_
                    refine va_get (D := D) (ci := 2) (v := .int x63) (C := R_M) (T := F_M) (N := 11) hx hb hB inF_M hown hK hP 0 rfl rfl 4 (by decide) (hB _ wd_342) (fun _ h9 => h9) rfl d_M_put_160 ?_
                    refine lv_imul hx hb d_M_put_163 ?_
                    refine lv_icmp_ge (tgt := 190) hx hb d_M_put_164 (by decide) (fun hc67 => ?_) (fun hc67 => ?_)
                    · replace h := h.1 hc67
                      exact W.vret hx hb hr (fun t ht hW => ⟨⟨(x63, great_2, up, down, work_66), rfl, h, by rw [ht]; exact hP, va_K.moved hW.alike hK, hD⟩, hS.F ht⟩) hS.2.2 d_M_put_190
                    · replace h := h.2 hc67
                      refine lv_aload_n hx hb d_M_put_167 rfl (lv_at hl 4 rfl) ?_
                      refine va_get (D := D) (ci := 2) (v := .ref m3) (C := R_M) (T := F_M) (N := 11) hx hb hB inF_M hown hK hP 0 rfl rfl 5 (by decide) (hB _ wd_343) (fun _ h9 => h9) rfl d_M_put_168 ?_
                      refine lv_iload hx hb d_M_put_171 (lv_at hl 0 rfl) ?_
                      refine lv_aload_n hx hb d_M_put_173 rfl (lv_at hl 4 rfl) ?_
                      refine va_get (D := D) (ci := 2) (v := .ref m3) (C := R_M) (T := F_M) (N := 11) hx hb hB inF_M hown hK hP 0 rfl rfl 5 (by decide) (hB _ wd_343) (fun _ h9 => h9) rfl d_M_put_174 ?_
                      refine lv_iload hx hb d_M_put_177 (lv_at hl 0 rfl) ?_
                      refine lv_bipush (v := 7) hx hb d_M_put_179 (by decide) ?_
                      refine lv_iadd hx hb d_M_put_181 ?_
                      obtain ⟨g68, h⟩ := h
                      refine va_iald hx hb hK hP 3 2 rfl rfl g68 d_M_put_182 ?_
                      obtain ⟨g69, h⟩ := h
                      obtain ⟨work_70, ework_70⟩ : ∃ z : (Nat → Int32), z = upd work_66 v6_65.toNatClampNeg (work_66 (v6_65 + 7).toNatClampNeg) := ⟨_, rfl⟩
                      replace h := h work_70 ework_70
                      refine va_iast hx hb hK hP hD hS 3 2 rfl rfl g69 d_M_put_183 (fun H locs hP hD hS => ?_)
                      have hP : va_P D vwCl (wM m0 m1 m2 m3 m4 m5 k1 k2 k3 k4 k5 code funs x63 great_2 up down size rows work_70 xx power) H := by rw [ework_70]; exact hP
                      have hD : va_D A (wM m0 m1 m2 m3 m4 m5 k1 k2 k3 k4 k5 code funs x63 great_2 up down size rows work_70 xx power) := by rw [ework_70]; exact hD
                      obtain ⟨x71, ex71⟩ : ∃ z : Int32, z = v6_65 + 1 := ⟨_, rfl⟩
                      replace h := h x71 ex71
                      refine lv_iinc (v := x71) (lv' := [(6, .int x71), (4, .long x46), (2, .long x44), (1, .int v1_5), (0, .ref m0)]) hx hb d_M_put_184 hl (k := 0) rfl (by rw [ex71]; rfl) (by decide) rfl (fun ls hl => ?_)
                      refine lv_goto (tgt := 155) hx hb d_M_put_187 (by decide) ?_
                      exact Ge155 _ _ _ (ihL155 x71 work_70 _ _ _ hP hD hS (lv_sub hl [0, 1, 2, 3, 4] rfl) h)
          · replace h := h.2 hc6
            refine lv_aload_n hx hb d_M_put_55 rfl (lv_at hl 1 rfl) ?_
            refine lv_iload_n hx hb d_M_put_56 rfl (lv_at hl 0 rfl) ?_
            have hF72 := va_free (wc := (wM m0 m1 m2 m3 m4 m5 k1 k2 k3 k4 k5 code funs made great_2 up down size rows work xx power)) hD hS hA [0, 1, 2, 3, 4, 5] rfl
            refine va_calli (va_runV (As := [.int v1_5]) (rest := []) ⟨hx, hb, hml, hown, hB⟩ (c_M_order l D m0 m1 m2 m3 m4 m5 k1 k2 k3 k4 k5 H.size code funs made great_2 up down size rows work xx power v1_5 _) (cwV 1 hB (goodV wd_384 wd_385 wd_512 wd_3 wd_386) rfl rfl rfl (by decide +kernel) ⟨Nat.le_of_ble_eq_true rfl, Nat.le_of_ble_eq_true rfl⟩) ⟨pcG_blind, va_recv hK hP (ci := 2) (q0 := 0) rfl rfl, pcG_pre hP hK hD h⟩ rfl rfl hl.1 rfl (lv_room (Nat.le_of_ble_eq_true rfl)) d_M_put_57 ⟨Nat.le_of_ble_eq_true rfl, Nat.le_of_ble_eq_true rfl⟩) hS (fun q _ h => hF72 q h) hF72 (fun r73 u t H locs ht hvm h hB hz1 hk1 hS => ?_)
            obtain ⟨hP1, hK1, hD1⟩ := hB
            rw [ht] at hP1
            have hP : va_P D vwCl (wM m0 m1 m2 m3 m4 m5 k1 k2 k3 k4 k5 code funs made great_2 up down size rows work xx power) H := hP1
            have hD : va_D A (wM m0 m1 m2 m3 m4 m5 k1 k2 k3 k4 k5 code funs made great_2 up down size rows work xx power) := hD1.weaken (fun _ _ _ hq => hF72 _ hq)
            refine lv_if_le (tgt := 69) hx hb d_M_put_60 (by decide) (fun hc74 => ?_) (fun hc74 => ?_)
            · replace h := h.1 hc74
              refine lv_iload_n hx hb d_M_put_69 rfl (lv_at hl 0 rfl) ?_
              refine lv_aload_n hx hb d_M_put_70 rfl (lv_at hl 1 rfl) ?_
              refine va_get (D := D) (ci := 2) (v := .int made) (C := R_M) (T := F_M) (N := 11) hx hb hB inF_M hown hK hP 0 rfl rfl 4 (by decide) (hB _ wd_342) (fun _ h9 => h9) rfl d_M_put_71 ?_
              refine lv_icmp_ge (tgt := 273) hx hb d_M_put_74 (by decide) (fun hc75 => ?_) (fun hc75 => ?_)
              · replace h := h.1 hc75
                refine lv_bipush (v := 7) hx hb d_M_put_273 (by decide) ?_
                refine lv_aload_n hx hb d_M_put_275 rfl (lv_at hl 1 rfl) ?_
                refine va_get (D := D) (ci := 2) (v := .int made) (C := R_M) (T := F_M) (N := 11) hx hb hB inF_M hown hK hP 0 rfl rfl 4 (by decide) (hB _ wd_342) (fun _ h9 => h9) rfl d_M_put_276 ?_
                refine lv_imul hx hb d_M_put_279 ?_
                refine lv_iconst (v := 1) hx hb d_M_put_280 (by decide) ?_
                refine lv_isub hx hb d_M_put_281 ?_
                refine lv_topi (fun x76 ex76 => ?_)
                replace h := h x76 ex76
                refine lv_istore_n (lv' := [(2, .int x76), (1, .int v1_5), (0, .ref m0)]) hx hb d_M_put_282 rfl hl (by decide) rfl (fun ls hl => ?_)
                obtain ⟨n283, h⟩ := h
                refine W.cap (fun G283 Gi283 Ge283 => ?_)
                suffices hL283 : ∀ (n283 : Nat) (v2_77 : Int32) (work_78 : (Nat → Int32)) (H : Heap) (locs : List Loc) (ls : Array Slot), va_P D vwCl (wM m0 m1 m2 m3 m4 m5 k1 k2 k3 k4 k5 code funs made great_2 up down size rows work_78 xx power) H → va_D A (wM m0 m1 m2 m3 m4 m5 k1 k2 k3 k4 k5 code funs made great_2 up down size rows work_78 xx power) → va_S A s.heap H locs → lv_has ls 7 [(2, .int v2_77), (1, .int v1_5), (0, .ref m0)] → lpW2 (wb_M_put_283 v1_5 made post great_2 up down xx) n283 v2_77 work_78 → G283 H locs (F0 m 283 ls []) from hL283 n283 x76 work _ _ _ hP hD hS hl h
                clear h hP hD hS hl
                intro n283
                induction n283 with
                | zero => intro v2_77 work_78 H locs ls hP hD hS hl h; exact (show False from h).elim
                | succ n283 ihL283 =>
                  intro v2_77 work_78 H locs ls hP hD hS hl h
                  replace h : (wb_M_put_283 v1_5 made post great_2 up down xx) (lpW2 (wb_M_put_283 v1_5 made post great_2 up down xx) n283) v2_77 work_78 := h
                  refine Gi283 _ _ _ ?_
                  refine lv_iload_n hx hb d_M_put_283 rfl (lv_at hl 0 rfl) ?_
                  refine lv_bipush (v := 7) hx hb d_M_put_284 (by decide) ?_
                  refine lv_iload_n hx hb d_M_put_286 rfl (lv_at hl 1 rfl) ?_
                  refine lv_imul hx hb d_M_put_287 ?_
                  refine lv_icmp_lt (tgt := 312) hx hb d_M_put_288 (by decide) (fun hc79 => ?_) (fun hc79 => ?_)
                  · replace h := h.1 hc79
                    refine lv_aload_n hx hb d_M_put_312 rfl (lv_at hl 2 rfl) ?_
                    refine lv_dup hx hb d_M_put_313 rfl ?_
                    refine va_get (D := D) (ci := 2) (v := .int made) (C := R_M) (T := F_M) (N := 11) hx hb hB inF_M hown hK hP 0 rfl rfl 4 (by decide) (hB _ wd_342) (fun _ h9 => h9) rfl d_M_put_314 ?_
                    refine lv_iconst (v := 1) hx hb d_M_put_317 (by decide) ?_
                    refine lv_iadd hx hb d_M_put_318 ?_
                    refine lv_topi (fun x80 ex80 => ?_)
                    replace h := h x80 ex80
                    refine va_put (D := D) (ci := 2) (v := .int x80) (ty := .int) (C := R_M) (T := F_M) (N := 11) hx hb hB inF_M t_M t_M_ok n_M hown hK hP hD hS 0 rfl rfl 4 (by decide) (hB _ wd_342) (fun _ h9 => h9) rfl (by decide +kernel) rfl rfl (Nat.le_of_ble_eq_true rfl) d_M_put_319 (fun H locs hP hD hS => ?_)
                    have hP : va_P D vwCl (wM m0 m1 m2 m3 m4 m5 k1 k2 k3 k4 k5 code funs x80 great_2 up down size rows work_78 xx power) H := hP
                    have hD : va_D A (wM m0 m1 m2 m3 m4 m5 k1 k2 k3 k4 k5 code funs x80 great_2 up down size rows work_78 xx power) := hD
                    refine lv_iconst (v := 0) hx hb d_M_put_322 (by decide) ?_
                    refine lv_istore_n (lv' := [(2, .int 0), (1, .int v1_5), (0, .ref m0)]) hx hb d_M_put_323 rfl hl (by decide) rfl (fun ls hl => ?_)
                    obtain ⟨n324, h⟩ := h
                    refine W.cap (fun G324 Gi324 Ge324 => ?_)
                    suffices hL324 : ∀ (n324 : Nat) (v2_81 : Int32) (work_82 : (Nat → Int32)) (H : Heap) (locs : List Loc) (ls : Array Slot), va_P D vwCl (wM m0 m1 m2 m3 m4 m5 k1 k2 k3 k4 k5 code funs x80 great_2 up down size rows work_82 xx power) H → va_D A (wM m0 m1 m2 m3 m4 m5 k1 k2 k3 k4 k5 code funs x80 great_2 up down size rows work_82 xx power) → va_S A s.heap H locs → lv_has ls 7 [(2, .int v2_81), (1, .int v1_5), (0, .ref m0)] → lpW2 (wb_M_put_324 post x80 great_2 up down v1_5 xx) n324 v2_81 work_82 → G324 H locs (F0 m 324 ls []) from hL324 n324 (0 : Int32) work_78 _ _ _ hP hD hS hl h
                    clear h hP hD hS hl
                    intro n324
                    induction n324 with
                    | zero => intro v2_81 work_82 H locs ls hP hD hS hl h; exact (show False from h).elim
                    | succ n324 ihL324 =>
                      intro v2_81 work_82 H locs ls hP hD hS hl h
                      replace h : (wb_M_put_324 post x80 great_2 up down v1_5 xx) (lpW2 (wb_M_put_324 post x80 great_2 up down v1_5 xx) n324) v2_81 work_82 := h
                      refine Gi324 _ _ _ ?_
                      refine lv_iload_n hx hb d_M_put_324 rfl (lv_at hl 0 rfl) ?_
                      refine lv_bipush (v := 7) hx hb d_M_put_325 (by decide) ?_
                      refine lv_icmp_ge (tgt := 353) hx hb d_M_put_327 (by decide) (fun hc83 => ?_) (fun hc83 => ?_)
                      · replace h := h.1 hc83
                        exact W.vret hx hb hr (fun t ht hW => ⟨⟨(x80, great_2, up, down, work_82), rfl, h, by rw [ht]; exact hP, va_K.moved hW.alike hK, hD⟩, hS.F ht⟩) hS.2.2 d_M_put_353
                      · replace h := h.2 hc83
                        refine lv_aload_n hx hb d_M_put_330 rfl (lv_at hl 2 rfl) ?_
                        refine va_get (D := D) (ci := 2) (v := .ref m3) (C := R_M) (T := F_M) (N := 11) hx hb hB inF_M hown hK hP 0 rfl rfl 5 (by decide) (hB _ wd_343) (fun _ h9 => h9) rfl d_M_put_331 ?_
                        refine lv_bipush (v := 7) hx hb d_M_put_334 (by decide) ?_
                        refine lv_iload_n hx hb d_M_put_336 rfl (lv_at hl 1 rfl) ?_
                        refine lv_imul hx hb d_M_put_337 ?_
                        refine lv_iload_n hx hb d_M_put_338 rfl (lv_at hl 0 rfl) ?_
                        refine lv_iadd hx hb d_M_put_339 ?_
                        refine lv_aload_n hx hb d_M_put_340 rfl (lv_at hl 2 rfl) ?_
                        refine va_get (D := D) (ci := 2) (v := .ref m4) (C := R_M) (T := F_M) (N := 11) hx hb hB inF_M hown hK hP 0 rfl rfl 7 (by decide) (hB _ wd_345) (fun _ h9 => h9) rfl d_M_put_341 ?_
                        refine lv_iload_n hx hb d_M_put_344 rfl (lv_at hl 0 rfl) ?_
                        obtain ⟨g84, h⟩ := h
                        refine va_iald hx hb hK hP 4 3 rfl rfl g84 d_M_put_345 ?_
                        obtain ⟨g85, h⟩ := h
                        obtain ⟨work_86, ework_86⟩ : ∃ z : (Nat → Int32), z = upd work_82 ((7 * v1_5) + v2_81).toNatClampNeg (xx v2_81.toNatClampNeg) := ⟨_, rfl⟩
                        replace h := h work_86 ework_86
                        refine va_iast hx hb hK hP hD hS 3 2 rfl rfl g85 d_M_put_346 (fun H locs hP hD hS => ?_)
                        have hP : va_P D vwCl (wM m0 m1 m2 m3 m4 m5 k1 k2 k3 k4 k5 code funs x80 great_2 up down size rows work_86 xx power) H := by rw [ework_86]; exact hP
                        have hD : va_D A (wM m0 m1 m2 m3 m4 m5 k1 k2 k3 k4 k5 code funs x80 great_2 up down size rows work_86 xx power) := by rw [ework_86]; exact hD
                        obtain ⟨x87, ex87⟩ : ∃ z : Int32, z = v2_81 + 1 := ⟨_, rfl⟩
                        replace h := h x87 ex87
                        refine lv_iinc (v := x87) (lv' := [(2, .int x87), (1, .int v1_5), (0, .ref m0)]) hx hb d_M_put_347 hl (k := 0) rfl (by rw [ex87]; rfl) (by decide) rfl (fun ls hl => ?_)
                        refine lv_goto (tgt := 324) hx hb d_M_put_350 (by decide) ?_
                        exact Ge324 _ _ _ (ihL324 x87 work_86 _ _ _ hP hD hS (lv_sub hl [0, 1, 2] rfl) h)
                  · replace h := h.2 hc79
                    refine lv_aload_n hx hb d_M_put_291 rfl (lv_at hl 2 rfl) ?_
                    refine va_get (D := D) (ci := 2) (v := .ref m3) (C := R_M) (T := F_M) (N := 11) hx hb hB inF_M hown hK hP 0 rfl rfl 5 (by decide) (hB _ wd_343) (fun _ h9 => h9) rfl d_M_put_292 ?_
                    refine lv_iload_n hx hb d_M_put_295 rfl (lv_at hl 0 rfl) ?_
                    refine lv_bipush (v := 7) hx hb d_M_put_296 (by decide) ?_
                    refine lv_iadd hx hb d_M_put_298 ?_
                    refine lv_aload_n hx hb d_M_put_299 rfl (lv_at hl 2 rfl) ?_
                    refine va_get (D := D) (ci := 2) (v := .ref m3) (C := R_M) (T := F_M) (N := 11) hx hb hB inF_M hown hK hP 0 rfl rfl 5 (by decide) (hB _ wd_343) (fun _ h9 => h9) rfl d_M_put_300 ?_
                    refine lv_iload_n hx hb d_M_put_303 rfl (lv_at hl 0 rfl) ?_
                    obtain ⟨g88, h⟩ := h
                    refine va_iald hx hb hK hP 3 2 rfl rfl g88 d_M_put_304 ?_
                    obtain ⟨g89, h⟩ := h
                    obtain ⟨work_90, ework_90⟩ : ∃ z : (Nat → Int32), z = upd work_78 (v2_77 + 7).toNatClampNeg (work_78 v2_77.toNatClampNeg) := ⟨_, rfl⟩
                    replace h := h work_90 ework_90
                    refine va_iast hx hb hK hP hD hS 3 2 rfl rfl g89 d_M_put_305 (fun H locs hP hD hS => ?_)
                    have hP : va_P D vwCl (wM m0 m1 m2 m3 m4 m5 k1 k2 k3 k4 k5 code funs made great_2 up down size rows work_90 xx power) H := by rw [ework_90]; exact hP
                    have hD : va_D A (wM m0 m1 m2 m3 m4 m5 k1 k2 k3 k4 k5 code funs made great_2 up down size rows work_90 xx power) := by rw [ework_90]; exact hD
                    obtain ⟨x91, ex91⟩ : ∃ z : Int32, z = v2_77 + (-1) := ⟨_, rfl⟩
                    replace h := h x91 ex91
                    refine lv_iinc (v := x91) (lv' := [(2, .int x91), (1, .int v1_5), (0, .ref m0)]) hx hb d_M_put_306 hl (k := 0) rfl (by rw [ex91]; rfl) (by decide) rfl (fun ls hl => ?_)
                    refine lv_goto (tgt := 283) hx hb d_M_put_309 (by decide) ?_
                    exact Ge283 _ _ _ (ihL283 x91 work_90 _ _ _ hP hD hS (lv_sub hl [0, 1, 2] rfl) h)
              · replace h := h.2 hc75
                refine lv_aload_n hx hb d_M_put_77 rfl (lv_at hl 1 rfl) ?_
                refine lv_iload_n hx hb d_M_put_78 rfl (lv_at hl 0 rfl) ?_
                have hF92 := va_free (wc := (wM m0 m1 m2 m3 m4 m5 k1 k2 k3 k4 k5 code funs made great_2 up down size rows work xx power)) hD hS hA [0, 1, 2, 3, 4, 5] rfl
                refine va_calli (va_runV (As := [.int v1_5]) (rest := []) ⟨hx, hb, hml, hown, hB⟩ (c_M_order l D m0 m1 m2 m3 m4 m5 k1 k2 k3 k4 k5 H.size code funs made great_2 up down size rows work xx power v1_5 _) (cwV 1 hB (goodV wd_384 wd_385 wd_512 wd_3 wd_386) rfl rfl rfl (by decide +kernel) ⟨Nat.le_of_ble_eq_true rfl, Nat.le_of_ble_eq_true rfl⟩) ⟨pcG_blind, va_recv hK hP (ci := 2) (q0 := 0) rfl rfl, pcG_pre hP hK hD h⟩ rfl rfl hl.1 rfl (lv_room (Nat.le_of_ble_eq_true rfl)) d_M_put_79 ⟨Nat.le_of_ble_eq_true rfl, Nat.le_of_ble_eq_true rfl⟩) hS (fun q _ h => hF92 q h) hF92 (fun r93 u t H locs ht hvm h hB hz1 hk1 hS => ?_)
                obtain ⟨hP1, hK1, hD1⟩ := hB
                rw [ht] at hP1
                have hP : va_P D vwCl (wM m0 m1 m2 m3 m4 m5 k1 k2 k3 k4 k5 code funs made great_2 up down size rows work xx power) H := hP1
                have hD : va_D A (wM m0 m1 m2 m3 m4 m5 k1 k2 k3 k4 k5 code funs made great_2 up down size rows work xx power) := hD1.weaken (fun _ _ _ hq => hF92 _ hq)
                refine lv_if_ne (tgt := 273) hx hb d_M_put_82 (by decide) (fun hc94 => ?_) (fun hc94 => ?_)
                · replace h := h.1 hc94
                  refine lv_bipush (v := 7) hx hb d_M_put_273 (by decide) ?_
                  refine lv_aload_n hx hb d_M_put_275 rfl (lv_at hl 1 rfl) ?_
                  refine va_get (D := D) (ci := 2) (v := .int made) (C := R_M) (T := F_M) (N := 11) hx hb hB inF_M hown hK hP 0 rfl rfl 4 (by decide) (hB _ wd_342) (fun _ h9 => h9) rfl d_M_put_276 ?_
                  refine lv_imul hx hb d_M_put_279 ?_
                  refine lv_iconst (v := 1) hx hb d_M_put_280 (by decide) ?_
                  refine lv_isub hx hb d_M_put_281 ?_
                  refine lv_topi (fun x95 ex95 => ?_)
                  replace h := h x95 ex95
                  refine lv_istore_n (lv' := [(2, .int x95), (1, .int v1_5), (0, .ref m0)]) hx hb d_M_put_282 rfl hl (by decide) rfl (fun ls hl => ?_)
                  obtain ⟨n283, h⟩ := h
                  refine W.cap (fun G283 Gi283 Ge283 => ?_)
                  suffices hL283 : ∀ (n283 : Nat) (v2_96 : Int32) (work_97 : (Nat → Int32)) (H : Heap) (locs : List Loc) (ls : Array Slot), va_P D vwCl (wM m0 m1 m2 m3 m4 m5 k1 k2 k3 k4 k5 code funs made great_2 up down size rows work_97 xx power) H → va_D A (wM m0 m1 m2 m3 m4 m5 k1 k2 k3 k4 k5 code funs made great_2 up down size rows work_97 xx power) → va_S A s.heap H locs → lv_has ls 7 [(2, .int v2_96), (1, .int v1_5), (0, .ref m0)] → lpW2 (wb_M_put_283 v1_5 made post great_2 up down xx) n283 v2_96 work_97 → G283 H locs (F0 m 283 ls []) from hL283 n283 x95 work _ _ _ hP hD hS hl h
                  clear h hP hD hS hl
                  intro n283
                  induction n283 with
                  | zero => intro v2_96 work_97 H locs ls hP hD hS hl h; exact (show False from h).elim
                  | succ n283 ihL283 =>
                    intro v2_96 work_97 H locs ls hP hD hS hl h
                    replace h : (wb_M_put_283 v1_5 made post great_2 up down xx) (lpW2 (wb_M_put_283 v1_5 made post great_2 up down xx) n283) v2_96 work_97 := h
                    refine Gi283 _ _ _ ?_
                    refine lv_iload_n hx hb d_M_put_283 rfl (lv_at hl 0 rfl) ?_
                    refine lv_bipush (v := 7) hx hb d_M_put_284 (by decide) ?_
                    refine lv_iload_n hx hb d_M_put_286 rfl (lv_at hl 1 rfl) ?_
                    refine lv_imul hx hb d_M_put_287 ?_
                    refine lv_icmp_lt (tgt := 312) hx hb d_M_put_288 (by decide) (fun hc98 => ?_) (fun hc98 => ?_)
                    · replace h := h.1 hc98
                      refine lv_aload_n hx hb d_M_put_312 rfl (lv_at hl 2 rfl) ?_
                      refine lv_dup hx hb d_M_put_313 rfl ?_
                      refine va_get (D := D) (ci := 2) (v := .int made) (C := R_M) (T := F_M) (N := 11) hx hb hB inF_M hown hK hP 0 rfl rfl 4 (by decide) (hB _ wd_342) (fun _ h9 => h9) rfl d_M_put_314 ?_
                      refine lv_iconst (v := 1) hx hb d_M_put_317 (by decide) ?_
                      refine lv_iadd hx hb d_M_put_318 ?_
                      refine lv_topi (fun x99 ex99 => ?_)
                      replace h := h x99 ex99
                      refine va_put (D := D) (ci := 2) (v := .int x99) (ty := .int) (C := R_M) (T := F_M) (N := 11) hx hb hB inF_M t_M t_M_ok n_M hown hK hP hD hS 0 rfl rfl 4 (by decide) (hB _ wd_342) (fun _ h9 => h9) rfl (by decide +kernel) rfl rfl (Nat.le_of_ble_eq_true rfl) d_M_put_319 (fun H locs hP hD hS => ?_)
                      have hP : va_P D vwCl (wM m0 m1 m2 m3 m4 m5 k1 k2 k3 k4 k5 code funs x99 great_2 up down size rows work_97 xx power) H := hP
                      have hD : va_D A (wM m0 m1 m2 m3 m4 m5 k1 k2 k3 k4 k5 code funs x99 great_2 up down size rows work_97 xx power) := hD
                      refine lv_iconst (v := 0) hx hb d_M_put_322 (by decide) ?_
                      refine lv_istore_n (lv' := [(2, .int 0), (1, .int v1_5), (0, .ref m0)]) hx hb d_M_put_323 rfl hl (by decide) rfl (fun ls hl => ?_)
                      obtain ⟨n324, h⟩ := h
                      refine W.cap (fun G324 Gi324 Ge324 => ?_)
                      suffices hL324 : ∀ (n324 : Nat) (v2_100 : Int32) (work_101 : (Nat → Int32)) (H : Heap) (locs : List Loc) (ls : Array Slot), va_P D vwCl (wM m0 m1 m2 m3 m4 m5 k1 k2 k3 k4 k5 code funs x99 great_2 up down size rows work_101 xx power) H → va_D A (wM m0 m1 m2 m3 m4 m5 k1 k2 k3 k4 k5 code funs x99 great_2 up down size rows work_101 xx power) → va_S A s.heap H locs → lv_has ls 7 [(2, .int v2_100), (1, .int v1_5), (0, .ref m0)] → lpW2 (wb_M_put_324 post x99 great_2 up down v1_5 xx) n324 v2_100 work_101 → G324 H locs (F0 m 324 ls []) from hL324 n324 (0 : Int32) work_97 _ _ _ hP hD hS hl h
                      clear h hP hD hS hl
                      intro n324
                      induction n324 with
                      | zero => intro v2_100 work_101 H locs ls hP hD hS hl h; exact (show False from h).elim
                      | succ n324 ihL324 =>
                        intro v2_100 work_101 H locs ls hP hD hS hl h
                        replace h : (wb_M_put_324 post x99 great_2 up down v1_5 xx) (lpW2 (wb_M_put_324 post x99 great_2 up down v1_5 xx) n324) v2_100 work_101 := h
                        refine Gi324 _ _ _ ?_
                        refine lv_iload_n hx hb d_M_put_324 rfl (lv_at hl 0 rfl) ?_
                        refine lv_bipush (v := 7) hx hb d_M_put_325 (by decide) ?_
                        refine lv_icmp_ge (tgt := 353) hx hb d_M_put_327 (by decide) (fun hc102 => ?_) (fun hc102 => ?_)
                        · replace h := h.1 hc102
                          exact W.vret hx hb hr (fun t ht hW => ⟨⟨(x99, great_2, up, down, work_101), rfl, h, by rw [ht]; exact hP, va_K.moved hW.alike hK, hD⟩, hS.F ht⟩) hS.2.2 d_M_put_353
                        · replace h := h.2 hc102
                          refine lv_aload_n hx hb d_M_put_330 rfl (lv_at hl 2 rfl) ?_
                          refine va_get (D := D) (ci := 2) (v := .ref m3) (C := R_M) (T := F_M) (N := 11) hx hb hB inF_M hown hK hP 0 rfl rfl 5 (by decide) (hB _ wd_343) (fun _ h9 => h9) rfl d_M_put_331 ?_
                          refine lv_bipush (v := 7) hx hb d_M_put_334 (by decide) ?_
                          refine lv_iload_n hx hb d_M_put_336 rfl (lv_at hl 1 rfl) ?_
                          refine lv_imul hx hb d_M_put_337 ?_
                          refine lv_iload_n hx hb d_M_put_338 rfl (lv_at hl 0 rfl) ?_
                          refine lv_iadd hx hb d_M_put_339 ?_
                          refine lv_aload_n hx hb d_M_put_340 rfl (lv_at hl 2 rfl) ?_
                          refine va_get (D := D) (ci := 2) (v := .ref m4) (C := R_M) (T := F_M) (N := 11) hx hb hB inF_M hown hK hP 0 rfl rfl 7 (by decide) (hB _ wd_345) (fun _ h9 => h9) rfl d_M_put_341 ?_
                          refine lv_iload_n hx hb d_M_put_344 rfl (lv_at hl 0 rfl) ?_
                          obtain ⟨g103, h⟩ := h
                          refine va_iald hx hb hK hP 4 3 rfl rfl g103 d_M_put_345 ?_
                          obtain ⟨g104, h⟩ := h
                          obtain ⟨work_105, ework_105⟩ : ∃ z : (Nat → Int32), z = upd work_101 ((7 * v1_5) + v2_100).toNatClampNeg (xx v2_100.toNatClampNeg) := ⟨_, rfl⟩
                          replace h := h work_105 ework_105
                          refine va_iast hx hb hK hP hD hS 3 2 rfl rfl g104 d_M_put_346 (fun H locs hP hD hS => ?_)
                          have hP : va_P D vwCl (wM m0 m1 m2 m3 m4 m5 k1 k2 k3 k4 k5 code funs x99 great_2 up down size rows work_105 xx power) H := by rw [ework_105]; exact hP
                          have hD : va_D A (wM m0 m1 m2 m3 m4 m5 k1 k2 k3 k4 k5 code funs x99 great_2 up down size rows work_105 xx power) := by rw [ework_105]; exact hD
                          obtain ⟨x106, ex106⟩ : ∃ z : Int32, z = v2_100 + 1 := ⟨_, rfl⟩
                          replace h := h x106 ex106
                          refine lv_iinc (v := x106) (lv' := [(2, .int x106), (1, .int v1_5), (0, .ref m0)]) hx hb d_M_put_347 hl (k := 0) rfl (by rw [ex106]; rfl) (by decide) rfl (fun ls hl => ?_)
                          refine lv_goto (tgt := 324) hx hb d_M_put_350 (by decide) ?_
                          exact Ge324 _ _ _ (ihL324 x106 work_105 _ _ _ hP hD hS (lv_sub hl [0, 1, 2] rfl) h)
                    · replace h := h.2 hc98
                      refine lv_aload_n hx hb d_M_put_291 rfl (lv_at hl 2 rfl) ?_
                      refine va_get (D := D) (ci := 2) (v := .ref m3) (C := R_M) (T := F_M) (N := 11) hx hb hB inF_M hown hK hP 0 rfl rfl 5 (by decide) (hB _ wd_343) (fun _ h9 => h9) rfl d_M_put_292 ?_
                      refine lv_iload_n hx hb d_M_put_295 rfl (lv_at hl 0 rfl) ?_
                      refine lv_bipush (v := 7) hx hb d_M_put_296 (by decide) ?_
                      refine lv_iadd hx hb d_M_put_298 ?_
                      refine lv_aload_n hx hb d_M_put_299 rfl (lv_at hl 2 rfl) ?_
                      refine va_get (D := D) (ci := 2) (v := .ref m3) (C := R_M) (T := F_M) (N := 11) hx hb hB inF_M hown hK hP 0 rfl rfl 5 (by decide) (hB _ wd_343) (fun _ h9 => h9) rfl d_M_put_300 ?_
                      refine lv_iload_n hx hb d_M_put_303 rfl (lv_at hl 0 rfl) ?_
                      obtain ⟨g107, h⟩ := h
                      refine va_iald hx hb hK hP 3 2 rfl rfl g107 d_M_put_304 ?_
                      obtain ⟨g108, h⟩ := h
                      obtain ⟨work_109, ework_109⟩ : ∃ z : (Nat → Int32), z = upd work_97 (v2_96 + 7).toNatClampNeg (work_97 v2_96.toNatClampNeg) := ⟨_, rfl⟩
                      replace h := h work_109 ework_109
                      refine va_iast hx hb hK hP hD hS 3 2 rfl rfl g108 d_M_put_305 (fun H locs hP hD hS => ?_)
                      have hP : va_P D vwCl (wM m0 m1 m2 m3 m4 m5 k1 k2 k3 k4 k5 code funs made great_2 up down size rows work_109 xx power) H := by rw [ework_109]; exact hP
                      have hD : va_D A (wM m0 m1 m2 m3 m4 m5 k1 k2 k3 k4 k5 code funs made great_2 up down size rows work_109 xx power) := by rw [ework_109]; exact hD
                      obtain ⟨x110, ex110⟩ : ∃ z : Int32, z = v2_96 + (-1) := ⟨_, rfl⟩
                      replace h := h x110 ex110
                      refine lv_iinc (v := x110) (lv' := [(2, .int x110), (1, .int v1_5), (0, .ref m0)]) hx hb d_M_put_306 hl (k := 0) rfl (by rw [ex110]; rfl) (by decide) rfl (fun ls hl => ?_)
                      refine lv_goto (tgt := 283) hx hb d_M_put_309 (by decide) ?_
                      exact Ge283 _ _ _ (ihL283 x110 work_109 _ _ _ hP hD hS (lv_sub hl [0, 1, 2] rfl) h)
                · replace h := h.2 hc94
                  refine lv_aload_n hx hb d_M_put_85 rfl (lv_at hl 1 rfl) ?_
                  refine va_get (D := D) (ci := 2) (v := .ref m3) (C := R_M) (T := F_M) (N := 11) hx hb hB inF_M hown hK hP 0 rfl rfl 5 (by decide) (hB _ wd_343) (fun _ h9 => h9) rfl d_M_put_86 ?_
                  refine lv_bipush (v := 7) hx hb d_M_put_89 (by decide) ?_
                  refine lv_iload_n hx hb d_M_put_91 rfl (lv_at hl 0 rfl) ?_
                  refine lv_imul hx hb d_M_put_92 ?_
                  refine lv_iconst (v := 5) hx hb d_M_put_93 (by decide) ?_
                  refine lv_iadd hx hb d_M_put_94 ?_
                  obtain ⟨g111, h⟩ := h
                  refine va_iald hx hb hK hP 3 2 rfl rfl g111 d_M_put_95 ?_
                  refine lv_i2l hx hb d_M_put_96 rfl ?_
                  refine lv_topl (fun x112 ex112 => ?_)
                  replace h := h x112 ex112
                  refine lv_lstore_n (lv' := [(2, .long x112), (1, .int v1_5), (0, .ref m0)]) hx hb d_M_put_97 rfl hl (by decide) rfl (fun ls hl => ?_)
                  refine lv_aload_n hx hb d_M_put_98 rfl (lv_at hl 2 rfl) ?_
                  refine va_get (D := D) (ci := 2) (v := .ref m3) (C := R_M) (T := F_M) (N := 11) hx hb hB inF_M hown hK hP 0 rfl rfl 5 (by decide) (hB _ wd_343) (fun _ h9 => h9) rfl d_M_put_99 ?_
                  refine lv_bipush (v := 7) hx hb d_M_put_102 (by decide) ?_
                  refine lv_iload_n hx hb d_M_put_104 rfl (lv_at hl 1 rfl) ?_
                  refine lv_imul hx hb d_M_put_105 ?_
                  refine lv_bipush (v := 6) hx hb d_M_put_106 (by decide) ?_
                  refine lv_iadd hx hb d_M_put_108 ?_
                  obtain ⟨g113, h⟩ := h
                  refine va_iald hx hb hK hP 3 2 rfl rfl g113 d_M_put_109 ?_
                  refine lv_i2l hx hb d_M_put_110 rfl ?_
                  refine lv_topl (fun x114 ex114 => ?_)
                  replace h := h x114 ex114
                  refine lv_lstore (lv' := [(4, .long x114), (2, .long x112), (1, .int v1_5), (0, .ref m0)]) hx hb d_M_put_111 hl (by decide) rfl (fun ls hl => ?_)
                  refine lv_lload_n hx hb d_M_put_113 rfl (lv_at hl 1 rfl) ?_
                  refine lv_aload_n hx hb d_M_put_114 rfl (lv_at hl 3 rfl) ?_
                  refine va_get (D := D) (ci := 2) (v := .ref m4) (C := R_M) (T := F_M) (N := 11) hx hb hB inF_M hown hK hP 0 rfl rfl 7 (by decide) (hB _ wd_345) (fun _ h9 => h9) rfl d_M_put_115 ?_
                  refine lv_bipush (v := 6) hx hb d_M_put_118 (by decide) ?_
                  obtain ⟨g115, h⟩ := h
                  refine va_iald hx hb hK hP 4 3 rfl rfl g115 d_M_put_120 ?_
                  refine lv_i2l hx hb d_M_put_121 rfl ?_
                  refine lv_lmul hx hb d_M_put_122 ?_
                  refine lv_aload_n hx hb d_M_put_123 rfl (lv_at hl 3 rfl) ?_
                  refine va_get (D := D) (ci := 2) (v := .ref m4) (C := R_M) (T := F_M) (N := 11) hx hb hB inF_M hown hK hP 0 rfl rfl 7 (by decide) (hB _ wd_345) (fun _ h9 => h9) rfl d_M_put_124 ?_
                  refine lv_iconst (v := 5) hx hb d_M_put_127 (by decide) ?_
                  obtain ⟨g116, h⟩ := h
                  refine va_iald hx hb hK hP 4 3 rfl rfl g116 d_M_put_128 ?_
                  refine lv_i2l hx hb d_M_put_129 rfl ?_
                  refine lv_lload hx hb d_M_put_130 (lv_at hl 0 rfl) ?_
                  refine lv_lmul hx hb d_M_put_132 ?_
                  refine lv_ladd hx hb d_M_put_133 ?_
                  refine lv_lconst (v := 0) hx hb d_M_put_134 (by decide) ?_
                  refine W.lcmp hx hb d_M_put_135 ?_
                  refine lv_if_ne (tgt := 191) hx hb d_M_put_136 (by decide) (fun hc117 => ?_) (fun hc117 => ?_)
                  · replace h := h.1 hc117
                    refine lv_aload_n hx hb d_M_put_191 rfl (lv_at hl 3 rfl) ?_
                    refine lv_lload_n hx hb d_M_put_192 rfl (lv_at hl 1 rfl) ?_
                    refine lv_aload_n hx hb d_M_put_193 rfl (lv_at hl 3 rfl) ?_
                    refine va_get (D := D) (ci := 2) (v := .ref m4) (C := R_M) (T := F_M) (N := 11) hx hb hB inF_M hown hK hP 0 rfl rfl 7 (by decide) (hB _ wd_345) (fun _ h9 => h9) rfl d_M_put_194 ?_
                    refine lv_bipush (v := 6) hx hb d_M_put_197 (by decide) ?_
                    obtain ⟨g118, h⟩ := h
                    refine va_iald hx hb hK hP 4 3 rfl rfl g118 d_M_put_199 ?_
                    refine lv_i2l hx hb d_M_put_200 rfl ?_
                    refine lv_lmul hx hb d_M_put_201 ?_
                    refine lv_aload_n hx hb d_M_put_202 rfl (lv_at hl 3 rfl) ?_
                    refine va_get (D := D) (ci := 2) (v := .ref m4) (C := R_M) (T := F_M) (N := 11) hx hb hB inF_M hown hK hP 0 rfl rfl 7 (by decide) (hB _ wd_345) (fun _ h9 => h9) rfl d_M_put_203 ?_
                    refine lv_iconst (v := 5) hx hb d_M_put_206 (by decide) ?_
                    obtain ⟨g119, h⟩ := h
                    refine va_iald hx hb hK hP 4 3 rfl rfl g119 d_M_put_207 ?_
                    refine lv_i2l hx hb d_M_put_208 rfl ?_
                    refine lv_lload hx hb d_M_put_209 (lv_at hl 0 rfl) ?_
                    refine lv_lmul hx hb d_M_put_211 ?_
                    refine lv_ladd hx hb d_M_put_212 ?_
                    refine lv_lload hx hb d_M_put_213 (lv_at hl 0 rfl) ?_
                    refine lv_aload_n hx hb d_M_put_215 rfl (lv_at hl 3 rfl) ?_
                    refine va_get (D := D) (ci := 2) (v := .ref m4) (C := R_M) (T := F_M) (N := 11) hx hb hB inF_M hown hK hP 0 rfl rfl 7 (by decide) (hB _ wd_345) (fun _ h9 => h9) rfl d_M_put_216 ?_
                    refine lv_bipush (v := 6) hx hb d_M_put_219 (by decide) ?_
                    obtain ⟨g120, h⟩ := h
                    refine va_iald hx hb hK hP 4 3 rfl rfl g120 d_M_put_221 ?_
                    refine lv_i2l hx hb d_M_put_222 rfl ?_
                    refine lv_lmul hx hb d_M_put_223 ?_
                    have hF121 := va_free (wc := (wM m0 m1 m2 m3 m4 m5 k1 k2 k3 k4 k5 code funs made great_2 up down size rows work xx power)) hD hS hA [0, 1, 2, 3, 4, 5] rfl
                    refine va_callv (va_runV (As := [.long ((x112 * ((xx (6 : Int32).toNatClampNeg).toInt64)) + (((xx (5 : Int32).toNatClampNeg).toInt64) * x114)), .long (x114 * ((xx (6 : Int32).toNatClampNeg).toInt64))]) (rest := []) ⟨hx, hb, hml, hown, hB⟩ (c_M_lowest l D m0 m1 m2 m3 m4 m5 k1 k2 k3 k4 k5 H.size code funs made great_2 up down size rows work xx power ((x112 * ((xx (6 : Int32).toNatClampNeg).toInt64)) + (((xx (5 : Int32).toNatClampNeg).toInt64) * x114)) (x114 * ((xx (6 : Int32).toNatClampNeg).toInt64)) _) (cwV 2 hB (goodV wd_363 wd_364 wd_509 wd_3 wd_365) rfl rfl rfl (by decide +kernel) ⟨Nat.le_of_ble_eq_true rfl, Nat.le_of_ble_eq_true rfl⟩) ⟨pcG_blind, va_recv hK hP (ci := 2) (q0 := 0) rfl rfl, pcG_pre hP hK hD h⟩ rfl rfl hl.1 rfl (lv_room (Nat.le_of_ble_eq_true rfl)) d_M_put_224 ⟨Nat.le_of_ble_eq_true rfl, Nat.le_of_ble_eq_true rfl⟩) hS (fun q _ h => hF121 q h) hF121 (fun u t H locs ht hvm h hB hz1 hk1 hS => ?_)
                    obtain ⟨up_122, down_123⟩ := u
                    obtain ⟨hP1, hK1, hD1⟩ := hB
                    rw [ht] at hP1
                    have hP : va_P D vwCl (wM m0 m1 m2 m3 m4 m5 k1 k2 k3 k4 k5 code funs made great_2 up_122 down_123 size rows work xx power) H := hP1
                    have hD : va_D A (wM m0 m1 m2 m3 m4 m5 k1 k2 k3 k4 k5 code funs made great_2 up_122 down_123 size rows work xx power) := hD1.weaken (fun _ _ _ hq => hF121 _ hq)
                    refine lv_aload_n hx hb d_M_put_227 rfl (lv_at hl 3 rfl) ?_
                    have hF124 := va_free (wc := (wM m0 m1 m2 m3 m4 m5 k1 k2 k3 k4 k5 code funs made great_2 up_122 down_123 size rows work xx power)) hD hS hA [0, 1, 2, 3, 4, 5] rfl
                    refine va_callv (va_runV (As := []) (rest := []) ⟨hx, hb, hml, hown, hB⟩ (c_M_bound l D m0 m1 m2 m3 m4 m5 k1 k2 k3 k4 k5 H.size code funs made great_2 up_122 down_123 size rows work xx power _) (cwV 0 hB (goodV wd_372 wd_373 wd_510 wd_3 wd_374) rfl rfl rfl (by decide +kernel) ⟨Nat.le_of_ble_eq_true rfl, Nat.le_of_ble_eq_true rfl⟩) ⟨pcG_blind, va_recv hK hP (ci := 2) (q0 := 0) rfl rfl, pcG_pre hP hK hD h⟩ rfl rfl hl.1 rfl (lv_room (Nat.le_of_ble_eq_true rfl)) d_M_put_228 ⟨Nat.le_of_ble_eq_true rfl, Nat.le_of_ble_eq_true rfl⟩) hS (fun q _ h => hF124 q h) hF124 (fun great_125 t H locs ht hvm h hB hz1 hk1 hS => ?_)
                    obtain ⟨hP1, hK1, hD1⟩ := hB
                    rw [ht] at hP1
                    have hP : va_P D vwCl (wM m0 m1 m2 m3 m4 m5 k1 k2 k3 k4 k5 code funs made great_125 up_122 down_123 size rows work xx power) H := hP1
                    have hD : va_D A (wM m0 m1 m2 m3 m4 m5 k1 k2 k3 k4 k5 code funs made great_125 up_122 down_123 size rows work xx power) := hD1.weaken (fun _ _ _ hq => hF124 _ hq)
                    refine lv_aload_n hx hb d_M_put_231 rfl (lv_at hl 3 rfl) ?_
                    refine va_get (D := D) (ci := 2) (v := .int great_125) (C := R_M) (T := F_M) (N := 11) hx hb hB inF_M hown hK hP 0 rfl rfl 6 (by decide) (hB _ wd_344) (fun _ h9 => h9) rfl d_M_put_232 ?_
                    refine lv_if_eq (tgt := 239) hx hb d_M_put_235 (by decide) (fun hc126 => ?_) (fun hc126 => ?_)
                    · replace h := h.1 hc126
                      refine lv_aload_n hx hb d_M_put_239 rfl (lv_at hl 3 rfl) ?_
                      refine va_get (D := D) (ci := 2) (v := .ref m3) (C := R_M) (T := F_M) (N := 11) hx hb hB inF_M hown hK hP 0 rfl rfl 5 (by decide) (hB _ wd_343) (fun _ h9 => h9) rfl d_M_put_240 ?_
                      refine lv_bipush (v := 7) hx hb d_M_put_243 (by decide) ?_
                      refine lv_iload_n hx hb d_M_put_245 rfl (lv_at hl 2 rfl) ?_
                      refine lv_imul hx hb d_M_put_246 ?_
                      refine lv_iconst (v := 5) hx hb d_M_put_247 (by decide) ?_
                      refine lv_iadd hx hb d_M_put_248 ?_
                      refine lv_aload_n hx hb d_M_put_249 rfl (lv_at hl 3 rfl) ?_
                      refine va_get (D := D) (ci := 2) (v := .long up_122) (C := R_M) (T := F_M) (N := 11) hx hb hB inF_M hown hK hP 0 rfl rfl 9 (by decide) (hB _ wd_347) (fun _ h9 => h9) rfl d_M_put_250 ?_
                      refine lv_l2i hx hb d_M_put_253 rfl ?_
                      obtain ⟨g127, h⟩ := h
                      obtain ⟨work_128, ework_128⟩ : ∃ z : (Nat → Int32), z = upd work ((7 * v1_5) + 5).toNatClampNeg (up_122.toInt32) := ⟨_, rfl⟩
                      replace h := h work_128 ework_128
                      refine va_iast hx hb hK hP hD hS 3 2 rfl rfl g127 d_M_put_254 (fun H locs hP hD hS => ?_)
                      have hP : va_P D vwCl (wM m0 m1 m2 m3 m4 m5 k1 k2 k3 k4 k5 code funs made great_125 up_122 down_123 size rows work_128 xx power) H := by rw [ework_128]; exact hP
                      have hD : va_D A (wM m0 m1 m2 m3 m4 m5 k1 k2 k3 k4 k5 code funs made great_125 up_122 down_123 size rows work_128 xx power) := by rw [ework_128]; exact hD
                      refine lv_aload_n hx hb d_M_put_255 rfl (lv_at hl 3 rfl) ?_
                      refine va_get (D := D) (ci := 2) (v := .ref m3) (C := R_M) (T := F_M) (N := 11) hx hb hB inF_M hown hK hP 0 rfl rfl 5 (by decide) (hB _ wd_343) (fun _ h9 => h9) rfl d_M_put_256 ?_
                      refine lv_bipush (v := 7) hx hb d_M_put_259 (by decide) ?_
                      refine lv_iload_n hx hb d_M_put_261 rfl (lv_at hl 2 rfl) ?_
                      refine lv_imul hx hb d_M_put_262 ?_
                      refine lv_bipush (v := 6) hx hb d_M_put_263 (by decide) ?_
                      refine lv_iadd hx hb d_M_put_265 ?_
                      refine lv_aload_n hx hb d_M_put_266 rfl (lv_at hl 3 rfl) ?_
                      refine va_get (D := D) (ci := 2) (v := .long down_123) (C := R_M) (T := F_M) (N := 11) hx hb hB inF_M hown hK hP 0 rfl rfl 10 (by decide) (hB _ wd_348) (fun _ h9 => h9) rfl d_M_put_267 ?_
                      refine lv_l2i hx hb d_M_put_270 rfl ?_
                      obtain ⟨g129, h⟩ := h
                      obtain ⟨work_130, ework_130⟩ : ∃ z : (Nat → Int32), z = upd work_128 ((7 * v1_5) + 6).toNatClampNeg (down_123.toInt32) := ⟨_, rfl⟩
                      replace h := h work_130 ework_130
                      refine va_iast hx hb hK hP hD hS 3 2 rfl rfl g129 d_M_put_271 (fun H locs hP hD hS => ?_)
                      have hP : va_P D vwCl (wM m0 m1 m2 m3 m4 m5 k1 k2 k3 k4 k5 code funs made great_125 up_122 down_123 size rows work_130 xx power) H := by rw [ework_130]; exact hP
                      have hD : va_D A (wM m0 m1 m2 m3 m4 m5 k1 k2 k3 k4 k5 code funs made great_125 up_122 down_123 size rows work_130 xx power) := by rw [ework_130]; exact hD
                      exact W.vret hx hb hr (fun t ht hW => ⟨⟨(made, great_125, up_122, down_123, work_130), rfl, h, by rw [ht]; exact hP, va_K.moved hW.alike hK, hD⟩, hS.F ht⟩) hS.2.2 d_M_put_272
                    · replace h := h.2 hc126
                      exact W.vret hx hb hr (fun t ht hW => ⟨⟨(made, great_125, up_122, down_123, work), rfl, h, by rw [ht]; exact hP, va_K.moved hW.alike hK, hD⟩, hS.F ht⟩) hS.2.2 d_M_put_238
                  · replace h := h.2 hc117
                    refine lv_aload_n hx hb d_M_put_139 rfl (lv_at hl 3 rfl) ?_
                    refine lv_dup hx hb d_M_put_140 rfl ?_
                    refine va_get (D := D) (ci := 2) (v := .int made) (C := R_M) (T := F_M) (N := 11) hx hb hB inF_M hown hK hP 0 rfl rfl 4 (by decide) (hB _ wd_342) (fun _ h9 => h9) rfl d_M_put_141 ?_
                    refine lv_iconst (v := 1) hx hb d_M_put_144 (by decide) ?_
                    refine lv_isub hx hb d_M_put_145 ?_
                    refine lv_topi (fun x131 ex131 => ?_)
                    replace h := h x131 ex131
                    refine va_put (D := D) (ci := 2) (v := .int x131) (ty := .int) (C := R_M) (T := F_M) (N := 11) hx hb hB inF_M t_M t_M_ok n_M hown hK hP hD hS 0 rfl rfl 4 (by decide) (hB _ wd_342) (fun _ h9 => h9) rfl (by decide +kernel) rfl rfl (Nat.le_of_ble_eq_true rfl) d_M_put_146 (fun H locs hP hD hS => ?_)
                    have hP : va_P D vwCl (wM m0 m1 m2 m3 m4 m5 k1 k2 k3 k4 k5 code funs x131 great_2 up down size rows work xx power) H := hP
                    have hD : va_D A (wM m0 m1 m2 m3 m4 m5 k1 k2 k3 k4 k5 code funs x131 great_2 up down size rows work xx power) := hD
                    refine lv_bipush (v := 7) hx hb d_M_put_149 (by decide) ?_
                    refine lv_iload_n hx hb d_M_put_151 rfl (lv_at hl 2 rfl) ?_
                    refine lv_imul hx hb d_M_put_152 ?_
                    refine lv_topi (fun x132 ex132 => ?_)
                    replace h := h x132 ex132
                    refine lv_istore (lv' := [(6, .int x132), (4, .long x114), (2, .long x112), (1, .int v1_5), (0, .ref m0)]) hx hb d_M_put_153 hl (by decide) rfl (fun ls hl => ?_)
                    obtain ⟨n155, h⟩ := h
                    refine W.cap (fun G155 Gi155 Ge155 => ?_)
                    suffices hL155 : ∀ (n155 : Nat) (v6_133 : Int32) (work_134 : (Nat → Int32)) (H : Heap) (locs : List Loc) (ls : Array Slot), va_P D vwCl (wM m0 m1 m2 m3 m4 m5 k1 k2 k3 k4 k5 code funs x131 great_2 up down size rows work_134 xx power) H → va_D A (wM m0 m1 m2 m3 m4 m5 k1 k2 k3 k4 k5 code funs x131 great_2 up down size rows work_134 xx power) → va_S A s.heap H locs → lv_has ls 7 [(6, .int v6_133), (4, .long x114), (2, .long x112), (1, .int v1_5), (0, .ref m0)] → lpW2 (wb_M_put_155 x131 post great_2 up down) n155 v6_133 work_134 → G155 H locs (F0 m 155 ls []) from hL155 n155 x132 work _ _ _ hP hD hS hl h
                    clear h hP hD hS hl
                    intro n155
                    induction n155 with
                    | zero => intro v6_133 work_134 H locs ls hP hD hS hl h; exact (show False from h).elim
                    | succ n155 ihL155 =>
                      intro v6_133 work_134 H locs ls hP hD hS hl h
                      replace h : (wb_M_put_155 x131 post great_2 up down) (lpW2 (wb_M_put_155 x131 post great_2 up down) n155) v6_133 work_134 := h
                      refine Gi155 _ _ _ ?_
                      refine lv_iload hx hb d_M_put_155 (lv_at hl 0 rfl) ?_
                      refine lv_bipush (v := 7) hx hb d_M_put_157 (by decide) ?_
                      refine lv_aload_n hx hb d_M_put_159 rfl (lv_at hl 4 rfl) ?_
                      refine va_get (D := D) (ci := 2) (v := .int x131) (C := R_M) (T := F_M) (N := 11) hx hb hB inF_M hown hK hP 0 rfl rfl 4 (by decide) (hB _ wd_342) (fun _ h9 => h9) rfl d_M_put_160 ?_
                      refine lv_imul hx hb d_M_put_163 ?_
                      refine lv_icmp_ge (tgt := 190) hx hb d_M_put_164 (by decide) (fun hc135 => ?_) (fun hc135 => ?_)
                      · replace h := h.1 hc135
                        exact W.vret hx hb hr (fun t ht hW => ⟨⟨(x131, great_2, up, down, work_134), rfl, h, by rw [ht]; exact hP, va_K.moved hW.alike hK, hD⟩, hS.F ht⟩) hS.2.2 d_M_put_190
                      · replace h := h.2 hc135
                        refine lv_aload_n hx hb d_M_put_167 rfl (lv_at hl 4 rfl) ?_
                        refine va_get (D := D) (ci := 2) (v := .ref m3) (C := R_M) (T := F_M) (N := 11) hx hb hB inF_M hown hK hP 0 rfl rfl 5 (by decide) (hB _ wd_343) (fun _ h9 => h9) rfl d_M_put_168 ?_
                        refine lv_iload hx hb d_M_put_171 (lv_at hl 0 rfl) ?_
                        refine lv_aload_n hx hb d_M_put_173 rfl (lv_at hl 4 rfl) ?_
                        refine va_get (D := D) (ci := 2) (v := .ref m3) (C := R_M) (T := F_M) (N := 11) hx hb hB inF_M hown hK hP 0 rfl rfl 5 (by decide) (hB _ wd_343) (fun _ h9 => h9) rfl d_M_put_174 ?_
                        refine lv_iload hx hb d_M_put_177 (lv_at hl 0 rfl) ?_
                        refine lv_bipush (v := 7) hx hb d_M_put_179 (by decide) ?_
                        refine lv_iadd hx hb d_M_put_181 ?_
                        obtain ⟨g136, h⟩ := h
                        refine va_iald hx hb hK hP 3 2 rfl rfl g136 d_M_put_182 ?_
                        obtain ⟨g137, h⟩ := h
                        obtain ⟨work_138, ework_138⟩ : ∃ z : (Nat → Int32), z = upd work_134 v6_133.toNatClampNeg (work_134 (v6_133 + 7).toNatClampNeg) := ⟨_, rfl⟩
                        replace h := h work_138 ework_138
                        refine va_iast hx hb hK hP hD hS 3 2 rfl rfl g137 d_M_put_183 (fun H locs hP hD hS => ?_)
                        have hP : va_P D vwCl (wM m0 m1 m2 m3 m4 m5 k1 k2 k3 k4 k5 code funs x131 great_2 up down size rows work_138 xx power) H := by rw [ework_138]; exact hP
                        have hD : va_D A (wM m0 m1 m2 m3 m4 m5 k1 k2 k3 k4 k5 code funs x131 great_2 up down size rows work_138 xx power) := by rw [ework_138]; exact hD
                        obtain ⟨x139, ex139⟩ : ∃ z : Int32, z = v6_133 + 1 := ⟨_, rfl⟩
                        replace h := h x139 ex139
                        refine lv_iinc (v := x139) (lv' := [(6, .int x139), (4, .long x114), (2, .long x112), (1, .int v1_5), (0, .ref m0)]) hx hb d_M_put_184 hl (k := 0) rfl (by rw [ex139]; rfl) (by decide) rfl (fun ls hl => ?_)
                        refine lv_goto (tgt := 155) hx hb d_M_put_187 (by decide) ?_
                        exact Ge155 _ _ _ (ihL155 x139 work_138 _ _ _ hP hD hS (lv_sub hl [0, 1, 2, 3, 4] rfl) h)
            · replace h := h.2 hc74
              obtain ⟨x140, ex140⟩ : ∃ z : Int32, z = v1_5 + 1 := ⟨_, rfl⟩
              replace h := h x140 ex140
              refine lv_iinc (v := x140) (lv' := [(1, .int x140), (0, .ref m0)]) hx hb d_M_put_63 hl (k := 0) rfl (by rw [ex140]; rfl) (by decide) rfl (fun ls hl => ?_)
              refine lv_goto (tgt := 47) hx hb d_M_put_66 (by decide) ?_
              exact Ge47 _ _ _ (ihL47 x140 _ _ _ hP hD hS (lv_sub hl [0, 1] rfl) h)
      · replace h := h.2 hc4
        exact W.vret hx hb hr (fun t ht hW => ⟨⟨(made, great_2, up, down, work), rfl, h, by rw [ht]; exact hP, va_K.moved hW.alike hK, hD⟩, hS.F ht⟩) hS.2.2 d_M_put_44
    · replace h := h.2 hc3
      refine lv_aload_n hx hb d_M_put_7 rfl (lv_at hl 1 rfl) ?_
      refine va_get (D := D) (ci := 2) (v := .ref m4) (C := R_M) (T := F_M) (N := 11) hx hb hB inF_M hown hK hP 0 rfl rfl 7 (by decide) (hB _ wd_345) (fun _ h9 => h9) rfl d_M_put_8 ?_
      refine lv_iload_n hx hb d_M_put_11 rfl (lv_at hl 0 rfl) ?_
      obtain ⟨g141, h⟩ := h
      refine va_iald hx hb hK hP 4 3 rfl rfl g141 d_M_put_12 ?_
      refine lv_i2l hx hb d_M_put_13 rfl ?_
      refine lv_ldc2 (v := (-99)) hx hb hown (hB _ wd_379) d_M_put_14 ?_
      refine lv_ldc2 (v := 99) hx hb hown (hB _ wd_380) d_M_put_17 ?_
      have hF142 := va_free (wc := (wM m0 m1 m2 m3 m4 m5 k1 k2 k3 k4 k5 code funs made great_2 up down size rows work xx power)) hD hS hA [0, 1, 2, 3, 4, 5] rfl
      refine va_calli (va_runS (As := [.long ((xx v1_1.toNatClampNeg).toInt64), .long (-99), .long 99]) (rest := []) ⟨hx, hb, hml, hown, hB⟩ (c_M_in l D m0 m1 m2 m3 m4 m5 k1 k2 k3 k4 k5 H.size code funs made great_2 up down size rows work xx power ((xx v1_1.toNatClampNeg).toInt64) (-99) 99 _) (cwS 3 hB (goodS wd_381 wd_382 wd_3 wd_383) rfl rfl rfl (by decide +kernel) ⟨Nat.le_of_ble_eq_true rfl, Nat.le_of_ble_eq_true rfl⟩) ⟨pcG_blind, pcG_pre hP hK hD h⟩ rfl rfl hl.1 rfl (lv_room (Nat.le_of_ble_eq_true rfl)) d_M_put_20 ⟨Nat.le_of_ble_eq_true rfl, Nat.le_of_ble_eq_true rfl⟩) hS (fun q _ h => hF142 q h) hF142 (fun r143 u t H locs ht hvm h hB hz1 hk1 hS => ?_)
      obtain ⟨hP1, hK1, hD1⟩ := hB
      rw [ht] at hP1
      have hP : va_P D vwCl (wM m0 m1 m2 m3 m4 m5 k1 k2 k3 k4 k5 code funs made great_2 up down size rows work xx power) H := hP1
      have hD : va_D A (wM m0 m1 m2 m3 m4 m5 k1 k2 k3 k4 k5 code funs made great_2 up down size rows work xx power) := hD1.weaken (fun _ _ _ hq => hF142 _ hq)
      refine lv_if_ne (tgt := 31) hx hb d_M_put_23 (by decide) (fun hc144 => ?_) (fun hc144 => ?_)
      · replace h := h.1 hc144
        obtain ⟨x145, ex145⟩ : ∃ z : Int32, z = v1_1 + 1 := ⟨_, rfl⟩
        replace h := h x145 ex145
        refine lv_iinc (v := x145) (lv' := [(1, .int x145), (0, .ref m0)]) hx hb d_M_put_31 hl (k := 0) rfl (by rw [ex145]; rfl) (by decide) rfl (fun ls hl => ?_)
        refine lv_goto (tgt := 2) hx hb d_M_put_34 (by decide) ?_
        exact Ge2 _ _ _ (ihL2 x145 great_2 _ _ _ hP hD hS (lv_sub hl [0, 1] rfl) h)
      · replace h := h.2 hc144
        refine lv_aload_n hx hb d_M_put_26 rfl (lv_at hl 1 rfl) ?_
        refine lv_iconst (v := 1) hx hb d_M_put_27 (by decide) ?_
        refine va_put (D := D) (ci := 2) (v := .int 1) (ty := .boolean) (C := R_M) (T := F_M) (N := 11) hx hb hB inF_M t_M t_M_ok n_M hown hK hP hD hS 0 rfl rfl 6 (by decide) (hB _ wd_344) (fun _ h9 => h9) rfl (by decide +kernel) rfl rfl (Nat.le_of_ble_eq_true rfl) d_M_put_28 (fun H locs hP hD hS => ?_)
        have hP : va_P D vwCl (wM m0 m1 m2 m3 m4 m5 k1 k2 k3 k4 k5 code funs made 1 up down size rows work xx power) H := hP
        have hD : va_D A (wM m0 m1 m2 m3 m4 m5 k1 k2 k3 k4 k5 code funs made 1 up down size rows work xx power) := hD
        obtain ⟨x146, ex146⟩ : ∃ z : Int32, z = v1_1 + 1 := ⟨_, rfl⟩
        replace h := h x146 ex146
        refine lv_iinc (v := x146) (lv' := [(1, .int x146), (0, .ref m0)]) hx hb d_M_put_31 hl (k := 0) rfl (by rw [ex146]; rfl) (by decide) rfl (fun ls hl => ?_)
        refine lv_goto (tgt := 2) hx hb d_M_put_34 (by decide) ?_
        exact Ge2 _ _ _ (ihL2 x146 1 _ _ _ hP hD hS (lv_sub hl [0, 1] rfl) h)
set_option maxHeartbeats 4000000 in
set_option maxRecDepth 100000 in
theorem c_M_load (l : Launch) (D : va_G) (m0 m1 m2 m3 m4 m5 : Nat) (k1 k2 k3 k4 k5 : ClassId) (sz : Nat) (code : Int32) (funs : Int32) (made : Int32) (great : Int32) (up : Int64) (down : Int64) (size : (Nat → Int32)) (rows : (Nat → Int32)) (work : (Nat → Int32)) (xx : (Nat → Int32)) (power : (Nat → Int32)) (p0 : Int32) (p1 : Int32) (post : (Nat → Int32) → Prop) : Met l y_M_load (Cond.code y_M_load b_M_load 4 none :: BIG) ({ frames := 1, cells := 0, slots := 0, locals := 23 }) (va_Pc [.ref m0, .int p0, .int p1] (pcG D vwCl (wM m0 m1 m2 m3 m4 m5 k1 k2 k3 k4 k5 code funs made great up down size rows work xx power) [(k1, .int), (k2, .int), (k3, .int), (k4, .int), (k5, .int)] sz (wp_M_load rows xx p0 p1 post))) (va_Qv (fun (u : (Nat → Int32)) => post u) (fun u => atG D vwCl [(k1, .int), (k2, .int), (k3, .int), (k4, .int), (k5, .int)] (va_A (wM m0 m1 m2 m3 m4 m5 k1 k2 k3 k4 k5 code funs made great up down size rows work xx power) sz) (wM m0 m1 m2 m3 m4 m5 k1 k2 k3 k4 k5 code funs made great up down size rows work u power)) (va_A (wM m0 m1 m2 m3 m4 m5 k1 k2 k3 k4 k5 code funs made great up down size rows work xx power) sz)) 0 0 (va_A (wM m0 m1 m2 m3 m4 m5 k1 k2 k3 k4 k5 code funs made great up down size rows work xx power) sz) := by
  refine Met.ofW (cc := b_M_load) (maxL := 4) (ret := none) (by decide) rfl ?_
  intro p e s m args below meth c s₁ B hml hv
  obtain ⟨rfl, hsz, hP, hK, hD0, h⟩ := hv
  have hx := B.exec
  have hb := B.bytes
  have hr := B.returns
  have hB : ∀ w ∈ BIG, w.before _ s = true := fun w h => atoms_spec (ws := (Cond.code y_M_load b_M_load 4 none :: BIG)) B.pre w (List.mem_cons_of_mem _ h)
  have hown : s.vm.findClass R_M = some m.cls := findClass_of_methodNamed B.named
  have hlocks := B.notSynchronized
  subst hsz
  have hD := hD0.self (sz := s.heap.size)
  generalize hAe : va_A (wM m0 m1 m2 m3 m4 m5 k1 k2 k3 k4 k5 code funs made great up down size rows work xx power) s.heap.size = A at hD ⊢
  have hA : ∀ q : Nat, s.heap.size ≤ q → A q := fun q h => by rw [← hAe]; exact Or.inr h
  have hl := lv_entry ([.ref m0, .int p0, .int p1]) (n := 4) (Nat.le_of_ble_eq_true rfl)
  rw [lg_entry_eq]
  generalize (lg_sl ([.ref m0, .int p0, .int p1]) ++ List.replicate (4 - (lg_sl ([.ref m0, .int p0, .int p1])).length) Slot.unset).toArray = ls at hl ⊢
  have hl : lv_has ls 4 [(0, .ref m0), (1, .int p0), (2, .int p1)] := hl
  refine W.cap (fun G Gi Ge => ?_)
  suffices hL : ∀ (H : Heap) (locs : List Loc), va_P D vwCl (wM m0 m1 m2 m3 m4 m5 k1 k2 k3 k4 k5 code funs made great up down size rows work xx power) H → va_S A s.heap H locs → G H locs (F0 m 0 ls []) from hL _ _ hP va_S.rf
  clear hP
  intro H locs hP hS
  refine Gi _ _ _ ?_
  unfold wp_M_load at h
  refine lv_iconst (v := 0) hx hb d_M_load_0 (by decide) ?_
  refine lv_istore_n (lv' := [(3, .int 0), (0, .ref m0), (1, .int p0), (2, .int p1)]) hx hb d_M_load_1 rfl hl (by decide) rfl (fun ls hl => ?_)
  obtain ⟨n2, h⟩ := h
  refine W.cap (fun G2 Gi2 Ge2 => ?_)
  suffices hL2 : ∀ (n2 : Nat) (v3_1 : Int32) (xx_2 : (Nat → Int32)) (H : Heap) (locs : List Loc) (ls : Array Slot), va_P D vwCl (wM m0 m1 m2 m3 m4 m5 k1 k2 k3 k4 k5 code funs made great up down size rows work xx_2 power) H → va_D A (wM m0 m1 m2 m3 m4 m5 k1 k2 k3 k4 k5 code funs made great up down size rows work xx_2 power) → va_S A s.heap H locs → lv_has ls 4 [(3, .int v3_1), (0, .ref m0), (1, .int p0), (2, .int p1)] → lpW2 (wb_M_load_2 post rows p0 p1) n2 v3_1 xx_2 → G2 H locs (F0 m 2 ls []) from hL2 n2 (0 : Int32) xx _ _ _ hP hD hS hl h
  clear h hP hD hS hl
  intro n2
  induction n2 with
  | zero => intro v3_1 xx_2 H locs ls hP hD hS hl h; exact (show False from h).elim
  | succ n2 ihL2 =>
    intro v3_1 xx_2 H locs ls hP hD hS hl h
    replace h : (wb_M_load_2 post rows p0 p1) (lpW2 (wb_M_load_2 post rows p0 p1) n2) v3_1 xx_2 := h
    refine Gi2 _ _ _ ?_
    refine lv_iload_n hx hb d_M_load_2 rfl (lv_at hl 0 rfl) ?_
    refine lv_bipush (v := 7) hx hb d_M_load_3 (by decide) ?_
    refine lv_icmp_ge (tgt := 27) hx hb d_M_load_5 (by decide) (fun hc3 => ?_) (fun hc3 => ?_)
    · replace h := h.1 hc3
      exact W.vret hx hb hr (fun t ht hW => ⟨⟨xx_2, rfl, h, by rw [ht]; exact hP, va_K.moved hW.alike hK, hD⟩, hS.F ht⟩) hS.2.2 d_M_load_27
    · replace h := h.2 hc3
      refine lv_aload_n hx hb d_M_load_8 rfl (lv_at hl 1 rfl) ?_
      refine va_get (D := D) (ci := 2) (v := .ref m4) (C := R_M) (T := F_M) (N := 11) hx hb hB inF_M hown hK hP 0 rfl rfl 7 (by decide) (hB _ wd_345) (fun _ h9 => h9) rfl d_M_load_9 ?_
      refine lv_iload_n hx hb d_M_load_12 rfl (lv_at hl 0 rfl) ?_
      refine lv_aload_n hx hb d_M_load_13 rfl (lv_at hl 1 rfl) ?_
      refine lv_iload_n hx hb d_M_load_14 rfl (lv_at hl 2 rfl) ?_
      refine lv_iload_n hx hb d_M_load_15 rfl (lv_at hl 3 rfl) ?_
      refine lv_iload_n hx hb d_M_load_16 rfl (lv_at hl 0 rfl) ?_
      have hF4 := va_free (wc := (wM m0 m1 m2 m3 m4 m5 k1 k2 k3 k4 k5 code funs made great up down size rows work xx_2 power)) hD hS hA [0, 1, 2, 3, 4, 5] rfl
      refine va_calli (va_runV (As := [.int p0, .int p1, .int v3_1]) (rest := [.int v3_1, .ref m4]) ⟨hx, hb, hml, hown, hB⟩ (c_M_at l D m0 m1 m2 m3 m4 m5 k1 k2 k3 k4 k5 H.size code funs made great up down size rows work xx_2 power p0 p1 v3_1 _) (cwV 3 hB (goodV wd_408 wd_409 wd_517 wd_3 wd_410) rfl rfl rfl (by decide +kernel) ⟨Nat.le_of_ble_eq_true rfl, Nat.le_of_ble_eq_true rfl⟩) ⟨pcG_blind, va_recv hK hP (ci := 2) (q0 := 0) rfl rfl, pcG_pre hP hK hD h⟩ rfl rfl hl.1 rfl (lv_room (Nat.le_of_ble_eq_true rfl)) d_M_load_17 ⟨Nat.le_of_ble_eq_true rfl, Nat.le_of_ble_eq_true rfl⟩) hS (fun q _ h => hF4 q h) hF4 (fun r5 u t H locs ht hvm h hB hz1 hk1 hS => ?_)
      obtain ⟨hP1, hK1, hD1⟩ := hB
      rw [ht] at hP1
      have hP : va_P D vwCl (wM m0 m1 m2 m3 m4 m5 k1 k2 k3 k4 k5 code funs made great up down size rows work xx_2 power) H := hP1
      have hD : va_D A (wM m0 m1 m2 m3 m4 m5 k1 k2 k3 k4 k5 code funs made great up down size rows work xx_2 power) := hD1.weaken (fun _ _ _ hq => hF4 _ hq)
      obtain ⟨g6, h⟩ := h
      obtain ⟨xx_7, exx_7⟩ : ∃ z : (Nat → Int32), z = upd xx_2 v3_1.toNatClampNeg r5 := ⟨_, rfl⟩
      replace h := h xx_7 exx_7
      refine va_iast hx hb hK hP hD hS 4 3 rfl rfl g6 d_M_load_20 (fun H locs hP hD hS => ?_)
      have hP : va_P D vwCl (wM m0 m1 m2 m3 m4 m5 k1 k2 k3 k4 k5 code funs made great up down size rows work xx_7 power) H := by rw [exx_7]; exact hP
      have hD : va_D A (wM m0 m1 m2 m3 m4 m5 k1 k2 k3 k4 k5 code funs made great up down size rows work xx_7 power) := by rw [exx_7]; exact hD
      obtain ⟨x8, ex8⟩ : ∃ z : Int32, z = v3_1 + 1 := ⟨_, rfl⟩
      replace h := h x8 ex8
      refine lv_iinc (v := x8) (lv' := [(3, .int x8), (0, .ref m0), (1, .int p0), (2, .int p1)]) hx hb d_M_load_21 hl (k := 0) rfl (by rw [ex8]; rfl) (by decide) rfl (fun ls hl => ?_)
      refine lv_goto (tgt := 2) hx hb d_M_load_24 (by decide) ?_
      exact Ge2 _ _ _ (ihL2 x8 xx_7 _ _ _ hP hD hS (lv_sub hl [0, 1, 2, 3] rfl) h)
set_option maxHeartbeats 4000000 in
set_option maxRecDepth 100000 in
theorem c_M_scale (l : Launch) (D : va_G) (m0 m1 m2 m3 m4 m5 : Nat) (k1 k2 k3 k4 k5 : ClassId) (sz : Nat) (code : Int32) (funs : Int32) (made : Int32) (great : Int32) (up : Int64) (down : Int64) (size : (Nat → Int32)) (rows : (Nat → Int32)) (work : (Nat → Int32)) (xx : (Nat → Int32)) (power : (Nat → Int32)) (p0 : Int64) (p1 : Int64) (post : Int32 → Int64 → Int64 → (Nat → Int32) → Prop) : Met l y_M_scale (Cond.code y_M_scale b_M_scale 9 none :: BIG) ({ frames := 3, cells := 0, slots := 0, locals := 76 }) (va_Pc [.ref m0, .long p0, .long p1] (pcG D vwCl (wM m0 m1 m2 m3 m4 m5 k1 k2 k3 k4 k5 code funs made great up down size rows work xx power) [(k1, .int), (k2, .int), (k3, .int), (k4, .int), (k5, .int)] sz (wp_M_scale great up down xx p0 p1 post))) (va_Qv (fun (u : Int32 × Int64 × Int64 × (Nat → Int32)) => post (u.1) (u.2.1) (u.2.2.1) (u.2.2.2)) (fun u => atG D vwCl [(k1, .int), (k2, .int), (k3, .int), (k4, .int), (k5, .int)] (va_A (wM m0 m1 m2 m3 m4 m5 k1 k2 k3 k4 k5 code funs made great up down size rows work xx power) sz) (wM m0 m1 m2 m3 m4 m5 k1 k2 k3 k4 k5 code funs made (u.1) (u.2.1) (u.2.2.1) size rows work (u.2.2.2) power)) (va_A (wM m0 m1 m2 m3 m4 m5 k1 k2 k3 k4 k5 code funs made great up down size rows work xx power) sz)) 0 0 (va_A (wM m0 m1 m2 m3 m4 m5 k1 k2 k3 k4 k5 code funs made great up down size rows work xx power) sz) := by
  refine Met.ofW (cc := b_M_scale) (maxL := 9) (ret := none) (by decide) rfl ?_
  intro p e s m args below meth c s₁ B hml hv
  obtain ⟨rfl, hsz, hP, hK, hD0, h⟩ := hv
  have hx := B.exec
  have hb := B.bytes
  have hr := B.returns
  have hB : ∀ w ∈ BIG, w.before _ s = true := fun w h => atoms_spec (ws := (Cond.code y_M_scale b_M_scale 9 none :: BIG)) B.pre w (List.mem_cons_of_mem _ h)
  have hown : s.vm.findClass R_M = some m.cls := findClass_of_methodNamed B.named
  have hlocks := B.notSynchronized
  subst hsz
  have hD := hD0.self (sz := s.heap.size)
  generalize hAe : va_A (wM m0 m1 m2 m3 m4 m5 k1 k2 k3 k4 k5 code funs made great up down size rows work xx power) s.heap.size = A at hD ⊢
  have hA : ∀ q : Nat, s.heap.size ≤ q → A q := fun q h => by rw [← hAe]; exact Or.inr h
  have hl := lv_entry ([.ref m0, .long p0, .long p1]) (n := 9) (Nat.le_of_ble_eq_true rfl)
  rw [lg_entry_eq]
  generalize (lg_sl ([.ref m0, .long p0, .long p1]) ++ List.replicate (9 - (lg_sl ([.ref m0, .long p0, .long p1])).length) Slot.unset).toArray = ls at hl ⊢
  have hl : lv_has ls 9 [(0, .ref m0), (1, .long p0), (3, .long p1)] := hl
  refine W.cap (fun G Gi Ge => ?_)
  suffices hL : ∀ (H : Heap) (locs : List Loc), va_P D vwCl (wM m0 m1 m2 m3 m4 m5 k1 k2 k3 k4 k5 code funs made great up down size rows work xx power) H → va_S A s.heap H locs → G H locs (F0 m 0 ls []) from hL _ _ hP va_S.rf
  clear hP
  intro H locs hP hS
  refine Gi _ _ _ ?_
  unfold wp_M_scale at h
  refine lv_aload_n hx hb d_M_scale_0 rfl (lv_at hl 0 rfl) ?_
  refine va_get (D := D) (ci := 2) (v := .ref m4) (C := R_M) (T := F_M) (N := 11) hx hb hB inF_M hown hK hP 0 rfl rfl 7 (by decide) (hB _ wd_345) (fun _ h9 => h9) rfl d_M_scale_1 ?_
  refine lv_iconst (v := 5) hx hb d_M_scale_4 (by decide) ?_
  obtain ⟨g1, h⟩ := h
  refine va_iald hx hb hK hP 4 3 rfl rfl g1 d_M_scale_5 ?_
  refine lv_i2l hx hb d_M_scale_6 rfl ?_
  refine lv_lload_n hx hb d_M_scale_7 rfl (lv_at hl 2 rfl) ?_
  have hF2 := va_free (wc := (wM m0 m1 m2 m3 m4 m5 k1 k2 k3 k4 k5 code funs made great up down size rows work xx power)) hD hS hA [0, 1, 2, 3, 4, 5] rfl
  refine va_calll (va_runS (As := [.long ((xx (5 : Int32).toNatClampNeg).toInt64), .long p1]) (rest := []) ⟨hx, hb, hml, hown, hB⟩ (c_M_divisor l D m0 m1 m2 m3 m4 m5 k1 k2 k3 k4 k5 H.size code funs made great up down size rows work xx power ((xx (5 : Int32).toNatClampNeg).toInt64) p1 _) (cwS 2 hB (goodS wd_366 wd_367 wd_3 wd_368) rfl rfl rfl (by decide +kernel) ⟨Nat.le_of_ble_eq_true rfl, Nat.le_of_ble_eq_true rfl⟩) ⟨pcG_blind, pcG_pre hP hK hD h⟩ rfl rfl hl.1 rfl (lv_room (Nat.le_of_ble_eq_true rfl)) d_M_scale_8 ⟨Nat.le_of_ble_eq_true rfl, Nat.le_of_ble_eq_true rfl⟩) hS (fun q _ h => hF2 q h) hF2 (fun r3 u t H locs ht hvm h hB hz1 hk1 hS => ?_)
  obtain ⟨hP1, hK1, hD1⟩ := hB
  rw [ht] at hP1
  have hP : va_P D vwCl (wM m0 m1 m2 m3 m4 m5 k1 k2 k3 k4 k5 code funs made great up down size rows work xx power) H := hP1
  have hD : va_D A (wM m0 m1 m2 m3 m4 m5 k1 k2 k3 k4 k5 code funs made great up down size rows work xx power) := hD1.weaken (fun _ _ _ hq => hF2 _ hq)
  refine lv_lstore (lv' := [(5, .long r3), (0, .ref m0), (1, .long p0), (3, .long p1)]) hx hb d_M_scale_11 hl (by decide) rfl (fun ls hl => ?_)
  refine lv_lload_n hx hb d_M_scale_13 rfl (lv_at hl 2 rfl) ?_
  refine lv_aload_n hx hb d_M_scale_14 rfl (lv_at hl 1 rfl) ?_
  refine va_get (D := D) (ci := 2) (v := .ref m4) (C := R_M) (T := F_M) (N := 11) hx hb hB inF_M hown hK hP 0 rfl rfl 7 (by decide) (hB _ wd_345) (fun _ h9 => h9) rfl d_M_scale_15 ?_
  refine lv_bipush (v := 6) hx hb d_M_scale_18 (by decide) ?_
  obtain ⟨g4, h⟩ := h
  refine va_iald hx hb hK hP 4 3 rfl rfl g4 d_M_scale_20 ?_
  refine lv_i2l hx hb d_M_scale_21 rfl ?_
  have hF5 := va_free (wc := (wM m0 m1 m2 m3 m4 m5 k1 k2 k3 k4 k5 code funs made great up down size rows work xx power)) hD hS hA [0, 1, 2, 3, 4, 5] rfl
  refine va_calll (va_runS (As := [.long p0, .long ((xx (6 : Int32).toNatClampNeg).toInt64)]) (rest := []) ⟨hx, hb, hml, hown, hB⟩ (c_M_divisor l D m0 m1 m2 m3 m4 m5 k1 k2 k3 k4 k5 H.size code funs made great up down size rows work xx power p0 ((xx (6 : Int32).toNatClampNeg).toInt64) _) (cwS 2 hB (goodS wd_366 wd_367 wd_3 wd_368) rfl rfl rfl (by decide +kernel) ⟨Nat.le_of_ble_eq_true rfl, Nat.le_of_ble_eq_true rfl⟩) ⟨pcG_blind, pcG_pre hP hK hD h⟩ rfl rfl hl.1 rfl (lv_room (Nat.le_of_ble_eq_true rfl)) d_M_scale_22 ⟨Nat.le_of_ble_eq_true rfl, Nat.le_of_ble_eq_true rfl⟩) hS (fun q _ h => hF5 q h) hF5 (fun r6 u t H locs ht hvm h hB hz1 hk1 hS => ?_)
  obtain ⟨hP1, hK1, hD1⟩ := hB
  rw [ht] at hP1
  have hP : va_P D vwCl (wM m0 m1 m2 m3 m4 m5 k1 k2 k3 k4 k5 code funs made great up down size rows work xx power) H := hP1
  have hD : va_D A (wM m0 m1 m2 m3 m4 m5 k1 k2 k3 k4 k5 code funs made great up down size rows work xx power) := hD1.weaken (fun _ _ _ hq => hF5 _ hq)
  refine lv_lstore (lv' := [(7, .long r6), (5, .long r3), (0, .ref m0), (1, .long p0), (3, .long p1)]) hx hb d_M_scale_25 hl (by decide) rfl (fun ls hl => ?_)
  refine lv_aload_n hx hb d_M_scale_27 rfl (lv_at hl 2 rfl) ?_
  refine lv_aload_n hx hb d_M_scale_28 rfl (lv_at hl 2 rfl) ?_
  refine va_get (D := D) (ci := 2) (v := .ref m4) (C := R_M) (T := F_M) (N := 11) hx hb hB inF_M hown hK hP 0 rfl rfl 7 (by decide) (hB _ wd_345) (fun _ h9 => h9) rfl d_M_scale_29 ?_
  refine lv_iconst (v := 5) hx hb d_M_scale_32 (by decide) ?_
  obtain ⟨g7, h⟩ := h
  refine va_iald hx hb hK hP 4 3 rfl rfl g7 d_M_scale_33 ?_
  refine lv_i2l hx hb d_M_scale_34 rfl ?_
  refine lv_lload hx hb d_M_scale_35 (lv_at hl 1 rfl) ?_
  obtain ⟨g8, h⟩ := h
  refine lv_ldiv hx hb d_M_scale_37 g8 ?_
  refine lv_lload_n hx hb d_M_scale_38 rfl (lv_at hl 3 rfl) ?_
  refine lv_lload hx hb d_M_scale_39 (lv_at hl 0 rfl) ?_
  obtain ⟨g9, h⟩ := h
  refine lv_ldiv hx hb d_M_scale_41 g9 ?_
  refine lv_lmul hx hb d_M_scale_42 ?_
  refine lv_aload_n hx hb d_M_scale_43 rfl (lv_at hl 2 rfl) ?_
  refine va_get (D := D) (ci := 2) (v := .ref m4) (C := R_M) (T := F_M) (N := 11) hx hb hB inF_M hown hK hP 0 rfl rfl 7 (by decide) (hB _ wd_345) (fun _ h9 => h9) rfl d_M_scale_44 ?_
  refine lv_bipush (v := 6) hx hb d_M_scale_47 (by decide) ?_
  obtain ⟨g10, h⟩ := h
  refine va_iald hx hb hK hP 4 3 rfl rfl g10 d_M_scale_49 ?_
  refine lv_i2l hx hb d_M_scale_50 rfl ?_
  refine lv_lload hx hb d_M_scale_51 (lv_at hl 0 rfl) ?_
  obtain ⟨g11, h⟩ := h
  refine lv_ldiv hx hb d_M_scale_53 g11 ?_
  refine lv_lload_n hx hb d_M_scale_54 rfl (lv_at hl 4 rfl) ?_
  refine lv_lload hx hb d_M_scale_55 (lv_at hl 1 rfl) ?_
  obtain ⟨g12, h⟩ := h
  refine lv_ldiv hx hb d_M_scale_57 g12 ?_
  refine lv_lmul hx hb d_M_scale_58 ?_
  have hF13 := va_free (wc := (wM m0 m1 m2 m3 m4 m5 k1 k2 k3 k4 k5 code funs made great up down size rows work xx power)) hD hS hA [0, 1, 2, 3, 4, 5] rfl
  refine va_callv (va_runV (As := [.long ((((xx (5 : Int32).toNatClampNeg).toInt64) / r3) * (p0 / r6)), .long ((((xx (6 : Int32).toNatClampNeg).toInt64) / r6) * (p1 / r3))]) (rest := []) ⟨hx, hb, hml, hown, hB⟩ (c_M_lowest l D m0 m1 m2 m3 m4 m5 k1 k2 k3 k4 k5 H.size code funs made great up down size rows work xx power ((((xx (5 : Int32).toNatClampNeg).toInt64) / r3) * (p0 / r6)) ((((xx (6 : Int32).toNatClampNeg).toInt64) / r6) * (p1 / r3)) _) (cwV 2 hB (goodV wd_363 wd_364 wd_509 wd_3 wd_365) rfl rfl rfl (by decide +kernel) ⟨Nat.le_of_ble_eq_true rfl, Nat.le_of_ble_eq_true rfl⟩) ⟨pcG_blind, va_recv hK hP (ci := 2) (q0 := 0) rfl rfl, pcG_pre hP hK hD h⟩ rfl rfl hl.1 rfl (lv_room (Nat.le_of_ble_eq_true rfl)) d_M_scale_59 ⟨Nat.le_of_ble_eq_true rfl, Nat.le_of_ble_eq_true rfl⟩) hS (fun q _ h => hF13 q h) hF13 (fun u t H locs ht hvm h hB hz1 hk1 hS => ?_)
  obtain ⟨up_14, down_15⟩ := u
  obtain ⟨hP1, hK1, hD1⟩ := hB
  rw [ht] at hP1
  have hP : va_P D vwCl (wM m0 m1 m2 m3 m4 m5 k1 k2 k3 k4 k5 code funs made great up_14 down_15 size rows work xx power) H := hP1
  have hD : va_D A (wM m0 m1 m2 m3 m4 m5 k1 k2 k3 k4 k5 code funs made great up_14 down_15 size rows work xx power) := hD1.weaken (fun _ _ _ hq => hF13 _ hq)
  refine lv_aload_n hx hb d_M_scale_62 rfl (lv_at hl 2 rfl) ?_
  have hF16 := va_free (wc := (wM m0 m1 m2 m3 m4 m5 k1 k2 k3 k4 k5 code funs made great up_14 down_15 size rows work xx power)) hD hS hA [0, 1, 2, 3, 4, 5] rfl
  refine va_callv (va_runV (As := []) (rest := []) ⟨hx, hb, hml, hown, hB⟩ (c_M_bound l D m0 m1 m2 m3 m4 m5 k1 k2 k3 k4 k5 H.size code funs made great up_14 down_15 size rows work xx power _) (cwV 0 hB (goodV wd_372 wd_373 wd_510 wd_3 wd_374) rfl rfl rfl (by decide +kernel) ⟨Nat.le_of_ble_eq_true rfl, Nat.le_of_ble_eq_true rfl⟩) ⟨pcG_blind, va_recv hK hP (ci := 2) (q0 := 0) rfl rfl, pcG_pre hP hK hD h⟩ rfl rfl hl.1 rfl (lv_room (Nat.le_of_ble_eq_true rfl)) d_M_scale_63 ⟨Nat.le_of_ble_eq_true rfl, Nat.le_of_ble_eq_true rfl⟩) hS (fun q _ h => hF16 q h) hF16 (fun great_17 t H locs ht hvm h hB hz1 hk1 hS => ?_)
  obtain ⟨hP1, hK1, hD1⟩ := hB
  rw [ht] at hP1
  have hP : va_P D vwCl (wM m0 m1 m2 m3 m4 m5 k1 k2 k3 k4 k5 code funs made great_17 up_14 down_15 size rows work xx power) H := hP1
  have hD : va_D A (wM m0 m1 m2 m3 m4 m5 k1 k2 k3 k4 k5 code funs made great_17 up_14 down_15 size rows work xx power) := hD1.weaken (fun _ _ _ hq => hF16 _ hq)
  refine lv_aload_n hx hb d_M_scale_66 rfl (lv_at hl 2 rfl) ?_
  refine va_get (D := D) (ci := 2) (v := .ref m4) (C := R_M) (T := F_M) (N := 11) hx hb hB inF_M hown hK hP 0 rfl rfl 7 (by decide) (hB _ wd_345) (fun _ h9 => h9) rfl d_M_scale_67 ?_
  refine lv_iconst (v := 5) hx hb d_M_scale_70 (by decide) ?_
  refine lv_aload_n hx hb d_M_scale_71 rfl (lv_at hl 2 rfl) ?_
  refine va_get (D := D) (ci := 2) (v := .int great_17) (C := R_M) (T := F_M) (N := 11) hx hb hB inF_M hown hK hP 0 rfl rfl 6 (by decide) (hB _ wd_344) (fun _ h9 => h9) rfl d_M_scale_72 ?_
  refine lv_if_eq (tgt := 82) hx hb d_M_scale_75 (by decide) (fun hc18 => ?_) (fun hc18 => ?_)
  · replace h := h.1 hc18
    refine lv_aload_n hx hb d_M_scale_82 rfl (lv_at hl 2 rfl) ?_
    refine va_get (D := D) (ci := 2) (v := .long up_14) (C := R_M) (T := F_M) (N := 11) hx hb hB inF_M hown hK hP 0 rfl rfl 9 (by decide) (hB _ wd_347) (fun _ h9 => h9) rfl d_M_scale_83 ?_
    refine lv_l2i hx hb d_M_scale_86 rfl ?_
    obtain ⟨g19, h⟩ := h
    obtain ⟨xx_20, exx_20⟩ : ∃ z : (Nat → Int32), z = upd xx (5 : Int32).toNatClampNeg (up_14.toInt32) := ⟨_, rfl⟩
    replace h := h xx_20 exx_20
    refine va_iast hx hb hK hP hD hS 4 3 rfl rfl g19 d_M_scale_87 (fun H locs hP hD hS => ?_)
    have hP : va_P D vwCl (wM m0 m1 m2 m3 m4 m5 k1 k2 k3 k4 k5 code funs made great_17 up_14 down_15 size rows work xx_20 power) H := by rw [exx_20]; exact hP
    have hD : va_D A (wM m0 m1 m2 m3 m4 m5 k1 k2 k3 k4 k5 code funs made great_17 up_14 down_15 size rows work xx_20 power) := by rw [exx_20]; exact hD
    refine lv_aload_n hx hb d_M_scale_88 rfl (lv_at hl 2 rfl) ?_
    refine va_get (D := D) (ci := 2) (v := .ref m4) (C := R_M) (T := F_M) (N := 11) hx hb hB inF_M hown hK hP 0 rfl rfl 7 (by decide) (hB _ wd_345) (fun _ h9 => h9) rfl d_M_scale_89 ?_
    refine lv_bipush (v := 6) hx hb d_M_scale_92 (by decide) ?_
    refine lv_aload_n hx hb d_M_scale_94 rfl (lv_at hl 2 rfl) ?_
    refine va_get (D := D) (ci := 2) (v := .int great_17) (C := R_M) (T := F_M) (N := 11) hx hb hB inF_M hown hK hP 0 rfl rfl 6 (by decide) (hB _ wd_344) (fun _ h9 => h9) rfl d_M_scale_95 ?_
    refine lv_if_eq (tgt := 105) hx hb d_M_scale_98 (by decide) (fun hc21 => ?_) (fun hc21 => ?_)
    · replace h := h.1 hc21
      refine lv_aload_n hx hb d_M_scale_105 rfl (lv_at hl 2 rfl) ?_
      refine va_get (D := D) (ci := 2) (v := .long down_15) (C := R_M) (T := F_M) (N := 11) hx hb hB inF_M hown hK hP 0 rfl rfl 10 (by decide) (hB _ wd_348) (fun _ h9 => h9) rfl d_M_scale_106 ?_
      refine lv_l2i hx hb d_M_scale_109 rfl ?_
      obtain ⟨g22, h⟩ := h
      obtain ⟨xx_23, exx_23⟩ : ∃ z : (Nat → Int32), z = upd xx_20 (6 : Int32).toNatClampNeg (down_15.toInt32) := ⟨_, rfl⟩
      replace h := h xx_23 exx_23
      refine va_iast hx hb hK hP hD hS 4 3 rfl rfl g22 d_M_scale_110 (fun H locs hP hD hS => ?_)
      have hP : va_P D vwCl (wM m0 m1 m2 m3 m4 m5 k1 k2 k3 k4 k5 code funs made great_17 up_14 down_15 size rows work xx_23 power) H := by rw [exx_23]; exact hP
      have hD : va_D A (wM m0 m1 m2 m3 m4 m5 k1 k2 k3 k4 k5 code funs made great_17 up_14 down_15 size rows work xx_23 power) := by rw [exx_23]; exact hD
      exact W.vret hx hb hr (fun t ht hW => ⟨⟨(great_17, up_14, down_15, xx_23), rfl, h, by rw [ht]; exact hP, va_K.moved hW.alike hK, hD⟩, hS.F ht⟩) hS.2.2 d_M_scale_111
    · replace h := h.2 hc21
      refine lv_iconst (v := 1) hx hb d_M_scale_101 (by decide) ?_
      refine lv_goto (tgt := 110) hx hb d_M_scale_102 (by decide) ?_
      obtain ⟨g24, h⟩ := h
      obtain ⟨xx_25, exx_25⟩ : ∃ z : (Nat → Int32), z = upd xx_20 (6 : Int32).toNatClampNeg 1 := ⟨_, rfl⟩
      replace h := h xx_25 exx_25
      refine va_iast hx hb hK hP hD hS 4 3 rfl rfl g24 d_M_scale_110 (fun H locs hP hD hS => ?_)
      have hP : va_P D vwCl (wM m0 m1 m2 m3 m4 m5 k1 k2 k3 k4 k5 code funs made great_17 up_14 down_15 size rows work xx_25 power) H := by rw [exx_25]; exact hP
      have hD : va_D A (wM m0 m1 m2 m3 m4 m5 k1 k2 k3 k4 k5 code funs made great_17 up_14 down_15 size rows work xx_25 power) := by rw [exx_25]; exact hD
      exact W.vret hx hb hr (fun t ht hW => ⟨⟨(great_17, up_14, down_15, xx_25), rfl, h, by rw [ht]; exact hP, va_K.moved hW.alike hK, hD⟩, hS.F ht⟩) hS.2.2 d_M_scale_111
  · replace h := h.2 hc18
    refine lv_iconst (v := 1) hx hb d_M_scale_78 (by decide) ?_
    refine lv_goto (tgt := 87) hx hb d_M_scale_79 (by decide) ?_
    obtain ⟨g26, h⟩ := h
    obtain ⟨xx_27, exx_27⟩ : ∃ z : (Nat → Int32), z = upd xx (5 : Int32).toNatClampNeg 1 := ⟨_, rfl⟩
    replace h := h xx_27 exx_27
    refine va_iast hx hb hK hP hD hS 4 3 rfl rfl g26 d_M_scale_87 (fun H locs hP hD hS => ?_)
    have hP : va_P D vwCl (wM m0 m1 m2 m3 m4 m5 k1 k2 k3 k4 k5 code funs made great_17 up_14 down_15 size rows work xx_27 power) H := by rw [exx_27]; exact hP
    have hD : va_D A (wM m0 m1 m2 m3 m4 m5 k1 k2 k3 k4 k5 code funs made great_17 up_14 down_15 size rows work xx_27 power) := by rw [exx_27]; exact hD
    refine lv_aload_n hx hb d_M_scale_88 rfl (lv_at hl 2 rfl) ?_
    refine va_get (D := D) (ci := 2) (v := .ref m4) (C := R_M) (T := F_M) (N := 11) hx hb hB inF_M hown hK hP 0 rfl rfl 7 (by decide) (hB _ wd_345) (fun _ h9 => h9) rfl d_M_scale_89 ?_
    refine lv_bipush (v := 6) hx hb d_M_scale_92 (by decide) ?_
    refine lv_aload_n hx hb d_M_scale_94 rfl (lv_at hl 2 rfl) ?_
    refine va_get (D := D) (ci := 2) (v := .int great_17) (C := R_M) (T := F_M) (N := 11) hx hb hB inF_M hown hK hP 0 rfl rfl 6 (by decide) (hB _ wd_344) (fun _ h9 => h9) rfl d_M_scale_95 ?_
    refine lv_if_eq (tgt := 105) hx hb d_M_scale_98 (by decide) (fun hc28 => ?_) (fun hc28 => ?_)
    · replace h := h.1 hc28
      refine lv_aload_n hx hb d_M_scale_105 rfl (lv_at hl 2 rfl) ?_
      refine va_get (D := D) (ci := 2) (v := .long down_15) (C := R_M) (T := F_M) (N := 11) hx hb hB inF_M hown hK hP 0 rfl rfl 10 (by decide) (hB _ wd_348) (fun _ h9 => h9) rfl d_M_scale_106 ?_
      refine lv_l2i hx hb d_M_scale_109 rfl ?_
      obtain ⟨g29, h⟩ := h
      obtain ⟨xx_30, exx_30⟩ : ∃ z : (Nat → Int32), z = upd xx_27 (6 : Int32).toNatClampNeg (down_15.toInt32) := ⟨_, rfl⟩
      replace h := h xx_30 exx_30
      refine va_iast hx hb hK hP hD hS 4 3 rfl rfl g29 d_M_scale_110 (fun H locs hP hD hS => ?_)
      have hP : va_P D vwCl (wM m0 m1 m2 m3 m4 m5 k1 k2 k3 k4 k5 code funs made great_17 up_14 down_15 size rows work xx_30 power) H := by rw [exx_30]; exact hP
      have hD : va_D A (wM m0 m1 m2 m3 m4 m5 k1 k2 k3 k4 k5 code funs made great_17 up_14 down_15 size rows work xx_30 power) := by rw [exx_30]; exact hD
      exact W.vret hx hb hr (fun t ht hW => ⟨⟨(great_17, up_14, down_15, xx_30), rfl, h, by rw [ht]; exact hP, va_K.moved hW.alike hK, hD⟩, hS.F ht⟩) hS.2.2 d_M_scale_111
    · replace h := h.2 hc28
      refine lv_iconst (v := 1) hx hb d_M_scale_101 (by decide) ?_
      refine lv_goto (tgt := 110) hx hb d_M_scale_102 (by decide) ?_
      obtain ⟨g31, h⟩ := h
      obtain ⟨xx_32, exx_32⟩ : ∃ z : (Nat → Int32), z = upd xx_27 (6 : Int32).toNatClampNeg 1 := ⟨_, rfl⟩
      replace h := h xx_32 exx_32
      refine va_iast hx hb hK hP hD hS 4 3 rfl rfl g31 d_M_scale_110 (fun H locs hP hD hS => ?_)
      have hP : va_P D vwCl (wM m0 m1 m2 m3 m4 m5 k1 k2 k3 k4 k5 code funs made great_17 up_14 down_15 size rows work xx_32 power) H := by rw [exx_32]; exact hP
      have hD : va_D A (wM m0 m1 m2 m3 m4 m5 k1 k2 k3 k4 k5 code funs made great_17 up_14 down_15 size rows work xx_32 power) := by rw [exx_32]; exact hD
      exact W.vret hx hb hr (fun t ht hW => ⟨⟨(great_17, up_14, down_15, xx_32), rfl, h, by rw [ht]; exact hP, va_K.moved hW.alike hK, hD⟩, hS.F ht⟩) hS.2.2 d_M_scale_111
set_option maxHeartbeats 4000000 in
set_option maxRecDepth 100000 in
theorem c_M_keep (l : Launch) (D : va_G) (m0 m1 m2 m3 m4 m5 : Nat) (k1 k2 k3 k4 k5 : ClassId) (sz : Nat) (code : Int32) (funs : Int32) (made : Int32) (great : Int32) (up : Int64) (down : Int64) (size : (Nat → Int32)) (rows : (Nat → Int32)) (work : (Nat → Int32)) (xx : (Nat → Int32)) (power : (Nat → Int32)) (post : Int32 → Int32 → Int32 → (Nat → Int32) → (Nat → Int32) → Prop) : Met l y_M_keep (Cond.code y_M_keep b_M_keep 2 (some .int) :: BIG) ({ frames := 1, cells := 0, slots := 0, locals := 21 }) (va_Pc [.ref m0] (pcG D vwCl (wM m0 m1 m2 m3 m4 m5 k1 k2 k3 k4 k5 code funs made great up down size rows work xx power) [(k1, .int), (k2, .int), (k3, .int), (k4, .int), (k5, .int)] sz (wp_M_keep code funs made great size rows work post))) (va_Qi (fun (r : Int32) (u : Int32 × Int32 × (Nat → Int32) × (Nat → Int32)) => post r (u.1) (u.2.1) (u.2.2.1) (u.2.2.2)) (fun u => atG D vwCl [(k1, .int), (k2, .int), (k3, .int), (k4, .int), (k5, .int)] (va_A (wM m0 m1 m2 m3 m4 m5 k1 k2 k3 k4 k5 code funs made great up down size rows work xx power) sz) (wM m0 m1 m2 m3 m4 m5 k1 k2 k3 k4 k5 (u.1) (u.2.1) made great up down (u.2.2.1) (u.2.2.2) work xx power)) (va_A (wM m0 m1 m2 m3 m4 m5 k1 k2 k3 k4 k5 code funs made great up down size rows work xx power) sz)) 0 0 (va_A (wM m0 m1 m2 m3 m4 m5 k1 k2 k3 k4 k5 code funs made great up down size rows work xx power) sz) := by
  refine Met.ofW (cc := b_M_keep) (maxL := 2) (ret := (some .int)) (by decide) rfl ?_
  intro p e s m args below meth c s₁ B hml hv
  obtain ⟨rfl, hsz, hP, hK, hD0, h⟩ := hv
  have hx := B.exec
  have hb := B.bytes
  have hr := B.returns
  have hB : ∀ w ∈ BIG, w.before _ s = true := fun w h => atoms_spec (ws := (Cond.code y_M_keep b_M_keep 2 (some .int) :: BIG)) B.pre w (List.mem_cons_of_mem _ h)
  have hown : s.vm.findClass R_M = some m.cls := findClass_of_methodNamed B.named
  have hlocks := B.notSynchronized
  subst hsz
  have hD := hD0.self (sz := s.heap.size)
  generalize hAe : va_A (wM m0 m1 m2 m3 m4 m5 k1 k2 k3 k4 k5 code funs made great up down size rows work xx power) s.heap.size = A at hD ⊢
  have hA : ∀ q : Nat, s.heap.size ≤ q → A q := fun q h => by rw [← hAe]; exact Or.inr h
  have hl := lv_entry ([.ref m0]) (n := 2) (Nat.le_of_ble_eq_true rfl)
  rw [lg_entry_eq]
  generalize (lg_sl ([.ref m0]) ++ List.replicate (2 - (lg_sl ([.ref m0])).length) Slot.unset).toArray = ls at hl ⊢
  have hl : lv_has ls 2 [(0, .ref m0)] := hl
  refine W.cap (fun G Gi Ge => ?_)
  suffices hL : ∀ (H : Heap) (locs : List Loc), va_P D vwCl (wM m0 m1 m2 m3 m4 m5 k1 k2 k3 k4 k5 code funs made great up down size rows work xx power) H → va_S A s.heap H locs → G H locs (F0 m 0 ls []) from hL _ _ hP va_S.rf
  clear hP
  intro H locs hP hS
  refine Gi _ _ _ ?_
  unfold wp_M_keep at h
  refine lv_aload_n hx hb d_M_keep_0 rfl (lv_at hl 0 rfl) ?_
  refine va_get (D := D) (ci := 2) (v := .int great) (C := R_M) (T := F_M) (N := 11) hx hb hB inF_M hown hK hP 0 rfl rfl 6 (by decide) (hB _ wd_344) (fun _ h9 => h9) rfl d_M_keep_1 ?_
  refine lv_if_ne (tgt := 16) hx hb d_M_keep_4 (by decide) (fun hc1 => ?_) (fun hc1 => ?_)
  · replace h := h.1 hc1
    refine lv_aload_n hx hb d_M_keep_16 rfl (lv_at hl 0 rfl) ?_
    refine lv_iconst (v := 2) hx hb d_M_keep_17 (by decide) ?_
    have hF2 := va_free (wc := (wM m0 m1 m2 m3 m4 m5 k1 k2 k3 k4 k5 code funs made great up down size rows work xx power)) hD hS hA [0, 1, 2, 3, 4, 5] rfl
    refine va_calli (va_runV (As := [.int 2]) (rest := []) ⟨hx, hb, hml, hown, hB⟩ (c_M_raise l D m0 m1 m2 m3 m4 m5 k1 k2 k3 k4 k5 H.size code funs made great up down size rows work xx power 2 _) (cwV 1 hB (goodV wd_357 wd_358 wd_507 wd_3 wd_359) rfl rfl rfl (by decide +kernel) ⟨Nat.le_of_ble_eq_true rfl, Nat.le_of_ble_eq_true rfl⟩) ⟨pcG_blind, va_recv hK hP (ci := 2) (q0 := 0) rfl rfl, pcG_pre hP hK hD h⟩ rfl rfl hl.1 rfl (lv_room (Nat.le_of_ble_eq_true rfl)) d_M_keep_18 ⟨Nat.le_of_ble_eq_true rfl, Nat.le_of_ble_eq_true rfl⟩) hS (fun q _ h => hF2 q h) hF2 (fun r3 code_4 t H locs ht hvm h hB hz1 hk1 hS => ?_)
    obtain ⟨hP1, hK1, hD1⟩ := hB
    rw [ht] at hP1
    have hP : va_P D vwCl (wM m0 m1 m2 m3 m4 m5 k1 k2 k3 k4 k5 code_4 funs made great up down size rows work xx power) H := hP1
    have hD : va_D A (wM m0 m1 m2 m3 m4 m5 k1 k2 k3 k4 k5 code_4 funs made great up down size rows work xx power) := hD1.weaken (fun _ _ _ hq => hF2 _ hq)
    exact W.iret (v := r3) hx hb hr (fun t ht hW => ⟨⟨r3, (code_4, funs, size, rows), rfl, h, by rw [ht]; exact hP, va_K.moved hW.alike hK, hD⟩, hS.F ht⟩) hS.2.2 d_M_keep_21
  · replace h := h.2 hc1
    refine lv_aload_n hx hb d_M_keep_7 rfl (lv_at hl 0 rfl) ?_
    refine va_get (D := D) (ci := 2) (v := .int made) (C := R_M) (T := F_M) (N := 11) hx hb hB inF_M hown hK hP 0 rfl rfl 4 (by decide) (hB _ wd_342) (fun _ h9 => h9) rfl d_M_keep_8 ?_
    refine lv_bipush (v := 10) hx hb d_M_keep_11 (by decide) ?_
    refine lv_icmp_le (tgt := 22) hx hb d_M_keep_13 (by decide) (fun hc5 => ?_) (fun hc5 => ?_)
    · replace h := h.1 hc5
      refine lv_aload_n hx hb d_M_keep_22 rfl (lv_at hl 0 rfl) ?_
      refine lv_iconst (v := 0) hx hb d_M_keep_23 (by decide) ?_
      refine va_put (D := D) (ci := 2) (v := .int 0) (ty := .int) (C := R_M) (T := F_M) (N := 11) hx hb hB inF_M t_M t_M_ok n_M hown hK hP hD hS 0 rfl rfl 0 (by decide) (hB _ wd_338) (fun _ h9 => h9) rfl (by decide +kernel) rfl rfl (Nat.le_of_ble_eq_true rfl) d_M_keep_24 (fun H locs hP hD hS => ?_)
      have hP : va_P D vwCl (wM m0 m1 m2 m3 m4 m5 k1 k2 k3 k4 k5 0 funs made great up down size rows work xx power) H := hP
      have hD : va_D A (wM m0 m1 m2 m3 m4 m5 k1 k2 k3 k4 k5 0 funs made great up down size rows work xx power) := hD
      refine lv_aload_n hx hb d_M_keep_27 rfl (lv_at hl 0 rfl) ?_
      refine va_get (D := D) (ci := 2) (v := .ref m1) (C := R_M) (T := F_M) (N := 11) hx hb hB inF_M hown hK hP 0 rfl rfl 2 (by decide) (hB _ wd_340) (fun _ h9 => h9) rfl d_M_keep_28 ?_
      refine lv_aload_n hx hb d_M_keep_31 rfl (lv_at hl 0 rfl) ?_
      refine va_get (D := D) (ci := 2) (v := .int funs) (C := R_M) (T := F_M) (N := 11) hx hb hB inF_M hown hK hP 0 rfl rfl 1 (by decide) (hB _ wd_339) (fun _ h9 => h9) rfl d_M_keep_32 ?_
      refine lv_aload_n hx hb d_M_keep_35 rfl (lv_at hl 0 rfl) ?_
      refine va_get (D := D) (ci := 2) (v := .int made) (C := R_M) (T := F_M) (N := 11) hx hb hB inF_M hown hK hP 0 rfl rfl 4 (by decide) (hB _ wd_342) (fun _ h9 => h9) rfl d_M_keep_36 ?_
      obtain ⟨g6, h⟩ := h
      obtain ⟨size_7, esize_7⟩ : ∃ z : (Nat → Int32), z = upd size funs.toNatClampNeg made := ⟨_, rfl⟩
      replace h := h size_7 esize_7
      refine va_iast hx hb hK hP hD hS 1 0 rfl rfl g6 d_M_keep_39 (fun H locs hP hD hS => ?_)
      have hP : va_P D vwCl (wM m0 m1 m2 m3 m4 m5 k1 k2 k3 k4 k5 0 funs made great up down size_7 rows work xx power) H := by rw [esize_7]; exact hP
      have hD : va_D A (wM m0 m1 m2 m3 m4 m5 k1 k2 k3 k4 k5 0 funs made great up down size_7 rows work xx power) := by rw [esize_7]; exact hD
      refine lv_iconst (v := 0) hx hb d_M_keep_40 (by decide) ?_
      refine lv_istore_n (lv' := [(1, .int 0), (0, .ref m0)]) hx hb d_M_keep_41 rfl hl (by decide) rfl (fun ls hl => ?_)
      obtain ⟨n42, h⟩ := h
      refine W.cap (fun G42 Gi42 Ge42 => ?_)
      suffices hL42 : ∀ (n42 : Nat) (v1_8 : Int32) (rows_9 : (Nat → Int32)) (H : Heap) (locs : List Loc) (ls : Array Slot), va_P D vwCl (wM m0 m1 m2 m3 m4 m5 k1 k2 k3 k4 k5 0 funs made great up down size_7 rows_9 work xx power) H → va_D A (wM m0 m1 m2 m3 m4 m5 k1 k2 k3 k4 k5 0 funs made great up down size_7 rows_9 work xx power) → va_S A s.heap H locs → lv_has ls 2 [(1, .int v1_8), (0, .ref m0)] → lpW2 (wb_M_keep_42 made funs post size_7 work) n42 v1_8 rows_9 → G42 H locs (F0 m 42 ls []) from hL42 n42 (0 : Int32) rows _ _ _ hP hD hS hl h
      clear h hP hD hS hl
      intro n42
      induction n42 with
      | zero => intro v1_8 rows_9 H locs ls hP hD hS hl h; exact (show False from h).elim
      | succ n42 ihL42 =>
        intro v1_8 rows_9 H locs ls hP hD hS hl h
        replace h : (wb_M_keep_42 made funs post size_7 work) (lpW2 (wb_M_keep_42 made funs post size_7 work) n42) v1_8 rows_9 := h
        refine Gi42 _ _ _ ?_
        refine lv_iload_n hx hb d_M_keep_42 rfl (lv_at hl 0 rfl) ?_
        refine lv_bipush (v := 7) hx hb d_M_keep_43 (by decide) ?_
        refine lv_aload_n hx hb d_M_keep_45 rfl (lv_at hl 1 rfl) ?_
        refine va_get (D := D) (ci := 2) (v := .int made) (C := R_M) (T := F_M) (N := 11) hx hb hB inF_M hown hK hP 0 rfl rfl 4 (by decide) (hB _ wd_342) (fun _ h9 => h9) rfl d_M_keep_46 ?_
        refine lv_imul hx hb d_M_keep_49 ?_
        refine lv_icmp_ge (tgt := 79) hx hb d_M_keep_50 (by decide) (fun hc10 => ?_) (fun hc10 => ?_)
        · replace h := h.1 hc10
          refine lv_aload_n hx hb d_M_keep_79 rfl (lv_at hl 1 rfl) ?_
          refine lv_dup hx hb d_M_keep_80 rfl ?_
          refine va_get (D := D) (ci := 2) (v := .int funs) (C := R_M) (T := F_M) (N := 11) hx hb hB inF_M hown hK hP 0 rfl rfl 1 (by decide) (hB _ wd_339) (fun _ h9 => h9) rfl d_M_keep_81 ?_
          refine lv_iconst (v := 1) hx hb d_M_keep_84 (by decide) ?_
          refine lv_iadd hx hb d_M_keep_85 ?_
          refine lv_topi (fun x11 ex11 => ?_)
          replace h := h x11 ex11
          refine va_put (D := D) (ci := 2) (v := .int x11) (ty := .int) (C := R_M) (T := F_M) (N := 11) hx hb hB inF_M t_M t_M_ok n_M hown hK hP hD hS 0 rfl rfl 1 (by decide) (hB _ wd_339) (fun _ h9 => h9) rfl (by decide +kernel) rfl rfl (Nat.le_of_ble_eq_true rfl) d_M_keep_86 (fun H locs hP hD hS => ?_)
          have hP : va_P D vwCl (wM m0 m1 m2 m3 m4 m5 k1 k2 k3 k4 k5 0 x11 made great up down size_7 rows_9 work xx power) H := hP
          have hD : va_D A (wM m0 m1 m2 m3 m4 m5 k1 k2 k3 k4 k5 0 x11 made great up down size_7 rows_9 work xx power) := hD
          refine lv_aload_n hx hb d_M_keep_89 rfl (lv_at hl 1 rfl) ?_
          refine va_get (D := D) (ci := 2) (v := .int x11) (C := R_M) (T := F_M) (N := 11) hx hb hB inF_M hown hK hP 0 rfl rfl 1 (by decide) (hB _ wd_339) (fun _ h9 => h9) rfl d_M_keep_90 ?_
          refine lv_iconst (v := 1) hx hb d_M_keep_93 (by decide) ?_
          refine lv_isub hx hb d_M_keep_94 ?_
          exact W.iret (v := x11 - 1) hx hb hr (fun t ht hW => ⟨⟨x11 - 1, (0, x11, size_7, rows_9), rfl, h, by rw [ht]; exact hP, va_K.moved hW.alike hK, hD⟩, hS.F ht⟩) hS.2.2 d_M_keep_95
        · replace h := h.2 hc10
          refine lv_aload_n hx hb d_M_keep_53 rfl (lv_at hl 1 rfl) ?_
          refine va_get (D := D) (ci := 2) (v := .ref m2) (C := R_M) (T := F_M) (N := 11) hx hb hB inF_M hown hK hP 0 rfl rfl 3 (by decide) (hB _ wd_341) (fun _ h9 => h9) rfl d_M_keep_54 ?_
          refine lv_bipush (v := 70) hx hb d_M_keep_57 (by decide) ?_
          refine lv_aload_n hx hb d_M_keep_59 rfl (lv_at hl 1 rfl) ?_
          refine va_get (D := D) (ci := 2) (v := .int funs) (C := R_M) (T := F_M) (N := 11) hx hb hB inF_M hown hK hP 0 rfl rfl 1 (by decide) (hB _ wd_339) (fun _ h9 => h9) rfl d_M_keep_60 ?_
          refine lv_imul hx hb d_M_keep_63 ?_
          refine lv_iload_n hx hb d_M_keep_64 rfl (lv_at hl 0 rfl) ?_
          refine lv_iadd hx hb d_M_keep_65 ?_
          refine lv_aload_n hx hb d_M_keep_66 rfl (lv_at hl 1 rfl) ?_
          refine va_get (D := D) (ci := 2) (v := .ref m3) (C := R_M) (T := F_M) (N := 11) hx hb hB inF_M hown hK hP 0 rfl rfl 5 (by decide) (hB _ wd_343) (fun _ h9 => h9) rfl d_M_keep_67 ?_
          refine lv_iload_n hx hb d_M_keep_70 rfl (lv_at hl 0 rfl) ?_
          obtain ⟨g12, h⟩ := h
          refine va_iald hx hb hK hP 3 2 rfl rfl g12 d_M_keep_71 ?_
          obtain ⟨g13, h⟩ := h
          obtain ⟨rows_14, erows_14⟩ : ∃ z : (Nat → Int32), z = upd rows_9 ((70 * funs) + v1_8).toNatClampNeg (work v1_8.toNatClampNeg) := ⟨_, rfl⟩
          replace h := h rows_14 erows_14
          refine va_iast hx hb hK hP hD hS 2 1 rfl rfl g13 d_M_keep_72 (fun H locs hP hD hS => ?_)
          have hP : va_P D vwCl (wM m0 m1 m2 m3 m4 m5 k1 k2 k3 k4 k5 0 funs made great up down size_7 rows_14 work xx power) H := by rw [erows_14]; exact hP
          have hD : va_D A (wM m0 m1 m2 m3 m4 m5 k1 k2 k3 k4 k5 0 funs made great up down size_7 rows_14 work xx power) := by rw [erows_14]; exact hD
          obtain ⟨x15, ex15⟩ : ∃ z : Int32, z = v1_8 + 1 := ⟨_, rfl⟩
          replace h := h x15 ex15
          refine lv_iinc (v := x15) (lv' := [(1, .int x15), (0, .ref m0)]) hx hb d_M_keep_73 hl (k := 0) rfl (by rw [ex15]; rfl) (by decide) rfl (fun ls hl => ?_)
          refine lv_goto (tgt := 42) hx hb d_M_keep_76 (by decide) ?_
          exact Ge42 _ _ _ (ihL42 x15 rows_14 _ _ _ hP hD hS (lv_sub hl [0, 1] rfl) h)
    · replace h := h.2 hc5
      refine lv_aload_n hx hb d_M_keep_16 rfl (lv_at hl 0 rfl) ?_
      refine lv_iconst (v := 2) hx hb d_M_keep_17 (by decide) ?_
      have hF16 := va_free (wc := (wM m0 m1 m2 m3 m4 m5 k1 k2 k3 k4 k5 code funs made great up down size rows work xx power)) hD hS hA [0, 1, 2, 3, 4, 5] rfl
      refine va_calli (va_runV (As := [.int 2]) (rest := []) ⟨hx, hb, hml, hown, hB⟩ (c_M_raise l D m0 m1 m2 m3 m4 m5 k1 k2 k3 k4 k5 H.size code funs made great up down size rows work xx power 2 _) (cwV 1 hB (goodV wd_357 wd_358 wd_507 wd_3 wd_359) rfl rfl rfl (by decide +kernel) ⟨Nat.le_of_ble_eq_true rfl, Nat.le_of_ble_eq_true rfl⟩) ⟨pcG_blind, va_recv hK hP (ci := 2) (q0 := 0) rfl rfl, pcG_pre hP hK hD h⟩ rfl rfl hl.1 rfl (lv_room (Nat.le_of_ble_eq_true rfl)) d_M_keep_18 ⟨Nat.le_of_ble_eq_true rfl, Nat.le_of_ble_eq_true rfl⟩) hS (fun q _ h => hF16 q h) hF16 (fun r17 code_18 t H locs ht hvm h hB hz1 hk1 hS => ?_)
      obtain ⟨hP1, hK1, hD1⟩ := hB
      rw [ht] at hP1
      have hP : va_P D vwCl (wM m0 m1 m2 m3 m4 m5 k1 k2 k3 k4 k5 code_18 funs made great up down size rows work xx power) H := hP1
      have hD : va_D A (wM m0 m1 m2 m3 m4 m5 k1 k2 k3 k4 k5 code_18 funs made great up down size rows work xx power) := hD1.weaken (fun _ _ _ hq => hF16 _ hq)
      exact W.iret (v := r17) hx hb hr (fun t ht hW => ⟨⟨r17, (code_18, funs, size, rows), rfl, h, by rw [ht]; exact hP, va_K.moved hW.alike hK, hD⟩, hS.F ht⟩) hS.2.2 d_M_keep_21
set_option maxHeartbeats 4000000 in
set_option maxRecDepth 100000 in
theorem c_M_may (l : Launch) (D : va_G) (m0 m1 m2 m3 m4 m5 : Nat) (k1 k2 k3 k4 k5 : ClassId) (sz : Nat) (code : Int32) (funs : Int32) (made : Int32) (great : Int32) (up : Int64) (down : Int64) (size : (Nat → Int32)) (rows : (Nat → Int32)) (work : (Nat → Int32)) (xx : (Nat → Int32)) (power : (Nat → Int32)) (p0 : Int32) (p1 : Int32) (post : Int32 → Int32 → Prop) : Met l y_M_may (Cond.code y_M_may b_M_may 3 (some .boolean) :: BIG) ({ frames := 2, cells := 0, slots := 0, locals := 46 }) (va_Pc [.ref m0, .int p0, .int p1] (pcG D vwCl (wM m0 m1 m2 m3 m4 m5 k1 k2 k3 k4 k5 code funs made great up down size rows work xx power) [(k1, .int), (k2, .int), (k3, .int), (k4, .int), (k5, .int)] sz (wp_M_may code funs p0 p1 post))) (va_Qi (fun (r : Int32) (u : Int32) => post r u) (fun u => atG D vwCl [(k1, .int), (k2, .int), (k3, .int), (k4, .int), (k5, .int)] (va_A (wM m0 m1 m2 m3 m4 m5 k1 k2 k3 k4 k5 code funs made great up down size rows work xx power) sz) (wM m0 m1 m2 m3 m4 m5 k1 k2 k3 k4 k5 u funs made great up down size rows work xx power)) (va_A (wM m0 m1 m2 m3 m4 m5 k1 k2 k3 k4 k5 code funs made great up down size rows work xx power) sz)) 0 0 (va_A (wM m0 m1 m2 m3 m4 m5 k1 k2 k3 k4 k5 code funs made great up down size rows work xx power) sz) := by
  refine Met.ofW (cc := b_M_may) (maxL := 3) (ret := (some .boolean)) (by decide) rfl ?_
  intro p e s m args below meth c s₁ B hml hv
  obtain ⟨rfl, hsz, hP, hK, hD0, h⟩ := hv
  have hx := B.exec
  have hb := B.bytes
  have hr := B.returns
  have hB : ∀ w ∈ BIG, w.before _ s = true := fun w h => atoms_spec (ws := (Cond.code y_M_may b_M_may 3 (some .boolean) :: BIG)) B.pre w (List.mem_cons_of_mem _ h)
  have hown : s.vm.findClass R_M = some m.cls := findClass_of_methodNamed B.named
  have hlocks := B.notSynchronized
  subst hsz
  have hD := hD0.self (sz := s.heap.size)
  generalize hAe : va_A (wM m0 m1 m2 m3 m4 m5 k1 k2 k3 k4 k5 code funs made great up down size rows work xx power) s.heap.size = A at hD ⊢
  have hA : ∀ q : Nat, s.heap.size ≤ q → A q := fun q h => by rw [← hAe]; exact Or.inr h
  have hl := lv_entry ([.ref m0, .int p0, .int p1]) (n := 3) (Nat.le_of_ble_eq_true rfl)
  rw [lg_entry_eq]
  generalize (lg_sl ([.ref m0, .int p0, .int p1]) ++ List.replicate (3 - (lg_sl ([.ref m0, .int p0, .int p1])).length) Slot.unset).toArray = ls at hl ⊢
  have hl : lv_has ls 3 [(0, .ref m0), (1, .int p0), (2, .int p1)] := hl
  refine W.cap (fun G Gi Ge => ?_)
  suffices hL : ∀ (H : Heap) (locs : List Loc), va_P D vwCl (wM m0 m1 m2 m3 m4 m5 k1 k2 k3 k4 k5 code funs made great up down size rows work xx power) H → va_S A s.heap H locs → G H locs (F0 m 0 ls []) from hL _ _ hP va_S.rf
  clear hP
  intro H locs hP hS
  refine Gi _ _ _ ?_
  unfold wp_M_may at h
  refine lv_aload_n hx hb d_M_may_0 rfl (lv_at hl 0 rfl) ?_
  refine lv_aload_n hx hb d_M_may_1 rfl (lv_at hl 0 rfl) ?_
  refine lv_iload_n hx hb d_M_may_2 rfl (lv_at hl 1 rfl) ?_
  have hF1 := va_free (wc := (wM m0 m1 m2 m3 m4 m5 k1 k2 k3 k4 k5 code funs made great up down size rows work xx power)) hD hS hA [0, 1, 2, 3, 4, 5] rfl
  refine va_calli (va_runV (As := [.int p0]) (rest := [.ref m0]) ⟨hx, hb, hml, hown, hB⟩ (c_M_isFunction l D m0 m1 m2 m3 m4 m5 k1 k2 k3 k4 k5 H.size code funs made great up down size rows work xx power p0 _) (cwV 1 hB (goodV wd_402 wd_403 wd_515 wd_3 wd_404) rfl rfl rfl (by decide +kernel) ⟨Nat.le_of_ble_eq_true rfl, Nat.le_of_ble_eq_true rfl⟩) ⟨pcG_blind, va_recv hK hP (ci := 2) (q0 := 0) rfl rfl, pcG_pre hP hK hD h⟩ rfl rfl hl.1 rfl (lv_room (Nat.le_of_ble_eq_true rfl)) d_M_may_3 ⟨Nat.le_of_ble_eq_true rfl, Nat.le_of_ble_eq_true rfl⟩) hS (fun q _ h => hF1 q h) hF1 (fun r2 u t H locs ht hvm h hB hz1 hk1 hS => ?_)
  obtain ⟨hP1, hK1, hD1⟩ := hB
  rw [ht] at hP1
  have hP : va_P D vwCl (wM m0 m1 m2 m3 m4 m5 k1 k2 k3 k4 k5 code funs made great up down size rows work xx power) H := hP1
  have hD : va_D A (wM m0 m1 m2 m3 m4 m5 k1 k2 k3 k4 k5 code funs made great up down size rows work xx power) := hD1.weaken (fun _ _ _ hq => hF1 _ hq)
  refine lv_if_eq (tgt := 17) hx hb d_M_may_6 (by decide) (fun hc3 => ?_) (fun hc3 => ?_)
  · replace h := h.1 hc3
    refine lv_iconst (v := 1) hx hb d_M_may_17 (by decide) ?_
    refine lv_goto (tgt := 35) hx hb d_M_may_18 (by decide) ?_
    refine va_put (D := D) (ci := 2) (v := .int 1) (ty := .int) (C := R_M) (T := F_M) (N := 11) hx hb hB inF_M t_M t_M_ok n_M hown hK hP hD hS 0 rfl rfl 0 (by decide) (hB _ wd_338) (fun _ h9 => h9) rfl (by decide +kernel) rfl rfl (Nat.le_of_ble_eq_true rfl) d_M_may_35 (fun H locs hP hD hS => ?_)
    have hP : va_P D vwCl (wM m0 m1 m2 m3 m4 m5 k1 k2 k3 k4 k5 1 funs made great up down size rows work xx power) H := hP
    have hD : va_D A (wM m0 m1 m2 m3 m4 m5 k1 k2 k3 k4 k5 1 funs made great up down size rows work xx power) := hD
    refine lv_aload_n hx hb d_M_may_38 rfl (lv_at hl 0 rfl) ?_
    refine va_get (D := D) (ci := 2) (v := .int 1) (C := R_M) (T := F_M) (N := 11) hx hb hB inF_M hown hK hP 0 rfl rfl 0 (by decide) (hB _ wd_338) (fun _ h9 => h9) rfl d_M_may_39 ?_
    refine lv_if_ne (tgt := 49) hx hb d_M_may_42 (by decide) (fun _ => ?_) (fun c => absurd c (by decide))
    refine lv_iconst (v := 0) hx hb d_M_may_49 (by decide) ?_
    exact W.zret (v := 0) hx hb hr (by first | rfl | decide) (fun t ht hW => ⟨⟨0, 1, rfl, h, by rw [ht]; exact hP, va_K.moved hW.alike hK, hD⟩, hS.F ht⟩) hS.2.2 d_M_may_50
  · replace h := h.2 hc3
    refine lv_aload_n hx hb d_M_may_9 rfl (lv_at hl 0 rfl) ?_
    refine lv_iload_n hx hb d_M_may_10 rfl (lv_at hl 2 rfl) ?_
    have hF4 := va_free (wc := (wM m0 m1 m2 m3 m4 m5 k1 k2 k3 k4 k5 code funs made great up down size rows work xx power)) hD hS hA [0, 1, 2, 3, 4, 5] rfl
    refine va_calli (va_runV (As := [.int p1]) (rest := [.ref m0]) ⟨hx, hb, hml, hown, hB⟩ (c_M_isFunction l D m0 m1 m2 m3 m4 m5 k1 k2 k3 k4 k5 H.size code funs made great up down size rows work xx power p1 _) (cwV 1 hB (goodV wd_402 wd_403 wd_515 wd_3 wd_404) rfl rfl rfl (by decide +kernel) ⟨Nat.le_of_ble_eq_true rfl, Nat.le_of_ble_eq_true rfl⟩) ⟨pcG_blind, va_recv hK hP (ci := 2) (q0 := 0) rfl rfl, pcG_pre hP hK hD h⟩ rfl rfl hl.1 rfl (lv_room (Nat.le_of_ble_eq_true rfl)) d_M_may_11 ⟨Nat.le_of_ble_eq_true rfl, Nat.le_of_ble_eq_true rfl⟩) hS (fun q _ h => hF4 q h) hF4 (fun r5 u t H locs ht hvm h hB hz1 hk1 hS => ?_)
    obtain ⟨hP1, hK1, hD1⟩ := hB
    rw [ht] at hP1
    have hP : va_P D vwCl (wM m0 m1 m2 m3 m4 m5 k1 k2 k3 k4 k5 code funs made great up down size rows work xx power) H := hP1
    have hD : va_D A (wM m0 m1 m2 m3 m4 m5 k1 k2 k3 k4 k5 code funs made great up down size rows work xx power) := hD1.weaken (fun _ _ _ hq => hF4 _ hq)
    refine lv_if_ne (tgt := 21) hx hb d_M_may_14 (by decide) (fun hc6 => ?_) (fun hc6 => ?_)
    · replace h := h.1 hc6
      refine lv_aload_n hx hb d_M_may_21 rfl (lv_at hl 0 rfl) ?_
      refine va_get (D := D) (ci := 2) (v := .int funs) (C := R_M) (T := F_M) (N := 11) hx hb hB inF_M hown hK hP 0 rfl rfl 1 (by decide) (hB _ wd_339) (fun _ h9 => h9) rfl d_M_may_22 ?_
      refine lv_bipush (v := 80) hx hb d_M_may_25 (by decide) ?_
      refine lv_icmp_ne (tgt := 34) hx hb d_M_may_27 (by decide) (fun hc7 => ?_) (fun hc7 => ?_)
      · replace h := h.1 hc7
        refine lv_iconst (v := 0) hx hb d_M_may_34 (by decide) ?_
        refine va_put (D := D) (ci := 2) (v := .int 0) (ty := .int) (C := R_M) (T := F_M) (N := 11) hx hb hB inF_M t_M t_M_ok n_M hown hK hP hD hS 0 rfl rfl 0 (by decide) (hB _ wd_338) (fun _ h9 => h9) rfl (by decide +kernel) rfl rfl (Nat.le_of_ble_eq_true rfl) d_M_may_35 (fun H locs hP hD hS => ?_)
        have hP : va_P D vwCl (wM m0 m1 m2 m3 m4 m5 k1 k2 k3 k4 k5 0 funs made great up down size rows work xx power) H := hP
        have hD : va_D A (wM m0 m1 m2 m3 m4 m5 k1 k2 k3 k4 k5 0 funs made great up down size rows work xx power) := hD
        refine lv_aload_n hx hb d_M_may_38 rfl (lv_at hl 0 rfl) ?_
        refine va_get (D := D) (ci := 2) (v := .int 0) (C := R_M) (T := F_M) (N := 11) hx hb hB inF_M hown hK hP 0 rfl rfl 0 (by decide) (hB _ wd_338) (fun _ h9 => h9) rfl d_M_may_39 ?_
        refine lv_if_ne (tgt := 49) hx hb d_M_may_42 (by decide) (fun c => absurd c (by decide)) (fun _ => ?_)
        refine lv_iconst (v := 1) hx hb d_M_may_45 (by decide) ?_
        refine lv_goto (tgt := 50) hx hb d_M_may_46 (by decide) ?_
        exact W.zret (v := 1) hx hb hr (by first | rfl | decide) (fun t ht hW => ⟨⟨1, 0, rfl, h, by rw [ht]; exact hP, va_K.moved hW.alike hK, hD⟩, hS.F ht⟩) hS.2.2 d_M_may_50
      · replace h := h.2 hc7
        refine lv_iconst (v := 2) hx hb d_M_may_30 (by decide) ?_
        refine lv_goto (tgt := 35) hx hb d_M_may_31 (by decide) ?_
        refine va_put (D := D) (ci := 2) (v := .int 2) (ty := .int) (C := R_M) (T := F_M) (N := 11) hx hb hB inF_M t_M t_M_ok n_M hown hK hP hD hS 0 rfl rfl 0 (by decide) (hB _ wd_338) (fun _ h9 => h9) rfl (by decide +kernel) rfl rfl (Nat.le_of_ble_eq_true rfl) d_M_may_35 (fun H locs hP hD hS => ?_)
        have hP : va_P D vwCl (wM m0 m1 m2 m3 m4 m5 k1 k2 k3 k4 k5 2 funs made great up down size rows work xx power) H := hP
        have hD : va_D A (wM m0 m1 m2 m3 m4 m5 k1 k2 k3 k4 k5 2 funs made great up down size rows work xx power) := hD
        refine lv_aload_n hx hb d_M_may_38 rfl (lv_at hl 0 rfl) ?_
        refine va_get (D := D) (ci := 2) (v := .int 2) (C := R_M) (T := F_M) (N := 11) hx hb hB inF_M hown hK hP 0 rfl rfl 0 (by decide) (hB _ wd_338) (fun _ h9 => h9) rfl d_M_may_39 ?_
        refine lv_if_ne (tgt := 49) hx hb d_M_may_42 (by decide) (fun _ => ?_) (fun c => absurd c (by decide))
        refine lv_iconst (v := 0) hx hb d_M_may_49 (by decide) ?_
        exact W.zret (v := 0) hx hb hr (by first | rfl | decide) (fun t ht hW => ⟨⟨0, 2, rfl, h, by rw [ht]; exact hP, va_K.moved hW.alike hK, hD⟩, hS.F ht⟩) hS.2.2 d_M_may_50
    · replace h := h.2 hc6
      refine lv_iconst (v := 1) hx hb d_M_may_17 (by decide) ?_
      refine lv_goto (tgt := 35) hx hb d_M_may_18 (by decide) ?_
      refine va_put (D := D) (ci := 2) (v := .int 1) (ty := .int) (C := R_M) (T := F_M) (N := 11) hx hb hB inF_M t_M t_M_ok n_M hown hK hP hD hS 0 rfl rfl 0 (by decide) (hB _ wd_338) (fun _ h9 => h9) rfl (by decide +kernel) rfl rfl (Nat.le_of_ble_eq_true rfl) d_M_may_35 (fun H locs hP hD hS => ?_)
      have hP : va_P D vwCl (wM m0 m1 m2 m3 m4 m5 k1 k2 k3 k4 k5 1 funs made great up down size rows work xx power) H := hP
      have hD : va_D A (wM m0 m1 m2 m3 m4 m5 k1 k2 k3 k4 k5 1 funs made great up down size rows work xx power) := hD
      refine lv_aload_n hx hb d_M_may_38 rfl (lv_at hl 0 rfl) ?_
      refine va_get (D := D) (ci := 2) (v := .int 1) (C := R_M) (T := F_M) (N := 11) hx hb hB inF_M hown hK hP 0 rfl rfl 0 (by decide) (hB _ wd_338) (fun _ h9 => h9) rfl d_M_may_39 ?_
      refine lv_if_ne (tgt := 49) hx hb d_M_may_42 (by decide) (fun _ => ?_) (fun c => absurd c (by decide))
      refine lv_iconst (v := 0) hx hb d_M_may_49 (by decide) ?_
      exact W.zret (v := 0) hx hb hr (by first | rfl | decide) (fun t ht hW => ⟨⟨0, 1, rfl, h, by rw [ht]; exact hP, va_K.moved hW.alike hK, hD⟩, hS.F ht⟩) hS.2.2 d_M_may_50
